/-- what a wish says of a turn -/
def mW_fits (F wk : Nat) (wa wb : Int32) (uback ureach umakers : Nat → Int32) (umc t lv : Int32) : Option Int32 :=
  if wk = 0 then some (mX0_fits wa wb t lv) else if wk = 1 then mX1_fits F umakers umc t lv else if wk = 2 then some (mX2_fits wa t lv) else mX3_fits F uback ureach t lv
theorem zWfits : "TurnGroups$Wish" ≠ "java/lang/invoke/MethodHandle" ∧ "TurnGroups$Wish" ≠ "java/lang/invoke/VarHandle" ∧ (parseMethodDescriptor "(II)Z").map (fun d => d.parameters.length) = some 2 := by decide +kernel
set_option maxRecDepth 100000 in
set_option maxHeartbeats 4000000 in
theorem wfits_X4_search {p : Program} {l : Launch} {e : Env} {R : Room} {s : State} {m : MethodId} {zargs : Array Value} {zbelow : List Frame} {zmeth : Method} {c : Code} {zQ : State → Prop} {D : va_G} {cI : ClassId} {wk pc : Nat} {od wd : Nat → Nat} {wa wb : Int32} {ucells uback ureach ufilled : Nat → Int32} {ufc : Int32} {umakers : Nat → Int32} {umc t lv zr : Int32} {zls : Array Slot} {rest : List Value} (C0 : tg_C p s m zmeth c zargs cX4_search RX4 wsX4_search 9 D [(cI, .int)]) (hPw : va_P D vwCl (wW wk od cI wd wa wb ucells uback ureach ufilled ufc umakers umc) s.heap) (F : Nat) (hR1 : 4 ≤ R.frames) (hR2 : 97 ≤ R.locals) (h : mW_fits F wk wa wb uback ureach umakers umc t lv = some zr) (hls : zls.size = 9) (hrm : 2 * (F0 m pc zls (.int lv :: .int t :: .ref (wd 0) :: rest)).monitorRoom + (rest.map fun v => v.category).sum ≤ 8) (hdg : decode cX4_search pc = .ok (.invokevirtual 126, 3)) (k9 : W p l e R s m zargs zbelow zmeth c s.heap [] 0 0 zQ (F0 m (pc + 3) zls (.int zr :: rest))) : W p l e R s m zargs zbelow zmeth c s.heap [] 0 0 zQ (F0 m pc zls (.int lv :: .int t :: .ref (wd 0) :: rest)) := by
  obtain ⟨hx, hb, hml, hown, hts, hK, hN⟩ := C0
  unfold wW at hPw
  unfold mW_fits at h
  by_cases c0 : wk = 0
  · rw [if_pos c0] at hPw h
    refine tg_cRi (va_runU (C := RX0) (As := [.int t, .int lv]) (rest := rest) ⟨hx, hb, hml, hown, hts⟩ (qX0_fits l D wd wa wb t lv zr (Option.some.inj h)) (va_cwA 2 hts gX4_search_X0_fits_u126X0 rfl rfl rfl (hN _ nw_dec) zWfits ⟨Nat.le_trans (Nat.le_of_ble_eq_true rfl) hR1, Nat.le_trans (Nat.le_of_ble_eq_true rfl) hR2⟩) (tg_preV (r := (RX0, TX0, 2)) (ci := 0) (q0 := 0) hPw (hK.sub (tys' := []) [] rfl) hN rfl rfl) rfl rfl hls rfl hrm hdg ⟨Nat.zero_le _, Nat.zero_le _⟩) k9
  · rw [if_neg c0] at hPw h
    by_cases c1 : wk = 1
    · rw [if_pos c1] at hPw h
      refine tg_cRi (va_runU (C := RX1) (As := [.int t, .int lv]) (rest := rest) ⟨hx, hb, hml, hown, hts⟩ (qX1_fits l D cI wd od ucells uback ureach ufilled ufc umakers umc t lv F zr h) (va_cwA 2 hts gX4_search_X1_fits_u126X1 rfl rfl rfl (hN _ nw_dec) zWfits ⟨Nat.le_trans (Nat.le_of_ble_eq_true rfl) hR1, Nat.le_trans (Nat.le_of_ble_eq_true rfl) hR2⟩) (tg_preV (r := (RX1, TX1, 1)) (ci := 1) (q0 := 0) hPw hK hN rfl rfl) rfl rfl hls rfl hrm hdg ⟨Nat.zero_le _, Nat.zero_le _⟩) k9
    · rw [if_neg c1] at hPw h
      by_cases c2 : wk = 2
      · rw [if_pos c2] at hPw h
        refine tg_cRi (va_runU (C := RX2) (As := [.int t, .int lv]) (rest := rest) ⟨hx, hb, hml, hown, hts⟩ (qX2_fits l D wd wa t lv zr (Option.some.inj h)) (va_cwA 2 hts gX4_search_X2_fits_u126X2 rfl rfl rfl (hN _ nw_dec) zWfits ⟨Nat.le_trans (Nat.le_of_ble_eq_true rfl) hR1, Nat.le_trans (Nat.le_of_ble_eq_true rfl) hR2⟩) (tg_preV (r := (RX2, TX2, 1)) (ci := 2) (q0 := 0) hPw (hK.sub (tys' := []) [] rfl) hN rfl rfl) rfl rfl hls rfl hrm hdg ⟨Nat.zero_le _, Nat.zero_le _⟩) k9
      · rw [if_neg c2] at hPw h
        refine tg_cRi (va_runU (C := RX3) (As := [.int t, .int lv]) (rest := rest) ⟨hx, hb, hml, hown, hts⟩ (qX3_fits l D cI wd od ucells uback ureach ufilled ufc umakers umc t lv F zr h) (va_cwA 2 hts gX4_search_X3_fits_u126X3 rfl rfl rfl (hN _ nw_dec) zWfits ⟨Nat.le_trans (Nat.le_of_ble_eq_true rfl) hR1, Nat.le_trans (Nat.le_of_ble_eq_true rfl) hR2⟩) (tg_preV (r := (RX3, TX3, 1)) (ci := 3) (q0 := 0) hPw hK hN rfl rfl) rfl rfl hls rfl hrm hdg ⟨Nat.zero_le _, Nat.zero_le _⟩) k9
set_option maxRecDepth 100000 in
set_option maxHeartbeats 4000000 in
theorem wfits_X4_searchCell {p : Program} {l : Launch} {e : Env} {R : Room} {s : State} {m : MethodId} {zargs : Array Value} {zbelow : List Frame} {zmeth : Method} {c : Code} {zQ : State → Prop} {D : va_G} {cI : ClassId} {wk pc : Nat} {od wd : Nat → Nat} {wa wb : Int32} {ucells uback ureach ufilled : Nat → Int32} {ufc : Int32} {umakers : Nat → Int32} {umc t lv zr : Int32} {zls : Array Slot} {rest : List Value} (C0 : tg_C p s m zmeth c zargs cX4_searchCell RX4 wsX4_searchCell 5 D [(cI, .int)]) (hPw : va_P D vwCl (wW wk od cI wd wa wb ucells uback ureach ufilled ufc umakers umc) s.heap) (F : Nat) (hR1 : 4 ≤ R.frames) (hR2 : 97 ≤ R.locals) (h : mW_fits F wk wa wb uback ureach umakers umc t lv = some zr) (hls : zls.size = 5) (hrm : 2 * (F0 m pc zls (.int lv :: .int t :: .ref (wd 0) :: rest)).monitorRoom + (rest.map fun v => v.category).sum ≤ 8) (hdg : decode cX4_searchCell pc = .ok (.invokevirtual 126, 3)) (k9 : W p l e R s m zargs zbelow zmeth c s.heap [] 0 0 zQ (F0 m (pc + 3) zls (.int zr :: rest))) : W p l e R s m zargs zbelow zmeth c s.heap [] 0 0 zQ (F0 m pc zls (.int lv :: .int t :: .ref (wd 0) :: rest)) := by
  obtain ⟨hx, hb, hml, hown, hts, hK, hN⟩ := C0
  unfold wW at hPw
  unfold mW_fits at h
  by_cases c0 : wk = 0
  · rw [if_pos c0] at hPw h
    refine tg_cRi (va_runU (C := RX0) (As := [.int t, .int lv]) (rest := rest) ⟨hx, hb, hml, hown, hts⟩ (qX0_fits l D wd wa wb t lv zr (Option.some.inj h)) (va_cwA 2 hts gX4_searchCell_X0_fits_u126X0 rfl rfl rfl (hN _ nw_dec) zWfits ⟨Nat.le_trans (Nat.le_of_ble_eq_true rfl) hR1, Nat.le_trans (Nat.le_of_ble_eq_true rfl) hR2⟩) (tg_preV (r := (RX0, TX0, 2)) (ci := 0) (q0 := 0) hPw (hK.sub (tys' := []) [] rfl) hN rfl rfl) rfl rfl hls rfl hrm hdg ⟨Nat.zero_le _, Nat.zero_le _⟩) k9
  · rw [if_neg c0] at hPw h
    by_cases c1 : wk = 1
    · rw [if_pos c1] at hPw h
      refine tg_cRi (va_runU (C := RX1) (As := [.int t, .int lv]) (rest := rest) ⟨hx, hb, hml, hown, hts⟩ (qX1_fits l D cI wd od ucells uback ureach ufilled ufc umakers umc t lv F zr h) (va_cwA 2 hts gX4_searchCell_X1_fits_u126X1 rfl rfl rfl (hN _ nw_dec) zWfits ⟨Nat.le_trans (Nat.le_of_ble_eq_true rfl) hR1, Nat.le_trans (Nat.le_of_ble_eq_true rfl) hR2⟩) (tg_preV (r := (RX1, TX1, 1)) (ci := 1) (q0 := 0) hPw hK hN rfl rfl) rfl rfl hls rfl hrm hdg ⟨Nat.zero_le _, Nat.zero_le _⟩) k9
    · rw [if_neg c1] at hPw h
      by_cases c2 : wk = 2
      · rw [if_pos c2] at hPw h
        refine tg_cRi (va_runU (C := RX2) (As := [.int t, .int lv]) (rest := rest) ⟨hx, hb, hml, hown, hts⟩ (qX2_fits l D wd wa t lv zr (Option.some.inj h)) (va_cwA 2 hts gX4_searchCell_X2_fits_u126X2 rfl rfl rfl (hN _ nw_dec) zWfits ⟨Nat.le_trans (Nat.le_of_ble_eq_true rfl) hR1, Nat.le_trans (Nat.le_of_ble_eq_true rfl) hR2⟩) (tg_preV (r := (RX2, TX2, 1)) (ci := 2) (q0 := 0) hPw (hK.sub (tys' := []) [] rfl) hN rfl rfl) rfl rfl hls rfl hrm hdg ⟨Nat.zero_le _, Nat.zero_le _⟩) k9
      · rw [if_neg c2] at hPw h
        refine tg_cRi (va_runU (C := RX3) (As := [.int t, .int lv]) (rest := rest) ⟨hx, hb, hml, hown, hts⟩ (qX3_fits l D cI wd od ucells uback ureach ufilled ufc umakers umc t lv F zr h) (va_cwA 2 hts gX4_searchCell_X3_fits_u126X3 rfl rfl rfl (hN _ nw_dec) zWfits ⟨Nat.le_trans (Nat.le_of_ble_eq_true rfl) hR1, Nat.le_trans (Nat.le_of_ble_eq_true rfl) hR2⟩) (tg_preV (r := (RX3, TX3, 1)) (ci := 3) (q0 := 0) hPw hK hN rfl rfl) rfl rfl hls rfl hrm hdg ⟨Nat.zero_le _, Nat.zero_le _⟩) k9
