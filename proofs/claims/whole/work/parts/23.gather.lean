/-! ===== void gather(TurnGroups$Tower, TurnGroups$Wish); ===== -/
def mX4_gather_L16 (F : Nat) (wk : Nat) (zx3 : Int32) (bcells : Nat → Int32) (breach : Nat → Int32) (wa : Int32) (wb : Int32) (uback : Nat → Int32) (ureach : Nat → Int32) (umakers : Nat → Int32) (umc : Int32) : Nat → Int32 → (Nat → Int32) → (Nat → Int32) → (Nat → Int32) → (Nat → Int32) → Int32 → (Nat → Int32) → Int32 → Option ((Nat → Int32) × (Nat → Int32) × (Nat → Int32) × (Nat → Int32) × Int32 × (Nat → Int32) × Int32)
  | 0, _, _, _, _, _, _, _, _ => none
  | f + 1, zx4, cells, back, reach, filled, fc, makers, mc => if 8 ≤ zx4 then (some (cells, back, reach, filled, fc, makers, mc)) else (bd (mX4_reaches breach zx3 zx4) (fun zr => bd7 (if zr = 0 then (some (cells, back, reach, filled, fc, makers, mc)) else (bd (mX4_reaches reach zx3 zx4) (fun zr_1 => if zr_1 = 0 then (bd (mX4_searchCell F wk bcells breach wa wb uback ureach umakers umc zx3 zx4) (fun zr_2 => if zr_2 = 0 then (some (cells, back, reach, filled, fc, makers, mc)) else (bd8 (mX4_join F cells back reach filled fc makers mc zr_2) (fun zr_3 cells_2 back_2 reach_2 filled_2 fc_2 makers_2 mc_2 => some (cells_2, back_2, reach_2, filled_2, fc_2, makers_2, mc_2))))) else (some (cells, back, reach, filled, fc, makers, mc))))) (fun cells_1 back_1 reach_1 filled_1 fc_1 makers_1 mc_1 => mX4_gather_L16 F wk zx3 bcells breach wa wb uback ureach umakers umc f (zx4 + 1) cells_1 back_1 reach_1 filled_1 fc_1 makers_1 mc_1)))
theorem mX4_gather_L16_s (F : Nat) (wk : Nat) (zx3 : Int32) (bcells : Nat → Int32) (breach : Nat → Int32) (wa : Int32) (wb : Int32) (uback : Nat → Int32) (ureach : Nat → Int32) (umakers : Nat → Int32) (umc : Int32) (f : Nat) (zx4 : Int32) (cells : Nat → Int32) (back : Nat → Int32) (reach : Nat → Int32) (filled : Nat → Int32) (fc : Int32) (makers : Nat → Int32) (mc : Int32) : mX4_gather_L16 F wk zx3 bcells breach wa wb uback ureach umakers umc (f + 1) zx4 cells back reach filled fc makers mc = (if 8 ≤ zx4 then (some (cells, back, reach, filled, fc, makers, mc)) else (bd (mX4_reaches breach zx3 zx4) (fun zr => bd7 (if zr = 0 then (some (cells, back, reach, filled, fc, makers, mc)) else (bd (mX4_reaches reach zx3 zx4) (fun zr_1 => if zr_1 = 0 then (bd (mX4_searchCell F wk bcells breach wa wb uback ureach umakers umc zx3 zx4) (fun zr_2 => if zr_2 = 0 then (some (cells, back, reach, filled, fc, makers, mc)) else (bd8 (mX4_join F cells back reach filled fc makers mc zr_2) (fun zr_3 cells_2 back_2 reach_2 filled_2 fc_2 makers_2 mc_2 => some (cells_2, back_2, reach_2, filled_2, fc_2, makers_2, mc_2))))) else (some (cells, back, reach, filled, fc, makers, mc))))) (fun cells_1 back_1 reach_1 filled_1 fc_1 makers_1 mc_1 => mX4_gather_L16 F wk zx3 bcells breach wa wb uback ureach umakers umc f (zx4 + 1) cells_1 back_1 reach_1 filled_1 fc_1 makers_1 mc_1)))) := rfl
def mX4_gather_L7 (F : Nat) (wk : Nat) (bcells : Nat → Int32) (breach : Nat → Int32) (wa : Int32) (wb : Int32) (uback : Nat → Int32) (ureach : Nat → Int32) (umakers : Nat → Int32) (umc : Int32) : Nat → Int32 → (Nat → Int32) → (Nat → Int32) → (Nat → Int32) → (Nat → Int32) → Int32 → (Nat → Int32) → Int32 → Option ((Nat → Int32) × (Nat → Int32) × (Nat → Int32) × (Nat → Int32) × Int32 × (Nat → Int32) × Int32)
  | 0, _, _, _, _, _, _, _, _ => none
  | f + 1, zx3, cells, back, reach, filled, fc, makers, mc => if zx3 < 0 then (some (cells, back, reach, filled, fc, makers, mc)) else (lT (zx3 + 1) (fun zx4 => bd7 (mX4_gather_L16 F wk zx3 bcells breach wa wb uback ureach umakers umc F zx4 cells back reach filled fc makers mc) (fun cells_1 back_1 reach_1 filled_1 fc_1 makers_1 mc_1 => mX4_gather_L7 F wk bcells breach wa wb uback ureach umakers umc f (zx3 + (-1)) cells_1 back_1 reach_1 filled_1 fc_1 makers_1 mc_1)))
theorem mX4_gather_L7_s (F : Nat) (wk : Nat) (bcells : Nat → Int32) (breach : Nat → Int32) (wa : Int32) (wb : Int32) (uback : Nat → Int32) (ureach : Nat → Int32) (umakers : Nat → Int32) (umc : Int32) (f : Nat) (zx3 : Int32) (cells : Nat → Int32) (back : Nat → Int32) (reach : Nat → Int32) (filled : Nat → Int32) (fc : Int32) (makers : Nat → Int32) (mc : Int32) : mX4_gather_L7 F wk bcells breach wa wb uback ureach umakers umc (f + 1) zx3 cells back reach filled fc makers mc = (if zx3 < 0 then (some (cells, back, reach, filled, fc, makers, mc)) else (lT (zx3 + 1) (fun zx4 => bd7 (mX4_gather_L16 F wk zx3 bcells breach wa wb uback ureach umakers umc F zx4 cells back reach filled fc makers mc) (fun cells_1 back_1 reach_1 filled_1 fc_1 makers_1 mc_1 => mX4_gather_L7 F wk bcells breach wa wb uback ureach umakers umc f (zx3 + (-1)) cells_1 back_1 reach_1 filled_1 fc_1 makers_1 mc_1)))) := rfl
def mX4_gather (F : Nat) (wk : Nat) (cells : Nat → Int32) (back : Nat → Int32) (reach : Nat → Int32) (filled : Nat → Int32) (fc : Int32) (makers : Nat → Int32) (mc : Int32) (bcells : Nat → Int32) (breach : Nat → Int32) (wa : Int32) (wb : Int32) (uback : Nat → Int32) (ureach : Nat → Int32) (umakers : Nat → Int32) (umc : Int32) : Option ((Nat → Int32) × (Nat → Int32) × (Nat → Int32) × (Nat → Int32) × Int32 × (Nat → Int32) × Int32) := bd3 (mX4_clear F reach fc mc) (fun reach_1 fc_1 mc_1 => bd7 (mX4_gather_L7 F wk bcells breach wa wb uback ureach umakers umc F 7 cells back reach_1 filled fc_1 makers mc_1) (fun cells_1 back_1 reach_2 filled_1 fc_2 makers_1 mc_2 => some (cells_1, back_1, reach_2, filled_1, fc_2, makers_1, mc_2)))
set_option maxRecDepth 100000 in
set_option maxHeartbeats 4000000 in
theorem wX4_gather_L16 {p : Program} {l : Launch} {e : Env} {s : State} {m : MethodId} {zargs : Array Value} {zbelow : List Frame} {zmeth : Method} {c : Code} {D : va_G} {zQ : State → Prop} {zA : Nat → Prop} {ad : Nat → Nat} {sd : Nat → Nat} {wd : Nat → Nat} {wk : Nat} {od : Nat → Nat} {cI : ClassId} {bcells : Nat → Int32} {bback : Nat → Int32} {breach : Nat → Int32} {bfilled : Nat → Int32} {bfc : Int32} {bmakers : Nat → Int32} {bmc : Int32} {wa : Int32} {wb : Int32} {ucells : Nat → Int32} {uback : Nat → Int32} {ureach : Nat → Int32} {ufilled : Nat → Int32} {ufc : Int32} {umakers : Nat → Int32} {umc : Int32} {zx3 : Int32} (C0 : tg_C p s m zmeth c zargs cX4_gather RX4 wsX4_gather 6 D [(cI, .int)]) (hDD : tg_DD zA [ad 0, ad 1, ad 2, ad 3, ad 4, ad 5]) (hPo : va_P D vwCl ((wT cI sd bcells bback breach bfilled bfc bmakers bmc) ++ (wW wk od cI wd wa wb ucells uback ureach ufilled ufc umakers umc)) s.heap) (hoA : ∀ q : Nat, tg_in ((wT cI sd bcells bback breach bfilled bfc bmakers bmc) ++ (wW wk od cI wd wa wb ucells uback ureach ufilled ufc umakers umc)) q → ¬ zA q) (hlocks : zmeth.locks = false) (hr : zmeth.sig.returnType = none) (F : Nat) : ∀ (f : Nat) (zx4 : Int32) (cells : Nat → Int32) (back : Nat → Int32) (reach : Nat → Int32) (filled : Nat → Int32) (fc : Int32) (makers : Nat → Int32) (mc : Int32) (ocells : Nat → Int32) (oback : Nat → Int32) (oreach : Nat → Int32) (ofilled : Nat → Int32) (ofc : Int32) (omakers : Nat → Int32) (omc : Int32), mX4_gather_L16 F wk zx3 bcells breach wa wb uback ureach umakers umc f zx4 cells back reach filled fc makers mc = some (ocells, oback, oreach, ofilled, ofc, omakers, omc) → ∀ (zH : Heap) (zlocs : List Loc), va_P D vwCl (wT cI ad cells back reach filled fc makers mc) zH → va_S zA s.heap zH zlocs → ∀ (zls : Array Slot), lv_has zls 6 [(0, .ref (ad 0)), (1, .ref (sd 0)), (2, .ref (wd 0)), (3, .int zx3), (4, .int zx4)] → (∀ (zH : Heap) (zlocs : List Loc), va_P D vwCl (wT cI ad ocells oback oreach ofilled ofc omakers omc) zH → va_S zA s.heap zH zlocs → ∀ (zls : Array Slot), lv_has zls 6 [(0, .ref (ad 0)), (1, .ref (sd 0)), (2, .ref (wd 0)), (3, .int zx3)] → W p l e ({ frames := 15, cells := 0, slots := 0, locals := 401 } : Room) s m zargs zbelow zmeth c zH zlocs 0 0 zQ (F0 m 71 zls [])) → W p l e ({ frames := 15, cells := 0, slots := 0, locals := 401 } : Room) s m zargs zbelow zmeth c zH zlocs 0 0 zQ (F0 m 16 zls []) := by
  obtain ⟨hx, hb, hml, hown, hts, hK, hN⟩ := C0
  intro f
  induction f with
  | zero => intro _ _ _ _ _ _ _ _ _ _ _ _ _ _ _ h; exact absurd (show none = some _ from h) (fun h9 => by cases h9)
  | succ f ih =>
    intro zx4 cells back reach filled fc makers mc ocells oback oreach ofilled ofc omakers omc h zH zlocs hP hS zls hl kk
    rw [mX4_gather_L16_s] at h
    refine lv_iload hx hb dX4_gather_16 (lv_at hl 4 rfl) ?_
    refine lv_bipush (v := 8) hx hb dX4_gather_18 (by decide) ?_
    refine lv_icmp_ge (tgt := 71) hx hb dX4_gather_20 (by decide) (fun cb => ?_) (fun cb => ?_)
    · rw [if_pos cb] at h
      cases h
      exact kk _ _ hP hS _ (lv_sub hl [0, 1, 2, 3] rfl)
    · rw [if_neg cb] at h
      refine lv_aload_n hx hb dX4_gather_23 rfl (lv_at hl 1 rfl) ?_
      refine lv_iload_n hx hb dX4_gather_24 rfl (lv_at hl 3 rfl) ?_
      refine lv_iload hx hb dX4_gather_25 (lv_at hl 4 rfl) ?_
      obtain ⟨zr, hc, h⟩ := bd_el h
      refine tg_cRi (va_runV (As := [.int zx3, .int zx4]) (rest := []) ⟨hx, hb, hml, hown, hts⟩ (qX4_reaches l D cI sd bcells bback breach bfilled bfc bmakers bmc zx3 zx4 zr hc) (cwV 2 hts gX4_gather_X4_reaches rfl rfl rfl zVX4_reaches ⟨Nat.le_of_ble_eq_true rfl, Nat.le_of_ble_eq_true rfl⟩) (tg_preV (r := (RX4, TX4, 7)) (ci := 4) (q0 := 0) (tg_appL (tg_ro hPo hoA hS)) hK hN rfl rfl) rfl rfl hl.1 rfl (lv_room (Nat.le_of_ble_eq_true rfl)) dX4_gather_27 ⟨Nat.zero_le _, Nat.zero_le _⟩) ?_
      obtain ⟨cells_1, back_1, reach_1, filled_1, fc_1, makers_1, mc_1, hv, h⟩ := bd7_el h
      have hj : ∀ (zH : Heap) (zlocs : List Loc), va_P D vwCl (wT cI ad cells_1 back_1 reach_1 filled_1 fc_1 makers_1 mc_1) zH → va_S zA s.heap zH zlocs → ∀ (zls : Array Slot), lv_has zls 6 [(0, .ref (ad 0)), (1, .ref (sd 0)), (2, .ref (wd 0)), (3, .int zx3), (4, .int zx4)] → W p l e ({ frames := 15, cells := 0, slots := 0, locals := 401 } : Room) s m zargs zbelow zmeth c zH zlocs 0 0 zQ (F0 m 65 zls []) := by
        intro zH zlocs hP hS zls hl
        refine lv_iinc (v := (zx4 + 1)) (lv' := [(4, .int (zx4 + 1)), (0, .ref (ad 0)), (1, .ref (sd 0)), (2, .ref (wd 0)), (3, .int zx3)]) hx hb dX4_gather_65 hl (k := 4) rfl rfl (by decide) rfl (fun zls hl => ?_)
        refine lv_goto (tgt := 16) hx hb dX4_gather_68 (by decide) ?_
        exact ih _ _ _ _ _ _ _ _ _ _ _ _ _ _ _ h _ _ hP hS _ (lv_sub hl [1, 2, 3, 4, 0] rfl) kk
      refine lv_if_eq (tgt := 65) hx hb dX4_gather_30 (by decide) (fun cb_1 => ?_) (fun cb_1 => ?_)
      · rw [if_pos cb_1] at hv
        cases hv
        exact hj _ _ hP hS _ (lv_sub hl [0, 1, 2, 3, 4] rfl)
      · rw [if_neg cb_1] at hv
        refine lv_aload_n hx hb dX4_gather_33 rfl (lv_at hl 0 rfl) ?_
        refine lv_iload_n hx hb dX4_gather_34 rfl (lv_at hl 3 rfl) ?_
        refine lv_iload hx hb dX4_gather_35 (lv_at hl 4 rfl) ?_
        obtain ⟨zr_1, hc_1, hv⟩ := bd_el hv
        refine tg_cRi (va_runV (As := [.int zx3, .int zx4]) (rest := []) ⟨hx, hb, hml, hown, hts⟩ (qX4_reaches l D cI ad cells back reach filled fc makers mc zx3 zx4 zr_1 hc_1) (cwV 2 hts gX4_gather_X4_reaches rfl rfl rfl zVX4_reaches ⟨Nat.le_of_ble_eq_true rfl, Nat.le_of_ble_eq_true rfl⟩) (tg_preV (r := (RX4, TX4, 7)) (ci := 4) (q0 := 0) hP hK hN rfl rfl) rfl rfl hl.1 rfl (lv_room (Nat.le_of_ble_eq_true rfl)) dX4_gather_37 ⟨Nat.zero_le _, Nat.zero_le _⟩) ?_
        refine lv_if_ne (tgt := 65) hx hb dX4_gather_40 (by decide) (fun cb_2 => ?_) (fun cb_2 => ?_)
        · rw [if_neg cb_2] at hv
          cases hv
          exact hj _ _ hP hS _ (lv_sub hl [0, 1, 2, 3, 4] rfl)
        · rw [if_pos cb_2] at hv
          refine lv_aload_n hx hb dX4_gather_43 rfl (lv_at hl 1 rfl) ?_
          refine lv_aload_n hx hb dX4_gather_44 rfl (lv_at hl 2 rfl) ?_
          refine lv_iload_n hx hb dX4_gather_45 rfl (lv_at hl 3 rfl) ?_
          refine lv_iload hx hb dX4_gather_46 (lv_at hl 4 rfl) ?_
          obtain ⟨zr_2, hc_2, hv⟩ := bd_el hv
          refine tg_cRi (va_runV (As := [.ref (wd 0), .int zx3, .int zx4]) (rest := []) ⟨hx, hb, hml, hown, hts⟩ (qX4_searchCell l D cI sd bcells bback breach bfilled bfc bmakers bmc wd wk od wa wb ucells uback ureach ufilled ufc umakers umc zx3 zx4 F zr_2 hc_2) (cwV 3 hts gX4_gather_X4_searchCell rfl rfl rfl zVX4_searchCell ⟨Nat.le_of_ble_eq_true rfl, Nat.le_of_ble_eq_true rfl⟩) (tg_preV (r := (RX4, TX4, 7)) (ci := 4) (q0 := 0) (va_P.app (tg_appL (tg_ro hPo hoA hS)) (tg_appR (tg_ro hPo hoA hS))) hK hN rfl rfl) rfl rfl hl.1 rfl (lv_room (Nat.le_of_ble_eq_true rfl)) dX4_gather_48 ⟨Nat.zero_le _, Nat.zero_le _⟩) ?_
          refine lv_istore (lv' := [(5, .int zr_2), (0, .ref (ad 0)), (1, .ref (sd 0)), (2, .ref (wd 0)), (3, .int zx3), (4, .int zx4)]) hx hb dX4_gather_51 hl (by decide) rfl (fun zls hl => ?_)
          refine lv_iload hx hb dX4_gather_53 (lv_at hl 0 rfl) ?_
          refine lv_if_eq (tgt := 65) hx hb dX4_gather_55 (by decide) (fun cb_3 => ?_) (fun cb_3 => ?_)
          · rw [if_pos cb_3] at hv
            cases hv
            exact hj _ _ hP hS _ (lv_sub hl [1, 2, 3, 4, 5] rfl)
          · rw [if_neg cb_3] at hv
            refine lv_aload_n hx hb dX4_gather_58 rfl (lv_at hl 1 rfl) ?_
            refine lv_iload hx hb dX4_gather_59 (lv_at hl 0 rfl) ?_
            obtain ⟨zr_3, cells_2, back_2, reach_2, filled_2, fc_2, makers_2, mc_2, hc_3, hv⟩ := bd8_el hv
            refine tg_cMi (va_runV (As := [.int zr_2]) (rest := []) ⟨hx, hb, hml, hown, hts⟩ (qX4_join l D cI ad cells back reach filled fc makers mc zr_2 F zr_3 cells_2 back_2 reach_2 filled_2 fc_2 makers_2 mc_2 hc_3) (cwV 1 hts gX4_gather_X4_join rfl rfl rfl zVX4_join ⟨Nat.le_of_ble_eq_true rfl, Nat.le_of_ble_eq_true rfl⟩) (tg_preVM (r := (RX4, TX4, 7)) (ci := 4) (q0 := 0) hP (hDD _ rfl) hK hN rfl rfl) rfl rfl hl.1 rfl (lv_room (Nat.le_of_ble_eq_true rfl)) dX4_gather_61 ⟨Nat.zero_le _, Nat.zero_le _⟩) hS (tg_inA (hDD _ rfl)) (fun zH zlocs _ hP hS => ?_)
            refine lv_pop hx hb dX4_gather_64 rfl ?_
            cases hv
            exact hj _ _ hP hS _ (lv_sub hl [1, 2, 3, 4, 5] rfl)
set_option maxRecDepth 100000 in
set_option maxHeartbeats 4000000 in
theorem wX4_gather_L7 {p : Program} {l : Launch} {e : Env} {s : State} {m : MethodId} {zargs : Array Value} {zbelow : List Frame} {zmeth : Method} {c : Code} {D : va_G} {zQ : State → Prop} {zA : Nat → Prop} {ad : Nat → Nat} {sd : Nat → Nat} {wd : Nat → Nat} {wk : Nat} {od : Nat → Nat} {cI : ClassId} {bcells : Nat → Int32} {bback : Nat → Int32} {breach : Nat → Int32} {bfilled : Nat → Int32} {bfc : Int32} {bmakers : Nat → Int32} {bmc : Int32} {wa : Int32} {wb : Int32} {ucells : Nat → Int32} {uback : Nat → Int32} {ureach : Nat → Int32} {ufilled : Nat → Int32} {ufc : Int32} {umakers : Nat → Int32} {umc : Int32} (C0 : tg_C p s m zmeth c zargs cX4_gather RX4 wsX4_gather 6 D [(cI, .int)]) (hDD : tg_DD zA [ad 0, ad 1, ad 2, ad 3, ad 4, ad 5]) (hPo : va_P D vwCl ((wT cI sd bcells bback breach bfilled bfc bmakers bmc) ++ (wW wk od cI wd wa wb ucells uback ureach ufilled ufc umakers umc)) s.heap) (hoA : ∀ q : Nat, tg_in ((wT cI sd bcells bback breach bfilled bfc bmakers bmc) ++ (wW wk od cI wd wa wb ucells uback ureach ufilled ufc umakers umc)) q → ¬ zA q) (hlocks : zmeth.locks = false) (hr : zmeth.sig.returnType = none) (F : Nat) : ∀ (f : Nat) (zx3 : Int32) (cells : Nat → Int32) (back : Nat → Int32) (reach : Nat → Int32) (filled : Nat → Int32) (fc : Int32) (makers : Nat → Int32) (mc : Int32) (ocells : Nat → Int32) (oback : Nat → Int32) (oreach : Nat → Int32) (ofilled : Nat → Int32) (ofc : Int32) (omakers : Nat → Int32) (omc : Int32), mX4_gather_L7 F wk bcells breach wa wb uback ureach umakers umc f zx3 cells back reach filled fc makers mc = some (ocells, oback, oreach, ofilled, ofc, omakers, omc) → ∀ (zH : Heap) (zlocs : List Loc), va_P D vwCl (wT cI ad cells back reach filled fc makers mc) zH → va_S zA s.heap zH zlocs → ∀ (zls : Array Slot), lv_has zls 6 [(0, .ref (ad 0)), (1, .ref (sd 0)), (2, .ref (wd 0)), (3, .int zx3)] → (∀ (zH : Heap) (zlocs : List Loc), va_P D vwCl (wT cI ad ocells oback oreach ofilled ofc omakers omc) zH → va_S zA s.heap zH zlocs → ∀ (zls : Array Slot), lv_has zls 6 [] → W p l e ({ frames := 15, cells := 0, slots := 0, locals := 401 } : Room) s m zargs zbelow zmeth c zH zlocs 0 0 zQ (F0 m 77 zls [])) → W p l e ({ frames := 15, cells := 0, slots := 0, locals := 401 } : Room) s m zargs zbelow zmeth c zH zlocs 0 0 zQ (F0 m 7 zls []) := by
  obtain ⟨hx, hb, hml, hown, hts, hK, hN⟩ := C0
  intro f
  induction f with
  | zero => intro _ _ _ _ _ _ _ _ _ _ _ _ _ _ _ h; exact absurd (show none = some _ from h) (fun h9 => by cases h9)
  | succ f ih =>
    intro zx3 cells back reach filled fc makers mc ocells oback oreach ofilled ofc omakers omc h zH zlocs hP hS zls hl kk
    rw [mX4_gather_L7_s] at h
    refine lv_iload_n hx hb dX4_gather_7 rfl (lv_at hl 3 rfl) ?_
    refine lv_if_lt (tgt := 77) hx hb dX4_gather_8 (by decide) (fun cb => ?_) (fun cb => ?_)
    · rw [if_pos cb] at h
      cases h
      exact kk _ _ hP hS _ (lv_sub hl [] rfl)
    · rw [if_neg cb] at h
      refine lv_iload_n hx hb dX4_gather_11 rfl (lv_at hl 3 rfl) ?_
      refine lv_iconst (v := 1) hx hb dX4_gather_12 (by decide) ?_
      refine lv_iadd hx hb dX4_gather_13 ?_
      obtain ⟨zx4, ex4, h⟩ := lT_el h
      refine tg_top ex4 ?_
      refine lv_istore (lv' := [(4, .int zx4), (0, .ref (ad 0)), (1, .ref (sd 0)), (2, .ref (wd 0)), (3, .int zx3)]) hx hb dX4_gather_14 hl (by decide) rfl (fun zls hl => ?_)
      obtain ⟨cells_1, back_1, reach_1, filled_1, fc_1, makers_1, mc_1, hv, h⟩ := bd7_el h
      refine wX4_gather_L16 ⟨hx, hb, hml, hown, hts, hK, hN⟩ hDD hPo hoA hlocks hr F F _ _ _ _ _ _ _ _ _ _ _ _ _ _ _ hv _ _ hP hS _ (lv_sub hl [1, 2, 3, 4, 0] rfl) (fun zH zlocs hP hS zls hl => ?_)
      refine lv_iinc (v := (zx3 + (-1))) (lv' := [(3, .int (zx3 + (-1))), (0, .ref (ad 0)), (1, .ref (sd 0)), (2, .ref (wd 0))]) hx hb dX4_gather_71 hl (k := 3) rfl rfl (by decide) rfl (fun zls hl => ?_)
      refine lv_goto (tgt := 7) hx hb dX4_gather_74 (by decide) ?_
      exact ih _ _ _ _ _ _ _ _ _ _ _ _ _ _ _ h _ _ hP hS _ (lv_sub hl [1, 2, 3, 0] rfl) kk
set_option maxRecDepth 100000 in
set_option maxHeartbeats 4000000 in
theorem qX4_gather (l : Launch) (D : va_G) (cI : ClassId) (ad : Nat → Nat) (cells : Nat → Int32) (back : Nat → Int32) (reach : Nat → Int32) (filled : Nat → Int32) (fc : Int32) (makers : Nat → Int32) (mc : Int32) (sd : Nat → Nat) (bcells : Nat → Int32) (bback : Nat → Int32) (breach : Nat → Int32) (bfilled : Nat → Int32) (bfc : Int32) (bmakers : Nat → Int32) (bmc : Int32) (wd : Nat → Nat) (wk : Nat) (od : Nat → Nat) (wa : Int32) (wb : Int32) (ucells : Nat → Int32) (uback : Nat → Int32) (ureach : Nat → Int32) (ufilled : Nat → Int32) (ufc : Int32) (umakers : Nat → Int32) (umc : Int32) (F : Nat) (ocells : Nat → Int32) (oback : Nat → Int32) (oreach : Nat → Int32) (ofilled : Nat → Int32) (ofc : Int32) (omakers : Nat → Int32) (omc : Int32) (h : mX4_gather F wk cells back reach filled fc makers mc bcells breach wa wb uback ureach umakers umc = some (ocells, oback, oreach, ofilled, ofc, omakers, omc)) : Met l yX4_gather wsX4_gather ({ frames := 15, cells := 0, slots := 0, locals := 401 } : Room) (tg_PMo D [(cI, .int)] [.ref (ad 0), .ref (sd 0), .ref (wd 0)] (wT cI ad cells back reach filled fc makers mc) ((wT cI sd bcells bback breach bfilled bfc bmakers bmc) ++ (wW wk od cI wd wa wb ucells uback ureach ufilled ufc umakers umc))) (tg_Mv D (wT cI ad cells back reach filled fc makers mc) (wT cI ad ocells oback oreach ofilled ofc omakers omc)) 0 0 (tg_in (wT cI ad cells back reach filled fc makers mc)) := by
  refine Met.ofW (cc := cX4_gather) (maxL := 6) (ret := none) (by decide) rfl ?_
  intro p e s m zargs zbelow zmeth c s₁ B hml hv
  obtain ⟨hargs, hP, hPo, hK, hN, hD0, hoA⟩ := hv
  have hx := B.exec
  have hb := B.bytes
  have hr := B.returns
  have hts := atoms_spec (ws := wsX4_gather) B.pre
  have hown : s.vm.findClass RX4 = some m.cls := findClass_of_methodNamed B.named
  have hlocks := B.notSynchronized
  have hDD : tg_DD (tg_in (wT cI ad cells back reach filled fc makers mc)) [ad 0, ad 1, ad 2, ad 3, ad 4, ad 5] := tg_DD.of (tg_D hD0) rfl
  have hS : va_S (tg_in (wT cI ad cells back reach filled fc makers mc)) s.heap s.heap [] := va_S.rf
  have hl := lv_entry ([.ref (ad 0), .ref (sd 0), .ref (wd 0)]) (n := 6) (Nat.le_of_ble_eq_true rfl)
  refine W.eq (g2 := entryFrame m ([.ref (ad 0), .ref (sd 0), .ref (wd 0)] : List Value).toArray 6) (by rw [hargs]) ?_
  rw [lg_entry_eq]
  generalize (lg_sl ([.ref (ad 0), .ref (sd 0), .ref (wd 0)]) ++ List.replicate (6 - (lg_sl ([.ref (ad 0), .ref (sd 0), .ref (wd 0)])).length) Slot.unset).toArray = zls at hl ⊢
  have hl : lv_has zls 6 [(0, .ref (ad 0)), (1, .ref (sd 0)), (2, .ref (wd 0))] := hl
  rw [mX4_gather] at h
  refine lv_aload_n hx hb dX4_gather_0 rfl (lv_at hl 0 rfl) ?_
  obtain ⟨reach_1, fc_1, mc_1, hc, h⟩ := bd3_el h
  refine tg_cMv (va_runV (As := []) (rest := []) ⟨hx, hb, hml, hown, hts⟩ (qX4_clear l D cI ad cells back reach filled fc makers mc F reach_1 fc_1 mc_1 hc) (cwV 0 hts gX4_gather_X4_clear rfl rfl rfl zVX4_clear ⟨Nat.le_of_ble_eq_true rfl, Nat.le_of_ble_eq_true rfl⟩) (tg_preVM (r := (RX4, TX4, 7)) (ci := 4) (q0 := 0) hP (hDD _ rfl) hK hN rfl rfl) rfl rfl hl.1 rfl (lv_room (Nat.le_of_ble_eq_true rfl)) dX4_gather_1 ⟨Nat.zero_le _, Nat.zero_le _⟩) hS (tg_inA (hDD _ rfl)) (fun zH zlocs _ hP hS => ?_)
  refine lv_bipush (v := 7) hx hb dX4_gather_4 (by decide) ?_
  refine lv_istore_n (lv' := [(3, .int 7), (0, .ref (ad 0)), (1, .ref (sd 0)), (2, .ref (wd 0))]) hx hb dX4_gather_6 rfl hl (by decide) rfl (fun zls hl => ?_)
  obtain ⟨cells_1, back_1, reach_2, filled_1, fc_2, makers_1, mc_2, hv, h⟩ := bd7_el h
  refine wX4_gather_L7 ⟨hx, hb, hml, hown, hts, hK, hN⟩ hDD hPo hoA hlocks hr F F _ _ _ _ _ _ _ _ _ _ _ _ _ _ _ hv _ _ hP hS _ (lv_sub hl [1, 2, 3, 0] rfl) (fun zH zlocs hP hS zls hl => ?_)
  cases h
  exact W.vret hx hb hr (fun t ht hW => ⟨rfl, by rw [ht]; exact hP, hS.F ht⟩) hS.2.2 dX4_gather_77
theorem zVX4_gather : yX4_gather.cls = RX4 ∧ yX4_gather.cls ≠ "java/lang/invoke/MethodHandle" ∧ yX4_gather.cls ≠ "java/lang/invoke/VarHandle" ∧ (parseMethodDescriptor yX4_gather.desc).map (fun d => d.parameters.length) = some 2 := by decide +kernel
