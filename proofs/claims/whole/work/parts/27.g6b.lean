/-! ===== private void joinSwaps(TurnGroups$Tower); ===== -/
theorem kX6_joinSwaps_1 : Cond.fieldLink RX6 156 "TurnGroups" "pointCount" "I" ∈ wsX6_joinSwaps := by decide +kernel
theorem uX6_joinSwaps_RX6 : ∀ w ∈ u_ws RX6 TX6 6, w ∈ wsX6_joinSwaps := by decide +kernel
def mX6_joinSwaps_L2 (F : Nat) (zK : Nat) (np : Int32) : Nat → Int32 → (Nat → TW) → Option ((Nat → TW))
  | 0, _, _ => none
  | f + 1, zx2, tw => if np ≤ (zx2 + 1) then (some tw) else (bd8 (mX4_join F (tw zK).1 (tw zK).2.1 (tw zK).2.2.1 (tw zK).2.2.2.1 (tw zK).2.2.2.2.1 (tw zK).2.2.2.2.2.1 (tw zK).2.2.2.2.2.2 (mX6_swap zx2 (zx2 + 1))) (fun zr_1 tcells tback treach tfilled tfc tmakers tmc => lT (upT tw zK (tcells, tback, treach, tfilled, tfc, tmakers, tmc)) (fun tw_1 => mX6_joinSwaps_L2 F zK np f (zx2 + 1) tw_1)))
theorem mX6_joinSwaps_L2_s (F : Nat) (zK : Nat) (np : Int32) (f : Nat) (zx2 : Int32) (tw : Nat → TW) : mX6_joinSwaps_L2 F zK np (f + 1) zx2 tw = (if np ≤ (zx2 + 1) then (some tw) else (bd8 (mX4_join F (tw zK).1 (tw zK).2.1 (tw zK).2.2.1 (tw zK).2.2.2.1 (tw zK).2.2.2.2.1 (tw zK).2.2.2.2.2.1 (tw zK).2.2.2.2.2.2 (mX6_swap zx2 (zx2 + 1))) (fun zr_1 tcells tback treach tfilled tfc tmakers tmc => lT (upT tw zK (tcells, tback, treach, tfilled, tfc, tmakers, tmc)) (fun tw_1 => mX6_joinSwaps_L2 F zK np f (zx2 + 1) tw_1)))) := rfl
def mX6_joinSwaps (F : Nat) (np : Int32) (tw : Nat → TW) (zK : Nat) : Option ((Nat → TW)) := bd (mX6_joinSwaps_L2 F zK np F 0 tw) (fun tw_1 => some tw_1)
set_option maxRecDepth 100000 in
set_option maxHeartbeats 4000000 in
theorem wX6_joinSwaps_L2 {p : Program} {l : Launch} {e : Env} {s : State} {m : MethodId} {zargs : Array Value} {zbelow : List Frame} {zmeth : Method} {c : Code} {D : va_G} {zQ : State → Prop} {zA : Nat → Prop} {ga : Nat → Nat} {ta : Nat → Nat → Nat} {cI cT : ClassId} {shelf : Nat → Int32} {np : Int32} {ng : Int32} {cur : Int32} {zK : Nat} (C0 : tg_C p s m zmeth c zargs cX6_joinSwaps RX6 wsX6_joinSwaps 3 D [(cI, .int), (cT, .object "TurnGroups$Tower")]) (hDD : tg_DD zA (adG ta ga)) (hzK : zK < 12) (hlocks : zmeth.locks = false) (hr : zmeth.sig.returnType = none) (F : Nat) : ∀ (f : Nat) (zx2 : Int32) (tw : Nat → TW) (otw : Nat → TW), mX6_joinSwaps_L2 F zK np f zx2 tw = some otw → ∀ (zH : Heap) (zlocs : List Loc), va_P D vwCl (wG ta cI cT ga shelf np ng cur tw) zH → va_S zA s.heap zH zlocs → ∀ (zls : Array Slot), lv_has zls 3 [(0, .ref (ga 0)), (1, .ref (ta zK 0)), (2, .int zx2)] → (∀ (zH : Heap) (zlocs : List Loc), va_P D vwCl (wG ta cI cT ga shelf np ng cur otw) zH → va_S zA s.heap zH zlocs → ∀ (zls : Array Slot), lv_has zls 3 [] → W p l e ({ frames := 4, cells := 0, slots := 0, locals := 96 } : Room) s m zargs zbelow zmeth c zH zlocs 0 0 zQ (F0 m 30 zls [])) → W p l e ({ frames := 4, cells := 0, slots := 0, locals := 96 } : Room) s m zargs zbelow zmeth c zH zlocs 0 0 zQ (F0 m 2 zls []) := by
  obtain ⟨hx, hb, hml, hown, hts, hK, hN⟩ := C0
  intro f
  induction f with
  | zero => intro _ _ _ h; exact absurd (show none = some _ from h) (fun h9 => by cases h9)
  | succ f ih =>
    intro zx2 tw otw h zH zlocs hP hS zls hl kk
    rw [mX6_joinSwaps_L2_s] at h
    refine lv_iload_n hx hb dX6_joinSwaps_2 rfl (lv_at hl 2 rfl) ?_
    refine lv_iconst (v := 1) hx hb dX6_joinSwaps_3 (by decide) ?_
    refine lv_iadd hx hb dX6_joinSwaps_4 ?_
    refine lv_aload_n hx hb dX6_joinSwaps_5 rfl (lv_at hl 0 rfl) ?_
    refine va_get (D := D) (ci := 5) (v := .int np) (C := RX6) (T := TX6) (N := 6) hx hb hts uX6_joinSwaps_RX6 hown hK hP 0 rfl rfl 3 (by decide) (hts _ kX6_joinSwaps_1) (fun _ h9 => h9) rfl dX6_joinSwaps_6 ?_
    refine lv_icmp_ge (tgt := 30) hx hb dX6_joinSwaps_9 (by decide) (fun cb => ?_) (fun cb => ?_)
    · rw [if_pos cb] at h
      cases h
      exact kk _ _ hP hS _ (lv_sub hl [] rfl)
    · rw [if_neg cb] at h
      refine lv_aload_n hx hb dX6_joinSwaps_12 rfl (lv_at hl 1 rfl) ?_
      refine lv_iload_n hx hb dX6_joinSwaps_13 rfl (lv_at hl 2 rfl) ?_
      refine lv_iload_n hx hb dX6_joinSwaps_14 rfl (lv_at hl 2 rfl) ?_
      refine lv_iconst (v := 1) hx hb dX6_joinSwaps_15 (by decide) ?_
      refine lv_iadd hx hb dX6_joinSwaps_16 ?_
      refine tg_cRi (va_runS (As := [.int zx2, .int (zx2 + 1)]) (rest := [.ref (ta zK 0)]) ⟨hx, hb, hml, hown, hts⟩ (qX6_swap l D zx2 (zx2 + 1) _ rfl) (va_cwS 2 hts gX6_joinSwaps_X6_swap rfl rfl rfl zSX6_swap ⟨Nat.le_of_ble_eq_true rfl, Nat.le_of_ble_eq_true rfl⟩) (tg_preS tg_nil (hK.sub (tys' := []) [] rfl) hN) rfl rfl hl.1 rfl (lv_room (Nat.le_of_ble_eq_true rfl)) dX6_joinSwaps_17 ⟨Nat.zero_le _, Nat.zero_le _⟩) ?_
      obtain ⟨zr_1, tcells, tback, treach, tfilled, tfc, tmakers, tmc, hc, h⟩ := bd8_el h
      refine tg_cMi (va_runV (As := [.int (mX6_swap zx2 (zx2 + 1))]) (rest := []) ⟨hx, hb, hml, hown, hts⟩ (qX4_join l D cI (ta zK) (tw zK).1 (tw zK).2.1 (tw zK).2.2.1 (tw zK).2.2.2.1 (tw zK).2.2.2.2.1 (tw zK).2.2.2.2.2.1 (tw zK).2.2.2.2.2.2 (mX6_swap zx2 (zx2 + 1)) F zr_1 tcells tback treach tfilled tfc tmakers tmc hc) (cwV 1 hts gX6_joinSwaps_X4_join rfl rfl rfl zVX4_join ⟨Nat.le_of_ble_eq_true rfl, Nat.le_of_ble_eq_true rfl⟩) (tg_preVM (r := (RX4, TX4, 7)) (ci := 4) (q0 := 0) (wG_T hP hzK) (wG_DT hDD hzK) (hK.sub (tys' := [(cI, .int)]) [0] rfl) hN rfl rfl) rfl rfl hl.1 rfl (lv_room (Nat.le_of_ble_eq_true rfl)) dX6_joinSwaps_20 ⟨Nat.zero_le _, Nat.zero_le _⟩) hS (tg_inA (wG_DT hDD hzK)) (fun zH zlocs hf9 hP9 hS => ?_)
      obtain ⟨tw_1, etw_1, h⟩ := lT_el h
      have hP := wG_put (t0 := tw zK) (t := (tcells, tback, treach, tfilled, tfc, tmakers, tmc)) hP hDD hzK hf9 hP9
      rw [← etw_1] at hP
      refine lv_pop hx hb dX6_joinSwaps_23 rfl ?_
      refine lv_iinc (v := (zx2 + 1)) (lv' := [(2, .int (zx2 + 1)), (0, .ref (ga 0)), (1, .ref (ta zK 0))]) hx hb dX6_joinSwaps_24 hl (k := 2) rfl rfl (by decide) rfl (fun zls hl => ?_)
      refine lv_goto (tgt := 2) hx hb dX6_joinSwaps_27 (by decide) ?_
      exact ih _ _ _ h _ _ hP hS _ (lv_sub hl [1, 2, 0] rfl) kk
set_option maxRecDepth 100000 in
set_option maxHeartbeats 4000000 in
theorem qX6_joinSwaps (l : Launch) (D : va_G) (cI : ClassId) (cT : ClassId) (ga : Nat → Nat) (ta : Nat → Nat → Nat) (shelf : Nat → Int32) (np : Int32) (ng : Int32) (cur : Int32) (tw : Nat → TW) (zK : Nat) (hzK : zK < 12) (F : Nat) (otw : Nat → TW) (h : mX6_joinSwaps F np tw zK = some otw) : Met l yX6_joinSwaps wsX6_joinSwaps ({ frames := 4, cells := 0, slots := 0, locals := 96 } : Room) (tg_PM D [(cI, .int), (cT, .object "TurnGroups$Tower")] [.ref (ga 0), .ref (ta zK 0)] (wG ta cI cT ga shelf np ng cur tw)) (tg_Mv D (wG ta cI cT ga shelf np ng cur tw) (wG ta cI cT ga shelf np ng cur otw)) 0 0 (tg_in (wG ta cI cT ga shelf np ng cur tw)) := by
  refine Met.ofW (cc := cX6_joinSwaps) (maxL := 3) (ret := none) (by decide) rfl ?_
  intro p e s m zargs zbelow zmeth c s₁ B hml hv
  obtain ⟨hargs, hP, hK, hN, hD0⟩ := hv
  have hx := B.exec
  have hb := B.bytes
  have hr := B.returns
  have hts := atoms_spec (ws := wsX6_joinSwaps) B.pre
  have hown : s.vm.findClass RX6 = some m.cls := findClass_of_methodNamed B.named
  have hlocks := B.notSynchronized
  have hDD : tg_DD (tg_in (wG ta cI cT ga shelf np ng cur tw)) (adG ta ga) := tg_DD.of (tg_D hD0) wG_ad
  have hS : va_S (tg_in (wG ta cI cT ga shelf np ng cur tw)) s.heap s.heap [] := va_S.rf
  have hl := lv_entry ([.ref (ga 0), .ref (ta zK 0)]) (n := 3) (Nat.le_of_ble_eq_true rfl)
  refine W.eq (g2 := entryFrame m ([.ref (ga 0), .ref (ta zK 0)] : List Value).toArray 3) (by rw [hargs]) ?_
  rw [lg_entry_eq]
  generalize (lg_sl ([.ref (ga 0), .ref (ta zK 0)]) ++ List.replicate (3 - (lg_sl ([.ref (ga 0), .ref (ta zK 0)])).length) Slot.unset).toArray = zls at hl ⊢
  have hl : lv_has zls 3 [(0, .ref (ga 0)), (1, .ref (ta zK 0))] := hl
  rw [mX6_joinSwaps] at h
  refine lv_iconst (v := 0) hx hb dX6_joinSwaps_0 (by decide) ?_
  refine lv_istore_n (lv' := [(2, .int 0), (0, .ref (ga 0)), (1, .ref (ta zK 0))]) hx hb dX6_joinSwaps_1 rfl hl (by decide) rfl (fun zls hl => ?_)
  obtain ⟨tw_1, hv, h⟩ := bd_el h
  refine wX6_joinSwaps_L2 ⟨hx, hb, hml, hown, hts, hK, hN⟩ hDD hzK hlocks hr F F _ _ _ hv  _ _ hP hS _ (lv_sub hl [1, 2, 0] rfl) (fun zH zlocs hP hS zls hl => ?_)
  cases h
  exact W.vret hx hb hr (fun t ht hW => ⟨rfl, by rw [ht]; exact hP, hS.F ht⟩) hS.2.2 dX6_joinSwaps_30
theorem zVX6_joinSwaps : yX6_joinSwaps.cls = RX6 ∧ yX6_joinSwaps.cls ≠ "java/lang/invoke/MethodHandle" ∧ yX6_joinSwaps.cls ≠ "java/lang/invoke/VarHandle" ∧ (parseMethodDescriptor yX6_joinSwaps.desc).map (fun d => d.parameters.length) = some 1 := by decide +kernel

/-! ===== private void joinThreeCycles(TurnGroups$Tower); ===== -/
theorem kX6_joinThreeCycles_1 : Cond.fieldLink RX6 156 "TurnGroups" "pointCount" "I" ∈ wsX6_joinThreeCycles := by decide +kernel
theorem uX6_joinThreeCycles_RX6 : ∀ w ∈ u_ws RX6 TX6 6, w ∈ wsX6_joinThreeCycles := by decide +kernel
def mX6_joinThreeCycles_L2 (F : Nat) (zK : Nat) (np : Int32) : Nat → Int32 → (Nat → TW) → Option ((Nat → TW))
  | 0, _, _ => none
  | f + 1, zx2, tw => if np ≤ (zx2 + 2) then (some tw) else (bd (mX6_chain F (mX6_swap zx2 (zx2 + 1)) (mX6_swap (zx2 + 1) (zx2 + 2))) (fun zr_2 => bd8 (mX4_join F (tw zK).1 (tw zK).2.1 (tw zK).2.2.1 (tw zK).2.2.2.1 (tw zK).2.2.2.2.1 (tw zK).2.2.2.2.2.1 (tw zK).2.2.2.2.2.2 zr_2) (fun zr_3 tcells tback treach tfilled tfc tmakers tmc => lT (upT tw zK (tcells, tback, treach, tfilled, tfc, tmakers, tmc)) (fun tw_1 => mX6_joinThreeCycles_L2 F zK np f (zx2 + 1) tw_1))))
theorem mX6_joinThreeCycles_L2_s (F : Nat) (zK : Nat) (np : Int32) (f : Nat) (zx2 : Int32) (tw : Nat → TW) : mX6_joinThreeCycles_L2 F zK np (f + 1) zx2 tw = (if np ≤ (zx2 + 2) then (some tw) else (bd (mX6_chain F (mX6_swap zx2 (zx2 + 1)) (mX6_swap (zx2 + 1) (zx2 + 2))) (fun zr_2 => bd8 (mX4_join F (tw zK).1 (tw zK).2.1 (tw zK).2.2.1 (tw zK).2.2.2.1 (tw zK).2.2.2.2.1 (tw zK).2.2.2.2.2.1 (tw zK).2.2.2.2.2.2 zr_2) (fun zr_3 tcells tback treach tfilled tfc tmakers tmc => lT (upT tw zK (tcells, tback, treach, tfilled, tfc, tmakers, tmc)) (fun tw_1 => mX6_joinThreeCycles_L2 F zK np f (zx2 + 1) tw_1))))) := rfl
def mX6_joinThreeCycles (F : Nat) (np : Int32) (tw : Nat → TW) (zK : Nat) : Option ((Nat → TW)) := bd (mX6_joinThreeCycles_L2 F zK np F 0 tw) (fun tw_1 => some tw_1)
set_option maxRecDepth 100000 in
set_option maxHeartbeats 4000000 in
theorem wX6_joinThreeCycles_L2 {p : Program} {l : Launch} {e : Env} {s : State} {m : MethodId} {zargs : Array Value} {zbelow : List Frame} {zmeth : Method} {c : Code} {D : va_G} {zQ : State → Prop} {zA : Nat → Prop} {ga : Nat → Nat} {ta : Nat → Nat → Nat} {cI cT : ClassId} {shelf : Nat → Int32} {np : Int32} {ng : Int32} {cur : Int32} {zK : Nat} (C0 : tg_C p s m zmeth c zargs cX6_joinThreeCycles RX6 wsX6_joinThreeCycles 3 D [(cI, .int), (cT, .object "TurnGroups$Tower")]) (hDD : tg_DD zA (adG ta ga)) (hzK : zK < 12) (hlocks : zmeth.locks = false) (hr : zmeth.sig.returnType = none) (F : Nat) : ∀ (f : Nat) (zx2 : Int32) (tw : Nat → TW) (otw : Nat → TW), mX6_joinThreeCycles_L2 F zK np f zx2 tw = some otw → ∀ (zH : Heap) (zlocs : List Loc), va_P D vwCl (wG ta cI cT ga shelf np ng cur tw) zH → va_S zA s.heap zH zlocs → ∀ (zls : Array Slot), lv_has zls 3 [(0, .ref (ga 0)), (1, .ref (ta zK 0)), (2, .int zx2)] → (∀ (zH : Heap) (zlocs : List Loc), va_P D vwCl (wG ta cI cT ga shelf np ng cur otw) zH → va_S zA s.heap zH zlocs → ∀ (zls : Array Slot), lv_has zls 3 [] → W p l e ({ frames := 4, cells := 0, slots := 0, locals := 96 } : Room) s m zargs zbelow zmeth c zH zlocs 0 0 zQ (F0 m 42 zls [])) → W p l e ({ frames := 4, cells := 0, slots := 0, locals := 96 } : Room) s m zargs zbelow zmeth c zH zlocs 0 0 zQ (F0 m 2 zls []) := by
  obtain ⟨hx, hb, hml, hown, hts, hK, hN⟩ := C0
  intro f
  induction f with
  | zero => intro _ _ _ h; exact absurd (show none = some _ from h) (fun h9 => by cases h9)
  | succ f ih =>
    intro zx2 tw otw h zH zlocs hP hS zls hl kk
    rw [mX6_joinThreeCycles_L2_s] at h
    refine lv_iload_n hx hb dX6_joinThreeCycles_2 rfl (lv_at hl 2 rfl) ?_
    refine lv_iconst (v := 2) hx hb dX6_joinThreeCycles_3 (by decide) ?_
    refine lv_iadd hx hb dX6_joinThreeCycles_4 ?_
    refine lv_aload_n hx hb dX6_joinThreeCycles_5 rfl (lv_at hl 0 rfl) ?_
    refine va_get (D := D) (ci := 5) (v := .int np) (C := RX6) (T := TX6) (N := 6) hx hb hts uX6_joinThreeCycles_RX6 hown hK hP 0 rfl rfl 3 (by decide) (hts _ kX6_joinThreeCycles_1) (fun _ h9 => h9) rfl dX6_joinThreeCycles_6 ?_
    refine lv_icmp_ge (tgt := 42) hx hb dX6_joinThreeCycles_9 (by decide) (fun cb => ?_) (fun cb => ?_)
    · rw [if_pos cb] at h
      cases h
      exact kk _ _ hP hS _ (lv_sub hl [] rfl)
    · rw [if_neg cb] at h
      refine lv_aload_n hx hb dX6_joinThreeCycles_12 rfl (lv_at hl 1 rfl) ?_
      refine lv_iload_n hx hb dX6_joinThreeCycles_13 rfl (lv_at hl 2 rfl) ?_
      refine lv_iload_n hx hb dX6_joinThreeCycles_14 rfl (lv_at hl 2 rfl) ?_
      refine lv_iconst (v := 1) hx hb dX6_joinThreeCycles_15 (by decide) ?_
      refine lv_iadd hx hb dX6_joinThreeCycles_16 ?_
      refine tg_cRi (va_runS (As := [.int zx2, .int (zx2 + 1)]) (rest := [.ref (ta zK 0)]) ⟨hx, hb, hml, hown, hts⟩ (qX6_swap l D zx2 (zx2 + 1) _ rfl) (va_cwS 2 hts gX6_joinThreeCycles_X6_swap rfl rfl rfl zSX6_swap ⟨Nat.le_of_ble_eq_true rfl, Nat.le_of_ble_eq_true rfl⟩) (tg_preS tg_nil (hK.sub (tys' := []) [] rfl) hN) rfl rfl hl.1 rfl (lv_room (Nat.le_of_ble_eq_true rfl)) dX6_joinThreeCycles_17 ⟨Nat.zero_le _, Nat.zero_le _⟩) ?_
      refine lv_iload_n hx hb dX6_joinThreeCycles_20 rfl (lv_at hl 2 rfl) ?_
      refine lv_iconst (v := 1) hx hb dX6_joinThreeCycles_21 (by decide) ?_
      refine lv_iadd hx hb dX6_joinThreeCycles_22 ?_
      refine lv_iload_n hx hb dX6_joinThreeCycles_23 rfl (lv_at hl 2 rfl) ?_
      refine lv_iconst (v := 2) hx hb dX6_joinThreeCycles_24 (by decide) ?_
      refine lv_iadd hx hb dX6_joinThreeCycles_25 ?_
      refine tg_cRi (va_runS (As := [.int (zx2 + 1), .int (zx2 + 2)]) (rest := [.int (mX6_swap zx2 (zx2 + 1)), .ref (ta zK 0)]) ⟨hx, hb, hml, hown, hts⟩ (qX6_swap l D (zx2 + 1) (zx2 + 2) _ rfl) (va_cwS 2 hts gX6_joinThreeCycles_X6_swap rfl rfl rfl zSX6_swap ⟨Nat.le_of_ble_eq_true rfl, Nat.le_of_ble_eq_true rfl⟩) (tg_preS tg_nil (hK.sub (tys' := []) [] rfl) hN) rfl rfl hl.1 rfl (lv_room (Nat.le_of_ble_eq_true rfl)) dX6_joinThreeCycles_26 ⟨Nat.zero_le _, Nat.zero_le _⟩) ?_
      obtain ⟨zr_2, hc, h⟩ := bd_el h
      refine tg_cRi (va_runS (As := [.int (mX6_swap zx2 (zx2 + 1)), .int (mX6_swap (zx2 + 1) (zx2 + 2))]) (rest := [.ref (ta zK 0)]) ⟨hx, hb, hml, hown, hts⟩ (qX6_chain l D (mX6_swap zx2 (zx2 + 1)) (mX6_swap (zx2 + 1) (zx2 + 2)) F zr_2 hc) (va_cwS 2 hts gX6_joinThreeCycles_X6_chain rfl rfl rfl zSX6_chain ⟨Nat.le_of_ble_eq_true rfl, Nat.le_of_ble_eq_true rfl⟩) (tg_preS tg_nil (hK.sub (tys' := []) [] rfl) hN) rfl rfl hl.1 rfl (lv_room (Nat.le_of_ble_eq_true rfl)) dX6_joinThreeCycles_29 ⟨Nat.zero_le _, Nat.zero_le _⟩) ?_
      obtain ⟨zr_3, tcells, tback, treach, tfilled, tfc, tmakers, tmc, hc_1, h⟩ := bd8_el h
      refine tg_cMi (va_runV (As := [.int zr_2]) (rest := []) ⟨hx, hb, hml, hown, hts⟩ (qX4_join l D cI (ta zK) (tw zK).1 (tw zK).2.1 (tw zK).2.2.1 (tw zK).2.2.2.1 (tw zK).2.2.2.2.1 (tw zK).2.2.2.2.2.1 (tw zK).2.2.2.2.2.2 zr_2 F zr_3 tcells tback treach tfilled tfc tmakers tmc hc_1) (cwV 1 hts gX6_joinThreeCycles_X4_join rfl rfl rfl zVX4_join ⟨Nat.le_of_ble_eq_true rfl, Nat.le_of_ble_eq_true rfl⟩) (tg_preVM (r := (RX4, TX4, 7)) (ci := 4) (q0 := 0) (wG_T hP hzK) (wG_DT hDD hzK) (hK.sub (tys' := [(cI, .int)]) [0] rfl) hN rfl rfl) rfl rfl hl.1 rfl (lv_room (Nat.le_of_ble_eq_true rfl)) dX6_joinThreeCycles_32 ⟨Nat.zero_le _, Nat.zero_le _⟩) hS (tg_inA (wG_DT hDD hzK)) (fun zH zlocs hf9 hP9 hS => ?_)
      obtain ⟨tw_1, etw_1, h⟩ := lT_el h
      have hP := wG_put (t0 := tw zK) (t := (tcells, tback, treach, tfilled, tfc, tmakers, tmc)) hP hDD hzK hf9 hP9
      rw [← etw_1] at hP
      refine lv_pop hx hb dX6_joinThreeCycles_35 rfl ?_
      refine lv_iinc (v := (zx2 + 1)) (lv' := [(2, .int (zx2 + 1)), (0, .ref (ga 0)), (1, .ref (ta zK 0))]) hx hb dX6_joinThreeCycles_36 hl (k := 2) rfl rfl (by decide) rfl (fun zls hl => ?_)
      refine lv_goto (tgt := 2) hx hb dX6_joinThreeCycles_39 (by decide) ?_
      exact ih _ _ _ h _ _ hP hS _ (lv_sub hl [1, 2, 0] rfl) kk
set_option maxRecDepth 100000 in
set_option maxHeartbeats 4000000 in
theorem qX6_joinThreeCycles (l : Launch) (D : va_G) (cI : ClassId) (cT : ClassId) (ga : Nat → Nat) (ta : Nat → Nat → Nat) (shelf : Nat → Int32) (np : Int32) (ng : Int32) (cur : Int32) (tw : Nat → TW) (zK : Nat) (hzK : zK < 12) (F : Nat) (otw : Nat → TW) (h : mX6_joinThreeCycles F np tw zK = some otw) : Met l yX6_joinThreeCycles wsX6_joinThreeCycles ({ frames := 4, cells := 0, slots := 0, locals := 96 } : Room) (tg_PM D [(cI, .int), (cT, .object "TurnGroups$Tower")] [.ref (ga 0), .ref (ta zK 0)] (wG ta cI cT ga shelf np ng cur tw)) (tg_Mv D (wG ta cI cT ga shelf np ng cur tw) (wG ta cI cT ga shelf np ng cur otw)) 0 0 (tg_in (wG ta cI cT ga shelf np ng cur tw)) := by
  refine Met.ofW (cc := cX6_joinThreeCycles) (maxL := 3) (ret := none) (by decide) rfl ?_
  intro p e s m zargs zbelow zmeth c s₁ B hml hv
  obtain ⟨hargs, hP, hK, hN, hD0⟩ := hv
  have hx := B.exec
  have hb := B.bytes
  have hr := B.returns
  have hts := atoms_spec (ws := wsX6_joinThreeCycles) B.pre
  have hown : s.vm.findClass RX6 = some m.cls := findClass_of_methodNamed B.named
  have hlocks := B.notSynchronized
  have hDD : tg_DD (tg_in (wG ta cI cT ga shelf np ng cur tw)) (adG ta ga) := tg_DD.of (tg_D hD0) wG_ad
  have hS : va_S (tg_in (wG ta cI cT ga shelf np ng cur tw)) s.heap s.heap [] := va_S.rf
  have hl := lv_entry ([.ref (ga 0), .ref (ta zK 0)]) (n := 3) (Nat.le_of_ble_eq_true rfl)
  refine W.eq (g2 := entryFrame m ([.ref (ga 0), .ref (ta zK 0)] : List Value).toArray 3) (by rw [hargs]) ?_
  rw [lg_entry_eq]
  generalize (lg_sl ([.ref (ga 0), .ref (ta zK 0)]) ++ List.replicate (3 - (lg_sl ([.ref (ga 0), .ref (ta zK 0)])).length) Slot.unset).toArray = zls at hl ⊢
  have hl : lv_has zls 3 [(0, .ref (ga 0)), (1, .ref (ta zK 0))] := hl
  rw [mX6_joinThreeCycles] at h
  refine lv_iconst (v := 0) hx hb dX6_joinThreeCycles_0 (by decide) ?_
  refine lv_istore_n (lv' := [(2, .int 0), (0, .ref (ga 0)), (1, .ref (ta zK 0))]) hx hb dX6_joinThreeCycles_1 rfl hl (by decide) rfl (fun zls hl => ?_)
  obtain ⟨tw_1, hv, h⟩ := bd_el h
  refine wX6_joinThreeCycles_L2 ⟨hx, hb, hml, hown, hts, hK, hN⟩ hDD hzK hlocks hr F F _ _ _ hv  _ _ hP hS _ (lv_sub hl [1, 2, 0] rfl) (fun zH zlocs hP hS zls hl => ?_)
  cases h
  exact W.vret hx hb hr (fun t ht hW => ⟨rfl, by rw [ht]; exact hP, hS.F ht⟩) hS.2.2 dX6_joinThreeCycles_42
theorem zVX6_joinThreeCycles : yX6_joinThreeCycles.cls = RX6 ∧ yX6_joinThreeCycles.cls ≠ "java/lang/invoke/MethodHandle" ∧ yX6_joinThreeCycles.cls ≠ "java/lang/invoke/VarHandle" ∧ (parseMethodDescriptor yX6_joinThreeCycles.desc).map (fun d => d.parameters.length) = some 1 := by decide +kernel

/-! ===== public int group(int); ===== -/
theorem kX6_group_1 : Cond.fieldLink RX6 15 "TurnGroups" "groups" "[LTurnGroups$Tower;" ∈ wsX6_group := by decide +kernel
theorem kX6_group_2 : Cond.fieldLink RX6 27 "TurnGroups" "groupCount" "I" ∈ wsX6_group := by decide +kernel
theorem uX6_group_RX6 : ∀ w ∈ u_ws RX6 TX6 6, w ∈ wsX6_group := by decide +kernel
def mX6_group (F : Nat) (np : Int32) (ng : Int32) (tw : Nat → TW) (zx1 : Int32) : Option (Int32 × Int32 × (Nat → TW)) := if zx1 < 0 then (some ((-2 : Int32), ng, tw)) else (if zx1 ≤ 2 then (if (mX6_isFull ng) = 0 then (gd (inb ng 10) (bd3 (mX4_clear F (tw (Int32.toNatClampNeg ng)).2.2.1 (tw (Int32.toNatClampNeg ng)).2.2.2.2.1 (tw (Int32.toNatClampNeg ng)).2.2.2.2.2.2) (fun treach tfc tmc => lT (upT tw (Int32.toNatClampNeg ng) ((tw (Int32.toNatClampNeg ng)).1, (tw (Int32.toNatClampNeg ng)).2.1, treach, (tw (Int32.toNatClampNeg ng)).2.2.2.1, tfc, (tw (Int32.toNatClampNeg ng)).2.2.2.2.2.1, tmc)) (fun tw_1 => bd (if zx1 = 1 then (bd (mX6_joinSwaps F np tw_1 (Int32.toNatClampNeg ng)) (fun tw_4 => some tw_4)) else (if zx1 = 2 then (bd (mX6_joinThreeCycles F np tw_1 (Int32.toNatClampNeg ng)) (fun tw_3 => some tw_3)) else (some tw_1))) (fun tw_2 => lT (ng + 1) (fun ng_1 => some (ng, ng_1, tw_2))))))) else (some ((-3 : Int32), ng, tw))) else (some ((-2 : Int32), ng, tw)))
set_option maxRecDepth 100000 in
set_option maxHeartbeats 4000000 in
theorem qX6_group (l : Launch) (D : va_G) (cI : ClassId) (cT : ClassId) (ga : Nat → Nat) (ta : Nat → Nat → Nat) (shelf : Nat → Int32) (np : Int32) (ng : Int32) (cur : Int32) (tw : Nat → TW) (zx1 : Int32) (F : Nat) (zr0 : Int32) (ong : Int32) (otw : Nat → TW) (h : mX6_group F np ng tw zx1 = some (zr0, ong, otw)) : Met l yX6_group wsX6_group ({ frames := 5, cells := 0, slots := 0, locals := 118 } : Room) (tg_PM D [(cI, .int), (cT, .object "TurnGroups$Tower")] [.ref (ga 0), .int zx1] (wG ta cI cT ga shelf np ng cur tw)) (tg_Mi D (wG ta cI cT ga shelf np ng cur tw) (wG ta cI cT ga shelf np ong cur otw) zr0) 0 0 (tg_in (wG ta cI cT ga shelf np ng cur tw)) := by
  refine Met.ofW (cc := cX6_group) (maxL := 3) (ret := (some .int)) (by decide) rfl ?_
  intro p e s m zargs zbelow zmeth c s₁ B hml hv
  obtain ⟨hargs, hP, hK, hN, hD0⟩ := hv
  have hx := B.exec
  have hb := B.bytes
  have hr := B.returns
  have hts := atoms_spec (ws := wsX6_group) B.pre
  have hown : s.vm.findClass RX6 = some m.cls := findClass_of_methodNamed B.named
  have hlocks := B.notSynchronized
  have hDD : tg_DD (tg_in (wG ta cI cT ga shelf np ng cur tw)) (adG ta ga) := tg_DD.of (tg_D hD0) wG_ad
  have hS : va_S (tg_in (wG ta cI cT ga shelf np ng cur tw)) s.heap s.heap [] := va_S.rf
  have hl := lv_entry ([.ref (ga 0), .int zx1]) (n := 3) (Nat.le_of_ble_eq_true rfl)
  refine W.eq (g2 := entryFrame m ([.ref (ga 0), .int zx1] : List Value).toArray 3) (by rw [hargs]) ?_
  rw [lg_entry_eq]
  generalize (lg_sl ([.ref (ga 0), .int zx1]) ++ List.replicate (3 - (lg_sl ([.ref (ga 0), .int zx1])).length) Slot.unset).toArray = zls at hl ⊢
  have hl : lv_has zls 3 [(0, .ref (ga 0)), (1, .int zx1)] := hl
  rw [mX6_group] at h
  refine lv_iload_n hx hb dX6_group_0 rfl (lv_at hl 1 rfl) ?_
  refine lv_if_lt (tgt := 9) hx hb dX6_group_1 (by decide) (fun cb => ?_) (fun cb => ?_)
  · rw [if_pos cb] at h
    refine lv_bipush (v := (-2)) hx hb dX6_group_9 (by decide) ?_
    cases h
    exact W.iret hx hb hr (fun t ht hW => ⟨rfl, by rw [ht]; exact hP, hS.F ht⟩) hS.2.2 dX6_group_11
  · rw [if_neg cb] at h
    refine lv_iload_n hx hb dX6_group_4 rfl (lv_at hl 1 rfl) ?_
    refine lv_iconst (v := 2) hx hb dX6_group_5 (by decide) ?_
    refine lv_icmp_le (tgt := 12) hx hb dX6_group_6 (by decide) (fun cb_1 => ?_) (fun cb_1 => ?_)
    · rw [if_pos cb_1] at h
      refine lv_aload_n hx hb dX6_group_12 rfl (lv_at hl 0 rfl) ?_
      refine tg_cRi (va_runV (As := []) (rest := []) ⟨hx, hb, hml, hown, hts⟩ (qX6_isFull l D cI cT ga ta shelf np ng cur tw _ rfl) (cwV 0 hts gX6_group_X6_isFull rfl rfl rfl zVX6_isFull ⟨Nat.le_of_ble_eq_true rfl, Nat.le_of_ble_eq_true rfl⟩) (tg_preV (r := (RX6, TX6, 6)) (ci := 5) (q0 := 0) hP hK hN rfl rfl) rfl rfl hl.1 rfl (lv_room (Nat.le_of_ble_eq_true rfl)) dX6_group_13 ⟨Nat.zero_le _, Nat.zero_le _⟩) ?_
      refine lv_if_eq (tgt := 22) hx hb dX6_group_16 (by decide) (fun cb_2 => ?_) (fun cb_2 => ?_)
      · rw [if_pos cb_2] at h
        refine lv_aload_n hx hb dX6_group_22 rfl (lv_at hl 0 rfl) ?_
        refine va_get (D := D) (ci := 5) (v := .ref (ga 2)) (C := RX6) (T := TX6) (N := 6) hx hb hts uX6_group_RX6 hown hK hP 0 rfl rfl 1 (by decide) (hts _ kX6_group_1) (fun _ h9 => h9) rfl dX6_group_23 ?_
        refine lv_aload_n hx hb dX6_group_26 rfl (lv_at hl 0 rfl) ?_
        refine va_get (D := D) (ci := 5) (v := .int ng) (C := RX6) (T := TX6) (N := 6) hx hb hts uX6_group_RX6 hown hK hP 0 rfl rfl 4 (by decide) (hts _ kX6_group_2) (fun _ h9 => h9) rfl dX6_group_27 ?_
        obtain ⟨gg, h⟩ := gd_el h
        have hk : (Int32.toNatClampNeg ng) < 12 := by have := inb_lt gg; omega
        refine va_aldq hx hb hK hP 2 1 rfl rfl (inb_in gg) dX6_group_30 ?_
        refine W.eq (g2 := F0 m 31 zls [.ref (ta (Int32.toNatClampNeg ng) 0)]) rfl ?_
        refine lv_astore_n (lv' := [(2, .ref (ta (Int32.toNatClampNeg ng) 0)), (0, .ref (ga 0)), (1, .int zx1)]) hx hb dX6_group_31 rfl hl (by decide) rfl (fun zls hl => ?_)
        refine lv_aload_n hx hb dX6_group_32 rfl (lv_at hl 0 rfl) ?_
        obtain ⟨treach, tfc, tmc, hc, h⟩ := bd3_el h
        refine tg_cMv (va_runV (As := []) (rest := []) ⟨hx, hb, hml, hown, hts⟩ (qX4_clear l D cI (ta (Int32.toNatClampNeg ng)) (tw (Int32.toNatClampNeg ng)).1 (tw (Int32.toNatClampNeg ng)).2.1 (tw (Int32.toNatClampNeg ng)).2.2.1 (tw (Int32.toNatClampNeg ng)).2.2.2.1 (tw (Int32.toNatClampNeg ng)).2.2.2.2.1 (tw (Int32.toNatClampNeg ng)).2.2.2.2.2.1 (tw (Int32.toNatClampNeg ng)).2.2.2.2.2.2 F treach tfc tmc hc) (cwV 0 hts gX6_group_X4_clear rfl rfl rfl zVX4_clear ⟨Nat.le_of_ble_eq_true rfl, Nat.le_of_ble_eq_true rfl⟩) (tg_preVM (r := (RX4, TX4, 7)) (ci := 4) (q0 := 0) (wG_T hP hk) (wG_DT hDD hk) (hK.sub (tys' := [(cI, .int)]) [0] rfl) hN rfl rfl) rfl rfl hl.1 rfl (lv_room (Nat.le_of_ble_eq_true rfl)) dX6_group_33 ⟨Nat.zero_le _, Nat.zero_le _⟩) hS (tg_inA (wG_DT hDD hk)) (fun zH zlocs hf9 hP9 hS => ?_)
        obtain ⟨tw_1, etw_1, h⟩ := lT_el h
        have hP := wG_put (t0 := tw (Int32.toNatClampNeg ng)) (t := ((tw (Int32.toNatClampNeg ng)).1, (tw (Int32.toNatClampNeg ng)).2.1, treach, (tw (Int32.toNatClampNeg ng)).2.2.2.1, tfc, (tw (Int32.toNatClampNeg ng)).2.2.2.2.2.1, tmc)) hP hDD hk hf9 hP9
        rw [← etw_1] at hP
        refine lv_iload_n hx hb dX6_group_36 rfl (lv_at hl 2 rfl) ?_
        refine lv_iconst (v := 1) hx hb dX6_group_37 (by decide) ?_
        obtain ⟨tw_2, hv, h⟩ := bd_el h
        have hj : ∀ (zH : Heap) (zlocs : List Loc), va_P D vwCl (wG ta cI cT ga shelf np ng cur tw_2) zH → va_S (tg_in (wG ta cI cT ga shelf np ng cur tw)) s.heap zH zlocs → W p l e ({ frames := 5, cells := 0, slots := 0, locals := 118 } : Room) s m zargs zbelow zmeth c zH zlocs 0 0 (MQ zbelow (tg_Mi D (wG ta cI cT ga shelf np ng cur tw) (wG ta cI cT ga shelf np ong cur otw) zr0) zargs s 0 0 (tg_in (wG ta cI cT ga shelf np ng cur tw))) (F0 m 59 zls []) := by
          intro zH zlocs hP hS
          refine lv_aload_n hx hb dX6_group_59 rfl (lv_at hl 1 rfl) ?_
          refine lv_dup hx hb dX6_group_60 rfl ?_
          refine va_get (D := D) (ci := 5) (v := .int ng) (C := RX6) (T := TX6) (N := 6) hx hb hts uX6_group_RX6 hown hK hP 0 rfl rfl 4 (by decide) (hts _ kX6_group_2) (fun _ h9 => h9) rfl dX6_group_61 ?_
          refine lv_dup_x1 hx hb dX6_group_64 rfl rfl ?_
          refine lv_iconst (v := 1) hx hb dX6_group_65 (by decide) ?_
          refine lv_iadd hx hb dX6_group_66 ?_
          obtain ⟨ng_1, eng_1, h⟩ := lT_el h
          refine tg_top eng_1 ?_
          refine va_put (D := D) (ci := 5) (v := .int ng_1) (ty := .int) (C := RX6) (T := TX6) (N := 6) hx hb hts uX6_group_RX6 tyX6 tyX6_ok nmX6 hown hK hP (hDD _ wG_ad) hS 0 rfl rfl 4 (by decide) (hts _ kX6_group_2) (fun _ h9 => h9) rfl (by decide +kernel) rfl rfl (Nat.le_of_ble_eq_true rfl) dX6_group_67 (fun zH zlocs hP _ hS => ?_)
          have hP : va_P D vwCl (wG ta cI cT ga shelf np ng_1 cur tw_2) zH := hP
          cases h
          exact W.iret hx hb hr (fun t ht hW => ⟨rfl, by rw [ht]; exact hP, hS.F ht⟩) hS.2.2 dX6_group_70
        refine lv_icmp_ne (tgt := 49) hx hb dX6_group_38 (by decide) (fun cb_3 => ?_) (fun cb_3 => ?_)
        · rw [if_neg cb_3] at hv
          refine lv_iload_n hx hb dX6_group_49 rfl (lv_at hl 2 rfl) ?_
          refine lv_iconst (v := 2) hx hb dX6_group_50 (by decide) ?_
          refine lv_icmp_ne (tgt := 59) hx hb dX6_group_51 (by decide) (fun cb_4 => ?_) (fun cb_4 => ?_)
          · rw [if_neg cb_4] at hv
            cases hv
            exact hj _ _ hP hS
          · rw [if_pos cb_4] at hv
            refine lv_aload_n hx hb dX6_group_54 rfl (lv_at hl 1 rfl) ?_
            refine lv_aload_n hx hb dX6_group_55 rfl (lv_at hl 0 rfl) ?_
            obtain ⟨tw_3, hc_1, hv⟩ := bd_el hv
            refine tg_cMv (va_runV (As := [.ref (ta (Int32.toNatClampNeg ng) 0)]) (rest := []) ⟨hx, hb, hml, hown, hts⟩ (qX6_joinThreeCycles l D cI cT ga ta shelf np ng cur tw_1 (Int32.toNatClampNeg ng) hk F tw_3 hc_1) (cwV 1 hts gX6_group_X6_joinThreeCycles rfl rfl rfl zVX6_joinThreeCycles ⟨Nat.le_of_ble_eq_true rfl, Nat.le_of_ble_eq_true rfl⟩) (tg_preVM (r := (RX6, TX6, 6)) (ci := 5) (q0 := 0) hP (hDD _ wG_ad) hK hN rfl rfl) rfl rfl hl.1 rfl (lv_room (Nat.le_of_ble_eq_true rfl)) dX6_group_56 ⟨Nat.zero_le _, Nat.zero_le _⟩) hS (tg_inA (hDD _ wG_ad)) (fun zH zlocs _ hP hS => ?_)
            cases hv
            exact hj _ _ hP hS
        · rw [if_pos cb_3] at hv
          refine lv_aload_n hx hb dX6_group_41 rfl (lv_at hl 1 rfl) ?_
          refine lv_aload_n hx hb dX6_group_42 rfl (lv_at hl 0 rfl) ?_
          obtain ⟨tw_4, hc_2, hv⟩ := bd_el hv
          refine tg_cMv (va_runV (As := [.ref (ta (Int32.toNatClampNeg ng) 0)]) (rest := []) ⟨hx, hb, hml, hown, hts⟩ (qX6_joinSwaps l D cI cT ga ta shelf np ng cur tw_1 (Int32.toNatClampNeg ng) hk F tw_4 hc_2) (cwV 1 hts gX6_group_X6_joinSwaps rfl rfl rfl zVX6_joinSwaps ⟨Nat.le_of_ble_eq_true rfl, Nat.le_of_ble_eq_true rfl⟩) (tg_preVM (r := (RX6, TX6, 6)) (ci := 5) (q0 := 0) hP (hDD _ wG_ad) hK hN rfl rfl) rfl rfl hl.1 rfl (lv_room (Nat.le_of_ble_eq_true rfl)) dX6_group_43 ⟨Nat.zero_le _, Nat.zero_le _⟩) hS (tg_inA (hDD _ wG_ad)) (fun zH zlocs _ hP hS => ?_)
          refine lv_goto (tgt := 59) hx hb dX6_group_46 (by decide) ?_
          cases hv
          exact hj _ _ hP hS
      · rw [if_neg cb_2] at h
        refine lv_bipush (v := (-3)) hx hb dX6_group_19 (by decide) ?_
        cases h
        exact W.iret hx hb hr (fun t ht hW => ⟨rfl, by rw [ht]; exact hP, hS.F ht⟩) hS.2.2 dX6_group_21
    · rw [if_neg cb_1] at h
      refine lv_bipush (v := (-2)) hx hb dX6_group_9 (by decide) ?_
      cases h
      exact W.iret hx hb hr (fun t ht hW => ⟨rfl, by rw [ht]; exact hP, hS.F ht⟩) hS.2.2 dX6_group_11
theorem zVX6_group : yX6_group.cls = RX6 ∧ yX6_group.cls ≠ "java/lang/invoke/MethodHandle" ∧ yX6_group.cls ≠ "java/lang/invoke/VarHandle" ∧ (parseMethodDescriptor yX6_group.desc).map (fun d => d.parameters.length) = some 1 := by decide +kernel

/-! ===== public int steps(int); ===== -/
theorem kX6_steps_1 : Cond.fieldLink RX6 15 "TurnGroups" "groups" "[LTurnGroups$Tower;" ∈ wsX6_steps := by decide +kernel
theorem kX6_steps_2 : Cond.fieldLink RX6 19 "TurnGroups" "spare" "[LTurnGroups$Tower;" ∈ wsX6_steps := by decide +kernel
theorem uX6_steps_RX6 : ∀ w ∈ u_ws RX6 TX6 6, w ∈ wsX6_steps := by decide +kernel
def mX6_steps_L20 (F : Nat) : Nat → Nat → Int32 → (Nat → TW) → Option (Int32 × (Nat → TW))
  | 0, _, _, _ => none
  | f + 1, zk2, zx3, tw => if 16 ≤ zx3 then (some ((-1 : Int32), tw)) else (bd (mX4_turnsFrom F (tw zk2).2.2.1 0) (fun zr => if zr = 1 then (some (zx3, tw)) else (gd (inb (zx3 &&& 1) 2) (gd (neb (10 + Int32.toNatClampNeg (zx3 &&& 1)) zk2) (bd7 (mX4_becomeDown F (tw (10 + Int32.toNatClampNeg (zx3 &&& 1))).1 (tw (10 + Int32.toNatClampNeg (zx3 &&& 1))).2.1 (tw (10 + Int32.toNatClampNeg (zx3 &&& 1))).2.2.1 (tw (10 + Int32.toNatClampNeg (zx3 &&& 1))).2.2.2.1 (tw (10 + Int32.toNatClampNeg (zx3 &&& 1))).2.2.2.2.1 (tw (10 + Int32.toNatClampNeg (zx3 &&& 1))).2.2.2.2.2.1 (tw (10 + Int32.toNatClampNeg (zx3 &&& 1))).2.2.2.2.2.2 (tw zk2).2.2.2.2.2.1 (tw zk2).2.2.2.2.2.2) (fun tcells tback treach tfilled tfc tmakers tmc => lT (upT tw (10 + Int32.toNatClampNeg (zx3 &&& 1)) (tcells, tback, treach, tfilled, tfc, tmakers, tmc)) (fun tw_1 => bd (mX4_turnsFrom F (tw_1 (10 + Int32.toNatClampNeg (zx3 &&& 1))).2.2.1 0) (fun zr_1 => if zr_1 = zr then (some ((-1 : Int32), tw_1)) else (mX6_steps_L20 F f (10 + Int32.toNatClampNeg (zx3 &&& 1)) (zx3 + 1) tw_1)))))))))
theorem mX6_steps_L20_s (F : Nat) (f : Nat) (zk2 : Nat) (zx3 : Int32) (tw : Nat → TW) : mX6_steps_L20 F (f + 1) zk2 zx3 tw = (if 16 ≤ zx3 then (some ((-1 : Int32), tw)) else (bd (mX4_turnsFrom F (tw zk2).2.2.1 0) (fun zr => if zr = 1 then (some (zx3, tw)) else (gd (inb (zx3 &&& 1) 2) (gd (neb (10 + Int32.toNatClampNeg (zx3 &&& 1)) zk2) (bd7 (mX4_becomeDown F (tw (10 + Int32.toNatClampNeg (zx3 &&& 1))).1 (tw (10 + Int32.toNatClampNeg (zx3 &&& 1))).2.1 (tw (10 + Int32.toNatClampNeg (zx3 &&& 1))).2.2.1 (tw (10 + Int32.toNatClampNeg (zx3 &&& 1))).2.2.2.1 (tw (10 + Int32.toNatClampNeg (zx3 &&& 1))).2.2.2.2.1 (tw (10 + Int32.toNatClampNeg (zx3 &&& 1))).2.2.2.2.2.1 (tw (10 + Int32.toNatClampNeg (zx3 &&& 1))).2.2.2.2.2.2 (tw zk2).2.2.2.2.2.1 (tw zk2).2.2.2.2.2.2) (fun tcells tback treach tfilled tfc tmakers tmc => lT (upT tw (10 + Int32.toNatClampNeg (zx3 &&& 1)) (tcells, tback, treach, tfilled, tfc, tmakers, tmc)) (fun tw_1 => bd (mX4_turnsFrom F (tw_1 (10 + Int32.toNatClampNeg (zx3 &&& 1))).2.2.1 0) (fun zr_1 => if zr_1 = zr then (some ((-1 : Int32), tw_1)) else (mX6_steps_L20 F f (10 + Int32.toNatClampNeg (zx3 &&& 1)) (zx3 + 1) tw_1)))))))))) := rfl
def mX6_steps (F : Nat) (ng : Int32) (tw : Nat → TW) (zx1 : Int32) : Option (Int32 × (Nat → TW)) := if (mX6_isGroup ng zx1) = 0 then (some ((-2 : Int32), tw)) else (gd (inb zx1 10) (mX6_steps_L20 F F (Int32.toNatClampNeg zx1) 0 tw))
set_option maxRecDepth 100000 in
set_option maxHeartbeats 4000000 in
theorem wX6_steps_L20 {p : Program} {l : Launch} {e : Env} {s : State} {m : MethodId} {zargs : Array Value} {zbelow : List Frame} {zmeth : Method} {c : Code} {D : va_G} {zA : Nat → Prop} {zQc : Array Value → State → Outcome → State → Prop} {ga : Nat → Nat} {ta : Nat → Nat → Nat} {cI cT : ClassId} {shelf : Nat → Int32} {np : Int32} {ng : Int32} {cur : Int32} (C0 : tg_C p s m zmeth c zargs cX6_steps RX6 wsX6_steps 6 D [(cI, .int), (cT, .object "TurnGroups$Tower")]) (hDD : tg_DD zA (adG ta ga)) (hlocks : zmeth.locks = false) (hr : zmeth.sig.returnType = (some .int)) (F : Nat) : ∀ (f : Nat) (zk2 : Nat) (zx3 : Int32) (tw : Nat → TW) (zr0 : Int32) (otw : Nat → TW), mX6_steps_L20 F f zk2 zx3 tw = some (zr0, otw) → zk2 < 12 → ∀ (zH : Heap) (zlocs : List Loc), va_P D vwCl (wG ta cI cT ga shelf np ng cur tw) zH → va_S zA s.heap zH zlocs → ∀ (zls : Array Slot), lv_has zls 6 [(0, .ref (ga 0)), (2, .ref (ta zk2 0)), (3, .int zx3)] → (∀ (zH : Heap) (zlocs : List Loc), va_P D vwCl (wG ta cI cT ga shelf np ng cur otw) zH → va_S zA s.heap zH zlocs → ∀ t : State, t.heap = zH → s.WarmedH t.vm → zQc zargs s (.returned (some (.int zr0))) t) → W p l e ({ frames := 6, cells := 0, slots := 0, locals := 142 } : Room) s m zargs zbelow zmeth c zH zlocs 0 0 (MQ zbelow zQc zargs s 0 0 zA) (F0 m 20 zls []) := by
  obtain ⟨hx, hb, hml, hown, hts, hK, hN⟩ := C0
  intro f
  induction f with
  | zero => intro _ _ _ _ _ h; exact absurd (show none = some _ from h) (fun h9 => by cases h9)
  | succ f ih =>
    intro zk2 zx3 tw zr0 otw h hzk2 zH zlocs hP hS zls hl hq
    rw [mX6_steps_L20_s] at h
    refine lv_iload_n hx hb dX6_steps_20 rfl (lv_at hl 2 rfl) ?_
    refine lv_bipush (v := 16) hx hb dX6_steps_21 (by decide) ?_
    refine lv_icmp_ge (tgt := 79) hx hb dX6_steps_23 (by decide) (fun cb => ?_) (fun cb => ?_)
    · rw [if_pos cb] at h
      refine lv_iconst (v := (-1)) hx hb dX6_steps_79 (by decide) ?_
      cases h
      exact W.iret hx hb hr (hq _ _ hP hS) hS.2.2 dX6_steps_80
    · rw [if_neg cb] at h
      refine lv_aload_n hx hb dX6_steps_26 rfl (lv_at hl 1 rfl) ?_
      refine lv_iconst (v := 0) hx hb dX6_steps_27 (by decide) ?_
      obtain ⟨zr, hc, h⟩ := bd_el h
      refine tg_cRi (va_runV (As := [.int 0]) (rest := []) ⟨hx, hb, hml, hown, hts⟩ (qX4_turnsFrom l D cI (ta zk2) (tw zk2).1 (tw zk2).2.1 (tw zk2).2.2.1 (tw zk2).2.2.2.1 (tw zk2).2.2.2.2.1 (tw zk2).2.2.2.2.2.1 (tw zk2).2.2.2.2.2.2 0 F zr hc) (cwV 1 hts gX6_steps_X4_turnsFrom rfl rfl rfl zVX4_turnsFrom ⟨Nat.le_of_ble_eq_true rfl, Nat.le_of_ble_eq_true rfl⟩) (tg_preV (r := (RX4, TX4, 7)) (ci := 4) (q0 := 0) (wG_T hP hzk2) (hK.sub (tys' := [(cI, .int)]) [0] rfl) hN rfl rfl) rfl rfl hl.1 rfl (lv_room (Nat.le_of_ble_eq_true rfl)) dX6_steps_28 ⟨Nat.zero_le _, Nat.zero_le _⟩) ?_
      refine lv_istore (lv' := [(4, .int zr), (0, .ref (ga 0)), (2, .ref (ta zk2 0)), (3, .int zx3)]) hx hb dX6_steps_31 hl (by decide) rfl (fun zls hl => ?_)
      refine lv_iload hx hb dX6_steps_33 (lv_at hl 0 rfl) ?_
      refine lv_iconst (v := 1) hx hb dX6_steps_35 (by decide) ?_
      refine lv_icmp_ne (tgt := 41) hx hb dX6_steps_36 (by decide) (fun cb_1 => ?_) (fun cb_1 => ?_)
      · rw [if_neg cb_1] at h
        refine lv_aload_n hx hb dX6_steps_41 rfl (lv_at hl 1 rfl) ?_
        refine va_get (D := D) (ci := 5) (v := .ref (ga 3)) (C := RX6) (T := TX6) (N := 6) hx hb hts uX6_steps_RX6 hown hK hP 0 rfl rfl 2 (by decide) (hts _ kX6_steps_2) (fun _ h9 => h9) rfl dX6_steps_42 ?_
        refine lv_iload_n hx hb dX6_steps_45 rfl (lv_at hl 3 rfl) ?_
        refine lv_iconst (v := 1) hx hb dX6_steps_46 (by decide) ?_
        refine lv_iand hx hb dX6_steps_47 ?_
        obtain ⟨gg, h⟩ := gd_el h
        have hk : (10 + Int32.toNatClampNeg (zx3 &&& 1)) < 12 := by have := inb_lt gg; omega
        refine va_aldq hx hb hK hP 3 1 rfl rfl (inb_in gg) dX6_steps_48 ?_
        refine W.eq (g2 := F0 m 49 zls [.ref (ta (10 + Int32.toNatClampNeg (zx3 &&& 1)) 0)]) rfl ?_
        refine lv_astore (lv' := [(5, .ref (ta (10 + Int32.toNatClampNeg (zx3 &&& 1)) 0)), (4, .int zr), (0, .ref (ga 0)), (2, .ref (ta zk2 0)), (3, .int zx3)]) hx hb dX6_steps_49 hl (by decide) rfl (fun zls hl => ?_)
        refine lv_aload hx hb dX6_steps_51 (lv_at hl 0 rfl) ?_
        refine lv_aload_n hx hb dX6_steps_53 rfl (lv_at hl 3 rfl) ?_
        obtain ⟨gg_1, h⟩ := gd_el h
        obtain ⟨tcells, tback, treach, tfilled, tfc, tmakers, tmc, hc_1, h⟩ := bd7_el h
        refine tg_cMv (va_runV (As := [.ref (ta zk2 0)]) (rest := []) ⟨hx, hb, hml, hown, hts⟩ (qX4_becomeDown l D cI (ta (10 + Int32.toNatClampNeg (zx3 &&& 1))) (tw (10 + Int32.toNatClampNeg (zx3 &&& 1))).1 (tw (10 + Int32.toNatClampNeg (zx3 &&& 1))).2.1 (tw (10 + Int32.toNatClampNeg (zx3 &&& 1))).2.2.1 (tw (10 + Int32.toNatClampNeg (zx3 &&& 1))).2.2.2.1 (tw (10 + Int32.toNatClampNeg (zx3 &&& 1))).2.2.2.2.1 (tw (10 + Int32.toNatClampNeg (zx3 &&& 1))).2.2.2.2.2.1 (tw (10 + Int32.toNatClampNeg (zx3 &&& 1))).2.2.2.2.2.2 (ta zk2) (tw zk2).1 (tw zk2).2.1 (tw zk2).2.2.1 (tw zk2).2.2.2.1 (tw zk2).2.2.2.2.1 (tw zk2).2.2.2.2.2.1 (tw zk2).2.2.2.2.2.2 F tcells tback treach tfilled tfc tmakers tmc hc_1) (cwV 1 hts gX6_steps_X4_becomeDown rfl rfl rfl zVX4_becomeDown ⟨Nat.le_of_ble_eq_true rfl, Nat.le_of_ble_eq_true rfl⟩) (tg_preVMo (r := (RX4, TX4, 7)) (ci := 4) (q0 := 0) (wG_T hP hk) (wG_DT hDD hk) (wG_T hP hzk2) (wG_apart hDD hk hzk2 (neb_el gg_1)) (hK.sub (tys' := [(cI, .int)]) [0] rfl) hN rfl rfl) rfl rfl hl.1 rfl (lv_room (Nat.le_of_ble_eq_true rfl)) dX6_steps_54 ⟨Nat.zero_le _, Nat.zero_le _⟩) hS (tg_inA (wG_DT hDD hk)) (fun zH zlocs hf9 hP9 hS => ?_)
        obtain ⟨tw_1, etw_1, h⟩ := lT_el h
        have hP := wG_put (t0 := tw (10 + Int32.toNatClampNeg (zx3 &&& 1))) (t := (tcells, tback, treach, tfilled, tfc, tmakers, tmc)) hP hDD hk hf9 hP9
        rw [← etw_1] at hP
        refine lv_aload hx hb dX6_steps_57 (lv_at hl 0 rfl) ?_
        refine lv_iconst (v := 0) hx hb dX6_steps_59 (by decide) ?_
        obtain ⟨zr_1, hc_2, h⟩ := bd_el h
        refine tg_cRi (va_runV (As := [.int 0]) (rest := []) ⟨hx, hb, hml, hown, hts⟩ (qX4_turnsFrom l D cI (ta (10 + Int32.toNatClampNeg (zx3 &&& 1))) (tw_1 (10 + Int32.toNatClampNeg (zx3 &&& 1))).1 (tw_1 (10 + Int32.toNatClampNeg (zx3 &&& 1))).2.1 (tw_1 (10 + Int32.toNatClampNeg (zx3 &&& 1))).2.2.1 (tw_1 (10 + Int32.toNatClampNeg (zx3 &&& 1))).2.2.2.1 (tw_1 (10 + Int32.toNatClampNeg (zx3 &&& 1))).2.2.2.2.1 (tw_1 (10 + Int32.toNatClampNeg (zx3 &&& 1))).2.2.2.2.2.1 (tw_1 (10 + Int32.toNatClampNeg (zx3 &&& 1))).2.2.2.2.2.2 0 F zr_1 hc_2) (cwV 1 hts gX6_steps_X4_turnsFrom rfl rfl rfl zVX4_turnsFrom ⟨Nat.le_of_ble_eq_true rfl, Nat.le_of_ble_eq_true rfl⟩) (tg_preV (r := (RX4, TX4, 7)) (ci := 4) (q0 := 0) (wG_T hP hk) (hK.sub (tys' := [(cI, .int)]) [0] rfl) hN rfl rfl) rfl rfl hl.1 rfl (lv_room (Nat.le_of_ble_eq_true rfl)) dX6_steps_60 ⟨Nat.zero_le _, Nat.zero_le _⟩) ?_
        refine lv_iload hx hb dX6_steps_63 (lv_at hl 1 rfl) ?_
        refine lv_icmp_ne (tgt := 70) hx hb dX6_steps_65 (by decide) (fun cb_2 => ?_) (fun cb_2 => ?_)
        · rw [if_neg cb_2] at h
          refine lv_aload hx hb dX6_steps_70 (lv_at hl 0 rfl) ?_
          refine lv_astore_n (lv' := [(2, .ref (ta (10 + Int32.toNatClampNeg (zx3 &&& 1)) 0)), (5, .ref (ta (10 + Int32.toNatClampNeg (zx3 &&& 1)) 0)), (4, .int zr), (0, .ref (ga 0)), (3, .int zx3)]) hx hb dX6_steps_72 rfl hl (by decide) rfl (fun zls hl => ?_)
          refine lv_iinc (v := (zx3 + 1)) (lv' := [(3, .int (zx3 + 1)), (2, .ref (ta (10 + Int32.toNatClampNeg (zx3 &&& 1)) 0)), (5, .ref (ta (10 + Int32.toNatClampNeg (zx3 &&& 1)) 0)), (4, .int zr), (0, .ref (ga 0))]) hx hb dX6_steps_73 hl (k := 4) rfl rfl (by decide) rfl (fun zls hl => ?_)
          refine lv_goto (tgt := 20) hx hb dX6_steps_76 (by decide) ?_
          exact ih _ _ _ _ _ h hk _ _ hP hS _ (lv_sub hl [4, 1, 0] rfl) hq
        · rw [if_pos cb_2] at h
          refine lv_iconst (v := (-1)) hx hb dX6_steps_68 (by decide) ?_
          cases h
          exact W.iret hx hb hr (hq _ _ hP hS) hS.2.2 dX6_steps_69
      · rw [if_pos cb_1] at h
        refine lv_iload_n hx hb dX6_steps_39 rfl (lv_at hl 3 rfl) ?_
        cases h
        exact W.iret hx hb hr (hq _ _ hP hS) hS.2.2 dX6_steps_40
set_option maxRecDepth 100000 in
set_option maxHeartbeats 4000000 in
theorem qX6_steps (l : Launch) (D : va_G) (cI : ClassId) (cT : ClassId) (ga : Nat → Nat) (ta : Nat → Nat → Nat) (shelf : Nat → Int32) (np : Int32) (ng : Int32) (cur : Int32) (tw : Nat → TW) (zx1 : Int32) (F : Nat) (zr0 : Int32) (otw : Nat → TW) (h : mX6_steps F ng tw zx1 = some (zr0, otw)) : Met l yX6_steps wsX6_steps ({ frames := 6, cells := 0, slots := 0, locals := 142 } : Room) (tg_PM D [(cI, .int), (cT, .object "TurnGroups$Tower")] [.ref (ga 0), .int zx1] (wG ta cI cT ga shelf np ng cur tw)) (tg_Mi D (wG ta cI cT ga shelf np ng cur tw) (wG ta cI cT ga shelf np ng cur otw) zr0) 0 0 (tg_in (wG ta cI cT ga shelf np ng cur tw)) := by
  refine Met.ofW (cc := cX6_steps) (maxL := 6) (ret := (some .int)) (by decide) rfl ?_
  intro p e s m zargs zbelow zmeth c s₁ B hml hv
  obtain ⟨hargs, hP, hK, hN, hD0⟩ := hv
  have hx := B.exec
  have hb := B.bytes
  have hr := B.returns
  have hts := atoms_spec (ws := wsX6_steps) B.pre
  have hown : s.vm.findClass RX6 = some m.cls := findClass_of_methodNamed B.named
  have hlocks := B.notSynchronized
  have hDD : tg_DD (tg_in (wG ta cI cT ga shelf np ng cur tw)) (adG ta ga) := tg_DD.of (tg_D hD0) wG_ad
  have hS : va_S (tg_in (wG ta cI cT ga shelf np ng cur tw)) s.heap s.heap [] := va_S.rf
  have hl := lv_entry ([.ref (ga 0), .int zx1]) (n := 6) (Nat.le_of_ble_eq_true rfl)
  refine W.eq (g2 := entryFrame m ([.ref (ga 0), .int zx1] : List Value).toArray 6) (by rw [hargs]) ?_
  rw [lg_entry_eq]
  generalize (lg_sl ([.ref (ga 0), .int zx1]) ++ List.replicate (6 - (lg_sl ([.ref (ga 0), .int zx1])).length) Slot.unset).toArray = zls at hl ⊢
  have hl : lv_has zls 6 [(0, .ref (ga 0)), (1, .int zx1)] := hl
  rw [mX6_steps] at h
  refine lv_aload_n hx hb dX6_steps_0 rfl (lv_at hl 0 rfl) ?_
  refine lv_iload_n hx hb dX6_steps_1 rfl (lv_at hl 1 rfl) ?_
  refine tg_cRi (va_runV (As := [.int zx1]) (rest := []) ⟨hx, hb, hml, hown, hts⟩ (qX6_isGroup l D cI cT ga ta shelf np ng cur tw zx1 _ rfl) (cwV 1 hts gX6_steps_X6_isGroup rfl rfl rfl zVX6_isGroup ⟨Nat.le_of_ble_eq_true rfl, Nat.le_of_ble_eq_true rfl⟩) (tg_preV (r := (RX6, TX6, 6)) (ci := 5) (q0 := 0) hP hK hN rfl rfl) rfl rfl hl.1 rfl (lv_room (Nat.le_of_ble_eq_true rfl)) dX6_steps_2 ⟨Nat.zero_le _, Nat.zero_le _⟩) ?_
  refine lv_if_ne (tgt := 11) hx hb dX6_steps_5 (by decide) (fun cb => ?_) (fun cb => ?_)
  · rw [if_neg cb] at h
    refine lv_aload_n hx hb dX6_steps_11 rfl (lv_at hl 0 rfl) ?_
    refine va_get (D := D) (ci := 5) (v := .ref (ga 2)) (C := RX6) (T := TX6) (N := 6) hx hb hts uX6_steps_RX6 hown hK hP 0 rfl rfl 1 (by decide) (hts _ kX6_steps_1) (fun _ h9 => h9) rfl dX6_steps_12 ?_
    refine lv_iload_n hx hb dX6_steps_15 rfl (lv_at hl 1 rfl) ?_
    obtain ⟨gg, h⟩ := gd_el h
    have hk : (Int32.toNatClampNeg zx1) < 12 := by have := inb_lt gg; omega
    refine va_aldq hx hb hK hP 2 1 rfl rfl (inb_in gg) dX6_steps_16 ?_
    refine W.eq (g2 := F0 m 17 zls [.ref (ta (Int32.toNatClampNeg zx1) 0)]) rfl ?_
    refine lv_astore_n (lv' := [(2, .ref (ta (Int32.toNatClampNeg zx1) 0)), (0, .ref (ga 0)), (1, .int zx1)]) hx hb dX6_steps_17 rfl hl (by decide) rfl (fun zls hl => ?_)
    refine lv_iconst (v := 0) hx hb dX6_steps_18 (by decide) ?_
    refine lv_istore_n (lv' := [(3, .int 0), (2, .ref (ta (Int32.toNatClampNeg zx1) 0)), (0, .ref (ga 0)), (1, .int zx1)]) hx hb dX6_steps_19 rfl hl (by decide) rfl (fun zls hl => ?_)
    exact wX6_steps_L20 ⟨hx, hb, hml, hown, hts, hK, hN⟩ hDD hlocks hr F F _ _ _ _ _ h hk _ _ hP hS _ (lv_sub hl [2, 1, 0] rfl) (fun zH zlocs hP hS t ht hW => ⟨rfl, by rw [ht]; exact hP, hS.F ht⟩)
  · rw [if_pos cb] at h
    refine lv_bipush (v := (-2)) hx hb dX6_steps_8 (by decide) ?_
    cases h
    exact W.iret hx hb hr (fun t ht hW => ⟨rfl, by rw [ht]; exact hP, hS.F ht⟩) hS.2.2 dX6_steps_10
theorem zVX6_steps : yX6_steps.cls = RX6 ∧ yX6_steps.cls ≠ "java/lang/invoke/MethodHandle" ∧ yX6_steps.cls ≠ "java/lang/invoke/VarHandle" ∧ (parseMethodDescriptor yX6_steps.desc).map (fun d => d.parameters.length) = some 1 := by decide +kernel
