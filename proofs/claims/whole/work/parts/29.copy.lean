theorem kX4_copyFrom_a1 : Cond.methodLink RX4 34 arraycopyName ∈ wsX4_copyFrom := by decide +kernel
theorem kX4_copyFrom_a2 : Cond.native arraycopyName ∈ wsX4_copyFrom := by decide +kernel
theorem kX4_copyFrom_a3 : Cond.static arraycopyName ∈ wsX4_copyFrom := by decide +kernel
theorem kX4_copyFrom_a4 : Cond.initialized "java/lang/System" ∈ wsX4_copyFrom := by decide +kernel
theorem kX4_copyFrom_fcells : Cond.fieldLink RX4 11 "TurnGroups$Tower" "cells" "[I" ∈ wsX4_copyFrom := by decide +kernel
theorem kX4_copyFrom_fback : Cond.fieldLink RX4 15 "TurnGroups$Tower" "cellsBack" "[I" ∈ wsX4_copyFrom := by decide +kernel
theorem kX4_copyFrom_freach : Cond.fieldLink RX4 18 "TurnGroups$Tower" "reach" "[I" ∈ wsX4_copyFrom := by decide +kernel
theorem kX4_copyFrom_ffilled : Cond.fieldLink RX4 21 "TurnGroups$Tower" "filled" "[I" ∈ wsX4_copyFrom := by decide +kernel
theorem kX4_copyFrom_fmakers : Cond.fieldLink RX4 24 "TurnGroups$Tower" "makers" "[I" ∈ wsX4_copyFrom := by decide +kernel
theorem kX4_copyFrom_ffc : Cond.fieldLink RX4 27 "TurnGroups$Tower" "filledCount" "I" ∈ wsX4_copyFrom := by decide +kernel
theorem kX4_copyFrom_fmc : Cond.fieldLink RX4 31 "TurnGroups$Tower" "makerCount" "I" ∈ wsX4_copyFrom := by decide +kernel
theorem uX4_copyFrom_RX4 : ∀ w ∈ u_ws RX4 TX4 7, w ∈ wsX4_copyFrom := by decide +kernel
set_option maxRecDepth 100000 in
set_option maxHeartbeats 4000000 in
theorem qX4_copyFrom (l : Launch) (D : va_G) (cI : ClassId) (ad : Nat → Nat) (cells : Nat → Int32) (back : Nat → Int32) (reach : Nat → Int32) (filled : Nat → Int32) (fc : Int32) (makers : Nat → Int32) (mc : Int32) (od : Nat → Nat) (ucells : Nat → Int32) (uback : Nat → Int32) (ureach : Nat → Int32) (ufilled : Nat → Int32) (ufc : Int32) (umakers : Nat → Int32) (umc : Int32) : Met l yX4_copyFrom wsX4_copyFrom ({ frames := 1, cells := 0, slots := 0, locals := 60 } : Room) (tg_PM D [(cI, .int)] [.ref (ad 0), .ref (od 0)] ((wT cI ad cells back reach filled fc makers mc) ++ (wT cI od ucells uback ureach ufilled ufc umakers umc))) (tg_Mv D ((wT cI ad cells back reach filled fc makers mc) ++ (wT cI od ucells uback ureach ufilled ufc umakers umc)) ((wT cI ad (va_cpy ucells cells 0 0 64) (va_cpy uback back 0 0 64) (va_cpy ureach reach 0 0 8) (va_cpy ufilled filled 0 0 28) ufc (va_cpy umakers makers 0 0 16) umc) ++ (wT cI od ucells uback ureach ufilled ufc umakers umc))) 0 0 (tg_in ((wT cI ad cells back reach filled fc makers mc) ++ (wT cI od ucells uback ureach ufilled ufc umakers umc))) := by
  refine Met.ofW (cc := cX4_copyFrom) (maxL := 2) (ret := none) (by decide) rfl ?_
  intro p e s m zargs zbelow zmeth c s₁ B hml hv
  obtain ⟨hargs, hP, hK, hN, hD0⟩ := hv
  have hx := B.exec
  have hb := B.bytes
  have hr := B.returns
  have hts := atoms_spec (ws := wsX4_copyFrom) B.pre
  have hown : s.vm.findClass RX4 = some m.cls := findClass_of_methodNamed B.named
  have hlocks := B.notSynchronized
  have hDD : tg_DD (tg_in ((wT cI ad cells back reach filled fc makers mc) ++ (wT cI od ucells uback ureach ufilled ufc umakers umc))) [ad 0, ad 1, ad 2, ad 3, ad 4, ad 5, od 0, od 1, od 2, od 3, od 4, od 5] := tg_DD.of (tg_D hD0) rfl
  have hS : va_S (tg_in ((wT cI ad cells back reach filled fc makers mc) ++ (wT cI od ucells uback ureach ufilled ufc umakers umc))) s.heap s.heap [] := va_S.rf
  have hl := lv_entry ([.ref (ad 0), .ref (od 0)]) (n := 2) (Nat.le_of_ble_eq_true rfl)
  refine W.eq (g2 := entryFrame m ([.ref (ad 0), .ref (od 0)] : List Value).toArray 2) (by rw [hargs]) ?_
  rw [lg_entry_eq]
  generalize (lg_sl ([.ref (ad 0), .ref (od 0)]) ++ List.replicate (2 - (lg_sl ([.ref (ad 0), .ref (od 0)])).length) Slot.unset).toArray = zls at hl ⊢
  have hl : lv_has zls 2 [(0, .ref (ad 0)), (1, .ref (od 0))] := hl
  refine lv_aload_n hx hb dX4_copyFrom_0 rfl (lv_at hl 1 rfl) ?_
  refine va_get (D := D) (ci := 4) (v := .ref (od 1)) (C := RX4) (T := TX4) (N := 7) hx hb hts uX4_copyFrom_RX4 hown hK hP 6 rfl rfl 0 (by decide) (hts _ kX4_copyFrom_fcells) (fun _ h9 => h9) rfl dX4_copyFrom_1 ?_
  refine lv_iconst (v := 0) hx hb dX4_copyFrom_4 (by decide) ?_
  refine lv_aload_n hx hb dX4_copyFrom_5 rfl (lv_at hl 0 rfl) ?_
  refine va_get (D := D) (ci := 4) (v := .ref (ad 1)) (C := RX4) (T := TX4) (N := 7) hx hb hts uX4_copyFrom_RX4 hown hK hP 0 rfl rfl 0 (by decide) (hts _ kX4_copyFrom_fcells) (fun _ h9 => h9) rfl dX4_copyFrom_6 ?_
  refine lv_iconst (v := 0) hx hb dX4_copyFrom_9 (by decide) ?_
  refine lv_bipush (v := 64) hx hb dX4_copyFrom_10 (by decide) ?_
  refine va_copyi hx hb (hml.trans hl.1.symm) hown (hts _ kX4_copyFrom_a1) (hts _ kX4_copyFrom_a2) (hts _ kX4_copyFrom_a3) (hts _ kX4_copyFrom_a4) hK hP (hDD _ rfl) hS 7 1 0 0 rfl rfl rfl rfl rfl (by decide) (by decide) (by decide) (by decide) (by decide) (fun _ _ => rfl) (Nat.le_of_ble_eq_true rfl) (by decide +kernel) dX4_copyFrom_12 (fun zH zlocs hP _ hS => ?_)
  have hP : va_P D vwCl ((wT cI ad (va_cpy ucells cells 0 0 64) back reach filled fc makers mc) ++ (wT cI od ucells uback ureach ufilled ufc umakers umc)) zH := hP
  refine lv_aload_n hx hb dX4_copyFrom_15 rfl (lv_at hl 1 rfl) ?_
  refine va_get (D := D) (ci := 4) (v := .ref (od 2)) (C := RX4) (T := TX4) (N := 7) hx hb hts uX4_copyFrom_RX4 hown hK hP 6 rfl rfl 1 (by decide) (hts _ kX4_copyFrom_fback) (fun _ h9 => h9) rfl dX4_copyFrom_16 ?_
  refine lv_iconst (v := 0) hx hb dX4_copyFrom_19 (by decide) ?_
  refine lv_aload_n hx hb dX4_copyFrom_20 rfl (lv_at hl 0 rfl) ?_
  refine va_get (D := D) (ci := 4) (v := .ref (ad 2)) (C := RX4) (T := TX4) (N := 7) hx hb hts uX4_copyFrom_RX4 hown hK hP 0 rfl rfl 1 (by decide) (hts _ kX4_copyFrom_fback) (fun _ h9 => h9) rfl dX4_copyFrom_21 ?_
  refine lv_iconst (v := 0) hx hb dX4_copyFrom_24 (by decide) ?_
  refine lv_bipush (v := 64) hx hb dX4_copyFrom_25 (by decide) ?_
  refine va_copyi hx hb (hml.trans hl.1.symm) hown (hts _ kX4_copyFrom_a1) (hts _ kX4_copyFrom_a2) (hts _ kX4_copyFrom_a3) (hts _ kX4_copyFrom_a4) hK hP (hDD _ rfl) hS 8 2 0 0 rfl rfl rfl rfl rfl (by decide) (by decide) (by decide) (by decide) (by decide) (fun _ _ => rfl) (Nat.le_of_ble_eq_true rfl) (by decide +kernel) dX4_copyFrom_27 (fun zH zlocs hP _ hS => ?_)
  have hP : va_P D vwCl ((wT cI ad (va_cpy ucells cells 0 0 64) (va_cpy uback back 0 0 64) reach filled fc makers mc) ++ (wT cI od ucells uback ureach ufilled ufc umakers umc)) zH := hP
  refine lv_aload_n hx hb dX4_copyFrom_30 rfl (lv_at hl 1 rfl) ?_
  refine va_get (D := D) (ci := 4) (v := .ref (od 3)) (C := RX4) (T := TX4) (N := 7) hx hb hts uX4_copyFrom_RX4 hown hK hP 6 rfl rfl 2 (by decide) (hts _ kX4_copyFrom_freach) (fun _ h9 => h9) rfl dX4_copyFrom_31 ?_
  refine lv_iconst (v := 0) hx hb dX4_copyFrom_34 (by decide) ?_
  refine lv_aload_n hx hb dX4_copyFrom_35 rfl (lv_at hl 0 rfl) ?_
  refine va_get (D := D) (ci := 4) (v := .ref (ad 3)) (C := RX4) (T := TX4) (N := 7) hx hb hts uX4_copyFrom_RX4 hown hK hP 0 rfl rfl 2 (by decide) (hts _ kX4_copyFrom_freach) (fun _ h9 => h9) rfl dX4_copyFrom_36 ?_
  refine lv_iconst (v := 0) hx hb dX4_copyFrom_39 (by decide) ?_
  refine lv_bipush (v := 8) hx hb dX4_copyFrom_40 (by decide) ?_
  refine va_copyi hx hb (hml.trans hl.1.symm) hown (hts _ kX4_copyFrom_a1) (hts _ kX4_copyFrom_a2) (hts _ kX4_copyFrom_a3) (hts _ kX4_copyFrom_a4) hK hP (hDD _ rfl) hS 9 3 0 0 rfl rfl rfl rfl rfl (by decide) (by decide) (by decide) (by decide) (by decide) (fun _ _ => rfl) (Nat.le_of_ble_eq_true rfl) (by decide +kernel) dX4_copyFrom_42 (fun zH zlocs hP _ hS => ?_)
  have hP : va_P D vwCl ((wT cI ad (va_cpy ucells cells 0 0 64) (va_cpy uback back 0 0 64) (va_cpy ureach reach 0 0 8) filled fc makers mc) ++ (wT cI od ucells uback ureach ufilled ufc umakers umc)) zH := hP
  refine lv_aload_n hx hb dX4_copyFrom_45 rfl (lv_at hl 1 rfl) ?_
  refine va_get (D := D) (ci := 4) (v := .ref (od 4)) (C := RX4) (T := TX4) (N := 7) hx hb hts uX4_copyFrom_RX4 hown hK hP 6 rfl rfl 3 (by decide) (hts _ kX4_copyFrom_ffilled) (fun _ h9 => h9) rfl dX4_copyFrom_46 ?_
  refine lv_iconst (v := 0) hx hb dX4_copyFrom_49 (by decide) ?_
  refine lv_aload_n hx hb dX4_copyFrom_50 rfl (lv_at hl 0 rfl) ?_
  refine va_get (D := D) (ci := 4) (v := .ref (ad 4)) (C := RX4) (T := TX4) (N := 7) hx hb hts uX4_copyFrom_RX4 hown hK hP 0 rfl rfl 3 (by decide) (hts _ kX4_copyFrom_ffilled) (fun _ h9 => h9) rfl dX4_copyFrom_51 ?_
  refine lv_iconst (v := 0) hx hb dX4_copyFrom_54 (by decide) ?_
  refine lv_bipush (v := 28) hx hb dX4_copyFrom_55 (by decide) ?_
  refine va_copyi hx hb (hml.trans hl.1.symm) hown (hts _ kX4_copyFrom_a1) (hts _ kX4_copyFrom_a2) (hts _ kX4_copyFrom_a3) (hts _ kX4_copyFrom_a4) hK hP (hDD _ rfl) hS 10 4 0 0 rfl rfl rfl rfl rfl (by decide) (by decide) (by decide) (by decide) (by decide) (fun _ _ => rfl) (Nat.le_of_ble_eq_true rfl) (by decide +kernel) dX4_copyFrom_57 (fun zH zlocs hP _ hS => ?_)
  have hP : va_P D vwCl ((wT cI ad (va_cpy ucells cells 0 0 64) (va_cpy uback back 0 0 64) (va_cpy ureach reach 0 0 8) (va_cpy ufilled filled 0 0 28) fc makers mc) ++ (wT cI od ucells uback ureach ufilled ufc umakers umc)) zH := hP
  refine lv_aload_n hx hb dX4_copyFrom_60 rfl (lv_at hl 1 rfl) ?_
  refine va_get (D := D) (ci := 4) (v := .ref (od 5)) (C := RX4) (T := TX4) (N := 7) hx hb hts uX4_copyFrom_RX4 hown hK hP 6 rfl rfl 5 (by decide) (hts _ kX4_copyFrom_fmakers) (fun _ h9 => h9) rfl dX4_copyFrom_61 ?_
  refine lv_iconst (v := 0) hx hb dX4_copyFrom_64 (by decide) ?_
  refine lv_aload_n hx hb dX4_copyFrom_65 rfl (lv_at hl 0 rfl) ?_
  refine va_get (D := D) (ci := 4) (v := .ref (ad 5)) (C := RX4) (T := TX4) (N := 7) hx hb hts uX4_copyFrom_RX4 hown hK hP 0 rfl rfl 5 (by decide) (hts _ kX4_copyFrom_fmakers) (fun _ h9 => h9) rfl dX4_copyFrom_66 ?_
  refine lv_iconst (v := 0) hx hb dX4_copyFrom_69 (by decide) ?_
  refine lv_bipush (v := 16) hx hb dX4_copyFrom_70 (by decide) ?_
  refine va_copyi hx hb (hml.trans hl.1.symm) hown (hts _ kX4_copyFrom_a1) (hts _ kX4_copyFrom_a2) (hts _ kX4_copyFrom_a3) (hts _ kX4_copyFrom_a4) hK hP (hDD _ rfl) hS 11 5 0 0 rfl rfl rfl rfl rfl (by decide) (by decide) (by decide) (by decide) (by decide) (fun _ _ => rfl) (Nat.le_of_ble_eq_true rfl) (by decide +kernel) dX4_copyFrom_72 (fun zH zlocs hP _ hS => ?_)
  have hP : va_P D vwCl ((wT cI ad (va_cpy ucells cells 0 0 64) (va_cpy uback back 0 0 64) (va_cpy ureach reach 0 0 8) (va_cpy ufilled filled 0 0 28) fc (va_cpy umakers makers 0 0 16) mc) ++ (wT cI od ucells uback ureach ufilled ufc umakers umc)) zH := hP
  refine lv_aload_n hx hb dX4_copyFrom_75 rfl (lv_at hl 0 rfl) ?_
  refine lv_aload_n hx hb dX4_copyFrom_76 rfl (lv_at hl 1 rfl) ?_
  refine va_get (D := D) (ci := 4) (v := .int ufc) (C := RX4) (T := TX4) (N := 7) hx hb hts uX4_copyFrom_RX4 hown hK hP 6 rfl rfl 4 (by decide) (hts _ kX4_copyFrom_ffc) (fun _ h9 => h9) rfl dX4_copyFrom_77 ?_
  refine va_put (D := D) (ci := 4) (v := .int ufc) (ty := .int) (C := RX4) (T := TX4) (N := 7) hx hb hts uX4_copyFrom_RX4 tyX4 tyX4_ok nmX4 hown hK hP (hDD _ rfl) hS 0 rfl rfl 4 (by decide) (hts _ kX4_copyFrom_ffc) (fun _ h9 => h9) rfl (by decide +kernel) rfl rfl (Nat.le_of_ble_eq_true rfl) dX4_copyFrom_80 (fun zH zlocs hP _ hS => ?_)
  have hP : va_P D vwCl ((wT cI ad (va_cpy ucells cells 0 0 64) (va_cpy uback back 0 0 64) (va_cpy ureach reach 0 0 8) (va_cpy ufilled filled 0 0 28) ufc (va_cpy umakers makers 0 0 16) mc) ++ (wT cI od ucells uback ureach ufilled ufc umakers umc)) zH := hP
  refine lv_aload_n hx hb dX4_copyFrom_83 rfl (lv_at hl 0 rfl) ?_
  refine lv_aload_n hx hb dX4_copyFrom_84 rfl (lv_at hl 1 rfl) ?_
  refine va_get (D := D) (ci := 4) (v := .int umc) (C := RX4) (T := TX4) (N := 7) hx hb hts uX4_copyFrom_RX4 hown hK hP 6 rfl rfl 6 (by decide) (hts _ kX4_copyFrom_fmc) (fun _ h9 => h9) rfl dX4_copyFrom_85 ?_
  refine va_put (D := D) (ci := 4) (v := .int umc) (ty := .int) (C := RX4) (T := TX4) (N := 7) hx hb hts uX4_copyFrom_RX4 tyX4 tyX4_ok nmX4 hown hK hP (hDD _ rfl) hS 0 rfl rfl 6 (by decide) (hts _ kX4_copyFrom_fmc) (fun _ h9 => h9) rfl (by decide +kernel) rfl rfl (Nat.le_of_ble_eq_true rfl) dX4_copyFrom_88 (fun zH zlocs hP _ hS => ?_)
  have hP : va_P D vwCl ((wT cI ad (va_cpy ucells cells 0 0 64) (va_cpy uback back 0 0 64) (va_cpy ureach reach 0 0 8) (va_cpy ufilled filled 0 0 28) ufc (va_cpy umakers makers 0 0 16) umc) ++ (wT cI od ucells uback ureach ufilled ufc umakers umc)) zH := hP
  exact W.vret hx hb hr (fun t ht hW => ⟨rfl, by rw [ht]; exact hP, hS.F ht⟩) hS.2.2 dX4_copyFrom_91
theorem zVX4_copyFrom : yX4_copyFrom.cls = RX4 ∧ yX4_copyFrom.cls ≠ "java/lang/invoke/MethodHandle" ∧ yX4_copyFrom.cls ≠ "java/lang/invoke/VarHandle" ∧ (parseMethodDescriptor yX4_copyFrom.desc).map (fun d => d.parameters.length) = some 1 := by decide +kernel
