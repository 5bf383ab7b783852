theorem tg_arrI {args : Array Value} {s : State} {ty : FieldType} (h : (Cond.arrayClass ty).before args s = true) (hty : ∀ C, ty ≠ .object C) : ∃ cA, ArrOfT s cA ty ∧ va_RA s cA ty := by
  obtain ⟨cA, kA, comp, h1, h2, h3⟩ := Cond.arrayClass_spec h
  refine ⟨cA, fun n z => ⟨fun k h => (by cases h), kA, h2, comp, h3⟩, ?_⟩
  cases ty with
  | object C => exact absurd rfl (hty C)
  | _ => exact h1
theorem tg_cA {D : va_G} {tys : List (ClassId × FieldType)} {s : State} {cA cB : ClassId} (h : va_K D vwCl tys s) {i j : Nat} (hi : tys[i]? = some (cA, .int)) (hj : tys[j]? = some (cB, .int)) : cA = cB :=
  Option.some.inj (((show s.vm.findClass ("[" ++ FieldType.int.toString) = some cA from (h.2 i _ hi).2)).symm.trans (show s.vm.findClass ("[" ++ FieldType.int.toString) = some cB from (h.2 j _ hj).2))
theorem tg_cZ {D : va_G} {tys : List (ClassId × FieldType)} {s : State} {cA cB : ClassId} (h : va_K D vwCl tys s) {i j : Nat} (hi : tys[i]? = some (cA, .boolean)) (hj : tys[j]? = some (cB, .boolean)) : cA = cB :=
  Option.some.inj (((show s.vm.findClass ("[" ++ FieldType.boolean.toString) = some cA from (h.2 i _ hi).2)).symm.trans (show s.vm.findClass ("[" ++ FieldType.boolean.toString) = some cB from (h.2 j _ hj).2))
def adF (a0 a1 a2 a3 a4 a5 a6 a7 : Nat) : Nat → Nat := fun k => match k with
  | 0 => a0
  | 1 => a1
  | 2 => a2
  | 3 => a3
  | 4 => a4
  | 5 => a5
  | 6 => a6
  | _ => a7
theorem kX4_init_1 : Cond.methodLink RX4 5 objectInit ∈ wsX4_init := by decide +kernel
theorem kX4_init_2 : Cond.instanceMethod objectInit ∈ wsX4_init := by decide +kernel
theorem kX4_init_3 : Cond.arrayClass .int ∈ wsX4_init := by decide +kernel
theorem kX4_init_4 : Cond.fieldLink RX4 11 "TurnGroups$Tower" "cells" "[I" ∈ wsX4_init := by decide +kernel
theorem kX4_init_5 : Cond.fieldLink RX4 15 "TurnGroups$Tower" "cellsBack" "[I" ∈ wsX4_init := by decide +kernel
theorem kX4_init_6 : Cond.fieldLink RX4 18 "TurnGroups$Tower" "reach" "[I" ∈ wsX4_init := by decide +kernel
theorem kX4_init_7 : Cond.fieldLink RX4 21 "TurnGroups$Tower" "filled" "[I" ∈ wsX4_init := by decide +kernel
theorem kX4_init_8 : Cond.fieldLink RX4 24 "TurnGroups$Tower" "makers" "[I" ∈ wsX4_init := by decide +kernel
theorem uX4_init_RX4 : ∀ w ∈ u_ws RX4 TX4 7, w ∈ wsX4_init := by decide +kernel
set_option maxRecDepth 100000 in
set_option maxHeartbeats 4000000 in
theorem qX4_init (l : Launch) (D : va_G) (cI : ClassId) (h0 sz : Nat) : Met l yX4_init wsX4_init ({ frames := 1, cells := 5, slots := 180, locals := 12 } : Room) (tg_PN D [(cI, .int)] [.ref h0] [(h0, .inr (4, [.null, .null, .null, .null, .int 0, .null, .int 0]))] sz) (va_Qv (fun ad : Nat → Nat => ad 0 = h0) (fun ad t => va_P D vwCl (wT cI ad (fun _ => 0) (fun _ => 0) (fun _ => 0) (fun _ => 0) 0 (fun _ => 0) 0) t.heap ∧ va_D (va_A [(h0, .inr (4, [.null, .null, .null, .null, .int 0, .null, .int 0]))] sz) (wT cI ad (fun _ => 0) (fun _ => 0) (fun _ => 0) (fun _ => 0) 0 (fun _ => 0) 0)) (va_A [(h0, .inr (4, [.null, .null, .null, .null, .int 0, .null, .int 0]))] sz)) 5 180 (va_A [(h0, .inr (4, [.null, .null, .null, .null, .int 0, .null, .int 0]))] sz) := by
  refine Met.ofW (cc := cX4_init) (maxL := 1) (ret := none) (by decide) rfl ?_
  intro p e s m zargs zbelow zmeth c s₁ B hml hv
  obtain ⟨hargs, hsz, hP, hK, hN, hD0⟩ := hv
  subst hsz
  have hx := B.exec
  have hb := B.bytes
  have hr := B.returns
  have hts := atoms_spec (ws := wsX4_init) B.pre
  have hown : s.vm.findClass RX4 = some m.cls := findClass_of_methodNamed B.named
  have hlocks := B.notSynchronized
  have hin : zmeth.name = "<init>" := (name_of_methodNamed B.named B.method).1
  have hD := hD0.self (sz := s.heap.size)
  have hA : ∀ q : Nat, s.heap.size ≤ q → va_A [(h0, .inr (4, [.null, .null, .null, .null, .int 0, .null, .int 0]))] s.heap.size q := fun _ h9 => Or.inr h9
  have hS : va_S (va_A [(h0, .inr (4, [.null, .null, .null, .null, .int 0, .null, .int 0]))] s.heap.size) s.heap s.heap [] := va_S.rf
  have hl := lv_entry ([.ref h0]) (n := 1) (Nat.le_of_ble_eq_true rfl)
  refine W.eq (g2 := entryFrame m ([.ref h0] : List Value).toArray 1) (by rw [hargs]) ?_
  rw [lg_entry_eq]
  generalize (lg_sl ([.ref h0]) ++ List.replicate (1 - (lg_sl ([.ref h0])).length) Slot.unset).toArray = zls at hl ⊢
  have hl : lv_has zls 1 [(0, .ref h0)] := hl
  refine lv_aload_n hx hb dX4_init_0 rfl (lv_at hl 0 rfl) ?_
  refine W.objInit hx hb hown (hts _ kX4_init_1) (hts _ kX4_init_2) (hts _ (List.mem_cons_of_mem _ (List.mem_append_left _ (List.mem_of_getElem? (i := 2) rfl)))) rfl (by rw [hml]; exact hl.1) rfl dX4_init_1 (Nat.le_of_ble_eq_true rfl) (Nat.le_of_ble_eq_true rfl) ?_
  refine W.eq (g2 := F0 m 4 zls []) rfl ?_
  refine lv_aload_n hx hb dX4_init_4 rfl (lv_at hl 0 rfl) ?_
  refine lv_bipush (v := 64) hx hb dX4_init_5 (by decide) ?_
  refine va_newa (atype := .int) (ty := .int) (a0 := (64, .inl (fun _ => 0))) (N' := 64) hx hb (hts _ kX4_init_3) rfl hK hP hD hS hA (fun _ => rfl) (by decide) (by decide +kernel) (by decide) (Nat.le_of_ble_eq_true rfl) (Nat.le_of_ble_eq_true rfl) dX4_init_7 (fun zq1 zc zH hK hP hD hS => ?_)
  obtain rfl : cI = zc := tg_cA hK (i := 0) (j := 1) rfl rfl
  have hK := hK.sub (tys' := [(cI, .int)]) [0] rfl
  have hP : va_P D vwCl [(h0, .inr (4, [.null, .null, .null, .null, .int 0, .null, .int 0])), (zq1, .inl (cI, 64, .inl (fun _ => 0)))] zH := hP
  have hD : va_D _ [(h0, .inr (4, [.null, .null, .null, .null, .int 0, .null, .int 0])), (zq1, .inl (cI, 64, .inl (fun _ => 0)))] := hD
  refine W.widen (k := 1) (n := 64) (by omega) (by omega) ?_
  refine va_putF (D := D) (ci := 4) (v := .ref zq1) (ty := .array .int) (C := RX4) (T := TX4) (N := 7) hx hb hts uX4_init_RX4 tyX4 tyX4_ok nmX4 hown hK hP hD hS 0 rfl rfl 0 (by decide) (hts _ kX4_init_4) (fun _ h9 => h9) rfl hin rfl (by decide +kernel) rfl rfl (Nat.le_of_ble_eq_true rfl) dX4_init_9 (fun zH zlocs hP hD hS => ?_)
  have hP : va_P D vwCl [(h0, .inr (4, [.ref zq1, .null, .null, .null, .int 0, .null, .int 0])), (zq1, .inl (cI, 64, .inl (fun _ => 0)))] zH := hP
  have hD : va_D _ [(h0, .inr (4, [.ref zq1, .null, .null, .null, .int 0, .null, .int 0])), (zq1, .inl (cI, 64, .inl (fun _ => 0)))] := hD
  refine lv_aload_n hx hb dX4_init_12 rfl (lv_at hl 0 rfl) ?_
  refine lv_bipush (v := 64) hx hb dX4_init_13 (by decide) ?_
  refine va_newa (atype := .int) (ty := .int) (a0 := (64, .inl (fun _ => 0))) (N' := 64) hx hb (hts _ kX4_init_3) rfl hK hP hD hS hA (fun _ => rfl) (by decide) (by decide +kernel) (by decide) (Nat.le_of_ble_eq_true rfl) (Nat.le_of_ble_eq_true rfl) dX4_init_15 (fun zq2 zc zH hK hP hD hS => ?_)
  obtain rfl : cI = zc := tg_cA hK (i := 0) (j := 1) rfl rfl
  have hK := hK.sub (tys' := [(cI, .int)]) [0] rfl
  have hP : va_P D vwCl [(h0, .inr (4, [.ref zq1, .null, .null, .null, .int 0, .null, .int 0])), (zq1, .inl (cI, 64, .inl (fun _ => 0))), (zq2, .inl (cI, 64, .inl (fun _ => 0)))] zH := hP
  have hD : va_D _ [(h0, .inr (4, [.ref zq1, .null, .null, .null, .int 0, .null, .int 0])), (zq1, .inl (cI, 64, .inl (fun _ => 0))), (zq2, .inl (cI, 64, .inl (fun _ => 0)))] := hD
  refine W.widen (k := 2) (n := 128) (by omega) (by omega) ?_
  refine va_putF (D := D) (ci := 4) (v := .ref zq2) (ty := .array .int) (C := RX4) (T := TX4) (N := 7) hx hb hts uX4_init_RX4 tyX4 tyX4_ok nmX4 hown hK hP hD hS 0 rfl rfl 1 (by decide) (hts _ kX4_init_5) (fun _ h9 => h9) rfl hin rfl (by decide +kernel) rfl rfl (Nat.le_of_ble_eq_true rfl) dX4_init_17 (fun zH zlocs hP hD hS => ?_)
  have hP : va_P D vwCl [(h0, .inr (4, [.ref zq1, .ref zq2, .null, .null, .int 0, .null, .int 0])), (zq1, .inl (cI, 64, .inl (fun _ => 0))), (zq2, .inl (cI, 64, .inl (fun _ => 0)))] zH := hP
  have hD : va_D _ [(h0, .inr (4, [.ref zq1, .ref zq2, .null, .null, .int 0, .null, .int 0])), (zq1, .inl (cI, 64, .inl (fun _ => 0))), (zq2, .inl (cI, 64, .inl (fun _ => 0)))] := hD
  refine lv_aload_n hx hb dX4_init_20 rfl (lv_at hl 0 rfl) ?_
  refine lv_bipush (v := 8) hx hb dX4_init_21 (by decide) ?_
  refine va_newa (atype := .int) (ty := .int) (a0 := (8, .inl (fun _ => 0))) (N' := 8) hx hb (hts _ kX4_init_3) rfl hK hP hD hS hA (fun _ => rfl) (by decide) (by decide +kernel) (by decide) (Nat.le_of_ble_eq_true rfl) (Nat.le_of_ble_eq_true rfl) dX4_init_23 (fun zq3 zc zH hK hP hD hS => ?_)
  obtain rfl : cI = zc := tg_cA hK (i := 0) (j := 1) rfl rfl
  have hK := hK.sub (tys' := [(cI, .int)]) [0] rfl
  have hP : va_P D vwCl [(h0, .inr (4, [.ref zq1, .ref zq2, .null, .null, .int 0, .null, .int 0])), (zq1, .inl (cI, 64, .inl (fun _ => 0))), (zq2, .inl (cI, 64, .inl (fun _ => 0))), (zq3, .inl (cI, 8, .inl (fun _ => 0)))] zH := hP
  have hD : va_D _ [(h0, .inr (4, [.ref zq1, .ref zq2, .null, .null, .int 0, .null, .int 0])), (zq1, .inl (cI, 64, .inl (fun _ => 0))), (zq2, .inl (cI, 64, .inl (fun _ => 0))), (zq3, .inl (cI, 8, .inl (fun _ => 0)))] := hD
  refine W.widen (k := 3) (n := 136) (by omega) (by omega) ?_
  refine va_putF (D := D) (ci := 4) (v := .ref zq3) (ty := .array .int) (C := RX4) (T := TX4) (N := 7) hx hb hts uX4_init_RX4 tyX4 tyX4_ok nmX4 hown hK hP hD hS 0 rfl rfl 2 (by decide) (hts _ kX4_init_6) (fun _ h9 => h9) rfl hin rfl (by decide +kernel) rfl rfl (Nat.le_of_ble_eq_true rfl) dX4_init_25 (fun zH zlocs hP hD hS => ?_)
  have hP : va_P D vwCl [(h0, .inr (4, [.ref zq1, .ref zq2, .ref zq3, .null, .int 0, .null, .int 0])), (zq1, .inl (cI, 64, .inl (fun _ => 0))), (zq2, .inl (cI, 64, .inl (fun _ => 0))), (zq3, .inl (cI, 8, .inl (fun _ => 0)))] zH := hP
  have hD : va_D _ [(h0, .inr (4, [.ref zq1, .ref zq2, .ref zq3, .null, .int 0, .null, .int 0])), (zq1, .inl (cI, 64, .inl (fun _ => 0))), (zq2, .inl (cI, 64, .inl (fun _ => 0))), (zq3, .inl (cI, 8, .inl (fun _ => 0)))] := hD
  refine lv_aload_n hx hb dX4_init_28 rfl (lv_at hl 0 rfl) ?_
  refine lv_bipush (v := 28) hx hb dX4_init_29 (by decide) ?_
  refine va_newa (atype := .int) (ty := .int) (a0 := (28, .inl (fun _ => 0))) (N' := 28) hx hb (hts _ kX4_init_3) rfl hK hP hD hS hA (fun _ => rfl) (by decide) (by decide +kernel) (by decide) (Nat.le_of_ble_eq_true rfl) (Nat.le_of_ble_eq_true rfl) dX4_init_31 (fun zq4 zc zH hK hP hD hS => ?_)
  obtain rfl : cI = zc := tg_cA hK (i := 0) (j := 1) rfl rfl
  have hK := hK.sub (tys' := [(cI, .int)]) [0] rfl
  have hP : va_P D vwCl [(h0, .inr (4, [.ref zq1, .ref zq2, .ref zq3, .null, .int 0, .null, .int 0])), (zq1, .inl (cI, 64, .inl (fun _ => 0))), (zq2, .inl (cI, 64, .inl (fun _ => 0))), (zq3, .inl (cI, 8, .inl (fun _ => 0))), (zq4, .inl (cI, 28, .inl (fun _ => 0)))] zH := hP
  have hD : va_D _ [(h0, .inr (4, [.ref zq1, .ref zq2, .ref zq3, .null, .int 0, .null, .int 0])), (zq1, .inl (cI, 64, .inl (fun _ => 0))), (zq2, .inl (cI, 64, .inl (fun _ => 0))), (zq3, .inl (cI, 8, .inl (fun _ => 0))), (zq4, .inl (cI, 28, .inl (fun _ => 0)))] := hD
  refine W.widen (k := 4) (n := 164) (by omega) (by omega) ?_
  refine va_putF (D := D) (ci := 4) (v := .ref zq4) (ty := .array .int) (C := RX4) (T := TX4) (N := 7) hx hb hts uX4_init_RX4 tyX4 tyX4_ok nmX4 hown hK hP hD hS 0 rfl rfl 3 (by decide) (hts _ kX4_init_7) (fun _ h9 => h9) rfl hin rfl (by decide +kernel) rfl rfl (Nat.le_of_ble_eq_true rfl) dX4_init_33 (fun zH zlocs hP hD hS => ?_)
  have hP : va_P D vwCl [(h0, .inr (4, [.ref zq1, .ref zq2, .ref zq3, .ref zq4, .int 0, .null, .int 0])), (zq1, .inl (cI, 64, .inl (fun _ => 0))), (zq2, .inl (cI, 64, .inl (fun _ => 0))), (zq3, .inl (cI, 8, .inl (fun _ => 0))), (zq4, .inl (cI, 28, .inl (fun _ => 0)))] zH := hP
  have hD : va_D _ [(h0, .inr (4, [.ref zq1, .ref zq2, .ref zq3, .ref zq4, .int 0, .null, .int 0])), (zq1, .inl (cI, 64, .inl (fun _ => 0))), (zq2, .inl (cI, 64, .inl (fun _ => 0))), (zq3, .inl (cI, 8, .inl (fun _ => 0))), (zq4, .inl (cI, 28, .inl (fun _ => 0)))] := hD
  refine lv_aload_n hx hb dX4_init_36 rfl (lv_at hl 0 rfl) ?_
  refine lv_bipush (v := 16) hx hb dX4_init_37 (by decide) ?_
  refine va_newa (atype := .int) (ty := .int) (a0 := (16, .inl (fun _ => 0))) (N' := 16) hx hb (hts _ kX4_init_3) rfl hK hP hD hS hA (fun _ => rfl) (by decide) (by decide +kernel) (by decide) (Nat.le_of_ble_eq_true rfl) (Nat.le_of_ble_eq_true rfl) dX4_init_39 (fun zq5 zc zH hK hP hD hS => ?_)
  obtain rfl : cI = zc := tg_cA hK (i := 0) (j := 1) rfl rfl
  have hK := hK.sub (tys' := [(cI, .int)]) [0] rfl
  have hP : va_P D vwCl [(h0, .inr (4, [.ref zq1, .ref zq2, .ref zq3, .ref zq4, .int 0, .null, .int 0])), (zq1, .inl (cI, 64, .inl (fun _ => 0))), (zq2, .inl (cI, 64, .inl (fun _ => 0))), (zq3, .inl (cI, 8, .inl (fun _ => 0))), (zq4, .inl (cI, 28, .inl (fun _ => 0))), (zq5, .inl (cI, 16, .inl (fun _ => 0)))] zH := hP
  have hD : va_D _ [(h0, .inr (4, [.ref zq1, .ref zq2, .ref zq3, .ref zq4, .int 0, .null, .int 0])), (zq1, .inl (cI, 64, .inl (fun _ => 0))), (zq2, .inl (cI, 64, .inl (fun _ => 0))), (zq3, .inl (cI, 8, .inl (fun _ => 0))), (zq4, .inl (cI, 28, .inl (fun _ => 0))), (zq5, .inl (cI, 16, .inl (fun _ => 0)))] := hD
  refine W.widen (k := 5) (n := 180) (by omega) (by omega) ?_
  refine va_putF (D := D) (ci := 4) (v := .ref zq5) (ty := .array .int) (C := RX4) (T := TX4) (N := 7) hx hb hts uX4_init_RX4 tyX4 tyX4_ok nmX4 hown hK hP hD hS 0 rfl rfl 5 (by decide) (hts _ kX4_init_8) (fun _ h9 => h9) rfl hin rfl (by decide +kernel) rfl rfl (Nat.le_of_ble_eq_true rfl) dX4_init_41 (fun zH zlocs hP hD hS => ?_)
  have hP : va_P D vwCl [(h0, .inr (4, [.ref zq1, .ref zq2, .ref zq3, .ref zq4, .int 0, .ref zq5, .int 0])), (zq1, .inl (cI, 64, .inl (fun _ => 0))), (zq2, .inl (cI, 64, .inl (fun _ => 0))), (zq3, .inl (cI, 8, .inl (fun _ => 0))), (zq4, .inl (cI, 28, .inl (fun _ => 0))), (zq5, .inl (cI, 16, .inl (fun _ => 0)))] zH := hP
  have hD : va_D _ [(h0, .inr (4, [.ref zq1, .ref zq2, .ref zq3, .ref zq4, .int 0, .ref zq5, .int 0])), (zq1, .inl (cI, 64, .inl (fun _ => 0))), (zq2, .inl (cI, 64, .inl (fun _ => 0))), (zq3, .inl (cI, 8, .inl (fun _ => 0))), (zq4, .inl (cI, 28, .inl (fun _ => 0))), (zq5, .inl (cI, 16, .inl (fun _ => 0)))] := hD
  exact W.vret hx hb hr (fun t ht hW => ⟨⟨(adF h0 zq1 zq2 zq3 zq4 zq5 0 0), rfl, rfl, by rw [ht]; exact hP, hD⟩, hS.F ht⟩) hS.2.2 dX4_init_44
theorem zSX4_init : yX4_init.cls ≠ "java/lang/invoke/MethodHandle" ∧ yX4_init.cls ≠ "java/lang/invoke/VarHandle" ∧ (parseMethodDescriptor yX4_init.desc).map (fun d => d.parameters.length) = some 0 := by decide +kernel
