theorem kX7_init_1 : Cond.methodLink RX7 1 objectInit ∈ wsX7_init := by decide +kernel
theorem kX7_init_2 : Cond.instanceMethod objectInit ∈ wsX7_init := by decide +kernel
theorem kX7_init_3 : Cond.fieldLink RX7 7 "TurnGroupsModel" "n" "I" ∈ wsX7_init := by decide +kernel
theorem kX7_init_4 : Cond.constant RX7 13 (322560) ∈ wsX7_init := by decide +kernel
theorem kX7_init_5 : Cond.arrayClass .int ∈ wsX7_init := by decide +kernel
theorem kX7_init_6 : Cond.fieldLink RX7 14 "TurnGroupsModel" "image" "[I" ∈ wsX7_init := by decide +kernel
theorem kX7_init_7 : Cond.fieldLink RX7 18 "TurnGroupsModel" "shelf" "[I" ∈ wsX7_init := by decide +kernel
theorem kX7_init_8 : Cond.constant RX7 21 (524160) ∈ wsX7_init := by decide +kernel
theorem kX7_init_9 : Cond.arrayClass .boolean ∈ wsX7_init := by decide +kernel
theorem kX7_init_10 : Cond.fieldLink RX7 22 "TurnGroupsModel" "in" "[Z" ∈ wsX7_init := by decide +kernel
theorem kX7_init_11 : Cond.fieldLink RX7 26 "TurnGroupsModel" "now" "[I" ∈ wsX7_init := by decide +kernel
theorem kX7_init_12 : Cond.fieldLink RX7 29 "TurnGroupsModel" "makers" "[I" ∈ wsX7_init := by decide +kernel
theorem kX7_init_13 : Cond.fieldLink RX7 32 "TurnGroupsModel" "makerMany" "[I" ∈ wsX7_init := by decide +kernel
theorem kX7_init_14 : Cond.constant RX7 35 (40320) ∈ wsX7_init := by decide +kernel
theorem kX7_init_15 : Cond.fieldLink RX7 36 "TurnGroupsModel" "queue" "[I" ∈ wsX7_init := by decide +kernel
theorem uX7_init_RX7 : ∀ w ∈ u_ws RX7 TX7 11, w ∈ wsX7_init := by decide +kernel
set_option maxRecDepth 100000 in
set_option maxHeartbeats 4000000 in
theorem qX7_init (l : Launch) (D : va_G) (cI cZ : ClassId) (h0 sz : Nat) (F : Nat) (omany : Int32) (oimage : Nat → Int32) (hm : mX7_layAll F 4 0 (fun _ => 0) = some (omany, oimage)) : Met l yX7_init wsX7_init ({ frames := 2, cells := 7, slots := 887485, locals := 60 } : Room) (tg_PN D [(cI, .int), (cZ, .boolean)] [.ref h0] [(h0, .inr (6, [.int 0, .int 0, .null, .int 0, .null, .int 0, .null, .null, .null, .null, .null]))] sz) (va_Qv (fun ad : Nat → Nat => ad 0 = h0) (fun ad t => va_P D vwCl (wM cI cZ ad 4 omany oimage 0 (fun _ => 0) 0 (fun _ => 0) (fun _ => 0) (fun _ => 0) (fun _ => 0) (fun _ => 0)) t.heap ∧ va_D (va_A [(h0, .inr (6, [.int 0, .int 0, .null, .int 0, .null, .int 0, .null, .null, .null, .null, .null]))] sz) (wM cI cZ ad 4 omany oimage 0 (fun _ => 0) 0 (fun _ => 0) (fun _ => 0) (fun _ => 0) (fun _ => 0) (fun _ => 0))) (va_A [(h0, .inr (6, [.int 0, .int 0, .null, .int 0, .null, .int 0, .null, .null, .null, .null, .null]))] sz)) 7 887485 (va_A [(h0, .inr (6, [.int 0, .int 0, .null, .int 0, .null, .int 0, .null, .null, .null, .null, .null]))] sz) := by
  refine Met.ofW (cc := cX7_init) (maxL := 1) (ret := none) (by decide) rfl ?_
  intro p e s m zargs zbelow zmeth c s₁ B hml hv
  obtain ⟨hargs, hsz, hP, hK, hN, hD0⟩ := hv
  subst hsz
  have hx := B.exec
  have hb := B.bytes
  have hr := B.returns
  have hts := atoms_spec (ws := wsX7_init) B.pre
  have hown : s.vm.findClass RX7 = some m.cls := findClass_of_methodNamed B.named
  have hlocks := B.notSynchronized
  have hin : zmeth.name = "<init>" := (name_of_methodNamed B.named B.method).1
  have hD := hD0.self (sz := s.heap.size)
  have hA : ∀ q : Nat, s.heap.size ≤ q → va_A [(h0, .inr (6, [.int 0, .int 0, .null, .int 0, .null, .int 0, .null, .null, .null, .null, .null]))] s.heap.size q := fun _ h9 => Or.inr h9
  have hS : va_S (va_A [(h0, .inr (6, [.int 0, .int 0, .null, .int 0, .null, .int 0, .null, .null, .null, .null, .null]))] s.heap.size) s.heap s.heap [] := va_S.rf
  have hl := lv_entry ([.ref h0]) (n := 1) (Nat.le_of_ble_eq_true rfl)
  refine W.eq (g2 := entryFrame m ([.ref h0] : List Value).toArray 1) (by rw [hargs]) ?_
  rw [lg_entry_eq]
  generalize (lg_sl ([.ref h0]) ++ List.replicate (1 - (lg_sl ([.ref h0])).length) Slot.unset).toArray = zls at hl ⊢
  have hl : lv_has zls 1 [(0, .ref h0)] := hl
  refine lv_aload_n hx hb dX7_init_0 rfl (lv_at hl 0 rfl) ?_
  refine W.objInit hx hb hown (hts _ kX7_init_1) (hts _ kX7_init_2) (hts _ (List.mem_cons_of_mem _ (List.mem_append_left _ (List.mem_append_left _ (List.mem_of_getElem? (i := 2) rfl))))) rfl (by rw [hml]; exact hl.1) rfl dX7_init_1 (Nat.le_of_ble_eq_true rfl) (Nat.le_of_ble_eq_true rfl) ?_
  refine W.eq (g2 := F0 m 4 zls []) rfl ?_
  refine lv_aload_n hx hb dX7_init_4 rfl (lv_at hl 0 rfl) ?_
  refine lv_iconst (v := 4) hx hb dX7_init_5 (by decide) ?_
  refine va_put (D := D) (ci := 6) (v := .int 4) (ty := .int) (C := RX7) (T := TX7) (N := 11) hx hb hts uX7_init_RX7 tyX7 tyX7_ok nmX7 hown hK hP hD hS 0 rfl rfl 0 (by decide) (hts _ kX7_init_3) (fun _ h9 => h9) rfl (by decide +kernel) rfl rfl (Nat.le_of_ble_eq_true rfl) dX7_init_6 (fun zH zlocs hP hD hS => ?_)
  have hP : va_P D vwCl [(h0, .inr (6, [.int 4, .int 0, .null, .int 0, .null, .int 0, .null, .null, .null, .null, .null]))] zH := hP
  have hD : va_D _ [(h0, .inr (6, [.int 4, .int 0, .null, .int 0, .null, .int 0, .null, .null, .null, .null, .null]))] := hD
  refine lv_aload_n hx hb dX7_init_9 rfl (lv_at hl 0 rfl) ?_
  refine lv_ldc hx hb hown (hts _ kX7_init_4) dX7_init_10 ?_
  refine va_newa (atype := .int) (ty := .int) (a0 := (322560, .inl (fun _ => 0))) (N' := 322560) hx hb (hts _ kX7_init_5) rfl hK hP hD hS hA (fun _ => rfl) (by decide) (by decide +kernel) (by decide) (Nat.le_of_ble_eq_true rfl) (Nat.le_of_ble_eq_true rfl) dX7_init_12 (fun zq1 zc zH hK hP hD hS => ?_)
  obtain rfl : cI = zc := tg_cA hK (i := 0) (j := 2) rfl rfl
  have hK := hK.sub (tys' := [(cI, .int), (cZ, .boolean)]) [0, 1] rfl
  have hP : va_P D vwCl [(h0, .inr (6, [.int 4, .int 0, .null, .int 0, .null, .int 0, .null, .null, .null, .null, .null])), (zq1, .inl (cI, 322560, .inl (fun _ => 0)))] zH := hP
  have hD : va_D _ [(h0, .inr (6, [.int 4, .int 0, .null, .int 0, .null, .int 0, .null, .null, .null, .null, .null])), (zq1, .inl (cI, 322560, .inl (fun _ => 0)))] := hD
  refine W.widen (k := 1) (n := 322560) (by omega) (by omega) ?_
  refine va_putF (D := D) (ci := 6) (v := .ref zq1) (ty := .array .int) (C := RX7) (T := TX7) (N := 11) hx hb hts uX7_init_RX7 tyX7 tyX7_ok nmX7 hown hK hP hD hS 0 rfl rfl 2 (by decide) (hts _ kX7_init_6) (fun _ h9 => h9) rfl hin rfl (by decide +kernel) rfl rfl (Nat.le_of_ble_eq_true rfl) dX7_init_14 (fun zH zlocs hP hD hS => ?_)
  have hP : va_P D vwCl [(h0, .inr (6, [.int 4, .int 0, .ref zq1, .int 0, .null, .int 0, .null, .null, .null, .null, .null])), (zq1, .inl (cI, 322560, .inl (fun _ => 0)))] zH := hP
  have hD : va_D _ [(h0, .inr (6, [.int 4, .int 0, .ref zq1, .int 0, .null, .int 0, .null, .null, .null, .null, .null])), (zq1, .inl (cI, 322560, .inl (fun _ => 0)))] := hD
  refine lv_aload_n hx hb dX7_init_17 rfl (lv_at hl 0 rfl) ?_
  refine lv_bipush (v := 8) hx hb dX7_init_18 (by decide) ?_
  refine va_newa (atype := .int) (ty := .int) (a0 := (8, .inl (fun _ => 0))) (N' := 8) hx hb (hts _ kX7_init_5) rfl hK hP hD hS hA (fun _ => rfl) (by decide) (by decide +kernel) (by decide) (Nat.le_of_ble_eq_true rfl) (Nat.le_of_ble_eq_true rfl) dX7_init_20 (fun zq2 zc zH hK hP hD hS => ?_)
  obtain rfl : cI = zc := tg_cA hK (i := 0) (j := 2) rfl rfl
  have hK := hK.sub (tys' := [(cI, .int), (cZ, .boolean)]) [0, 1] rfl
  have hP : va_P D vwCl [(h0, .inr (6, [.int 4, .int 0, .ref zq1, .int 0, .null, .int 0, .null, .null, .null, .null, .null])), (zq1, .inl (cI, 322560, .inl (fun _ => 0))), (zq2, .inl (cI, 8, .inl (fun _ => 0)))] zH := hP
  have hD : va_D _ [(h0, .inr (6, [.int 4, .int 0, .ref zq1, .int 0, .null, .int 0, .null, .null, .null, .null, .null])), (zq1, .inl (cI, 322560, .inl (fun _ => 0))), (zq2, .inl (cI, 8, .inl (fun _ => 0)))] := hD
  refine W.widen (k := 2) (n := 322568) (by omega) (by omega) ?_
  refine va_putF (D := D) (ci := 6) (v := .ref zq2) (ty := .array .int) (C := RX7) (T := TX7) (N := 11) hx hb hts uX7_init_RX7 tyX7 tyX7_ok nmX7 hown hK hP hD hS 0 rfl rfl 4 (by decide) (hts _ kX7_init_7) (fun _ h9 => h9) rfl hin rfl (by decide +kernel) rfl rfl (Nat.le_of_ble_eq_true rfl) dX7_init_22 (fun zH zlocs hP hD hS => ?_)
  have hP : va_P D vwCl [(h0, .inr (6, [.int 4, .int 0, .ref zq1, .int 0, .ref zq2, .int 0, .null, .null, .null, .null, .null])), (zq1, .inl (cI, 322560, .inl (fun _ => 0))), (zq2, .inl (cI, 8, .inl (fun _ => 0)))] zH := hP
  have hD : va_D _ [(h0, .inr (6, [.int 4, .int 0, .ref zq1, .int 0, .ref zq2, .int 0, .null, .null, .null, .null, .null])), (zq1, .inl (cI, 322560, .inl (fun _ => 0))), (zq2, .inl (cI, 8, .inl (fun _ => 0)))] := hD
  refine lv_aload_n hx hb dX7_init_25 rfl (lv_at hl 0 rfl) ?_
  refine lv_ldc hx hb hown (hts _ kX7_init_8) dX7_init_26 ?_
  refine va_newa (atype := .boolean) (ty := .boolean) (a0 := (524160, .inl (fun _ => 0))) (N' := 524160) hx hb (hts _ kX7_init_9) rfl hK hP hD hS hA (fun _ => rfl) (by decide) (by decide +kernel) (by decide) (Nat.le_of_ble_eq_true rfl) (Nat.le_of_ble_eq_true rfl) dX7_init_28 (fun zq3 zc zH hK hP hD hS => ?_)
  obtain rfl : cZ = zc := tg_cZ hK (i := 1) (j := 2) rfl rfl
  have hK := hK.sub (tys' := [(cI, .int), (cZ, .boolean)]) [0, 1] rfl
  have hP : va_P D vwCl [(h0, .inr (6, [.int 4, .int 0, .ref zq1, .int 0, .ref zq2, .int 0, .null, .null, .null, .null, .null])), (zq1, .inl (cI, 322560, .inl (fun _ => 0))), (zq2, .inl (cI, 8, .inl (fun _ => 0))), (zq3, .inl (cZ, 524160, .inl (fun _ => 0)))] zH := hP
  have hD : va_D _ [(h0, .inr (6, [.int 4, .int 0, .ref zq1, .int 0, .ref zq2, .int 0, .null, .null, .null, .null, .null])), (zq1, .inl (cI, 322560, .inl (fun _ => 0))), (zq2, .inl (cI, 8, .inl (fun _ => 0))), (zq3, .inl (cZ, 524160, .inl (fun _ => 0)))] := hD
  refine W.widen (k := 3) (n := 846728) (by omega) (by omega) ?_
  refine va_putF (D := D) (ci := 6) (v := .ref zq3) (ty := .array .boolean) (C := RX7) (T := TX7) (N := 11) hx hb hts uX7_init_RX7 tyX7 tyX7_ok nmX7 hown hK hP hD hS 0 rfl rfl 6 (by decide) (hts _ kX7_init_10) (fun _ h9 => h9) rfl hin rfl (by decide +kernel) rfl rfl (Nat.le_of_ble_eq_true rfl) dX7_init_30 (fun zH zlocs hP hD hS => ?_)
  have hP : va_P D vwCl [(h0, .inr (6, [.int 4, .int 0, .ref zq1, .int 0, .ref zq2, .int 0, .ref zq3, .null, .null, .null, .null])), (zq1, .inl (cI, 322560, .inl (fun _ => 0))), (zq2, .inl (cI, 8, .inl (fun _ => 0))), (zq3, .inl (cZ, 524160, .inl (fun _ => 0)))] zH := hP
  have hD : va_D _ [(h0, .inr (6, [.int 4, .int 0, .ref zq1, .int 0, .ref zq2, .int 0, .ref zq3, .null, .null, .null, .null])), (zq1, .inl (cI, 322560, .inl (fun _ => 0))), (zq2, .inl (cI, 8, .inl (fun _ => 0))), (zq3, .inl (cZ, 524160, .inl (fun _ => 0)))] := hD
  refine lv_aload_n hx hb dX7_init_33 rfl (lv_at hl 0 rfl) ?_
  refine lv_bipush (v := 8) hx hb dX7_init_34 (by decide) ?_
  refine va_newa (atype := .int) (ty := .int) (a0 := (8, .inl (fun _ => 0))) (N' := 8) hx hb (hts _ kX7_init_5) rfl hK hP hD hS hA (fun _ => rfl) (by decide) (by decide +kernel) (by decide) (Nat.le_of_ble_eq_true rfl) (Nat.le_of_ble_eq_true rfl) dX7_init_36 (fun zq4 zc zH hK hP hD hS => ?_)
  obtain rfl : cI = zc := tg_cA hK (i := 0) (j := 2) rfl rfl
  have hK := hK.sub (tys' := [(cI, .int), (cZ, .boolean)]) [0, 1] rfl
  have hP : va_P D vwCl [(h0, .inr (6, [.int 4, .int 0, .ref zq1, .int 0, .ref zq2, .int 0, .ref zq3, .null, .null, .null, .null])), (zq1, .inl (cI, 322560, .inl (fun _ => 0))), (zq2, .inl (cI, 8, .inl (fun _ => 0))), (zq3, .inl (cZ, 524160, .inl (fun _ => 0))), (zq4, .inl (cI, 8, .inl (fun _ => 0)))] zH := hP
  have hD : va_D _ [(h0, .inr (6, [.int 4, .int 0, .ref zq1, .int 0, .ref zq2, .int 0, .ref zq3, .null, .null, .null, .null])), (zq1, .inl (cI, 322560, .inl (fun _ => 0))), (zq2, .inl (cI, 8, .inl (fun _ => 0))), (zq3, .inl (cZ, 524160, .inl (fun _ => 0))), (zq4, .inl (cI, 8, .inl (fun _ => 0)))] := hD
  refine W.widen (k := 4) (n := 846736) (by omega) (by omega) ?_
  refine va_putF (D := D) (ci := 6) (v := .ref zq4) (ty := .array .int) (C := RX7) (T := TX7) (N := 11) hx hb hts uX7_init_RX7 tyX7 tyX7_ok nmX7 hown hK hP hD hS 0 rfl rfl 7 (by decide) (hts _ kX7_init_11) (fun _ h9 => h9) rfl hin rfl (by decide +kernel) rfl rfl (Nat.le_of_ble_eq_true rfl) dX7_init_38 (fun zH zlocs hP hD hS => ?_)
  have hP : va_P D vwCl [(h0, .inr (6, [.int 4, .int 0, .ref zq1, .int 0, .ref zq2, .int 0, .ref zq3, .ref zq4, .null, .null, .null])), (zq1, .inl (cI, 322560, .inl (fun _ => 0))), (zq2, .inl (cI, 8, .inl (fun _ => 0))), (zq3, .inl (cZ, 524160, .inl (fun _ => 0))), (zq4, .inl (cI, 8, .inl (fun _ => 0)))] zH := hP
  have hD : va_D _ [(h0, .inr (6, [.int 4, .int 0, .ref zq1, .int 0, .ref zq2, .int 0, .ref zq3, .ref zq4, .null, .null, .null])), (zq1, .inl (cI, 322560, .inl (fun _ => 0))), (zq2, .inl (cI, 8, .inl (fun _ => 0))), (zq3, .inl (cZ, 524160, .inl (fun _ => 0))), (zq4, .inl (cI, 8, .inl (fun _ => 0)))] := hD
  refine lv_aload_n hx hb dX7_init_41 rfl (lv_at hl 0 rfl) ?_
  refine lv_sipush (v := 416) hx hb dX7_init_42 (by decide) ?_
  refine va_newa (atype := .int) (ty := .int) (a0 := (416, .inl (fun _ => 0))) (N' := 416) hx hb (hts _ kX7_init_5) rfl hK hP hD hS hA (fun _ => rfl) (by decide) (by decide +kernel) (by decide) (Nat.le_of_ble_eq_true rfl) (Nat.le_of_ble_eq_true rfl) dX7_init_45 (fun zq5 zc zH hK hP hD hS => ?_)
  obtain rfl : cI = zc := tg_cA hK (i := 0) (j := 2) rfl rfl
  have hK := hK.sub (tys' := [(cI, .int), (cZ, .boolean)]) [0, 1] rfl
  have hP : va_P D vwCl [(h0, .inr (6, [.int 4, .int 0, .ref zq1, .int 0, .ref zq2, .int 0, .ref zq3, .ref zq4, .null, .null, .null])), (zq1, .inl (cI, 322560, .inl (fun _ => 0))), (zq2, .inl (cI, 8, .inl (fun _ => 0))), (zq3, .inl (cZ, 524160, .inl (fun _ => 0))), (zq4, .inl (cI, 8, .inl (fun _ => 0))), (zq5, .inl (cI, 416, .inl (fun _ => 0)))] zH := hP
  have hD : va_D _ [(h0, .inr (6, [.int 4, .int 0, .ref zq1, .int 0, .ref zq2, .int 0, .ref zq3, .ref zq4, .null, .null, .null])), (zq1, .inl (cI, 322560, .inl (fun _ => 0))), (zq2, .inl (cI, 8, .inl (fun _ => 0))), (zq3, .inl (cZ, 524160, .inl (fun _ => 0))), (zq4, .inl (cI, 8, .inl (fun _ => 0))), (zq5, .inl (cI, 416, .inl (fun _ => 0)))] := hD
  refine W.widen (k := 5) (n := 847152) (by omega) (by omega) ?_
  refine va_putF (D := D) (ci := 6) (v := .ref zq5) (ty := .array .int) (C := RX7) (T := TX7) (N := 11) hx hb hts uX7_init_RX7 tyX7 tyX7_ok nmX7 hown hK hP hD hS 0 rfl rfl 8 (by decide) (hts _ kX7_init_12) (fun _ h9 => h9) rfl hin rfl (by decide +kernel) rfl rfl (Nat.le_of_ble_eq_true rfl) dX7_init_47 (fun zH zlocs hP hD hS => ?_)
  have hP : va_P D vwCl [(h0, .inr (6, [.int 4, .int 0, .ref zq1, .int 0, .ref zq2, .int 0, .ref zq3, .ref zq4, .ref zq5, .null, .null])), (zq1, .inl (cI, 322560, .inl (fun _ => 0))), (zq2, .inl (cI, 8, .inl (fun _ => 0))), (zq3, .inl (cZ, 524160, .inl (fun _ => 0))), (zq4, .inl (cI, 8, .inl (fun _ => 0))), (zq5, .inl (cI, 416, .inl (fun _ => 0)))] zH := hP
  have hD : va_D _ [(h0, .inr (6, [.int 4, .int 0, .ref zq1, .int 0, .ref zq2, .int 0, .ref zq3, .ref zq4, .ref zq5, .null, .null])), (zq1, .inl (cI, 322560, .inl (fun _ => 0))), (zq2, .inl (cI, 8, .inl (fun _ => 0))), (zq3, .inl (cZ, 524160, .inl (fun _ => 0))), (zq4, .inl (cI, 8, .inl (fun _ => 0))), (zq5, .inl (cI, 416, .inl (fun _ => 0)))] := hD
  refine lv_aload_n hx hb dX7_init_50 rfl (lv_at hl 0 rfl) ?_
  refine lv_bipush (v := 13) hx hb dX7_init_51 (by decide) ?_
  refine va_newa (atype := .int) (ty := .int) (a0 := (13, .inl (fun _ => 0))) (N' := 13) hx hb (hts _ kX7_init_5) rfl hK hP hD hS hA (fun _ => rfl) (by decide) (by decide +kernel) (by decide) (Nat.le_of_ble_eq_true rfl) (Nat.le_of_ble_eq_true rfl) dX7_init_53 (fun zq6 zc zH hK hP hD hS => ?_)
  obtain rfl : cI = zc := tg_cA hK (i := 0) (j := 2) rfl rfl
  have hK := hK.sub (tys' := [(cI, .int), (cZ, .boolean)]) [0, 1] rfl
  have hP : va_P D vwCl [(h0, .inr (6, [.int 4, .int 0, .ref zq1, .int 0, .ref zq2, .int 0, .ref zq3, .ref zq4, .ref zq5, .null, .null])), (zq1, .inl (cI, 322560, .inl (fun _ => 0))), (zq2, .inl (cI, 8, .inl (fun _ => 0))), (zq3, .inl (cZ, 524160, .inl (fun _ => 0))), (zq4, .inl (cI, 8, .inl (fun _ => 0))), (zq5, .inl (cI, 416, .inl (fun _ => 0))), (zq6, .inl (cI, 13, .inl (fun _ => 0)))] zH := hP
  have hD : va_D _ [(h0, .inr (6, [.int 4, .int 0, .ref zq1, .int 0, .ref zq2, .int 0, .ref zq3, .ref zq4, .ref zq5, .null, .null])), (zq1, .inl (cI, 322560, .inl (fun _ => 0))), (zq2, .inl (cI, 8, .inl (fun _ => 0))), (zq3, .inl (cZ, 524160, .inl (fun _ => 0))), (zq4, .inl (cI, 8, .inl (fun _ => 0))), (zq5, .inl (cI, 416, .inl (fun _ => 0))), (zq6, .inl (cI, 13, .inl (fun _ => 0)))] := hD
  refine W.widen (k := 6) (n := 847165) (by omega) (by omega) ?_
  refine va_putF (D := D) (ci := 6) (v := .ref zq6) (ty := .array .int) (C := RX7) (T := TX7) (N := 11) hx hb hts uX7_init_RX7 tyX7 tyX7_ok nmX7 hown hK hP hD hS 0 rfl rfl 9 (by decide) (hts _ kX7_init_13) (fun _ h9 => h9) rfl hin rfl (by decide +kernel) rfl rfl (Nat.le_of_ble_eq_true rfl) dX7_init_55 (fun zH zlocs hP hD hS => ?_)
  have hP : va_P D vwCl [(h0, .inr (6, [.int 4, .int 0, .ref zq1, .int 0, .ref zq2, .int 0, .ref zq3, .ref zq4, .ref zq5, .ref zq6, .null])), (zq1, .inl (cI, 322560, .inl (fun _ => 0))), (zq2, .inl (cI, 8, .inl (fun _ => 0))), (zq3, .inl (cZ, 524160, .inl (fun _ => 0))), (zq4, .inl (cI, 8, .inl (fun _ => 0))), (zq5, .inl (cI, 416, .inl (fun _ => 0))), (zq6, .inl (cI, 13, .inl (fun _ => 0)))] zH := hP
  have hD : va_D _ [(h0, .inr (6, [.int 4, .int 0, .ref zq1, .int 0, .ref zq2, .int 0, .ref zq3, .ref zq4, .ref zq5, .ref zq6, .null])), (zq1, .inl (cI, 322560, .inl (fun _ => 0))), (zq2, .inl (cI, 8, .inl (fun _ => 0))), (zq3, .inl (cZ, 524160, .inl (fun _ => 0))), (zq4, .inl (cI, 8, .inl (fun _ => 0))), (zq5, .inl (cI, 416, .inl (fun _ => 0))), (zq6, .inl (cI, 13, .inl (fun _ => 0)))] := hD
  refine lv_aload_n hx hb dX7_init_58 rfl (lv_at hl 0 rfl) ?_
  refine lv_ldc hx hb hown (hts _ kX7_init_14) dX7_init_59 ?_
  refine va_newa (atype := .int) (ty := .int) (a0 := (40320, .inl (fun _ => 0))) (N' := 40320) hx hb (hts _ kX7_init_5) rfl hK hP hD hS hA (fun _ => rfl) (by decide) (by decide +kernel) (by decide) (Nat.le_of_ble_eq_true rfl) (Nat.le_of_ble_eq_true rfl) dX7_init_61 (fun zq7 zc zH hK hP hD hS => ?_)
  obtain rfl : cI = zc := tg_cA hK (i := 0) (j := 2) rfl rfl
  have hK := hK.sub (tys' := [(cI, .int), (cZ, .boolean)]) [0, 1] rfl
  have hP : va_P D vwCl [(h0, .inr (6, [.int 4, .int 0, .ref zq1, .int 0, .ref zq2, .int 0, .ref zq3, .ref zq4, .ref zq5, .ref zq6, .null])), (zq1, .inl (cI, 322560, .inl (fun _ => 0))), (zq2, .inl (cI, 8, .inl (fun _ => 0))), (zq3, .inl (cZ, 524160, .inl (fun _ => 0))), (zq4, .inl (cI, 8, .inl (fun _ => 0))), (zq5, .inl (cI, 416, .inl (fun _ => 0))), (zq6, .inl (cI, 13, .inl (fun _ => 0))), (zq7, .inl (cI, 40320, .inl (fun _ => 0)))] zH := hP
  have hD : va_D _ [(h0, .inr (6, [.int 4, .int 0, .ref zq1, .int 0, .ref zq2, .int 0, .ref zq3, .ref zq4, .ref zq5, .ref zq6, .null])), (zq1, .inl (cI, 322560, .inl (fun _ => 0))), (zq2, .inl (cI, 8, .inl (fun _ => 0))), (zq3, .inl (cZ, 524160, .inl (fun _ => 0))), (zq4, .inl (cI, 8, .inl (fun _ => 0))), (zq5, .inl (cI, 416, .inl (fun _ => 0))), (zq6, .inl (cI, 13, .inl (fun _ => 0))), (zq7, .inl (cI, 40320, .inl (fun _ => 0)))] := hD
  refine W.widen (k := 7) (n := 887485) (by omega) (by omega) ?_
  refine va_putF (D := D) (ci := 6) (v := .ref zq7) (ty := .array .int) (C := RX7) (T := TX7) (N := 11) hx hb hts uX7_init_RX7 tyX7 tyX7_ok nmX7 hown hK hP hD hS 0 rfl rfl 10 (by decide) (hts _ kX7_init_15) (fun _ h9 => h9) rfl hin rfl (by decide +kernel) rfl rfl (Nat.le_of_ble_eq_true rfl) dX7_init_63 (fun zH zlocs hP hD hS => ?_)
  have hP : va_P D vwCl [(h0, .inr (6, [.int 4, .int 0, .ref zq1, .int 0, .ref zq2, .int 0, .ref zq3, .ref zq4, .ref zq5, .ref zq6, .ref zq7])), (zq1, .inl (cI, 322560, .inl (fun _ => 0))), (zq2, .inl (cI, 8, .inl (fun _ => 0))), (zq3, .inl (cZ, 524160, .inl (fun _ => 0))), (zq4, .inl (cI, 8, .inl (fun _ => 0))), (zq5, .inl (cI, 416, .inl (fun _ => 0))), (zq6, .inl (cI, 13, .inl (fun _ => 0))), (zq7, .inl (cI, 40320, .inl (fun _ => 0)))] zH := hP
  have hD : va_D _ [(h0, .inr (6, [.int 4, .int 0, .ref zq1, .int 0, .ref zq2, .int 0, .ref zq3, .ref zq4, .ref zq5, .ref zq6, .ref zq7])), (zq1, .inl (cI, 322560, .inl (fun _ => 0))), (zq2, .inl (cI, 8, .inl (fun _ => 0))), (zq3, .inl (cZ, 524160, .inl (fun _ => 0))), (zq4, .inl (cI, 8, .inl (fun _ => 0))), (zq5, .inl (cI, 416, .inl (fun _ => 0))), (zq6, .inl (cI, 13, .inl (fun _ => 0))), (zq7, .inl (cI, 40320, .inl (fun _ => 0)))] := hD
  have hP : va_P D vwCl (wM cI cZ (adF h0 zq1 zq2 zq3 zq4 zq5 zq6 zq7) 4 0 (fun _ => 0) 0 (fun _ => 0) 0 (fun _ => 0) (fun _ => 0) (fun _ => 0) (fun _ => 0) (fun _ => 0)) zH := hP
  have hD : va_D _ (wM cI cZ (adF h0 zq1 zq2 zq3 zq4 zq5 zq6 zq7) 4 0 (fun _ => 0) 0 (fun _ => 0) 0 (fun _ => 0) (fun _ => 0) (fun _ => 0) (fun _ => 0) (fun _ => 0)) := hD
  refine lv_aload_n hx hb dX7_init_66 rfl (lv_at hl 0 rfl) ?_
  refine tg_cMv (va_runV (As := []) (rest := []) ⟨hx, hb, hml, hown, hts⟩ (qX7_layAll l D cI cZ (adF h0 zq1 zq2 zq3 zq4 zq5 zq6 zq7) 4 0 (fun _ => 0) 0 (fun _ => 0) 0 (fun _ => 0) (fun _ => 0) (fun _ => 0) (fun _ => 0) (fun _ => 0) F omany oimage hm) (cwV 0 hts gX7_init_X7_layAll rfl rfl rfl zVX7_layAll ⟨Nat.le_of_ble_eq_true rfl, Nat.le_of_ble_eq_true rfl⟩) (tg_preVM (r := (RX7, TX7, 11)) (ci := 6) (q0 := 0) hP hD hK hN rfl rfl) rfl rfl hl.1 rfl (lv_room (Nat.le_of_ble_eq_true rfl)) dX7_init_67 ⟨Nat.le_of_ble_eq_true rfl, Nat.le_of_ble_eq_true rfl⟩) hS (tg_inA hD) (fun zH zlocs _ hP hS => ?_)
  exact W.vret hx hb hr (fun t ht hW => ⟨⟨(adF h0 zq1 zq2 zq3 zq4 zq5 zq6 zq7), rfl, rfl, by rw [ht]; exact hP, tg_Da hD rfl⟩, hS.F ht⟩) hS.2.2 dX7_init_70
theorem zSX7_init : yX7_init.cls ≠ "java/lang/invoke/MethodHandle" ∧ yX7_init.cls ≠ "java/lang/invoke/VarHandle" ∧ (parseMethodDescriptor yX7_init.desc).map (fun d => d.parameters.length) = some 0 := by decide +kernel
