/-! ===== private boolean isGroup(int); ===== -/
theorem kX7_isGroup_1 : Cond.fieldLink RX7 61 "TurnGroupsModel" "groups" "I" ∈ wsX7_isGroup := by decide +kernel
theorem uX7_isGroup_RX7 : ∀ w ∈ u_ws RX7 TX7 11, w ∈ wsX7_isGroup := by decide +kernel
def mX7_isGroup (groups : Int32) (zx1 : Int32) : Option (Int32) := gd (isb (mX7_isIn zx1 0 (groups - 1))) (some (mX7_isIn zx1 0 (groups - 1)))
set_option maxRecDepth 100000 in
set_option maxHeartbeats 4000000 in
theorem qX7_isGroup (l : Launch) (D : va_G) (cI : ClassId) (cZ : ClassId) (ad : Nat → Nat) (n : Int32) (many : Int32) (image : Nat → Int32) (turn : Int32) (shelf : Nat → Int32) (groups : Int32) (inn : Nat → Int32) (now : Nat → Int32) (makers : Nat → Int32) (makerMany : Nat → Int32) (queue : Nat → Int32) (zx1 : Int32) (zr0 : Int32) (h : mX7_isGroup groups zx1 = some zr0) : Met l yX7_isGroup wsX7_isGroup ({ frames := 1, cells := 0, slots := 0, locals := 22 } : Room) (tg_P D [(cI, .int), (cZ, .boolean)] [.ref (ad 0), .int zx1] ((wM cI cZ ad n many image turn shelf groups inn now makers makerMany queue))) (tg_Ri zr0) 0 0 (fun _ => False) := by
  refine Met.ofW (cc := cX7_isGroup) (maxL := 2) (ret := (some .boolean)) (by decide) rfl ?_
  intro p e s m zargs zbelow zmeth c s₁ B hml hv
  obtain ⟨hargs, hP, hK, hN⟩ := hv
  have hx := B.exec
  have hb := B.bytes
  have hr := B.returns
  have hts := atoms_spec (ws := wsX7_isGroup) B.pre
  have hown : s.vm.findClass RX7 = some m.cls := findClass_of_methodNamed B.named
  have hlocks := B.notSynchronized
  have hl := lv_entry ([.ref (ad 0), .int zx1]) (n := 2) (Nat.le_of_ble_eq_true rfl)
  refine W.eq (g2 := entryFrame m ([.ref (ad 0), .int zx1] : List Value).toArray 2) (by rw [hargs]) ?_
  rw [lg_entry_eq]
  generalize (lg_sl ([.ref (ad 0), .int zx1]) ++ List.replicate (2 - (lg_sl ([.ref (ad 0), .int zx1])).length) Slot.unset).toArray = zls at hl ⊢
  have hl : lv_has zls 2 [(0, .ref (ad 0)), (1, .int zx1)] := hl
  rw [mX7_isGroup] at h
  refine lv_iload_n hx hb dX7_isGroup_0 rfl (lv_at hl 1 rfl) ?_
  refine lv_iconst (v := 0) hx hb dX7_isGroup_1 (by decide) ?_
  refine lv_aload_n hx hb dX7_isGroup_2 rfl (lv_at hl 0 rfl) ?_
  refine va_get (D := D) (ci := 6) (v := .int groups) (C := RX7) (T := TX7) (N := 11) hx hb hts uX7_isGroup_RX7 hown hK hP 0 rfl rfl 5 (by decide) (hts _ kX7_isGroup_1) (fun _ h9 => h9) rfl dX7_isGroup_3 ?_
  refine lv_iconst (v := 1) hx hb dX7_isGroup_6 (by decide) ?_
  refine lv_isub hx hb dX7_isGroup_7 ?_
  refine tg_cRi (va_runS (As := [.int zx1, .int 0, .int (groups - 1)]) (rest := []) ⟨hx, hb, hml, hown, hts⟩ (qX7_isIn l D zx1 0 (groups - 1) _ rfl) (va_cwS 3 hts gX7_isGroup_X7_isIn rfl rfl rfl zSX7_isIn ⟨Nat.le_of_ble_eq_true rfl, Nat.le_of_ble_eq_true rfl⟩) (tg_preS tg_nil (hK.sub (tys' := []) [] rfl) hN) rfl rfl hl.1 rfl (lv_room (Nat.le_of_ble_eq_true rfl)) dX7_isGroup_8 ⟨Nat.zero_le _, Nat.zero_le _⟩) ?_
  obtain ⟨gz, h⟩ := gd_el h
  cases h
  exact W.zret hx hb hr (isb_n gz) (fun t ht hW => ⟨rfl, ht⟩) (fun _ h9 => absurd h9 List.not_mem_nil) dX7_isGroup_11
theorem zVX7_isGroup : yX7_isGroup.cls = RX7 ∧ yX7_isGroup.cls ≠ "java/lang/invoke/MethodHandle" ∧ yX7_isGroup.cls ≠ "java/lang/invoke/VarHandle" ∧ (parseMethodDescriptor yX7_isGroup.desc).map (fun d => d.parameters.length) = some 1 := by decide +kernel

/-! ===== private boolean hasIt(int, int); ===== -/
theorem kX7_hasIt_1 : Cond.fieldLink RX7 22 "TurnGroupsModel" "in" "[Z" ∈ wsX7_hasIt := by decide +kernel
theorem kX7_hasIt_2 : Cond.constant RX7 35 (40320) ∈ wsX7_hasIt := by decide +kernel
theorem uX7_hasIt_RX7 : ∀ w ∈ u_ws RX7 TX7 11, w ∈ wsX7_hasIt := by decide +kernel
def mX7_hasIt (inn : Nat → Int32) (zx1 : Int32) (zx2 : Int32) : Option (Int32) := gd (inb ((40320 * zx1) + zx2) 524160) (gd (isb (inn (Int32.toNatClampNeg ((40320 * zx1) + zx2)))) (some (inn (Int32.toNatClampNeg ((40320 * zx1) + zx2)))))
set_option maxRecDepth 100000 in
set_option maxHeartbeats 4000000 in
theorem qX7_hasIt (l : Launch) (D : va_G) (cI : ClassId) (cZ : ClassId) (ad : Nat → Nat) (n : Int32) (many : Int32) (image : Nat → Int32) (turn : Int32) (shelf : Nat → Int32) (groups : Int32) (inn : Nat → Int32) (now : Nat → Int32) (makers : Nat → Int32) (makerMany : Nat → Int32) (queue : Nat → Int32) (zx1 : Int32) (zx2 : Int32) (zr0 : Int32) (h : mX7_hasIt inn zx1 zx2 = some zr0) : Met l yX7_hasIt wsX7_hasIt ({ frames := 0, cells := 0, slots := 0, locals := 0 } : Room) (tg_P D [(cI, .int), (cZ, .boolean)] [.ref (ad 0), .int zx1, .int zx2] ((wM cI cZ ad n many image turn shelf groups inn now makers makerMany queue))) (tg_Ri zr0) 0 0 (fun _ => False) := by
  refine Met.ofW (cc := cX7_hasIt) (maxL := 3) (ret := (some .boolean)) (by decide) rfl ?_
  intro p e s m zargs zbelow zmeth c s₁ B hml hv
  obtain ⟨hargs, hP, hK, hN⟩ := hv
  have hx := B.exec
  have hb := B.bytes
  have hr := B.returns
  have hts := atoms_spec (ws := wsX7_hasIt) B.pre
  have hown : s.vm.findClass RX7 = some m.cls := findClass_of_methodNamed B.named
  have hlocks := B.notSynchronized
  have hl := lv_entry ([.ref (ad 0), .int zx1, .int zx2]) (n := 3) (Nat.le_of_ble_eq_true rfl)
  refine W.eq (g2 := entryFrame m ([.ref (ad 0), .int zx1, .int zx2] : List Value).toArray 3) (by rw [hargs]) ?_
  rw [lg_entry_eq]
  generalize (lg_sl ([.ref (ad 0), .int zx1, .int zx2]) ++ List.replicate (3 - (lg_sl ([.ref (ad 0), .int zx1, .int zx2])).length) Slot.unset).toArray = zls at hl ⊢
  have hl : lv_has zls 3 [(0, .ref (ad 0)), (1, .int zx1), (2, .int zx2)] := hl
  rw [mX7_hasIt] at h
  refine lv_aload_n hx hb dX7_hasIt_0 rfl (lv_at hl 0 rfl) ?_
  refine va_get (D := D) (ci := 6) (v := .ref (ad 3)) (C := RX7) (T := TX7) (N := 11) hx hb hts uX7_hasIt_RX7 hown hK hP 0 rfl rfl 6 (by decide) (hts _ kX7_hasIt_1) (fun _ h9 => h9) rfl dX7_hasIt_1 ?_
  refine lv_ldc hx hb hown (hts _ kX7_hasIt_2) dX7_hasIt_4 ?_
  refine lv_iload_n hx hb dX7_hasIt_6 rfl (lv_at hl 1 rfl) ?_
  refine lv_imul hx hb dX7_hasIt_7 ?_
  refine lv_iload_n hx hb dX7_hasIt_8 rfl (lv_at hl 2 rfl) ?_
  refine lv_iadd hx hb dX7_hasIt_9 ?_
  obtain ⟨gg, h⟩ := gd_el h
  refine va_zald hx hb hK hP 3 1 rfl rfl (inb_in gg) dX7_hasIt_10 ?_
  obtain ⟨gz, h⟩ := gd_el h
  cases h
  exact W.zret hx hb hr (isb_n gz) (fun t ht hW => ⟨rfl, ht⟩) (fun _ h9 => absurd h9 List.not_mem_nil) dX7_hasIt_11
theorem zVX7_hasIt : yX7_hasIt.cls = RX7 ∧ yX7_hasIt.cls ≠ "java/lang/invoke/MethodHandle" ∧ yX7_hasIt.cls ≠ "java/lang/invoke/VarHandle" ∧ (parseMethodDescriptor yX7_hasIt.desc).map (fun d => d.parameters.length) = some 2 := by decide +kernel

/-! ===== private void clear(int); ===== -/
theorem kX7_clear_1 : Cond.fieldLink RX7 46 "TurnGroupsModel" "many" "I" ∈ wsX7_clear := by decide +kernel
theorem kX7_clear_2 : Cond.fieldLink RX7 22 "TurnGroupsModel" "in" "[Z" ∈ wsX7_clear := by decide +kernel
theorem kX7_clear_3 : Cond.constant RX7 35 (40320) ∈ wsX7_clear := by decide +kernel
theorem uX7_clear_RX7 : ∀ w ∈ u_ws RX7 TX7 11, w ∈ wsX7_clear := by decide +kernel
def mX7_clear_L2 (zx1 : Int32) (many : Int32) : Nat → Int32 → (Nat → Int32) → Option ((Nat → Int32))
  | 0, _, _ => none
  | f + 1, zx2, inn => if many ≤ zx2 then (some inn) else (lT (if zx2 = 0 then 1 else 0) (fun zv => gd (inb ((40320 * zx1) + zx2) 524160) (lT (upd inn (Int32.toNatClampNeg ((40320 * zx1) + zx2)) (vp_nar .boolean zv)) (fun inn_1 => mX7_clear_L2 zx1 many f (zx2 + 1) inn_1))))
theorem mX7_clear_L2_s (zx1 : Int32) (many : Int32) (f : Nat) (zx2 : Int32) (inn : Nat → Int32) : mX7_clear_L2 zx1 many (f + 1) zx2 inn = (if many ≤ zx2 then (some inn) else (lT (if zx2 = 0 then 1 else 0) (fun zv => gd (inb ((40320 * zx1) + zx2) 524160) (lT (upd inn (Int32.toNatClampNeg ((40320 * zx1) + zx2)) (vp_nar .boolean zv)) (fun inn_1 => mX7_clear_L2 zx1 many f (zx2 + 1) inn_1))))) := rfl
def mX7_clear (F : Nat) (many : Int32) (inn : Nat → Int32) (zx1 : Int32) : Option ((Nat → Int32)) := bd (mX7_clear_L2 zx1 many F 0 inn) (fun inn_1 => some inn_1)
set_option maxRecDepth 100000 in
set_option maxHeartbeats 4000000 in
theorem wX7_clear_L2 {p : Program} {l : Launch} {e : Env} {s : State} {m : MethodId} {zargs : Array Value} {zbelow : List Frame} {zmeth : Method} {c : Code} {D : va_G} {zQ : State → Prop} {zA : Nat → Prop} {ad : Nat → Nat} {cI cZ : ClassId} {n : Int32} {many : Int32} {image : Nat → Int32} {turn : Int32} {shelf : Nat → Int32} {groups : Int32} {now : Nat → Int32} {makers : Nat → Int32} {makerMany : Nat → Int32} {queue : Nat → Int32} {zx1 : Int32} (C0 : tg_C p s m zmeth c zargs cX7_clear RX7 wsX7_clear 3 D [(cI, .int), (cZ, .boolean)]) (hDD : tg_DD zA [ad 0, ad 1, ad 2, ad 3, ad 4, ad 5, ad 6, ad 7]) (hlocks : zmeth.locks = false) (hr : zmeth.sig.returnType = none) (F : Nat) : ∀ (f : Nat) (zx2 : Int32) (inn : Nat → Int32) (oinn : Nat → Int32), mX7_clear_L2 zx1 many f zx2 inn = some oinn → ∀ (zH : Heap) (zlocs : List Loc), va_P D vwCl (wM cI cZ ad n many image turn shelf groups inn now makers makerMany queue) zH → va_S zA s.heap zH zlocs → ∀ (zls : Array Slot), lv_has zls 3 [(0, .ref (ad 0)), (1, .int zx1), (2, .int zx2)] → (∀ (zH : Heap) (zlocs : List Loc), va_P D vwCl (wM cI cZ ad n many image turn shelf groups oinn now makers makerMany queue) zH → va_S zA s.heap zH zlocs → ∀ (zls : Array Slot), lv_has zls 3 [] → W p l e ({ frames := 0, cells := 0, slots := 0, locals := 0 } : Room) s m zargs zbelow zmeth c zH zlocs 0 0 zQ (F0 m 36 zls [])) → W p l e ({ frames := 0, cells := 0, slots := 0, locals := 0 } : Room) s m zargs zbelow zmeth c zH zlocs 0 0 zQ (F0 m 2 zls []) := by
  obtain ⟨hx, hb, hml, hown, hts, hK, hN⟩ := C0
  intro f
  induction f with
  | zero => intro _ _ _ h; exact absurd (show none = some _ from h) (fun h9 => by cases h9)
  | succ f ih =>
    intro zx2 inn oinn h zH zlocs hP hS zls hl kk
    rw [mX7_clear_L2_s] at h
    refine lv_iload_n hx hb dX7_clear_2 rfl (lv_at hl 2 rfl) ?_
    refine lv_aload_n hx hb dX7_clear_3 rfl (lv_at hl 0 rfl) ?_
    refine va_get (D := D) (ci := 6) (v := .int many) (C := RX7) (T := TX7) (N := 11) hx hb hts uX7_clear_RX7 hown hK hP 0 rfl rfl 1 (by decide) (hts _ kX7_clear_1) (fun _ h9 => h9) rfl dX7_clear_4 ?_
    refine lv_icmp_ge (tgt := 36) hx hb dX7_clear_7 (by decide) (fun cb => ?_) (fun cb => ?_)
    · rw [if_pos cb] at h
      cases h
      exact kk _ _ hP hS _ (lv_sub hl [] rfl)
    · rw [if_neg cb] at h
      refine lv_aload_n hx hb dX7_clear_10 rfl (lv_at hl 0 rfl) ?_
      refine va_get (D := D) (ci := 6) (v := .ref (ad 3)) (C := RX7) (T := TX7) (N := 11) hx hb hts uX7_clear_RX7 hown hK hP 0 rfl rfl 6 (by decide) (hts _ kX7_clear_2) (fun _ h9 => h9) rfl dX7_clear_11 ?_
      refine lv_ldc hx hb hown (hts _ kX7_clear_3) dX7_clear_14 ?_
      refine lv_iload_n hx hb dX7_clear_16 rfl (lv_at hl 1 rfl) ?_
      refine lv_imul hx hb dX7_clear_17 ?_
      refine lv_iload_n hx hb dX7_clear_18 rfl (lv_at hl 2 rfl) ?_
      refine lv_iadd hx hb dX7_clear_19 ?_
      refine lv_iload_n hx hb dX7_clear_20 rfl (lv_at hl 2 rfl) ?_
      obtain ⟨zv, hv, h⟩ := lT_el h
      have hj : W p l e ({ frames := 0, cells := 0, slots := 0, locals := 0 } : Room) s m zargs zbelow zmeth c zH zlocs 0 0 zQ (F0 m 29 zls [.int zv, .int ((40320 * zx1) + zx2), .ref (ad 3)]) := by
        obtain ⟨gg, h⟩ := gd_el h
        obtain ⟨inn_1, einn_1, h⟩ := lT_el h
        refine va_zast hx hb hK hP (hDD _ rfl) hS 3 1 rfl rfl (inb_in gg) dX7_clear_29 (fun zH zlocs hP _ hS => ?_)
        have hP : va_P D vwCl (wM cI cZ ad n many image turn shelf groups (upd inn (Int32.toNatClampNeg ((40320 * zx1) + zx2)) (vp_nar .boolean zv)) now makers makerMany queue) zH := hP
        rw [← einn_1] at hP
        refine lv_iinc (v := (zx2 + 1)) (lv' := [(2, .int (zx2 + 1)), (0, .ref (ad 0)), (1, .int zx1)]) hx hb dX7_clear_30 hl (k := 2) rfl rfl (by decide) rfl (fun zls hl => ?_)
        refine lv_goto (tgt := 2) hx hb dX7_clear_33 (by decide) ?_
        exact ih _ _ _ h _ _ hP hS _ (lv_sub hl [1, 2, 0] rfl) kk
      refine lv_if_ne (tgt := 28) hx hb dX7_clear_21 (by decide) (fun cb_1 => ?_) (fun cb_1 => ?_)
      · rw [if_neg cb_1] at hv
        refine lv_iconst (v := 0) hx hb dX7_clear_28 (by decide) ?_
        subst hv
        exact hj 
      · rw [if_pos cb_1] at hv
        refine lv_iconst (v := 1) hx hb dX7_clear_24 (by decide) ?_
        refine lv_goto (tgt := 29) hx hb dX7_clear_25 (by decide) ?_
        subst hv
        exact hj 
set_option maxRecDepth 100000 in
set_option maxHeartbeats 4000000 in
theorem qX7_clear (l : Launch) (D : va_G) (cI : ClassId) (cZ : ClassId) (ad : Nat → Nat) (n : Int32) (many : Int32) (image : Nat → Int32) (turn : Int32) (shelf : Nat → Int32) (groups : Int32) (inn : Nat → Int32) (now : Nat → Int32) (makers : Nat → Int32) (makerMany : Nat → Int32) (queue : Nat → Int32) (zx1 : Int32) (F : Nat) (oinn : Nat → Int32) (h : mX7_clear F many inn zx1 = some oinn) : Met l yX7_clear wsX7_clear ({ frames := 0, cells := 0, slots := 0, locals := 0 } : Room) (tg_PM D [(cI, .int), (cZ, .boolean)] [.ref (ad 0), .int zx1] (wM cI cZ ad n many image turn shelf groups inn now makers makerMany queue)) (tg_Mv D (wM cI cZ ad n many image turn shelf groups inn now makers makerMany queue) (wM cI cZ ad n many image turn shelf groups oinn now makers makerMany queue)) 0 0 (tg_in (wM cI cZ ad n many image turn shelf groups inn now makers makerMany queue)) := by
  refine Met.ofW (cc := cX7_clear) (maxL := 3) (ret := none) (by decide) rfl ?_
  intro p e s m zargs zbelow zmeth c s₁ B hml hv
  obtain ⟨hargs, hP, hK, hN, hD0⟩ := hv
  have hx := B.exec
  have hb := B.bytes
  have hr := B.returns
  have hts := atoms_spec (ws := wsX7_clear) B.pre
  have hown : s.vm.findClass RX7 = some m.cls := findClass_of_methodNamed B.named
  have hlocks := B.notSynchronized
  have hDD : tg_DD (tg_in (wM cI cZ ad n many image turn shelf groups inn now makers makerMany queue)) [ad 0, ad 1, ad 2, ad 3, ad 4, ad 5, ad 6, ad 7] := tg_DD.of (tg_D hD0) rfl
  have hS : va_S (tg_in (wM cI cZ ad n many image turn shelf groups inn now makers makerMany queue)) s.heap s.heap [] := va_S.rf
  have hl := lv_entry ([.ref (ad 0), .int zx1]) (n := 3) (Nat.le_of_ble_eq_true rfl)
  refine W.eq (g2 := entryFrame m ([.ref (ad 0), .int zx1] : List Value).toArray 3) (by rw [hargs]) ?_
  rw [lg_entry_eq]
  generalize (lg_sl ([.ref (ad 0), .int zx1]) ++ List.replicate (3 - (lg_sl ([.ref (ad 0), .int zx1])).length) Slot.unset).toArray = zls at hl ⊢
  have hl : lv_has zls 3 [(0, .ref (ad 0)), (1, .int zx1)] := hl
  rw [mX7_clear] at h
  refine lv_iconst (v := 0) hx hb dX7_clear_0 (by decide) ?_
  refine lv_istore_n (lv' := [(2, .int 0), (0, .ref (ad 0)), (1, .int zx1)]) hx hb dX7_clear_1 rfl hl (by decide) rfl (fun zls hl => ?_)
  obtain ⟨inn_1, hv, h⟩ := bd_el h
  refine wX7_clear_L2 ⟨hx, hb, hml, hown, hts, hK, hN⟩ hDD hlocks hr F F _ _ _ hv _ _ hP hS _ (lv_sub hl [1, 2, 0] rfl) (fun zH zlocs hP hS zls hl => ?_)
  cases h
  exact W.vret hx hb hr (fun t ht hW => ⟨rfl, by rw [ht]; exact hP, hS.F ht⟩) hS.2.2 dX7_clear_36
theorem zVX7_clear : yX7_clear.cls = RX7 ∧ yX7_clear.cls ≠ "java/lang/invoke/MethodHandle" ∧ yX7_clear.cls ≠ "java/lang/invoke/VarHandle" ∧ (parseMethodDescriptor yX7_clear.desc).map (fun d => d.parameters.length) = some 1 := by decide +kernel

/-! ===== private void copy(int, int); ===== -/
theorem kX7_copy_1 : Cond.fieldLink RX7 46 "TurnGroupsModel" "many" "I" ∈ wsX7_copy := by decide +kernel
theorem kX7_copy_2 : Cond.fieldLink RX7 22 "TurnGroupsModel" "in" "[Z" ∈ wsX7_copy := by decide +kernel
theorem kX7_copy_3 : Cond.constant RX7 35 (40320) ∈ wsX7_copy := by decide +kernel
theorem uX7_copy_RX7 : ∀ w ∈ u_ws RX7 TX7 11, w ∈ wsX7_copy := by decide +kernel
def mX7_copy_L2 (zx1 : Int32) (zx2 : Int32) (many : Int32) : Nat → Int32 → (Nat → Int32) → Option ((Nat → Int32))
  | 0, _, _ => none
  | f + 1, zx3, inn => if many ≤ zx3 then (some inn) else (gd (inb ((40320 * zx1) + zx3) 524160) (gd (inb ((40320 * zx2) + zx3) 524160) (lT (upd inn (Int32.toNatClampNeg ((40320 * zx2) + zx3)) (vp_nar .boolean (inn (Int32.toNatClampNeg ((40320 * zx1) + zx3))))) (fun inn_1 => mX7_copy_L2 zx1 zx2 many f (zx3 + 1) inn_1))))
theorem mX7_copy_L2_s (zx1 : Int32) (zx2 : Int32) (many : Int32) (f : Nat) (zx3 : Int32) (inn : Nat → Int32) : mX7_copy_L2 zx1 zx2 many (f + 1) zx3 inn = (if many ≤ zx3 then (some inn) else (gd (inb ((40320 * zx1) + zx3) 524160) (gd (inb ((40320 * zx2) + zx3) 524160) (lT (upd inn (Int32.toNatClampNeg ((40320 * zx2) + zx3)) (vp_nar .boolean (inn (Int32.toNatClampNeg ((40320 * zx1) + zx3))))) (fun inn_1 => mX7_copy_L2 zx1 zx2 many f (zx3 + 1) inn_1))))) := rfl
def mX7_copy (F : Nat) (many : Int32) (inn : Nat → Int32) (zx1 : Int32) (zx2 : Int32) : Option ((Nat → Int32)) := bd (mX7_copy_L2 zx1 zx2 many F 0 inn) (fun inn_1 => some inn_1)
set_option maxRecDepth 100000 in
set_option maxHeartbeats 4000000 in
theorem wX7_copy_L2 {p : Program} {l : Launch} {e : Env} {s : State} {m : MethodId} {zargs : Array Value} {zbelow : List Frame} {zmeth : Method} {c : Code} {D : va_G} {zQ : State → Prop} {zA : Nat → Prop} {ad : Nat → Nat} {cI cZ : ClassId} {n : Int32} {many : Int32} {image : Nat → Int32} {turn : Int32} {shelf : Nat → Int32} {groups : Int32} {now : Nat → Int32} {makers : Nat → Int32} {makerMany : Nat → Int32} {queue : Nat → Int32} {zx1 : Int32} {zx2 : Int32} (C0 : tg_C p s m zmeth c zargs cX7_copy RX7 wsX7_copy 4 D [(cI, .int), (cZ, .boolean)]) (hDD : tg_DD zA [ad 0, ad 1, ad 2, ad 3, ad 4, ad 5, ad 6, ad 7]) (hlocks : zmeth.locks = false) (hr : zmeth.sig.returnType = none) (F : Nat) : ∀ (f : Nat) (zx3 : Int32) (inn : Nat → Int32) (oinn : Nat → Int32), mX7_copy_L2 zx1 zx2 many f zx3 inn = some oinn → ∀ (zH : Heap) (zlocs : List Loc), va_P D vwCl (wM cI cZ ad n many image turn shelf groups inn now makers makerMany queue) zH → va_S zA s.heap zH zlocs → ∀ (zls : Array Slot), lv_has zls 4 [(0, .ref (ad 0)), (1, .int zx1), (2, .int zx2), (3, .int zx3)] → (∀ (zH : Heap) (zlocs : List Loc), va_P D vwCl (wM cI cZ ad n many image turn shelf groups oinn now makers makerMany queue) zH → va_S zA s.heap zH zlocs → ∀ (zls : Array Slot), lv_has zls 4 [] → W p l e ({ frames := 0, cells := 0, slots := 0, locals := 0 } : Room) s m zargs zbelow zmeth c zH zlocs 0 0 zQ (F0 m 38 zls [])) → W p l e ({ frames := 0, cells := 0, slots := 0, locals := 0 } : Room) s m zargs zbelow zmeth c zH zlocs 0 0 zQ (F0 m 2 zls []) := by
  obtain ⟨hx, hb, hml, hown, hts, hK, hN⟩ := C0
  intro f
  induction f with
  | zero => intro _ _ _ h; exact absurd (show none = some _ from h) (fun h9 => by cases h9)
  | succ f ih =>
    intro zx3 inn oinn h zH zlocs hP hS zls hl kk
    rw [mX7_copy_L2_s] at h
    refine lv_iload_n hx hb dX7_copy_2 rfl (lv_at hl 3 rfl) ?_
    refine lv_aload_n hx hb dX7_copy_3 rfl (lv_at hl 0 rfl) ?_
    refine va_get (D := D) (ci := 6) (v := .int many) (C := RX7) (T := TX7) (N := 11) hx hb hts uX7_copy_RX7 hown hK hP 0 rfl rfl 1 (by decide) (hts _ kX7_copy_1) (fun _ h9 => h9) rfl dX7_copy_4 ?_
    refine lv_icmp_ge (tgt := 38) hx hb dX7_copy_7 (by decide) (fun cb => ?_) (fun cb => ?_)
    · rw [if_pos cb] at h
      cases h
      exact kk _ _ hP hS _ (lv_sub hl [] rfl)
    · rw [if_neg cb] at h
      refine lv_aload_n hx hb dX7_copy_10 rfl (lv_at hl 0 rfl) ?_
      refine va_get (D := D) (ci := 6) (v := .ref (ad 3)) (C := RX7) (T := TX7) (N := 11) hx hb hts uX7_copy_RX7 hown hK hP 0 rfl rfl 6 (by decide) (hts _ kX7_copy_2) (fun _ h9 => h9) rfl dX7_copy_11 ?_
      refine lv_ldc hx hb hown (hts _ kX7_copy_3) dX7_copy_14 ?_
      refine lv_iload_n hx hb dX7_copy_16 rfl (lv_at hl 2 rfl) ?_
      refine lv_imul hx hb dX7_copy_17 ?_
      refine lv_iload_n hx hb dX7_copy_18 rfl (lv_at hl 3 rfl) ?_
      refine lv_iadd hx hb dX7_copy_19 ?_
      refine lv_aload_n hx hb dX7_copy_20 rfl (lv_at hl 0 rfl) ?_
      refine va_get (D := D) (ci := 6) (v := .ref (ad 3)) (C := RX7) (T := TX7) (N := 11) hx hb hts uX7_copy_RX7 hown hK hP 0 rfl rfl 6 (by decide) (hts _ kX7_copy_2) (fun _ h9 => h9) rfl dX7_copy_21 ?_
      refine lv_ldc hx hb hown (hts _ kX7_copy_3) dX7_copy_24 ?_
      refine lv_iload_n hx hb dX7_copy_26 rfl (lv_at hl 1 rfl) ?_
      refine lv_imul hx hb dX7_copy_27 ?_
      refine lv_iload_n hx hb dX7_copy_28 rfl (lv_at hl 3 rfl) ?_
      refine lv_iadd hx hb dX7_copy_29 ?_
      obtain ⟨gg, h⟩ := gd_el h
      refine va_zald hx hb hK hP 3 1 rfl rfl (inb_in gg) dX7_copy_30 ?_
      obtain ⟨gg_1, h⟩ := gd_el h
      obtain ⟨inn_1, einn_1, h⟩ := lT_el h
      refine va_zast hx hb hK hP (hDD _ rfl) hS 3 1 rfl rfl (inb_in gg_1) dX7_copy_31 (fun zH zlocs hP _ hS => ?_)
      have hP : va_P D vwCl (wM cI cZ ad n many image turn shelf groups (upd inn (Int32.toNatClampNeg ((40320 * zx2) + zx3)) (vp_nar .boolean (inn (Int32.toNatClampNeg ((40320 * zx1) + zx3))))) now makers makerMany queue) zH := hP
      rw [← einn_1] at hP
      refine lv_iinc (v := (zx3 + 1)) (lv' := [(3, .int (zx3 + 1)), (0, .ref (ad 0)), (1, .int zx1), (2, .int zx2)]) hx hb dX7_copy_32 hl (k := 3) rfl rfl (by decide) rfl (fun zls hl => ?_)
      refine lv_goto (tgt := 2) hx hb dX7_copy_35 (by decide) ?_
      exact ih _ _ _ h _ _ hP hS _ (lv_sub hl [1, 2, 3, 0] rfl) kk
set_option maxRecDepth 100000 in
set_option maxHeartbeats 4000000 in
theorem qX7_copy (l : Launch) (D : va_G) (cI : ClassId) (cZ : ClassId) (ad : Nat → Nat) (n : Int32) (many : Int32) (image : Nat → Int32) (turn : Int32) (shelf : Nat → Int32) (groups : Int32) (inn : Nat → Int32) (now : Nat → Int32) (makers : Nat → Int32) (makerMany : Nat → Int32) (queue : Nat → Int32) (zx1 : Int32) (zx2 : Int32) (F : Nat) (oinn : Nat → Int32) (h : mX7_copy F many inn zx1 zx2 = some oinn) : Met l yX7_copy wsX7_copy ({ frames := 0, cells := 0, slots := 0, locals := 0 } : Room) (tg_PM D [(cI, .int), (cZ, .boolean)] [.ref (ad 0), .int zx1, .int zx2] (wM cI cZ ad n many image turn shelf groups inn now makers makerMany queue)) (tg_Mv D (wM cI cZ ad n many image turn shelf groups inn now makers makerMany queue) (wM cI cZ ad n many image turn shelf groups oinn now makers makerMany queue)) 0 0 (tg_in (wM cI cZ ad n many image turn shelf groups inn now makers makerMany queue)) := by
  refine Met.ofW (cc := cX7_copy) (maxL := 4) (ret := none) (by decide) rfl ?_
  intro p e s m zargs zbelow zmeth c s₁ B hml hv
  obtain ⟨hargs, hP, hK, hN, hD0⟩ := hv
  have hx := B.exec
  have hb := B.bytes
  have hr := B.returns
  have hts := atoms_spec (ws := wsX7_copy) B.pre
  have hown : s.vm.findClass RX7 = some m.cls := findClass_of_methodNamed B.named
  have hlocks := B.notSynchronized
  have hDD : tg_DD (tg_in (wM cI cZ ad n many image turn shelf groups inn now makers makerMany queue)) [ad 0, ad 1, ad 2, ad 3, ad 4, ad 5, ad 6, ad 7] := tg_DD.of (tg_D hD0) rfl
  have hS : va_S (tg_in (wM cI cZ ad n many image turn shelf groups inn now makers makerMany queue)) s.heap s.heap [] := va_S.rf
  have hl := lv_entry ([.ref (ad 0), .int zx1, .int zx2]) (n := 4) (Nat.le_of_ble_eq_true rfl)
  refine W.eq (g2 := entryFrame m ([.ref (ad 0), .int zx1, .int zx2] : List Value).toArray 4) (by rw [hargs]) ?_
  rw [lg_entry_eq]
  generalize (lg_sl ([.ref (ad 0), .int zx1, .int zx2]) ++ List.replicate (4 - (lg_sl ([.ref (ad 0), .int zx1, .int zx2])).length) Slot.unset).toArray = zls at hl ⊢
  have hl : lv_has zls 4 [(0, .ref (ad 0)), (1, .int zx1), (2, .int zx2)] := hl
  rw [mX7_copy] at h
  refine lv_iconst (v := 0) hx hb dX7_copy_0 (by decide) ?_
  refine lv_istore_n (lv' := [(3, .int 0), (0, .ref (ad 0)), (1, .int zx1), (2, .int zx2)]) hx hb dX7_copy_1 rfl hl (by decide) rfl (fun zls hl => ?_)
  obtain ⟨inn_1, hv, h⟩ := bd_el h
  refine wX7_copy_L2 ⟨hx, hb, hml, hown, hts, hK, hN⟩ hDD hlocks hr F F _ _ _ hv _ _ hP hS _ (lv_sub hl [1, 2, 3, 0] rfl) (fun zH zlocs hP hS zls hl => ?_)
  cases h
  exact W.vret hx hb hr (fun t ht hW => ⟨rfl, by rw [ht]; exact hP, hS.F ht⟩) hS.2.2 dX7_copy_38
theorem zVX7_copy : yX7_copy.cls = RX7 ∧ yX7_copy.cls ≠ "java/lang/invoke/MethodHandle" ∧ yX7_copy.cls ≠ "java/lang/invoke/VarHandle" ∧ (parseMethodDescriptor yX7_copy.desc).map (fun d => d.parameters.length) = some 2 := by decide +kernel

/-! ===== private void begin(int); ===== -/
theorem kX7_begin_1 : Cond.fieldLink RX7 32 "TurnGroupsModel" "makerMany" "[I" ∈ wsX7_begin := by decide +kernel
theorem uX7_begin_RX7 : ∀ w ∈ u_ws RX7 TX7 11, w ∈ wsX7_begin := by decide +kernel
def mX7_begin (F : Nat) (many : Int32) (inn : Nat → Int32) (makerMany : Nat → Int32) (zx1 : Int32) : Option ((Nat → Int32) × (Nat → Int32)) := bd (mX7_clear F many inn zx1) (fun inn_1 => gd (inb zx1 13) (lT (upd makerMany (Int32.toNatClampNeg zx1) 0) (fun makerMany_1 => some (inn_1, makerMany_1))))
set_option maxRecDepth 100000 in
set_option maxHeartbeats 4000000 in
theorem qX7_begin (l : Launch) (D : va_G) (cI : ClassId) (cZ : ClassId) (ad : Nat → Nat) (n : Int32) (many : Int32) (image : Nat → Int32) (turn : Int32) (shelf : Nat → Int32) (groups : Int32) (inn : Nat → Int32) (now : Nat → Int32) (makers : Nat → Int32) (makerMany : Nat → Int32) (queue : Nat → Int32) (zx1 : Int32) (F : Nat) (oinn : Nat → Int32) (omakerMany : Nat → Int32) (h : mX7_begin F many inn makerMany zx1 = some (oinn, omakerMany)) : Met l yX7_begin wsX7_begin ({ frames := 1, cells := 0, slots := 0, locals := 22 } : Room) (tg_PM D [(cI, .int), (cZ, .boolean)] [.ref (ad 0), .int zx1] (wM cI cZ ad n many image turn shelf groups inn now makers makerMany queue)) (tg_Mv D (wM cI cZ ad n many image turn shelf groups inn now makers makerMany queue) (wM cI cZ ad n many image turn shelf groups oinn now makers omakerMany queue)) 0 0 (tg_in (wM cI cZ ad n many image turn shelf groups inn now makers makerMany queue)) := by
  refine Met.ofW (cc := cX7_begin) (maxL := 2) (ret := none) (by decide) rfl ?_
  intro p e s m zargs zbelow zmeth c s₁ B hml hv
  obtain ⟨hargs, hP, hK, hN, hD0⟩ := hv
  have hx := B.exec
  have hb := B.bytes
  have hr := B.returns
  have hts := atoms_spec (ws := wsX7_begin) B.pre
  have hown : s.vm.findClass RX7 = some m.cls := findClass_of_methodNamed B.named
  have hlocks := B.notSynchronized
  have hDD : tg_DD (tg_in (wM cI cZ ad n many image turn shelf groups inn now makers makerMany queue)) [ad 0, ad 1, ad 2, ad 3, ad 4, ad 5, ad 6, ad 7] := tg_DD.of (tg_D hD0) rfl
  have hS : va_S (tg_in (wM cI cZ ad n many image turn shelf groups inn now makers makerMany queue)) s.heap s.heap [] := va_S.rf
  have hl := lv_entry ([.ref (ad 0), .int zx1]) (n := 2) (Nat.le_of_ble_eq_true rfl)
  refine W.eq (g2 := entryFrame m ([.ref (ad 0), .int zx1] : List Value).toArray 2) (by rw [hargs]) ?_
  rw [lg_entry_eq]
  generalize (lg_sl ([.ref (ad 0), .int zx1]) ++ List.replicate (2 - (lg_sl ([.ref (ad 0), .int zx1])).length) Slot.unset).toArray = zls at hl ⊢
  have hl : lv_has zls 2 [(0, .ref (ad 0)), (1, .int zx1)] := hl
  rw [mX7_begin] at h
  refine lv_aload_n hx hb dX7_begin_0 rfl (lv_at hl 0 rfl) ?_
  refine lv_iload_n hx hb dX7_begin_1 rfl (lv_at hl 1 rfl) ?_
  obtain ⟨inn_1, hc, h⟩ := bd_el h
  refine tg_cMv (va_runV (As := [.int zx1]) (rest := []) ⟨hx, hb, hml, hown, hts⟩ (qX7_clear l D cI cZ ad n many image turn shelf groups inn now makers makerMany queue zx1 F inn_1 hc) (cwV 1 hts gX7_begin_X7_clear rfl rfl rfl zVX7_clear ⟨Nat.le_of_ble_eq_true rfl, Nat.le_of_ble_eq_true rfl⟩) (tg_preVM (r := (RX7, TX7, 11)) (ci := 6) (q0 := 0) hP (hDD _ rfl) hK hN rfl rfl) rfl rfl hl.1 rfl (lv_room (Nat.le_of_ble_eq_true rfl)) dX7_begin_2 ⟨Nat.zero_le _, Nat.zero_le _⟩) hS (tg_inA (hDD _ rfl)) (fun zH zlocs _ hP hS => ?_)
  refine lv_aload_n hx hb dX7_begin_5 rfl (lv_at hl 0 rfl) ?_
  refine va_get (D := D) (ci := 6) (v := .ref (ad 6)) (C := RX7) (T := TX7) (N := 11) hx hb hts uX7_begin_RX7 hown hK hP 0 rfl rfl 9 (by decide) (hts _ kX7_begin_1) (fun _ h9 => h9) rfl dX7_begin_6 ?_
  refine lv_iload_n hx hb dX7_begin_9 rfl (lv_at hl 1 rfl) ?_
  refine lv_iconst (v := 0) hx hb dX7_begin_10 (by decide) ?_
  obtain ⟨gg, h⟩ := gd_el h
  obtain ⟨makerMany_1, emakerMany_1, h⟩ := lT_el h
  refine va_iast hx hb hK hP (hDD _ rfl) hS 6 0 rfl rfl (inb_in gg) dX7_begin_11 (fun zH zlocs hP _ hS => ?_)
  have hP : va_P D vwCl (wM cI cZ ad n many image turn shelf groups inn_1 now makers (upd makerMany (Int32.toNatClampNeg zx1) 0) queue) zH := hP
  rw [← emakerMany_1] at hP
  cases h
  exact W.vret hx hb hr (fun t ht hW => ⟨rfl, by rw [ht]; exact hP, hS.F ht⟩) hS.2.2 dX7_begin_12
theorem zVX7_begin : yX7_begin.cls = RX7 ∧ yX7_begin.cls ≠ "java/lang/invoke/MethodHandle" ∧ yX7_begin.cls ≠ "java/lang/invoke/VarHandle" ∧ (parseMethodDescriptor yX7_begin.desc).map (fun d => d.parameters.length) = some 1 := by decide +kernel

/-! ===== private void join(int, int); ===== -/
theorem kX7_join_1 : Cond.fieldLink RX7 29 "TurnGroupsModel" "makers" "[I" ∈ wsX7_join := by decide +kernel
theorem kX7_join_2 : Cond.fieldLink RX7 32 "TurnGroupsModel" "makerMany" "[I" ∈ wsX7_join := by decide +kernel
theorem kX7_join_3 : Cond.fieldLink RX7 36 "TurnGroupsModel" "queue" "[I" ∈ wsX7_join := by decide +kernel
theorem kX7_join_4 : Cond.fieldLink RX7 22 "TurnGroupsModel" "in" "[Z" ∈ wsX7_join := by decide +kernel
theorem kX7_join_5 : Cond.constant RX7 35 (40320) ∈ wsX7_join := by decide +kernel
theorem uX7_join_RX7 : ∀ w ∈ u_ws RX7 TX7 11, w ∈ wsX7_join := by decide +kernel
def mX7_join_L63 (F : Nat) (zx1 : Int32) (zx4 : Int32) (n : Int32) (image : Nat → Int32) (makers : Nat → Int32) (makerMany : Nat → Int32) : Nat → Int32 → Int32 → (Nat → Int32) → (Nat → Int32) → (Nat → Int32) → Option (Int32 × (Nat → Int32) × (Nat → Int32) × (Nat → Int32))
  | 0, _, _, _, _, _ => none
  | f + 1, zx3, zx5, inn, now, queue => gd (inb zx1 13) (if (makerMany (Int32.toNatClampNeg zx1)) ≤ zx5 then (some (zx3, inn, now, queue)) else (gd (inb zx4 40320) (gd (inb ((32 * zx1) + zx5) 416) (bd2 (mX7_oneThen F n image now (queue (Int32.toNatClampNeg zx4)) (makers (Int32.toNatClampNeg ((32 * zx1) + zx5)))) (fun zr now_1 => bd (mX7_hasIt inn zx1 zr) (fun zr_1 => bd3 (if zr_1 = 0 then (gd (inb ((40320 * zx1) + zr) 524160) (lT (upd inn (Int32.toNatClampNeg ((40320 * zx1) + zr)) (vp_nar .boolean 1)) (fun inn_2 => gd (inb zx3 40320) (lT (upd queue (Int32.toNatClampNeg zx3) zr) (fun queue_2 => some ((zx3 + 1), inn_2, queue_2)))))) else (some (zx3, inn, queue))) (fun zx3_1 inn_1 queue_1 => mX7_join_L63 F zx1 zx4 n image makers makerMany f zx3_1 (zx5 + 1) inn_1 now_1 queue_1)))))))
theorem mX7_join_L63_s (F : Nat) (zx1 : Int32) (zx4 : Int32) (n : Int32) (image : Nat → Int32) (makers : Nat → Int32) (makerMany : Nat → Int32) (f : Nat) (zx3 : Int32) (zx5 : Int32) (inn : Nat → Int32) (now : Nat → Int32) (queue : Nat → Int32) : mX7_join_L63 F zx1 zx4 n image makers makerMany (f + 1) zx3 zx5 inn now queue = (gd (inb zx1 13) (if (makerMany (Int32.toNatClampNeg zx1)) ≤ zx5 then (some (zx3, inn, now, queue)) else (gd (inb zx4 40320) (gd (inb ((32 * zx1) + zx5) 416) (bd2 (mX7_oneThen F n image now (queue (Int32.toNatClampNeg zx4)) (makers (Int32.toNatClampNeg ((32 * zx1) + zx5)))) (fun zr now_1 => bd (mX7_hasIt inn zx1 zr) (fun zr_1 => bd3 (if zr_1 = 0 then (gd (inb ((40320 * zx1) + zr) 524160) (lT (upd inn (Int32.toNatClampNeg ((40320 * zx1) + zr)) (vp_nar .boolean 1)) (fun inn_2 => gd (inb zx3 40320) (lT (upd queue (Int32.toNatClampNeg zx3) zr) (fun queue_2 => some ((zx3 + 1), inn_2, queue_2)))))) else (some (zx3, inn, queue))) (fun zx3_1 inn_1 queue_1 => mX7_join_L63 F zx1 zx4 n image makers makerMany f zx3_1 (zx5 + 1) inn_1 now_1 queue_1)))))))) := rfl
def mX7_join_L54 (F : Nat) (zx1 : Int32) (n : Int32) (image : Nat → Int32) (makers : Nat → Int32) (makerMany : Nat → Int32) : Nat → Int32 → Int32 → (Nat → Int32) → (Nat → Int32) → (Nat → Int32) → Option ((Nat → Int32) × (Nat → Int32) × (Nat → Int32))
  | 0, _, _, _, _, _ => none
  | f + 1, zx3, zx4, inn, now, queue => if zx3 ≤ zx4 then (some (inn, now, queue)) else (bd4 (mX7_join_L63 F zx1 zx4 n image makers makerMany F zx3 0 inn now queue) (fun zx3_1 inn_1 now_1 queue_1 => mX7_join_L54 F zx1 n image makers makerMany f zx3_1 (zx4 + 1) inn_1 now_1 queue_1))
theorem mX7_join_L54_s (F : Nat) (zx1 : Int32) (n : Int32) (image : Nat → Int32) (makers : Nat → Int32) (makerMany : Nat → Int32) (f : Nat) (zx3 : Int32) (zx4 : Int32) (inn : Nat → Int32) (now : Nat → Int32) (queue : Nat → Int32) : mX7_join_L54 F zx1 n image makers makerMany (f + 1) zx3 zx4 inn now queue = (if zx3 ≤ zx4 then (some (inn, now, queue)) else (bd4 (mX7_join_L63 F zx1 zx4 n image makers makerMany F zx3 0 inn now queue) (fun zx3_1 inn_1 now_1 queue_1 => mX7_join_L54 F zx1 n image makers makerMany f zx3_1 (zx4 + 1) inn_1 now_1 queue_1))) := rfl
def mX7_join (F : Nat) (n : Int32) (many : Int32) (image : Nat → Int32) (inn : Nat → Int32) (now : Nat → Int32) (makers : Nat → Int32) (makerMany : Nat → Int32) (queue : Nat → Int32) (zx1 : Int32) (zx2 : Int32) : Option ((Nat → Int32) × (Nat → Int32) × (Nat → Int32) × (Nat → Int32) × (Nat → Int32)) := bd (mX7_hasIt inn zx1 zx2) (fun zr => if zr = 0 then (gd (inb zx1 13) (gd (inb ((32 * zx1) + (makerMany (Int32.toNatClampNeg zx1))) 416) (lT (upd makers (Int32.toNatClampNeg ((32 * zx1) + (makerMany (Int32.toNatClampNeg zx1)))) zx2) (fun makers_1 => gd (inb zx1 13) (gd (inb zx1 13) (lT (upd makerMany (Int32.toNatClampNeg zx1) ((makerMany (Int32.toNatClampNeg zx1)) + 1)) (fun makerMany_1 => bd (mX7_clear F many inn zx1) (fun inn_1 => gd (inb 0 40320) (lT (upd queue (Int32.toNatClampNeg 0) 0) (fun queue_1 => bd3 (mX7_join_L54 F zx1 n image makers_1 makerMany_1 F 1 0 inn_1 now queue_1) (fun inn_2 now_1 queue_2 => some (inn_2, now_1, makers_1, makerMany_1, queue_2)))))))))))) else (some (inn, now, makers, makerMany, queue)))
set_option maxRecDepth 100000 in
set_option maxHeartbeats 4000000 in
theorem wX7_join_L63 {p : Program} {l : Launch} {e : Env} {s : State} {m : MethodId} {zargs : Array Value} {zbelow : List Frame} {zmeth : Method} {c : Code} {D : va_G} {zQ : State → Prop} {zA : Nat → Prop} {ad : Nat → Nat} {cI cZ : ClassId} {n : Int32} {many : Int32} {image : Nat → Int32} {turn : Int32} {shelf : Nat → Int32} {groups : Int32} {makers : Nat → Int32} {makerMany : Nat → Int32} {zx1 : Int32} {zx4 : Int32} (C0 : tg_C p s m zmeth c zargs cX7_join RX7 wsX7_join 7 D [(cI, .int), (cZ, .boolean)]) (hDD : tg_DD zA [ad 0, ad 1, ad 2, ad 3, ad 4, ad 5, ad 6, ad 7]) (hlocks : zmeth.locks = false) (hr : zmeth.sig.returnType = none) (F : Nat) : ∀ (f : Nat) (zx3 : Int32) (zx5 : Int32) (inn : Nat → Int32) (now : Nat → Int32) (queue : Nat → Int32) (zo3 : Int32) (oinn : Nat → Int32) (onow : Nat → Int32) (oqueue : Nat → Int32), mX7_join_L63 F zx1 zx4 n image makers makerMany f zx3 zx5 inn now queue = some (zo3, oinn, onow, oqueue) → ∀ (zH : Heap) (zlocs : List Loc), va_P D vwCl (wM cI cZ ad n many image turn shelf groups inn now makers makerMany queue) zH → va_S zA s.heap zH zlocs → ∀ (zls : Array Slot), lv_has zls 7 [(0, .ref (ad 0)), (1, .int zx1), (3, .int zx3), (4, .int zx4), (5, .int zx5)] → (∀ (zH : Heap) (zlocs : List Loc), va_P D vwCl (wM cI cZ ad n many image turn shelf groups oinn onow makers makerMany oqueue) zH → va_S zA s.heap zH zlocs → ∀ (zls : Array Slot), lv_has zls 7 [(0, .ref (ad 0)), (1, .int zx1), (3, .int zo3), (4, .int zx4)] → W p l e ({ frames := 2, cells := 0, slots := 0, locals := 47 } : Room) s m zargs zbelow zmeth c zH zlocs 0 0 zQ (F0 m 139 zls [])) → W p l e ({ frames := 2, cells := 0, slots := 0, locals := 47 } : Room) s m zargs zbelow zmeth c zH zlocs 0 0 zQ (F0 m 63 zls []) := by
  obtain ⟨hx, hb, hml, hown, hts, hK, hN⟩ := C0
  intro f
  induction f with
  | zero => intro _ _ _ _ _ _ _ _ _ h; exact absurd (show none = some _ from h) (fun h9 => by cases h9)
  | succ f ih =>
    intro zx3 zx5 inn now queue zo3 oinn onow oqueue h zH zlocs hP hS zls hl kk
    rw [mX7_join_L63_s] at h
    refine lv_iload hx hb dX7_join_63 (lv_at hl 4 rfl) ?_
    refine lv_aload_n hx hb dX7_join_65 rfl (lv_at hl 0 rfl) ?_
    refine va_get (D := D) (ci := 6) (v := .ref (ad 6)) (C := RX7) (T := TX7) (N := 11) hx hb hts uX7_join_RX7 hown hK hP 0 rfl rfl 9 (by decide) (hts _ kX7_join_2) (fun _ h9 => h9) rfl dX7_join_66 ?_
    refine lv_iload_n hx hb dX7_join_69 rfl (lv_at hl 1 rfl) ?_
    obtain ⟨gg, h⟩ := gd_el h
    refine va_iald hx hb hK hP 6 0 rfl rfl (inb_in gg) dX7_join_70 ?_
    refine lv_icmp_ge (tgt := 139) hx hb dX7_join_71 (by decide) (fun cb => ?_) (fun cb => ?_)
    · rw [if_pos cb] at h
      cases h
      exact kk _ _ hP hS _ (lv_sub hl [0, 1, 2, 3] rfl)
    · rw [if_neg cb] at h
      refine lv_aload_n hx hb dX7_join_74 rfl (lv_at hl 0 rfl) ?_
      refine lv_aload_n hx hb dX7_join_75 rfl (lv_at hl 0 rfl) ?_
      refine va_get (D := D) (ci := 6) (v := .ref (ad 7)) (C := RX7) (T := TX7) (N := 11) hx hb hts uX7_join_RX7 hown hK hP 0 rfl rfl 10 (by decide) (hts _ kX7_join_3) (fun _ h9 => h9) rfl dX7_join_76 ?_
      refine lv_iload hx hb dX7_join_79 (lv_at hl 3 rfl) ?_
      obtain ⟨gg_1, h⟩ := gd_el h
      refine va_iald hx hb hK hP 7 0 rfl rfl (inb_in gg_1) dX7_join_81 ?_
      refine lv_aload_n hx hb dX7_join_82 rfl (lv_at hl 0 rfl) ?_
      refine va_get (D := D) (ci := 6) (v := .ref (ad 5)) (C := RX7) (T := TX7) (N := 11) hx hb hts uX7_join_RX7 hown hK hP 0 rfl rfl 8 (by decide) (hts _ kX7_join_1) (fun _ h9 => h9) rfl dX7_join_83 ?_
      refine lv_bipush (v := 32) hx hb dX7_join_86 (by decide) ?_
      refine lv_iload_n hx hb dX7_join_88 rfl (lv_at hl 1 rfl) ?_
      refine lv_imul hx hb dX7_join_89 ?_
      refine lv_iload hx hb dX7_join_90 (lv_at hl 4 rfl) ?_
      refine lv_iadd hx hb dX7_join_92 ?_
      obtain ⟨gg_2, h⟩ := gd_el h
      refine va_iald hx hb hK hP 5 0 rfl rfl (inb_in gg_2) dX7_join_93 ?_
      obtain ⟨zr, now_1, hc, h⟩ := bd2_el h
      refine tg_cMi (va_runV (As := [.int (queue (Int32.toNatClampNeg zx4)), .int (makers (Int32.toNatClampNeg ((32 * zx1) + zx5)))]) (rest := []) ⟨hx, hb, hml, hown, hts⟩ (qX7_oneThen l D cI cZ ad n many image turn shelf groups inn now makers makerMany queue (queue (Int32.toNatClampNeg zx4)) (makers (Int32.toNatClampNeg ((32 * zx1) + zx5))) F zr now_1 hc) (cwV 2 hts gX7_join_X7_oneThen rfl rfl rfl zVX7_oneThen ⟨Nat.le_of_ble_eq_true rfl, Nat.le_of_ble_eq_true rfl⟩) (tg_preVM (r := (RX7, TX7, 11)) (ci := 6) (q0 := 0) hP (hDD _ rfl) hK hN rfl rfl) rfl rfl hl.1 rfl (lv_room (Nat.le_of_ble_eq_true rfl)) dX7_join_94 ⟨Nat.zero_le _, Nat.zero_le _⟩) hS (tg_inA (hDD _ rfl)) (fun zH zlocs _ hP hS => ?_)
      refine lv_istore (lv' := [(6, .int zr), (0, .ref (ad 0)), (1, .int zx1), (3, .int zx3), (4, .int zx4), (5, .int zx5)]) hx hb dX7_join_97 hl (by decide) rfl (fun zls hl => ?_)
      refine lv_aload_n hx hb dX7_join_99 rfl (lv_at hl 1 rfl) ?_
      refine lv_iload_n hx hb dX7_join_100 rfl (lv_at hl 2 rfl) ?_
      refine lv_iload hx hb dX7_join_101 (lv_at hl 0 rfl) ?_
      obtain ⟨zr_1, hc_1, h⟩ := bd_el h
      refine tg_cRi (va_runV (As := [.int zx1, .int zr]) (rest := []) ⟨hx, hb, hml, hown, hts⟩ (qX7_hasIt l D cI cZ ad n many image turn shelf groups inn now_1 makers makerMany queue zx1 zr zr_1 hc_1) (cwV 2 hts gX7_join_X7_hasIt rfl rfl rfl zVX7_hasIt ⟨Nat.le_of_ble_eq_true rfl, Nat.le_of_ble_eq_true rfl⟩) (tg_preV (r := (RX7, TX7, 11)) (ci := 6) (q0 := 0) hP hK hN rfl rfl) rfl rfl hl.1 rfl (lv_room (Nat.le_of_ble_eq_true rfl)) dX7_join_103 ⟨Nat.zero_le _, Nat.zero_le _⟩) ?_
      obtain ⟨zx3_1, inn_1, queue_1, hv, h⟩ := bd3_el h
      have hj : ∀ (zH : Heap) (zlocs : List Loc), va_P D vwCl (wM cI cZ ad n many image turn shelf groups inn_1 now_1 makers makerMany queue_1) zH → va_S zA s.heap zH zlocs → ∀ (zls : Array Slot), lv_has zls 7 [(0, .ref (ad 0)), (1, .int zx1), (3, .int zx3_1), (4, .int zx4), (5, .int zx5)] → W p l e ({ frames := 2, cells := 0, slots := 0, locals := 47 } : Room) s m zargs zbelow zmeth c zH zlocs 0 0 zQ (F0 m 133 zls []) := by
        intro zH zlocs hP hS zls hl
        refine lv_iinc (v := (zx5 + 1)) (lv' := [(5, .int (zx5 + 1)), (0, .ref (ad 0)), (1, .int zx1), (3, .int zx3_1), (4, .int zx4)]) hx hb dX7_join_133 hl (k := 4) rfl rfl (by decide) rfl (fun zls hl => ?_)
        refine lv_goto (tgt := 63) hx hb dX7_join_136 (by decide) ?_
        exact ih _ _ _ _ _ _ _ _ _ h _ _ hP hS _ (lv_sub hl [1, 2, 3, 4, 0] rfl) kk
      refine lv_if_ne (tgt := 133) hx hb dX7_join_106 (by decide) (fun cb_1 => ?_) (fun cb_1 => ?_)
      · rw [if_neg cb_1] at hv
        cases hv
        exact hj _ _ hP hS _ (lv_sub hl [1, 2, 3, 4, 5] rfl)
      · rw [if_pos cb_1] at hv
        refine lv_aload_n hx hb dX7_join_109 rfl (lv_at hl 1 rfl) ?_
        refine va_get (D := D) (ci := 6) (v := .ref (ad 3)) (C := RX7) (T := TX7) (N := 11) hx hb hts uX7_join_RX7 hown hK hP 0 rfl rfl 6 (by decide) (hts _ kX7_join_4) (fun _ h9 => h9) rfl dX7_join_110 ?_
        refine lv_ldc hx hb hown (hts _ kX7_join_5) dX7_join_113 ?_
        refine lv_iload_n hx hb dX7_join_115 rfl (lv_at hl 2 rfl) ?_
        refine lv_imul hx hb dX7_join_116 ?_
        refine lv_iload hx hb dX7_join_117 (lv_at hl 0 rfl) ?_
        refine lv_iadd hx hb dX7_join_119 ?_
        refine lv_iconst (v := 1) hx hb dX7_join_120 (by decide) ?_
        obtain ⟨gg_3, hv⟩ := gd_el hv
        obtain ⟨inn_2, einn_2, hv⟩ := lT_el hv
        refine va_zast hx hb hK hP (hDD _ rfl) hS 3 1 rfl rfl (inb_in gg_3) dX7_join_121 (fun zH zlocs hP _ hS => ?_)
        have hP : va_P D vwCl (wM cI cZ ad n many image turn shelf groups (upd inn (Int32.toNatClampNeg ((40320 * zx1) + zr)) (vp_nar .boolean 1)) now_1 makers makerMany queue) zH := hP
        rw [← einn_2] at hP
        refine lv_aload_n hx hb dX7_join_122 rfl (lv_at hl 1 rfl) ?_
        refine va_get (D := D) (ci := 6) (v := .ref (ad 7)) (C := RX7) (T := TX7) (N := 11) hx hb hts uX7_join_RX7 hown hK hP 0 rfl rfl 10 (by decide) (hts _ kX7_join_3) (fun _ h9 => h9) rfl dX7_join_123 ?_
        refine lv_iload_n hx hb dX7_join_126 rfl (lv_at hl 3 rfl) ?_
        refine lv_iload hx hb dX7_join_127 (lv_at hl 0 rfl) ?_
        obtain ⟨gg_4, hv⟩ := gd_el hv
        obtain ⟨queue_2, equeue_2, hv⟩ := lT_el hv
        refine va_iast hx hb hK hP (hDD _ rfl) hS 7 0 rfl rfl (inb_in gg_4) dX7_join_129 (fun zH zlocs hP _ hS => ?_)
        have hP : va_P D vwCl (wM cI cZ ad n many image turn shelf groups inn_2 now_1 makers makerMany (upd queue (Int32.toNatClampNeg zx3) zr)) zH := hP
        rw [← equeue_2] at hP
        refine lv_iinc (v := (zx3 + 1)) (lv' := [(3, .int (zx3 + 1)), (6, .int zr), (0, .ref (ad 0)), (1, .int zx1), (4, .int zx4), (5, .int zx5)]) hx hb dX7_join_130 hl (k := 3) rfl rfl (by decide) rfl (fun zls hl => ?_)
        cases hv
        exact hj _ _ hP hS _ (lv_sub hl [2, 3, 0, 4, 5] rfl)
set_option maxRecDepth 100000 in
set_option maxHeartbeats 4000000 in
theorem wX7_join_L54 {p : Program} {l : Launch} {e : Env} {s : State} {m : MethodId} {zargs : Array Value} {zbelow : List Frame} {zmeth : Method} {c : Code} {D : va_G} {zQ : State → Prop} {zA : Nat → Prop} {ad : Nat → Nat} {cI cZ : ClassId} {n : Int32} {many : Int32} {image : Nat → Int32} {turn : Int32} {shelf : Nat → Int32} {groups : Int32} {makers : Nat → Int32} {makerMany : Nat → Int32} {zx1 : Int32} (C0 : tg_C p s m zmeth c zargs cX7_join RX7 wsX7_join 7 D [(cI, .int), (cZ, .boolean)]) (hDD : tg_DD zA [ad 0, ad 1, ad 2, ad 3, ad 4, ad 5, ad 6, ad 7]) (hlocks : zmeth.locks = false) (hr : zmeth.sig.returnType = none) (F : Nat) : ∀ (f : Nat) (zx3 : Int32) (zx4 : Int32) (inn : Nat → Int32) (now : Nat → Int32) (queue : Nat → Int32) (oinn : Nat → Int32) (onow : Nat → Int32) (oqueue : Nat → Int32), mX7_join_L54 F zx1 n image makers makerMany f zx3 zx4 inn now queue = some (oinn, onow, oqueue) → ∀ (zH : Heap) (zlocs : List Loc), va_P D vwCl (wM cI cZ ad n many image turn shelf groups inn now makers makerMany queue) zH → va_S zA s.heap zH zlocs → ∀ (zls : Array Slot), lv_has zls 7 [(0, .ref (ad 0)), (1, .int zx1), (3, .int zx3), (4, .int zx4)] → (∀ (zH : Heap) (zlocs : List Loc), va_P D vwCl (wM cI cZ ad n many image turn shelf groups oinn onow makers makerMany oqueue) zH → va_S zA s.heap zH zlocs → ∀ (zls : Array Slot), lv_has zls 7 [] → W p l e ({ frames := 2, cells := 0, slots := 0, locals := 47 } : Room) s m zargs zbelow zmeth c zH zlocs 0 0 zQ (F0 m 145 zls [])) → W p l e ({ frames := 2, cells := 0, slots := 0, locals := 47 } : Room) s m zargs zbelow zmeth c zH zlocs 0 0 zQ (F0 m 54 zls []) := by
  obtain ⟨hx, hb, hml, hown, hts, hK, hN⟩ := C0
  intro f
  induction f with
  | zero => intro _ _ _ _ _ _ _ _ h; exact absurd (show none = some _ from h) (fun h9 => by cases h9)
  | succ f ih =>
    intro zx3 zx4 inn now queue oinn onow oqueue h zH zlocs hP hS zls hl kk
    rw [mX7_join_L54_s] at h
    refine lv_iload hx hb dX7_join_54 (lv_at hl 3 rfl) ?_
    refine lv_iload_n hx hb dX7_join_56 rfl (lv_at hl 2 rfl) ?_
    refine lv_icmp_ge (tgt := 145) hx hb dX7_join_57 (by decide) (fun cb => ?_) (fun cb => ?_)
    · rw [if_pos cb] at h
      cases h
      exact kk _ _ hP hS _ (lv_sub hl [] rfl)
    · rw [if_neg cb] at h
      refine lv_iconst (v := 0) hx hb dX7_join_60 (by decide) ?_
      refine lv_istore (lv' := [(5, .int 0), (0, .ref (ad 0)), (1, .int zx1), (3, .int zx3), (4, .int zx4)]) hx hb dX7_join_61 hl (by decide) rfl (fun zls hl => ?_)
      obtain ⟨zx3_1, inn_1, now_1, queue_1, hv, h⟩ := bd4_el h
      refine wX7_join_L63 ⟨hx, hb, hml, hown, hts, hK, hN⟩ hDD hlocks hr F F _ _ _ _ _ _ _ _ _ hv _ _ hP hS _ (lv_sub hl [1, 2, 3, 4, 0] rfl) (fun zH zlocs hP hS zls hl => ?_)
      refine lv_iinc (v := (zx4 + 1)) (lv' := [(4, .int (zx4 + 1)), (0, .ref (ad 0)), (1, .int zx1), (3, .int zx3_1)]) hx hb dX7_join_139 hl (k := 3) rfl rfl (by decide) rfl (fun zls hl => ?_)
      refine lv_goto (tgt := 54) hx hb dX7_join_142 (by decide) ?_
      exact ih _ _ _ _ _ _ _ _ h _ _ hP hS _ (lv_sub hl [1, 2, 3, 0] rfl) kk
set_option maxRecDepth 100000 in
set_option maxHeartbeats 4000000 in
theorem qX7_join (l : Launch) (D : va_G) (cI : ClassId) (cZ : ClassId) (ad : Nat → Nat) (n : Int32) (many : Int32) (image : Nat → Int32) (turn : Int32) (shelf : Nat → Int32) (groups : Int32) (inn : Nat → Int32) (now : Nat → Int32) (makers : Nat → Int32) (makerMany : Nat → Int32) (queue : Nat → Int32) (zx1 : Int32) (zx2 : Int32) (F : Nat) (oinn : Nat → Int32) (onow : Nat → Int32) (omakers : Nat → Int32) (omakerMany : Nat → Int32) (oqueue : Nat → Int32) (h : mX7_join F n many image inn now makers makerMany queue zx1 zx2 = some (oinn, onow, omakers, omakerMany, oqueue)) : Met l yX7_join wsX7_join ({ frames := 2, cells := 0, slots := 0, locals := 47 } : Room) (tg_PM D [(cI, .int), (cZ, .boolean)] [.ref (ad 0), .int zx1, .int zx2] (wM cI cZ ad n many image turn shelf groups inn now makers makerMany queue)) (tg_Mv D (wM cI cZ ad n many image turn shelf groups inn now makers makerMany queue) (wM cI cZ ad n many image turn shelf groups oinn onow omakers omakerMany oqueue)) 0 0 (tg_in (wM cI cZ ad n many image turn shelf groups inn now makers makerMany queue)) := by
  refine Met.ofW (cc := cX7_join) (maxL := 7) (ret := none) (by decide) rfl ?_
  intro p e s m zargs zbelow zmeth c s₁ B hml hv
  obtain ⟨hargs, hP, hK, hN, hD0⟩ := hv
  have hx := B.exec
  have hb := B.bytes
  have hr := B.returns
  have hts := atoms_spec (ws := wsX7_join) B.pre
  have hown : s.vm.findClass RX7 = some m.cls := findClass_of_methodNamed B.named
  have hlocks := B.notSynchronized
  have hDD : tg_DD (tg_in (wM cI cZ ad n many image turn shelf groups inn now makers makerMany queue)) [ad 0, ad 1, ad 2, ad 3, ad 4, ad 5, ad 6, ad 7] := tg_DD.of (tg_D hD0) rfl
  have hS : va_S (tg_in (wM cI cZ ad n many image turn shelf groups inn now makers makerMany queue)) s.heap s.heap [] := va_S.rf
  have hl := lv_entry ([.ref (ad 0), .int zx1, .int zx2]) (n := 7) (Nat.le_of_ble_eq_true rfl)
  refine W.eq (g2 := entryFrame m ([.ref (ad 0), .int zx1, .int zx2] : List Value).toArray 7) (by rw [hargs]) ?_
  rw [lg_entry_eq]
  generalize (lg_sl ([.ref (ad 0), .int zx1, .int zx2]) ++ List.replicate (7 - (lg_sl ([.ref (ad 0), .int zx1, .int zx2])).length) Slot.unset).toArray = zls at hl ⊢
  have hl : lv_has zls 7 [(0, .ref (ad 0)), (1, .int zx1), (2, .int zx2)] := hl
  rw [mX7_join] at h
  refine lv_aload_n hx hb dX7_join_0 rfl (lv_at hl 0 rfl) ?_
  refine lv_iload_n hx hb dX7_join_1 rfl (lv_at hl 1 rfl) ?_
  refine lv_iload_n hx hb dX7_join_2 rfl (lv_at hl 2 rfl) ?_
  obtain ⟨zr, hc, h⟩ := bd_el h
  refine tg_cRi (va_runV (As := [.int zx1, .int zx2]) (rest := []) ⟨hx, hb, hml, hown, hts⟩ (qX7_hasIt l D cI cZ ad n many image turn shelf groups inn now makers makerMany queue zx1 zx2 zr hc) (cwV 2 hts gX7_join_X7_hasIt rfl rfl rfl zVX7_hasIt ⟨Nat.le_of_ble_eq_true rfl, Nat.le_of_ble_eq_true rfl⟩) (tg_preV (r := (RX7, TX7, 11)) (ci := 6) (q0 := 0) hP hK hN rfl rfl) rfl rfl hl.1 rfl (lv_room (Nat.le_of_ble_eq_true rfl)) dX7_join_3 ⟨Nat.zero_le _, Nat.zero_le _⟩) ?_
  refine lv_if_eq (tgt := 10) hx hb dX7_join_6 (by decide) (fun cb => ?_) (fun cb => ?_)
  · rw [if_pos cb] at h
    refine lv_aload_n hx hb dX7_join_10 rfl (lv_at hl 0 rfl) ?_
    refine va_get (D := D) (ci := 6) (v := .ref (ad 5)) (C := RX7) (T := TX7) (N := 11) hx hb hts uX7_join_RX7 hown hK hP 0 rfl rfl 8 (by decide) (hts _ kX7_join_1) (fun _ h9 => h9) rfl dX7_join_11 ?_
    refine lv_bipush (v := 32) hx hb dX7_join_14 (by decide) ?_
    refine lv_iload_n hx hb dX7_join_16 rfl (lv_at hl 1 rfl) ?_
    refine lv_imul hx hb dX7_join_17 ?_
    refine lv_aload_n hx hb dX7_join_18 rfl (lv_at hl 0 rfl) ?_
    refine va_get (D := D) (ci := 6) (v := .ref (ad 6)) (C := RX7) (T := TX7) (N := 11) hx hb hts uX7_join_RX7 hown hK hP 0 rfl rfl 9 (by decide) (hts _ kX7_join_2) (fun _ h9 => h9) rfl dX7_join_19 ?_
    refine lv_iload_n hx hb dX7_join_22 rfl (lv_at hl 1 rfl) ?_
    obtain ⟨gg, h⟩ := gd_el h
    refine va_iald hx hb hK hP 6 0 rfl rfl (inb_in gg) dX7_join_23 ?_
    refine lv_iadd hx hb dX7_join_24 ?_
    refine lv_iload_n hx hb dX7_join_25 rfl (lv_at hl 2 rfl) ?_
    obtain ⟨gg_1, h⟩ := gd_el h
    obtain ⟨makers_1, emakers_1, h⟩ := lT_el h
    refine va_iast hx hb hK hP (hDD _ rfl) hS 5 0 rfl rfl (inb_in gg_1) dX7_join_26 (fun zH zlocs hP _ hS => ?_)
    have hP : va_P D vwCl (wM cI cZ ad n many image turn shelf groups inn now (upd makers (Int32.toNatClampNeg ((32 * zx1) + (makerMany (Int32.toNatClampNeg zx1)))) zx2) makerMany queue) zH := hP
    rw [← emakers_1] at hP
    refine lv_aload_n hx hb dX7_join_27 rfl (lv_at hl 0 rfl) ?_
    refine va_get (D := D) (ci := 6) (v := .ref (ad 6)) (C := RX7) (T := TX7) (N := 11) hx hb hts uX7_join_RX7 hown hK hP 0 rfl rfl 9 (by decide) (hts _ kX7_join_2) (fun _ h9 => h9) rfl dX7_join_28 ?_
    refine lv_iload_n hx hb dX7_join_31 rfl (lv_at hl 1 rfl) ?_
    refine lv_dup2_11 hx hb dX7_join_32 rfl rfl ?_
    obtain ⟨gg_2, h⟩ := gd_el h
    refine va_iald hx hb hK hP 6 0 rfl rfl (inb_in gg_2) dX7_join_33 ?_
    refine lv_iconst (v := 1) hx hb dX7_join_34 (by decide) ?_
    refine lv_iadd hx hb dX7_join_35 ?_
    obtain ⟨gg_3, h⟩ := gd_el h
    obtain ⟨makerMany_1, emakerMany_1, h⟩ := lT_el h
    refine va_iast hx hb hK hP (hDD _ rfl) hS 6 0 rfl rfl (inb_in gg_3) dX7_join_36 (fun zH zlocs hP _ hS => ?_)
    have hP : va_P D vwCl (wM cI cZ ad n many image turn shelf groups inn now makers_1 (upd makerMany (Int32.toNatClampNeg zx1) ((makerMany (Int32.toNatClampNeg zx1)) + 1)) queue) zH := hP
    rw [← emakerMany_1] at hP
    refine lv_aload_n hx hb dX7_join_37 rfl (lv_at hl 0 rfl) ?_
    refine lv_iload_n hx hb dX7_join_38 rfl (lv_at hl 1 rfl) ?_
    obtain ⟨inn_1, hc_1, h⟩ := bd_el h
    refine tg_cMv (va_runV (As := [.int zx1]) (rest := []) ⟨hx, hb, hml, hown, hts⟩ (qX7_clear l D cI cZ ad n many image turn shelf groups inn now makers_1 makerMany_1 queue zx1 F inn_1 hc_1) (cwV 1 hts gX7_join_X7_clear rfl rfl rfl zVX7_clear ⟨Nat.le_of_ble_eq_true rfl, Nat.le_of_ble_eq_true rfl⟩) (tg_preVM (r := (RX7, TX7, 11)) (ci := 6) (q0 := 0) hP (hDD _ rfl) hK hN rfl rfl) rfl rfl hl.1 rfl (lv_room (Nat.le_of_ble_eq_true rfl)) dX7_join_39 ⟨Nat.zero_le _, Nat.zero_le _⟩) hS (tg_inA (hDD _ rfl)) (fun zH zlocs _ hP hS => ?_)
    refine lv_aload_n hx hb dX7_join_42 rfl (lv_at hl 0 rfl) ?_
    refine va_get (D := D) (ci := 6) (v := .ref (ad 7)) (C := RX7) (T := TX7) (N := 11) hx hb hts uX7_join_RX7 hown hK hP 0 rfl rfl 10 (by decide) (hts _ kX7_join_3) (fun _ h9 => h9) rfl dX7_join_43 ?_
    refine lv_iconst (v := 0) hx hb dX7_join_46 (by decide) ?_
    refine lv_iconst (v := 0) hx hb dX7_join_47 (by decide) ?_
    obtain ⟨gg_4, h⟩ := gd_el h
    obtain ⟨queue_1, equeue_1, h⟩ := lT_el h
    refine va_iast hx hb hK hP (hDD _ rfl) hS 7 0 rfl rfl (inb_in gg_4) dX7_join_48 (fun zH zlocs hP _ hS => ?_)
    have hP : va_P D vwCl (wM cI cZ ad n many image turn shelf groups inn_1 now makers_1 makerMany_1 (upd queue (Int32.toNatClampNeg 0) 0)) zH := hP
    rw [← equeue_1] at hP
    refine lv_iconst (v := 1) hx hb dX7_join_49 (by decide) ?_
    refine lv_istore_n (lv' := [(3, .int 1), (0, .ref (ad 0)), (1, .int zx1), (2, .int zx2)]) hx hb dX7_join_50 rfl hl (by decide) rfl (fun zls hl => ?_)
    refine lv_iconst (v := 0) hx hb dX7_join_51 (by decide) ?_
    refine lv_istore (lv' := [(4, .int 0), (3, .int 1), (0, .ref (ad 0)), (1, .int zx1), (2, .int zx2)]) hx hb dX7_join_52 hl (by decide) rfl (fun zls hl => ?_)
    obtain ⟨inn_2, now_1, queue_2, hv, h⟩ := bd3_el h
    refine wX7_join_L54 ⟨hx, hb, hml, hown, hts, hK, hN⟩ hDD hlocks hr F F _ _ _ _ _ _ _ _ hv _ _ hP hS _ (lv_sub hl [2, 3, 1, 0] rfl) (fun zH zlocs hP hS zls hl => ?_)
    cases h
    exact W.vret hx hb hr (fun t ht hW => ⟨rfl, by rw [ht]; exact hP, hS.F ht⟩) hS.2.2 dX7_join_145
  · rw [if_neg cb] at h
    cases h
    exact W.vret hx hb hr (fun t ht hW => ⟨rfl, by rw [ht]; exact hP, hS.F ht⟩) hS.2.2 dX7_join_9
theorem zVX7_join : yX7_join.cls = RX7 ∧ yX7_join.cls ≠ "java/lang/invoke/MethodHandle" ∧ yX7_join.cls ≠ "java/lang/invoke/VarHandle" ∧ (parseMethodDescriptor yX7_join.desc).map (fun d => d.parameters.length) = some 2 := by decide +kernel

/-! ===== private void joinAll(int, int); ===== -/
theorem kX7_joinAll_1 : Cond.fieldLink RX7 46 "TurnGroupsModel" "many" "I" ∈ wsX7_joinAll := by decide +kernel
theorem uX7_joinAll_RX7 : ∀ w ∈ u_ws RX7 TX7 11, w ∈ wsX7_joinAll := by decide +kernel
def mX7_joinAll_L2 (F : Nat) (zx1 : Int32) (zx2 : Int32) (n : Int32) (many : Int32) (image : Nat → Int32) : Nat → Int32 → (Nat → Int32) → (Nat → Int32) → (Nat → Int32) → (Nat → Int32) → (Nat → Int32) → Option ((Nat → Int32) × (Nat → Int32) × (Nat → Int32) × (Nat → Int32) × (Nat → Int32))
  | 0, _, _, _, _, _, _ => none
  | f + 1, zx3, inn, now, makers, makerMany, queue => if many ≤ zx3 then (some (inn, now, makers, makerMany, queue)) else (bd (mX7_hasIt inn zx2 zx3) (fun zr => bd5 (if zr = 0 then (some (inn, now, makers, makerMany, queue)) else (bd5 (mX7_join F n many image inn now makers makerMany queue zx1 zx3) (fun inn_2 now_2 makers_2 makerMany_2 queue_2 => some (inn_2, now_2, makers_2, makerMany_2, queue_2)))) (fun inn_1 now_1 makers_1 makerMany_1 queue_1 => mX7_joinAll_L2 F zx1 zx2 n many image f (zx3 + 1) inn_1 now_1 makers_1 makerMany_1 queue_1)))
theorem mX7_joinAll_L2_s (F : Nat) (zx1 : Int32) (zx2 : Int32) (n : Int32) (many : Int32) (image : Nat → Int32) (f : Nat) (zx3 : Int32) (inn : Nat → Int32) (now : Nat → Int32) (makers : Nat → Int32) (makerMany : Nat → Int32) (queue : Nat → Int32) : mX7_joinAll_L2 F zx1 zx2 n many image (f + 1) zx3 inn now makers makerMany queue = (if many ≤ zx3 then (some (inn, now, makers, makerMany, queue)) else (bd (mX7_hasIt inn zx2 zx3) (fun zr => bd5 (if zr = 0 then (some (inn, now, makers, makerMany, queue)) else (bd5 (mX7_join F n many image inn now makers makerMany queue zx1 zx3) (fun inn_2 now_2 makers_2 makerMany_2 queue_2 => some (inn_2, now_2, makers_2, makerMany_2, queue_2)))) (fun inn_1 now_1 makers_1 makerMany_1 queue_1 => mX7_joinAll_L2 F zx1 zx2 n many image f (zx3 + 1) inn_1 now_1 makers_1 makerMany_1 queue_1)))) := rfl
def mX7_joinAll (F : Nat) (n : Int32) (many : Int32) (image : Nat → Int32) (inn : Nat → Int32) (now : Nat → Int32) (makers : Nat → Int32) (makerMany : Nat → Int32) (queue : Nat → Int32) (zx1 : Int32) (zx2 : Int32) : Option ((Nat → Int32) × (Nat → Int32) × (Nat → Int32) × (Nat → Int32) × (Nat → Int32)) := bd5 (mX7_joinAll_L2 F zx1 zx2 n many image F 0 inn now makers makerMany queue) (fun inn_1 now_1 makers_1 makerMany_1 queue_1 => some (inn_1, now_1, makers_1, makerMany_1, queue_1))
set_option maxRecDepth 100000 in
set_option maxHeartbeats 4000000 in
theorem wX7_joinAll_L2 {p : Program} {l : Launch} {e : Env} {s : State} {m : MethodId} {zargs : Array Value} {zbelow : List Frame} {zmeth : Method} {c : Code} {D : va_G} {zQ : State → Prop} {zA : Nat → Prop} {ad : Nat → Nat} {cI cZ : ClassId} {n : Int32} {many : Int32} {image : Nat → Int32} {turn : Int32} {shelf : Nat → Int32} {groups : Int32} {zx1 : Int32} {zx2 : Int32} (C0 : tg_C p s m zmeth c zargs cX7_joinAll RX7 wsX7_joinAll 4 D [(cI, .int), (cZ, .boolean)]) (hDD : tg_DD zA [ad 0, ad 1, ad 2, ad 3, ad 4, ad 5, ad 6, ad 7]) (hlocks : zmeth.locks = false) (hr : zmeth.sig.returnType = none) (F : Nat) : ∀ (f : Nat) (zx3 : Int32) (inn : Nat → Int32) (now : Nat → Int32) (makers : Nat → Int32) (makerMany : Nat → Int32) (queue : Nat → Int32) (oinn : Nat → Int32) (onow : Nat → Int32) (omakers : Nat → Int32) (omakerMany : Nat → Int32) (oqueue : Nat → Int32), mX7_joinAll_L2 F zx1 zx2 n many image f zx3 inn now makers makerMany queue = some (oinn, onow, omakers, omakerMany, oqueue) → ∀ (zH : Heap) (zlocs : List Loc), va_P D vwCl (wM cI cZ ad n many image turn shelf groups inn now makers makerMany queue) zH → va_S zA s.heap zH zlocs → ∀ (zls : Array Slot), lv_has zls 4 [(0, .ref (ad 0)), (1, .int zx1), (2, .int zx2), (3, .int zx3)] → (∀ (zH : Heap) (zlocs : List Loc), va_P D vwCl (wM cI cZ ad n many image turn shelf groups oinn onow omakers omakerMany oqueue) zH → va_S zA s.heap zH zlocs → ∀ (zls : Array Slot), lv_has zls 4 [] → W p l e ({ frames := 3, cells := 0, slots := 0, locals := 73 } : Room) s m zargs zbelow zmeth c zH zlocs 0 0 zQ (F0 m 31 zls [])) → W p l e ({ frames := 3, cells := 0, slots := 0, locals := 73 } : Room) s m zargs zbelow zmeth c zH zlocs 0 0 zQ (F0 m 2 zls []) := by
  obtain ⟨hx, hb, hml, hown, hts, hK, hN⟩ := C0
  intro f
  induction f with
  | zero => intro _ _ _ _ _ _ _ _ _ _ _ h; exact absurd (show none = some _ from h) (fun h9 => by cases h9)
  | succ f ih =>
    intro zx3 inn now makers makerMany queue oinn onow omakers omakerMany oqueue h zH zlocs hP hS zls hl kk
    rw [mX7_joinAll_L2_s] at h
    refine lv_iload_n hx hb dX7_joinAll_2 rfl (lv_at hl 3 rfl) ?_
    refine lv_aload_n hx hb dX7_joinAll_3 rfl (lv_at hl 0 rfl) ?_
    refine va_get (D := D) (ci := 6) (v := .int many) (C := RX7) (T := TX7) (N := 11) hx hb hts uX7_joinAll_RX7 hown hK hP 0 rfl rfl 1 (by decide) (hts _ kX7_joinAll_1) (fun _ h9 => h9) rfl dX7_joinAll_4 ?_
    refine lv_icmp_ge (tgt := 31) hx hb dX7_joinAll_7 (by decide) (fun cb => ?_) (fun cb => ?_)
    · rw [if_pos cb] at h
      cases h
      exact kk _ _ hP hS _ (lv_sub hl [] rfl)
    · rw [if_neg cb] at h
      refine lv_aload_n hx hb dX7_joinAll_10 rfl (lv_at hl 0 rfl) ?_
      refine lv_iload_n hx hb dX7_joinAll_11 rfl (lv_at hl 2 rfl) ?_
      refine lv_iload_n hx hb dX7_joinAll_12 rfl (lv_at hl 3 rfl) ?_
      obtain ⟨zr, hc, h⟩ := bd_el h
      refine tg_cRi (va_runV (As := [.int zx2, .int zx3]) (rest := []) ⟨hx, hb, hml, hown, hts⟩ (qX7_hasIt l D cI cZ ad n many image turn shelf groups inn now makers makerMany queue zx2 zx3 zr hc) (cwV 2 hts gX7_joinAll_X7_hasIt rfl rfl rfl zVX7_hasIt ⟨Nat.le_of_ble_eq_true rfl, Nat.le_of_ble_eq_true rfl⟩) (tg_preV (r := (RX7, TX7, 11)) (ci := 6) (q0 := 0) hP hK hN rfl rfl) rfl rfl hl.1 rfl (lv_room (Nat.le_of_ble_eq_true rfl)) dX7_joinAll_13 ⟨Nat.zero_le _, Nat.zero_le _⟩) ?_
      obtain ⟨inn_1, now_1, makers_1, makerMany_1, queue_1, hv, h⟩ := bd5_el h
      have hj : ∀ (zH : Heap) (zlocs : List Loc), va_P D vwCl (wM cI cZ ad n many image turn shelf groups inn_1 now_1 makers_1 makerMany_1 queue_1) zH → va_S zA s.heap zH zlocs → W p l e ({ frames := 3, cells := 0, slots := 0, locals := 73 } : Room) s m zargs zbelow zmeth c zH zlocs 0 0 zQ (F0 m 25 zls []) := by
        intro zH zlocs hP hS
        refine lv_iinc (v := (zx3 + 1)) (lv' := [(3, .int (zx3 + 1)), (0, .ref (ad 0)), (1, .int zx1), (2, .int zx2)]) hx hb dX7_joinAll_25 hl (k := 3) rfl rfl (by decide) rfl (fun zls hl => ?_)
        refine lv_goto (tgt := 2) hx hb dX7_joinAll_28 (by decide) ?_
        exact ih _ _ _ _ _ _ _ _ _ _ _ h _ _ hP hS _ (lv_sub hl [1, 2, 3, 0] rfl) kk
      refine lv_if_eq (tgt := 25) hx hb dX7_joinAll_16 (by decide) (fun cb_1 => ?_) (fun cb_1 => ?_)
      · rw [if_pos cb_1] at hv
        cases hv
        exact hj _ _ hP hS
      · rw [if_neg cb_1] at hv
        refine lv_aload_n hx hb dX7_joinAll_19 rfl (lv_at hl 0 rfl) ?_
        refine lv_iload_n hx hb dX7_joinAll_20 rfl (lv_at hl 1 rfl) ?_
        refine lv_iload_n hx hb dX7_joinAll_21 rfl (lv_at hl 3 rfl) ?_
        obtain ⟨inn_2, now_2, makers_2, makerMany_2, queue_2, hc_1, hv⟩ := bd5_el hv
        refine tg_cMv (va_runV (As := [.int zx1, .int zx3]) (rest := []) ⟨hx, hb, hml, hown, hts⟩ (qX7_join l D cI cZ ad n many image turn shelf groups inn now makers makerMany queue zx1 zx3 F inn_2 now_2 makers_2 makerMany_2 queue_2 hc_1) (cwV 2 hts gX7_joinAll_X7_join rfl rfl rfl zVX7_join ⟨Nat.le_of_ble_eq_true rfl, Nat.le_of_ble_eq_true rfl⟩) (tg_preVM (r := (RX7, TX7, 11)) (ci := 6) (q0 := 0) hP (hDD _ rfl) hK hN rfl rfl) rfl rfl hl.1 rfl (lv_room (Nat.le_of_ble_eq_true rfl)) dX7_joinAll_22 ⟨Nat.zero_le _, Nat.zero_le _⟩) hS (tg_inA (hDD _ rfl)) (fun zH zlocs _ hP hS => ?_)
        cases hv
        exact hj _ _ hP hS
set_option maxRecDepth 100000 in
set_option maxHeartbeats 4000000 in
theorem qX7_joinAll (l : Launch) (D : va_G) (cI : ClassId) (cZ : ClassId) (ad : Nat → Nat) (n : Int32) (many : Int32) (image : Nat → Int32) (turn : Int32) (shelf : Nat → Int32) (groups : Int32) (inn : Nat → Int32) (now : Nat → Int32) (makers : Nat → Int32) (makerMany : Nat → Int32) (queue : Nat → Int32) (zx1 : Int32) (zx2 : Int32) (F : Nat) (oinn : Nat → Int32) (onow : Nat → Int32) (omakers : Nat → Int32) (omakerMany : Nat → Int32) (oqueue : Nat → Int32) (h : mX7_joinAll F n many image inn now makers makerMany queue zx1 zx2 = some (oinn, onow, omakers, omakerMany, oqueue)) : Met l yX7_joinAll wsX7_joinAll ({ frames := 3, cells := 0, slots := 0, locals := 73 } : Room) (tg_PM D [(cI, .int), (cZ, .boolean)] [.ref (ad 0), .int zx1, .int zx2] (wM cI cZ ad n many image turn shelf groups inn now makers makerMany queue)) (tg_Mv D (wM cI cZ ad n many image turn shelf groups inn now makers makerMany queue) (wM cI cZ ad n many image turn shelf groups oinn onow omakers omakerMany oqueue)) 0 0 (tg_in (wM cI cZ ad n many image turn shelf groups inn now makers makerMany queue)) := by
  refine Met.ofW (cc := cX7_joinAll) (maxL := 4) (ret := none) (by decide) rfl ?_
  intro p e s m zargs zbelow zmeth c s₁ B hml hv
  obtain ⟨hargs, hP, hK, hN, hD0⟩ := hv
  have hx := B.exec
  have hb := B.bytes
  have hr := B.returns
  have hts := atoms_spec (ws := wsX7_joinAll) B.pre
  have hown : s.vm.findClass RX7 = some m.cls := findClass_of_methodNamed B.named
  have hlocks := B.notSynchronized
  have hDD : tg_DD (tg_in (wM cI cZ ad n many image turn shelf groups inn now makers makerMany queue)) [ad 0, ad 1, ad 2, ad 3, ad 4, ad 5, ad 6, ad 7] := tg_DD.of (tg_D hD0) rfl
  have hS : va_S (tg_in (wM cI cZ ad n many image turn shelf groups inn now makers makerMany queue)) s.heap s.heap [] := va_S.rf
  have hl := lv_entry ([.ref (ad 0), .int zx1, .int zx2]) (n := 4) (Nat.le_of_ble_eq_true rfl)
  refine W.eq (g2 := entryFrame m ([.ref (ad 0), .int zx1, .int zx2] : List Value).toArray 4) (by rw [hargs]) ?_
  rw [lg_entry_eq]
  generalize (lg_sl ([.ref (ad 0), .int zx1, .int zx2]) ++ List.replicate (4 - (lg_sl ([.ref (ad 0), .int zx1, .int zx2])).length) Slot.unset).toArray = zls at hl ⊢
  have hl : lv_has zls 4 [(0, .ref (ad 0)), (1, .int zx1), (2, .int zx2)] := hl
  rw [mX7_joinAll] at h
  refine lv_iconst (v := 0) hx hb dX7_joinAll_0 (by decide) ?_
  refine lv_istore_n (lv' := [(3, .int 0), (0, .ref (ad 0)), (1, .int zx1), (2, .int zx2)]) hx hb dX7_joinAll_1 rfl hl (by decide) rfl (fun zls hl => ?_)
  obtain ⟨inn_1, now_1, makers_1, makerMany_1, queue_1, hv, h⟩ := bd5_el h
  refine wX7_joinAll_L2 ⟨hx, hb, hml, hown, hts, hK, hN⟩ hDD hlocks hr F F _ _ _ _ _ _ _ _ _ _ _ hv _ _ hP hS _ (lv_sub hl [1, 2, 3, 0] rfl) (fun zH zlocs hP hS zls hl => ?_)
  cases h
  exact W.vret hx hb hr (fun t ht hW => ⟨rfl, by rw [ht]; exact hP, hS.F ht⟩) hS.2.2 dX7_joinAll_31
theorem zVX7_joinAll : yX7_joinAll.cls = RX7 ∧ yX7_joinAll.cls ≠ "java/lang/invoke/MethodHandle" ∧ yX7_joinAll.cls ≠ "java/lang/invoke/VarHandle" ∧ (parseMethodDescriptor yX7_joinAll.desc).map (fun d => d.parameters.length) = some 2 := by decide +kernel

/-! ===== private void close(int, int); ===== -/
theorem kX7_close_1 : Cond.fieldLink RX7 32 "TurnGroupsModel" "makerMany" "[I" ∈ wsX7_close := by decide +kernel
theorem kX7_close_2 : Cond.fieldLink RX7 29 "TurnGroupsModel" "makers" "[I" ∈ wsX7_close := by decide +kernel
theorem uX7_close_RX7 : ∀ w ∈ u_ws RX7 TX7 11, w ∈ wsX7_close := by decide +kernel
def mX7_close_L15 (F : Nat) (zx1 : Int32) (zx2 : Int32) (zx3 : Int32) (n : Int32) (many : Int32) (image : Nat → Int32) : Nat → Int32 → (Nat → Int32) → (Nat → Int32) → (Nat → Int32) → (Nat → Int32) → (Nat → Int32) → Option ((Nat → Int32) × (Nat → Int32) × (Nat → Int32) × (Nat → Int32) × (Nat → Int32))
  | 0, _, _, _, _, _, _ => none
  | f + 1, zx4, inn, now, makers, makerMany, queue => gd (inb zx2 13) (if (makerMany (Int32.toNatClampNeg zx2)) ≤ zx4 then (some (inn, now, makers, makerMany, queue)) else (gd (inb ((32 * zx1) + zx3) 416) (gd (inb ((32 * zx2) + zx4) 416) (bd2 (mX7_carried F n image now (makers (Int32.toNatClampNeg ((32 * zx1) + zx3))) (makers (Int32.toNatClampNeg ((32 * zx2) + zx4)))) (fun zr now_1 => bd5 (mX7_join F n many image inn now_1 makers makerMany queue zx1 zr) (fun inn_1 now_2 makers_1 makerMany_1 queue_1 => mX7_close_L15 F zx1 zx2 zx3 n many image f (zx4 + 1) inn_1 now_2 makers_1 makerMany_1 queue_1))))))
theorem mX7_close_L15_s (F : Nat) (zx1 : Int32) (zx2 : Int32) (zx3 : Int32) (n : Int32) (many : Int32) (image : Nat → Int32) (f : Nat) (zx4 : Int32) (inn : Nat → Int32) (now : Nat → Int32) (makers : Nat → Int32) (makerMany : Nat → Int32) (queue : Nat → Int32) : mX7_close_L15 F zx1 zx2 zx3 n many image (f + 1) zx4 inn now makers makerMany queue = (gd (inb zx2 13) (if (makerMany (Int32.toNatClampNeg zx2)) ≤ zx4 then (some (inn, now, makers, makerMany, queue)) else (gd (inb ((32 * zx1) + zx3) 416) (gd (inb ((32 * zx2) + zx4) 416) (bd2 (mX7_carried F n image now (makers (Int32.toNatClampNeg ((32 * zx1) + zx3))) (makers (Int32.toNatClampNeg ((32 * zx2) + zx4)))) (fun zr now_1 => bd5 (mX7_join F n many image inn now_1 makers makerMany queue zx1 zr) (fun inn_1 now_2 makers_1 makerMany_1 queue_1 => mX7_close_L15 F zx1 zx2 zx3 n many image f (zx4 + 1) inn_1 now_2 makers_1 makerMany_1 queue_1))))))) := rfl
def mX7_close_L2 (F : Nat) (zx1 : Int32) (zx2 : Int32) (n : Int32) (many : Int32) (image : Nat → Int32) : Nat → Int32 → (Nat → Int32) → (Nat → Int32) → (Nat → Int32) → (Nat → Int32) → (Nat → Int32) → Option ((Nat → Int32) × (Nat → Int32) × (Nat → Int32) × (Nat → Int32) × (Nat → Int32))
  | 0, _, _, _, _, _, _ => none
  | f + 1, zx3, inn, now, makers, makerMany, queue => gd (inb zx1 13) (if (makerMany (Int32.toNatClampNeg zx1)) ≤ zx3 then (some (inn, now, makers, makerMany, queue)) else (bd5 (mX7_close_L15 F zx1 zx2 zx3 n many image F 0 inn now makers makerMany queue) (fun inn_1 now_1 makers_1 makerMany_1 queue_1 => mX7_close_L2 F zx1 zx2 n many image f (zx3 + 1) inn_1 now_1 makers_1 makerMany_1 queue_1)))
theorem mX7_close_L2_s (F : Nat) (zx1 : Int32) (zx2 : Int32) (n : Int32) (many : Int32) (image : Nat → Int32) (f : Nat) (zx3 : Int32) (inn : Nat → Int32) (now : Nat → Int32) (makers : Nat → Int32) (makerMany : Nat → Int32) (queue : Nat → Int32) : mX7_close_L2 F zx1 zx2 n many image (f + 1) zx3 inn now makers makerMany queue = (gd (inb zx1 13) (if (makerMany (Int32.toNatClampNeg zx1)) ≤ zx3 then (some (inn, now, makers, makerMany, queue)) else (bd5 (mX7_close_L15 F zx1 zx2 zx3 n many image F 0 inn now makers makerMany queue) (fun inn_1 now_1 makers_1 makerMany_1 queue_1 => mX7_close_L2 F zx1 zx2 n many image f (zx3 + 1) inn_1 now_1 makers_1 makerMany_1 queue_1)))) := rfl
def mX7_close (F : Nat) (n : Int32) (many : Int32) (image : Nat → Int32) (inn : Nat → Int32) (now : Nat → Int32) (makers : Nat → Int32) (makerMany : Nat → Int32) (queue : Nat → Int32) (zx1 : Int32) (zx2 : Int32) : Option ((Nat → Int32) × (Nat → Int32) × (Nat → Int32) × (Nat → Int32) × (Nat → Int32)) := bd5 (mX7_close_L2 F zx1 zx2 n many image F 0 inn now makers makerMany queue) (fun inn_1 now_1 makers_1 makerMany_1 queue_1 => some (inn_1, now_1, makers_1, makerMany_1, queue_1))
set_option maxRecDepth 100000 in
set_option maxHeartbeats 4000000 in
theorem wX7_close_L15 {p : Program} {l : Launch} {e : Env} {s : State} {m : MethodId} {zargs : Array Value} {zbelow : List Frame} {zmeth : Method} {c : Code} {D : va_G} {zQ : State → Prop} {zA : Nat → Prop} {ad : Nat → Nat} {cI cZ : ClassId} {n : Int32} {many : Int32} {image : Nat → Int32} {turn : Int32} {shelf : Nat → Int32} {groups : Int32} {zx1 : Int32} {zx2 : Int32} {zx3 : Int32} (C0 : tg_C p s m zmeth c zargs cX7_close RX7 wsX7_close 5 D [(cI, .int), (cZ, .boolean)]) (hDD : tg_DD zA [ad 0, ad 1, ad 2, ad 3, ad 4, ad 5, ad 6, ad 7]) (hlocks : zmeth.locks = false) (hr : zmeth.sig.returnType = none) (F : Nat) : ∀ (f : Nat) (zx4 : Int32) (inn : Nat → Int32) (now : Nat → Int32) (makers : Nat → Int32) (makerMany : Nat → Int32) (queue : Nat → Int32) (oinn : Nat → Int32) (onow : Nat → Int32) (omakers : Nat → Int32) (omakerMany : Nat → Int32) (oqueue : Nat → Int32), mX7_close_L15 F zx1 zx2 zx3 n many image f zx4 inn now makers makerMany queue = some (oinn, onow, omakers, omakerMany, oqueue) → ∀ (zH : Heap) (zlocs : List Loc), va_P D vwCl (wM cI cZ ad n many image turn shelf groups inn now makers makerMany queue) zH → va_S zA s.heap zH zlocs → ∀ (zls : Array Slot), lv_has zls 5 [(0, .ref (ad 0)), (1, .int zx1), (2, .int zx2), (3, .int zx3), (4, .int zx4)] → (∀ (zH : Heap) (zlocs : List Loc), va_P D vwCl (wM cI cZ ad n many image turn shelf groups oinn onow omakers omakerMany oqueue) zH → va_S zA s.heap zH zlocs → ∀ (zls : Array Slot), lv_has zls 5 [(0, .ref (ad 0)), (1, .int zx1), (2, .int zx2), (3, .int zx3)] → W p l e ({ frames := 3, cells := 0, slots := 0, locals := 73 } : Room) s m zargs zbelow zmeth c zH zlocs 0 0 zQ (F0 m 64 zls [])) → W p l e ({ frames := 3, cells := 0, slots := 0, locals := 73 } : Room) s m zargs zbelow zmeth c zH zlocs 0 0 zQ (F0 m 15 zls []) := by
  obtain ⟨hx, hb, hml, hown, hts, hK, hN⟩ := C0
  intro f
  induction f with
  | zero => intro _ _ _ _ _ _ _ _ _ _ _ h; exact absurd (show none = some _ from h) (fun h9 => by cases h9)
  | succ f ih =>
    intro zx4 inn now makers makerMany queue oinn onow omakers omakerMany oqueue h zH zlocs hP hS zls hl kk
    rw [mX7_close_L15_s] at h
    refine lv_iload hx hb dX7_close_15 (lv_at hl 4 rfl) ?_
    refine lv_aload_n hx hb dX7_close_17 rfl (lv_at hl 0 rfl) ?_
    refine va_get (D := D) (ci := 6) (v := .ref (ad 6)) (C := RX7) (T := TX7) (N := 11) hx hb hts uX7_close_RX7 hown hK hP 0 rfl rfl 9 (by decide) (hts _ kX7_close_1) (fun _ h9 => h9) rfl dX7_close_18 ?_
    refine lv_iload_n hx hb dX7_close_21 rfl (lv_at hl 2 rfl) ?_
    obtain ⟨gg, h⟩ := gd_el h
    refine va_iald hx hb hK hP 6 0 rfl rfl (inb_in gg) dX7_close_22 ?_
    refine lv_icmp_ge (tgt := 64) hx hb dX7_close_23 (by decide) (fun cb => ?_) (fun cb => ?_)
    · rw [if_pos cb] at h
      cases h
      exact kk _ _ hP hS _ (lv_sub hl [0, 1, 2, 3] rfl)
    · rw [if_neg cb] at h
      refine lv_aload_n hx hb dX7_close_26 rfl (lv_at hl 0 rfl) ?_
      refine lv_iload_n hx hb dX7_close_27 rfl (lv_at hl 1 rfl) ?_
      refine lv_aload_n hx hb dX7_close_28 rfl (lv_at hl 0 rfl) ?_
      refine lv_aload_n hx hb dX7_close_29 rfl (lv_at hl 0 rfl) ?_
      refine va_get (D := D) (ci := 6) (v := .ref (ad 5)) (C := RX7) (T := TX7) (N := 11) hx hb hts uX7_close_RX7 hown hK hP 0 rfl rfl 8 (by decide) (hts _ kX7_close_2) (fun _ h9 => h9) rfl dX7_close_30 ?_
      refine lv_bipush (v := 32) hx hb dX7_close_33 (by decide) ?_
      refine lv_iload_n hx hb dX7_close_35 rfl (lv_at hl 1 rfl) ?_
      refine lv_imul hx hb dX7_close_36 ?_
      refine lv_iload_n hx hb dX7_close_37 rfl (lv_at hl 3 rfl) ?_
      refine lv_iadd hx hb dX7_close_38 ?_
      obtain ⟨gg_1, h⟩ := gd_el h
      refine va_iald hx hb hK hP 5 0 rfl rfl (inb_in gg_1) dX7_close_39 ?_
      refine lv_aload_n hx hb dX7_close_40 rfl (lv_at hl 0 rfl) ?_
      refine va_get (D := D) (ci := 6) (v := .ref (ad 5)) (C := RX7) (T := TX7) (N := 11) hx hb hts uX7_close_RX7 hown hK hP 0 rfl rfl 8 (by decide) (hts _ kX7_close_2) (fun _ h9 => h9) rfl dX7_close_41 ?_
      refine lv_bipush (v := 32) hx hb dX7_close_44 (by decide) ?_
      refine lv_iload_n hx hb dX7_close_46 rfl (lv_at hl 2 rfl) ?_
      refine lv_imul hx hb dX7_close_47 ?_
      refine lv_iload hx hb dX7_close_48 (lv_at hl 4 rfl) ?_
      refine lv_iadd hx hb dX7_close_50 ?_
      obtain ⟨gg_2, h⟩ := gd_el h
      refine va_iald hx hb hK hP 5 0 rfl rfl (inb_in gg_2) dX7_close_51 ?_
      obtain ⟨zr, now_1, hc, h⟩ := bd2_el h
      refine tg_cMi (va_runV (As := [.int (makers (Int32.toNatClampNeg ((32 * zx1) + zx3))), .int (makers (Int32.toNatClampNeg ((32 * zx2) + zx4)))]) (rest := [.int zx1, .ref (ad 0)]) ⟨hx, hb, hml, hown, hts⟩ (qX7_carried l D cI cZ ad n many image turn shelf groups inn now makers makerMany queue (makers (Int32.toNatClampNeg ((32 * zx1) + zx3))) (makers (Int32.toNatClampNeg ((32 * zx2) + zx4))) F zr now_1 hc) (cwV 2 hts gX7_close_X7_carried rfl rfl rfl zVX7_carried ⟨Nat.le_of_ble_eq_true rfl, Nat.le_of_ble_eq_true rfl⟩) (tg_preVM (r := (RX7, TX7, 11)) (ci := 6) (q0 := 0) hP (hDD _ rfl) hK hN rfl rfl) rfl rfl hl.1 rfl (lv_room (Nat.le_of_ble_eq_true rfl)) dX7_close_52 ⟨Nat.zero_le _, Nat.zero_le _⟩) hS (tg_inA (hDD _ rfl)) (fun zH zlocs _ hP hS => ?_)
      obtain ⟨inn_1, now_2, makers_1, makerMany_1, queue_1, hc_1, h⟩ := bd5_el h
      refine tg_cMv (va_runV (As := [.int zx1, .int zr]) (rest := []) ⟨hx, hb, hml, hown, hts⟩ (qX7_join l D cI cZ ad n many image turn shelf groups inn now_1 makers makerMany queue zx1 zr F inn_1 now_2 makers_1 makerMany_1 queue_1 hc_1) (cwV 2 hts gX7_close_X7_join rfl rfl rfl zVX7_join ⟨Nat.le_of_ble_eq_true rfl, Nat.le_of_ble_eq_true rfl⟩) (tg_preVM (r := (RX7, TX7, 11)) (ci := 6) (q0 := 0) hP (hDD _ rfl) hK hN rfl rfl) rfl rfl hl.1 rfl (lv_room (Nat.le_of_ble_eq_true rfl)) dX7_close_55 ⟨Nat.zero_le _, Nat.zero_le _⟩) hS (tg_inA (hDD _ rfl)) (fun zH zlocs _ hP hS => ?_)
      refine lv_iinc (v := (zx4 + 1)) (lv' := [(4, .int (zx4 + 1)), (0, .ref (ad 0)), (1, .int zx1), (2, .int zx2), (3, .int zx3)]) hx hb dX7_close_58 hl (k := 4) rfl rfl (by decide) rfl (fun zls hl => ?_)
      refine lv_goto (tgt := 15) hx hb dX7_close_61 (by decide) ?_
      exact ih _ _ _ _ _ _ _ _ _ _ _ h _ _ hP hS _ (lv_sub hl [1, 2, 3, 4, 0] rfl) kk
set_option maxRecDepth 100000 in
set_option maxHeartbeats 4000000 in
theorem wX7_close_L2 {p : Program} {l : Launch} {e : Env} {s : State} {m : MethodId} {zargs : Array Value} {zbelow : List Frame} {zmeth : Method} {c : Code} {D : va_G} {zQ : State → Prop} {zA : Nat → Prop} {ad : Nat → Nat} {cI cZ : ClassId} {n : Int32} {many : Int32} {image : Nat → Int32} {turn : Int32} {shelf : Nat → Int32} {groups : Int32} {zx1 : Int32} {zx2 : Int32} (C0 : tg_C p s m zmeth c zargs cX7_close RX7 wsX7_close 5 D [(cI, .int), (cZ, .boolean)]) (hDD : tg_DD zA [ad 0, ad 1, ad 2, ad 3, ad 4, ad 5, ad 6, ad 7]) (hlocks : zmeth.locks = false) (hr : zmeth.sig.returnType = none) (F : Nat) : ∀ (f : Nat) (zx3 : Int32) (inn : Nat → Int32) (now : Nat → Int32) (makers : Nat → Int32) (makerMany : Nat → Int32) (queue : Nat → Int32) (oinn : Nat → Int32) (onow : Nat → Int32) (omakers : Nat → Int32) (omakerMany : Nat → Int32) (oqueue : Nat → Int32), mX7_close_L2 F zx1 zx2 n many image f zx3 inn now makers makerMany queue = some (oinn, onow, omakers, omakerMany, oqueue) → ∀ (zH : Heap) (zlocs : List Loc), va_P D vwCl (wM cI cZ ad n many image turn shelf groups inn now makers makerMany queue) zH → va_S zA s.heap zH zlocs → ∀ (zls : Array Slot), lv_has zls 5 [(0, .ref (ad 0)), (1, .int zx1), (2, .int zx2), (3, .int zx3)] → (∀ (zH : Heap) (zlocs : List Loc), va_P D vwCl (wM cI cZ ad n many image turn shelf groups oinn onow omakers omakerMany oqueue) zH → va_S zA s.heap zH zlocs → ∀ (zls : Array Slot), lv_has zls 5 [] → W p l e ({ frames := 3, cells := 0, slots := 0, locals := 73 } : Room) s m zargs zbelow zmeth c zH zlocs 0 0 zQ (F0 m 70 zls [])) → W p l e ({ frames := 3, cells := 0, slots := 0, locals := 73 } : Room) s m zargs zbelow zmeth c zH zlocs 0 0 zQ (F0 m 2 zls []) := by
  obtain ⟨hx, hb, hml, hown, hts, hK, hN⟩ := C0
  intro f
  induction f with
  | zero => intro _ _ _ _ _ _ _ _ _ _ _ h; exact absurd (show none = some _ from h) (fun h9 => by cases h9)
  | succ f ih =>
    intro zx3 inn now makers makerMany queue oinn onow omakers omakerMany oqueue h zH zlocs hP hS zls hl kk
    rw [mX7_close_L2_s] at h
    refine lv_iload_n hx hb dX7_close_2 rfl (lv_at hl 3 rfl) ?_
    refine lv_aload_n hx hb dX7_close_3 rfl (lv_at hl 0 rfl) ?_
    refine va_get (D := D) (ci := 6) (v := .ref (ad 6)) (C := RX7) (T := TX7) (N := 11) hx hb hts uX7_close_RX7 hown hK hP 0 rfl rfl 9 (by decide) (hts _ kX7_close_1) (fun _ h9 => h9) rfl dX7_close_4 ?_
    refine lv_iload_n hx hb dX7_close_7 rfl (lv_at hl 1 rfl) ?_
    obtain ⟨gg, h⟩ := gd_el h
    refine va_iald hx hb hK hP 6 0 rfl rfl (inb_in gg) dX7_close_8 ?_
    refine lv_icmp_ge (tgt := 70) hx hb dX7_close_9 (by decide) (fun cb => ?_) (fun cb => ?_)
    · rw [if_pos cb] at h
      cases h
      exact kk _ _ hP hS _ (lv_sub hl [] rfl)
    · rw [if_neg cb] at h
      refine lv_iconst (v := 0) hx hb dX7_close_12 (by decide) ?_
      refine lv_istore (lv' := [(4, .int 0), (0, .ref (ad 0)), (1, .int zx1), (2, .int zx2), (3, .int zx3)]) hx hb dX7_close_13 hl (by decide) rfl (fun zls hl => ?_)
      obtain ⟨inn_1, now_1, makers_1, makerMany_1, queue_1, hv, h⟩ := bd5_el h
      refine wX7_close_L15 ⟨hx, hb, hml, hown, hts, hK, hN⟩ hDD hlocks hr F F _ _ _ _ _ _ _ _ _ _ _ hv _ _ hP hS _ (lv_sub hl [1, 2, 3, 4, 0] rfl) (fun zH zlocs hP hS zls hl => ?_)
      refine lv_iinc (v := (zx3 + 1)) (lv' := [(3, .int (zx3 + 1)), (0, .ref (ad 0)), (1, .int zx1), (2, .int zx2)]) hx hb dX7_close_64 hl (k := 3) rfl rfl (by decide) rfl (fun zls hl => ?_)
      refine lv_goto (tgt := 2) hx hb dX7_close_67 (by decide) ?_
      exact ih _ _ _ _ _ _ _ _ _ _ _ h _ _ hP hS _ (lv_sub hl [1, 2, 3, 0] rfl) kk
set_option maxRecDepth 100000 in
set_option maxHeartbeats 4000000 in
theorem qX7_close (l : Launch) (D : va_G) (cI : ClassId) (cZ : ClassId) (ad : Nat → Nat) (n : Int32) (many : Int32) (image : Nat → Int32) (turn : Int32) (shelf : Nat → Int32) (groups : Int32) (inn : Nat → Int32) (now : Nat → Int32) (makers : Nat → Int32) (makerMany : Nat → Int32) (queue : Nat → Int32) (zx1 : Int32) (zx2 : Int32) (F : Nat) (oinn : Nat → Int32) (onow : Nat → Int32) (omakers : Nat → Int32) (omakerMany : Nat → Int32) (oqueue : Nat → Int32) (h : mX7_close F n many image inn now makers makerMany queue zx1 zx2 = some (oinn, onow, omakers, omakerMany, oqueue)) : Met l yX7_close wsX7_close ({ frames := 3, cells := 0, slots := 0, locals := 73 } : Room) (tg_PM D [(cI, .int), (cZ, .boolean)] [.ref (ad 0), .int zx1, .int zx2] (wM cI cZ ad n many image turn shelf groups inn now makers makerMany queue)) (tg_Mv D (wM cI cZ ad n many image turn shelf groups inn now makers makerMany queue) (wM cI cZ ad n many image turn shelf groups oinn onow omakers omakerMany oqueue)) 0 0 (tg_in (wM cI cZ ad n many image turn shelf groups inn now makers makerMany queue)) := by
  refine Met.ofW (cc := cX7_close) (maxL := 5) (ret := none) (by decide) rfl ?_
  intro p e s m zargs zbelow zmeth c s₁ B hml hv
  obtain ⟨hargs, hP, hK, hN, hD0⟩ := hv
  have hx := B.exec
  have hb := B.bytes
  have hr := B.returns
  have hts := atoms_spec (ws := wsX7_close) B.pre
  have hown : s.vm.findClass RX7 = some m.cls := findClass_of_methodNamed B.named
  have hlocks := B.notSynchronized
  have hDD : tg_DD (tg_in (wM cI cZ ad n many image turn shelf groups inn now makers makerMany queue)) [ad 0, ad 1, ad 2, ad 3, ad 4, ad 5, ad 6, ad 7] := tg_DD.of (tg_D hD0) rfl
  have hS : va_S (tg_in (wM cI cZ ad n many image turn shelf groups inn now makers makerMany queue)) s.heap s.heap [] := va_S.rf
  have hl := lv_entry ([.ref (ad 0), .int zx1, .int zx2]) (n := 5) (Nat.le_of_ble_eq_true rfl)
  refine W.eq (g2 := entryFrame m ([.ref (ad 0), .int zx1, .int zx2] : List Value).toArray 5) (by rw [hargs]) ?_
  rw [lg_entry_eq]
  generalize (lg_sl ([.ref (ad 0), .int zx1, .int zx2]) ++ List.replicate (5 - (lg_sl ([.ref (ad 0), .int zx1, .int zx2])).length) Slot.unset).toArray = zls at hl ⊢
  have hl : lv_has zls 5 [(0, .ref (ad 0)), (1, .int zx1), (2, .int zx2)] := hl
  rw [mX7_close] at h
  refine lv_iconst (v := 0) hx hb dX7_close_0 (by decide) ?_
  refine lv_istore_n (lv' := [(3, .int 0), (0, .ref (ad 0)), (1, .int zx1), (2, .int zx2)]) hx hb dX7_close_1 rfl hl (by decide) rfl (fun zls hl => ?_)
  obtain ⟨inn_1, now_1, makers_1, makerMany_1, queue_1, hv, h⟩ := bd5_el h
  refine wX7_close_L2 ⟨hx, hb, hml, hown, hts, hK, hN⟩ hDD hlocks hr F F _ _ _ _ _ _ _ _ _ _ _ hv _ _ hP hS _ (lv_sub hl [1, 2, 3, 0] rfl) (fun zH zlocs hP hS zls hl => ?_)
  cases h
  exact W.vret hx hb hr (fun t ht hW => ⟨rfl, by rw [ht]; exact hP, hS.F ht⟩) hS.2.2 dX7_close_70
theorem zVX7_close : yX7_close.cls = RX7 ∧ yX7_close.cls ≠ "java/lang/invoke/MethodHandle" ∧ yX7_close.cls ≠ "java/lang/invoke/VarHandle" ∧ (parseMethodDescriptor yX7_close.desc).map (fun d => d.parameters.length) = some 2 := by decide +kernel

/-! ===== private void goDown(int); ===== -/
theorem kX7_goDown_1 : Cond.fieldLink RX7 32 "TurnGroupsModel" "makerMany" "[I" ∈ wsX7_goDown := by decide +kernel
theorem kX7_goDown_2 : Cond.fieldLink RX7 29 "TurnGroupsModel" "makers" "[I" ∈ wsX7_goDown := by decide +kernel
theorem uX7_goDown_RX7 : ∀ w ∈ u_ws RX7 TX7 11, w ∈ wsX7_goDown := by decide +kernel
def mX7_goDown_L34 (F : Nat) (zx2 : Int32) (n : Int32) (many : Int32) (image : Nat → Int32) : Nat → Int32 → (Nat → Int32) → (Nat → Int32) → (Nat → Int32) → (Nat → Int32) → (Nat → Int32) → Option ((Nat → Int32) × (Nat → Int32) × (Nat → Int32) × (Nat → Int32) × (Nat → Int32))
  | 0, _, _, _, _, _, _ => none
  | f + 1, zx3, inn, now, makers, makerMany, queue => gd (inb 10 13) (if (makerMany (Int32.toNatClampNeg 10)) ≤ zx3 then (some (inn, now, makers, makerMany, queue)) else (gd (inb (320 + zx2) 416) (lT (makers (Int32.toNatClampNeg (320 + zx2))) (fun zx4 => gd (inb (320 + zx3) 416) (lT (makers (Int32.toNatClampNeg (320 + zx3))) (fun zx5 => bd2 (mX7_backOf F n image now zx4) (fun zr now_1 => bd2 (mX7_backOf F n image now_1 zx5) (fun zr_1 now_2 => bd2 (mX7_oneThen F n image now_2 zx4 zx5) (fun zr_2 now_3 => bd2 (mX7_oneThen F n image now_3 zr_1 zr_2) (fun zr_3 now_4 => bd2 (mX7_oneThen F n image now_4 zr zr_3) (fun zr_4 now_5 => bd5 (mX7_join F n many image inn now_5 makers makerMany queue 11 zr_4) (fun inn_1 now_6 makers_1 makerMany_1 queue_1 => mX7_goDown_L34 F zx2 n many image f (zx3 + 1) inn_1 now_6 makers_1 makerMany_1 queue_1))))))))))))
theorem mX7_goDown_L34_s (F : Nat) (zx2 : Int32) (n : Int32) (many : Int32) (image : Nat → Int32) (f : Nat) (zx3 : Int32) (inn : Nat → Int32) (now : Nat → Int32) (makers : Nat → Int32) (makerMany : Nat → Int32) (queue : Nat → Int32) : mX7_goDown_L34 F zx2 n many image (f + 1) zx3 inn now makers makerMany queue = (gd (inb 10 13) (if (makerMany (Int32.toNatClampNeg 10)) ≤ zx3 then (some (inn, now, makers, makerMany, queue)) else (gd (inb (320 + zx2) 416) (lT (makers (Int32.toNatClampNeg (320 + zx2))) (fun zx4 => gd (inb (320 + zx3) 416) (lT (makers (Int32.toNatClampNeg (320 + zx3))) (fun zx5 => bd2 (mX7_backOf F n image now zx4) (fun zr now_1 => bd2 (mX7_backOf F n image now_1 zx5) (fun zr_1 now_2 => bd2 (mX7_oneThen F n image now_2 zx4 zx5) (fun zr_2 now_3 => bd2 (mX7_oneThen F n image now_3 zr_1 zr_2) (fun zr_3 now_4 => bd2 (mX7_oneThen F n image now_4 zr zr_3) (fun zr_4 now_5 => bd5 (mX7_join F n many image inn now_5 makers makerMany queue 11 zr_4) (fun inn_1 now_6 makers_1 makerMany_1 queue_1 => mX7_goDown_L34 F zx2 n many image f (zx3 + 1) inn_1 now_6 makers_1 makerMany_1 queue_1))))))))))))) := rfl
def mX7_goDown_L21 (F : Nat) (n : Int32) (many : Int32) (image : Nat → Int32) : Nat → Int32 → (Nat → Int32) → (Nat → Int32) → (Nat → Int32) → (Nat → Int32) → (Nat → Int32) → Option ((Nat → Int32) × (Nat → Int32) × (Nat → Int32) × (Nat → Int32) × (Nat → Int32))
  | 0, _, _, _, _, _, _ => none
  | f + 1, zx2, inn, now, makers, makerMany, queue => gd (inb 10 13) (if (makerMany (Int32.toNatClampNeg 10)) ≤ zx2 then (some (inn, now, makers, makerMany, queue)) else (bd5 (mX7_goDown_L34 F zx2 n many image F 0 inn now makers makerMany queue) (fun inn_1 now_1 makers_1 makerMany_1 queue_1 => mX7_goDown_L21 F n many image f (zx2 + 1) inn_1 now_1 makers_1 makerMany_1 queue_1)))
theorem mX7_goDown_L21_s (F : Nat) (n : Int32) (many : Int32) (image : Nat → Int32) (f : Nat) (zx2 : Int32) (inn : Nat → Int32) (now : Nat → Int32) (makers : Nat → Int32) (makerMany : Nat → Int32) (queue : Nat → Int32) : mX7_goDown_L21 F n many image (f + 1) zx2 inn now makers makerMany queue = (gd (inb 10 13) (if (makerMany (Int32.toNatClampNeg 10)) ≤ zx2 then (some (inn, now, makers, makerMany, queue)) else (bd5 (mX7_goDown_L34 F zx2 n many image F 0 inn now makers makerMany queue) (fun inn_1 now_1 makers_1 makerMany_1 queue_1 => mX7_goDown_L21 F n many image f (zx2 + 1) inn_1 now_1 makers_1 makerMany_1 queue_1)))) := rfl
def mX7_goDown (F : Nat) (n : Int32) (many : Int32) (image : Nat → Int32) (inn : Nat → Int32) (now : Nat → Int32) (makers : Nat → Int32) (makerMany : Nat → Int32) (queue : Nat → Int32) (zx1 : Int32) : Option ((Nat → Int32) × (Nat → Int32) × (Nat → Int32) × (Nat → Int32) × (Nat → Int32)) := bd2 (mX7_begin F many inn makerMany 10) (fun inn_1 makerMany_1 => bd5 (mX7_joinAll F n many image inn_1 now makers makerMany_1 queue 10 zx1) (fun inn_2 now_1 makers_1 makerMany_2 queue_1 => bd2 (mX7_begin F many inn_2 makerMany_2 11) (fun inn_3 makerMany_3 => bd5 (mX7_goDown_L21 F n many image F 0 inn_3 now_1 makers_1 makerMany_3 queue_1) (fun inn_4 now_2 makers_2 makerMany_4 queue_2 => bd5 (mX7_close F n many image inn_4 now_2 makers_2 makerMany_4 queue_2 11 10) (fun inn_5 now_3 makers_3 makerMany_5 queue_3 => some (inn_5, now_3, makers_3, makerMany_5, queue_3))))))
set_option maxRecDepth 100000 in
set_option maxHeartbeats 4000000 in
theorem wX7_goDown_L34 {p : Program} {l : Launch} {e : Env} {s : State} {m : MethodId} {zargs : Array Value} {zbelow : List Frame} {zmeth : Method} {c : Code} {D : va_G} {zQ : State → Prop} {zA : Nat → Prop} {ad : Nat → Nat} {cI cZ : ClassId} {n : Int32} {many : Int32} {image : Nat → Int32} {turn : Int32} {shelf : Nat → Int32} {groups : Int32} {zx2 : Int32} (C0 : tg_C p s m zmeth c zargs cX7_goDown RX7 wsX7_goDown 6 D [(cI, .int), (cZ, .boolean)]) (hDD : tg_DD zA [ad 0, ad 1, ad 2, ad 3, ad 4, ad 5, ad 6, ad 7]) (hlocks : zmeth.locks = false) (hr : zmeth.sig.returnType = none) (F : Nat) : ∀ (f : Nat) (zx3 : Int32) (inn : Nat → Int32) (now : Nat → Int32) (makers : Nat → Int32) (makerMany : Nat → Int32) (queue : Nat → Int32) (oinn : Nat → Int32) (onow : Nat → Int32) (omakers : Nat → Int32) (omakerMany : Nat → Int32) (oqueue : Nat → Int32), mX7_goDown_L34 F zx2 n many image f zx3 inn now makers makerMany queue = some (oinn, onow, omakers, omakerMany, oqueue) → ∀ (zH : Heap) (zlocs : List Loc), va_P D vwCl (wM cI cZ ad n many image turn shelf groups inn now makers makerMany queue) zH → va_S zA s.heap zH zlocs → ∀ (zls : Array Slot), lv_has zls 6 [(0, .ref (ad 0)), (2, .int zx2), (3, .int zx3)] → (∀ (zH : Heap) (zlocs : List Loc), va_P D vwCl (wM cI cZ ad n many image turn shelf groups oinn onow omakers omakerMany oqueue) zH → va_S zA s.heap zH zlocs → ∀ (zls : Array Slot), lv_has zls 6 [(0, .ref (ad 0)), (2, .int zx2)] → W p l e ({ frames := 4, cells := 0, slots := 0, locals := 97 } : Room) s m zargs zbelow zmeth c zH zlocs 0 0 zQ (F0 m 109 zls [])) → W p l e ({ frames := 4, cells := 0, slots := 0, locals := 97 } : Room) s m zargs zbelow zmeth c zH zlocs 0 0 zQ (F0 m 34 zls []) := by
  obtain ⟨hx, hb, hml, hown, hts, hK, hN⟩ := C0
  intro f
  induction f with
  | zero => intro _ _ _ _ _ _ _ _ _ _ _ h; exact absurd (show none = some _ from h) (fun h9 => by cases h9)
  | succ f ih =>
    intro zx3 inn now makers makerMany queue oinn onow omakers omakerMany oqueue h zH zlocs hP hS zls hl kk
    rw [mX7_goDown_L34_s] at h
    refine lv_iload_n hx hb dX7_goDown_34 rfl (lv_at hl 2 rfl) ?_
    refine lv_aload_n hx hb dX7_goDown_35 rfl (lv_at hl 0 rfl) ?_
    refine va_get (D := D) (ci := 6) (v := .ref (ad 6)) (C := RX7) (T := TX7) (N := 11) hx hb hts uX7_goDown_RX7 hown hK hP 0 rfl rfl 9 (by decide) (hts _ kX7_goDown_1) (fun _ h9 => h9) rfl dX7_goDown_36 ?_
    refine lv_bipush (v := 10) hx hb dX7_goDown_39 (by decide) ?_
    obtain ⟨gg, h⟩ := gd_el h
    refine va_iald hx hb hK hP 6 0 rfl rfl (inb_in gg) dX7_goDown_41 ?_
    refine lv_icmp_ge (tgt := 109) hx hb dX7_goDown_42 (by decide) (fun cb => ?_) (fun cb => ?_)
    · rw [if_pos cb] at h
      cases h
      exact kk _ _ hP hS _ (lv_sub hl [0, 1] rfl)
    · rw [if_neg cb] at h
      refine lv_aload_n hx hb dX7_goDown_45 rfl (lv_at hl 0 rfl) ?_
      refine va_get (D := D) (ci := 6) (v := .ref (ad 5)) (C := RX7) (T := TX7) (N := 11) hx hb hts uX7_goDown_RX7 hown hK hP 0 rfl rfl 8 (by decide) (hts _ kX7_goDown_2) (fun _ h9 => h9) rfl dX7_goDown_46 ?_
      refine lv_sipush (v := 320) hx hb dX7_goDown_49 (by decide) ?_
      refine lv_iload_n hx hb dX7_goDown_52 rfl (lv_at hl 1 rfl) ?_
      refine lv_iadd hx hb dX7_goDown_53 ?_
      obtain ⟨gg_1, h⟩ := gd_el h
      refine va_iald hx hb hK hP 5 0 rfl rfl (inb_in gg_1) dX7_goDown_54 ?_
      obtain ⟨zx4, ex4, h⟩ := lT_el h
      refine tg_top ex4 ?_
      refine lv_istore (lv' := [(4, .int zx4), (0, .ref (ad 0)), (2, .int zx2), (3, .int zx3)]) hx hb dX7_goDown_55 hl (by decide) rfl (fun zls hl => ?_)
      refine lv_aload_n hx hb dX7_goDown_57 rfl (lv_at hl 1 rfl) ?_
      refine va_get (D := D) (ci := 6) (v := .ref (ad 5)) (C := RX7) (T := TX7) (N := 11) hx hb hts uX7_goDown_RX7 hown hK hP 0 rfl rfl 8 (by decide) (hts _ kX7_goDown_2) (fun _ h9 => h9) rfl dX7_goDown_58 ?_
      refine lv_sipush (v := 320) hx hb dX7_goDown_61 (by decide) ?_
      refine lv_iload_n hx hb dX7_goDown_64 rfl (lv_at hl 3 rfl) ?_
      refine lv_iadd hx hb dX7_goDown_65 ?_
      obtain ⟨gg_2, h⟩ := gd_el h
      refine va_iald hx hb hK hP 5 0 rfl rfl (inb_in gg_2) dX7_goDown_66 ?_
      obtain ⟨zx5, ex5, h⟩ := lT_el h
      refine tg_top ex5 ?_
      refine lv_istore (lv' := [(5, .int zx5), (4, .int zx4), (0, .ref (ad 0)), (2, .int zx2), (3, .int zx3)]) hx hb dX7_goDown_67 hl (by decide) rfl (fun zls hl => ?_)
      refine lv_aload_n hx hb dX7_goDown_69 rfl (lv_at hl 2 rfl) ?_
      refine lv_bipush (v := 11) hx hb dX7_goDown_70 (by decide) ?_
      refine lv_aload_n hx hb dX7_goDown_72 rfl (lv_at hl 2 rfl) ?_
      refine lv_aload_n hx hb dX7_goDown_73 rfl (lv_at hl 2 rfl) ?_
      refine lv_iload hx hb dX7_goDown_74 (lv_at hl 1 rfl) ?_
      obtain ⟨zr, now_1, hc, h⟩ := bd2_el h
      refine tg_cMi (va_runV (As := [.int zx4]) (rest := [.ref (ad 0), .int 11, .ref (ad 0)]) ⟨hx, hb, hml, hown, hts⟩ (qX7_backOf l D cI cZ ad n many image turn shelf groups inn now makers makerMany queue zx4 F zr now_1 hc) (cwV 1 hts gX7_goDown_X7_backOf rfl rfl rfl zVX7_backOf ⟨Nat.le_of_ble_eq_true rfl, Nat.le_of_ble_eq_true rfl⟩) (tg_preVM (r := (RX7, TX7, 11)) (ci := 6) (q0 := 0) hP (hDD _ rfl) hK hN rfl rfl) rfl rfl hl.1 rfl (lv_room (Nat.le_of_ble_eq_true rfl)) dX7_goDown_76 ⟨Nat.zero_le _, Nat.zero_le _⟩) hS (tg_inA (hDD _ rfl)) (fun zH zlocs _ hP hS => ?_)
      refine lv_aload_n hx hb dX7_goDown_79 rfl (lv_at hl 2 rfl) ?_
      refine lv_aload_n hx hb dX7_goDown_80 rfl (lv_at hl 2 rfl) ?_
      refine lv_iload hx hb dX7_goDown_81 (lv_at hl 0 rfl) ?_
      obtain ⟨zr_1, now_2, hc_1, h⟩ := bd2_el h
      refine tg_cMi (va_runV (As := [.int zx5]) (rest := [.ref (ad 0), .int zr, .ref (ad 0), .int 11, .ref (ad 0)]) ⟨hx, hb, hml, hown, hts⟩ (qX7_backOf l D cI cZ ad n many image turn shelf groups inn now_1 makers makerMany queue zx5 F zr_1 now_2 hc_1) (cwV 1 hts gX7_goDown_X7_backOf rfl rfl rfl zVX7_backOf ⟨Nat.le_of_ble_eq_true rfl, Nat.le_of_ble_eq_true rfl⟩) (tg_preVM (r := (RX7, TX7, 11)) (ci := 6) (q0 := 0) hP (hDD _ rfl) hK hN rfl rfl) rfl rfl hl.1 rfl (lv_room (Nat.le_of_ble_eq_true rfl)) dX7_goDown_83 ⟨Nat.zero_le _, Nat.zero_le _⟩) hS (tg_inA (hDD _ rfl)) (fun zH zlocs _ hP hS => ?_)
      refine lv_aload_n hx hb dX7_goDown_86 rfl (lv_at hl 2 rfl) ?_
      refine lv_iload hx hb dX7_goDown_87 (lv_at hl 1 rfl) ?_
      refine lv_iload hx hb dX7_goDown_89 (lv_at hl 0 rfl) ?_
      obtain ⟨zr_2, now_3, hc_2, h⟩ := bd2_el h
      refine tg_cMi (va_runV (As := [.int zx4, .int zx5]) (rest := [.int zr_1, .ref (ad 0), .int zr, .ref (ad 0), .int 11, .ref (ad 0)]) ⟨hx, hb, hml, hown, hts⟩ (qX7_oneThen l D cI cZ ad n many image turn shelf groups inn now_2 makers makerMany queue zx4 zx5 F zr_2 now_3 hc_2) (cwV 2 hts gX7_goDown_X7_oneThen rfl rfl rfl zVX7_oneThen ⟨Nat.le_of_ble_eq_true rfl, Nat.le_of_ble_eq_true rfl⟩) (tg_preVM (r := (RX7, TX7, 11)) (ci := 6) (q0 := 0) hP (hDD _ rfl) hK hN rfl rfl) rfl rfl hl.1 rfl (lv_room (Nat.le_of_ble_eq_true rfl)) dX7_goDown_91 ⟨Nat.zero_le _, Nat.zero_le _⟩) hS (tg_inA (hDD _ rfl)) (fun zH zlocs _ hP hS => ?_)
      obtain ⟨zr_3, now_4, hc_3, h⟩ := bd2_el h
      refine tg_cMi (va_runV (As := [.int zr_1, .int zr_2]) (rest := [.int zr, .ref (ad 0), .int 11, .ref (ad 0)]) ⟨hx, hb, hml, hown, hts⟩ (qX7_oneThen l D cI cZ ad n many image turn shelf groups inn now_3 makers makerMany queue zr_1 zr_2 F zr_3 now_4 hc_3) (cwV 2 hts gX7_goDown_X7_oneThen rfl rfl rfl zVX7_oneThen ⟨Nat.le_of_ble_eq_true rfl, Nat.le_of_ble_eq_true rfl⟩) (tg_preVM (r := (RX7, TX7, 11)) (ci := 6) (q0 := 0) hP (hDD _ rfl) hK hN rfl rfl) rfl rfl hl.1 rfl (lv_room (Nat.le_of_ble_eq_true rfl)) dX7_goDown_94 ⟨Nat.zero_le _, Nat.zero_le _⟩) hS (tg_inA (hDD _ rfl)) (fun zH zlocs _ hP hS => ?_)
      obtain ⟨zr_4, now_5, hc_4, h⟩ := bd2_el h
      refine tg_cMi (va_runV (As := [.int zr, .int zr_3]) (rest := [.int 11, .ref (ad 0)]) ⟨hx, hb, hml, hown, hts⟩ (qX7_oneThen l D cI cZ ad n many image turn shelf groups inn now_4 makers makerMany queue zr zr_3 F zr_4 now_5 hc_4) (cwV 2 hts gX7_goDown_X7_oneThen rfl rfl rfl zVX7_oneThen ⟨Nat.le_of_ble_eq_true rfl, Nat.le_of_ble_eq_true rfl⟩) (tg_preVM (r := (RX7, TX7, 11)) (ci := 6) (q0 := 0) hP (hDD _ rfl) hK hN rfl rfl) rfl rfl hl.1 rfl (lv_room (Nat.le_of_ble_eq_true rfl)) dX7_goDown_97 ⟨Nat.zero_le _, Nat.zero_le _⟩) hS (tg_inA (hDD _ rfl)) (fun zH zlocs _ hP hS => ?_)
      obtain ⟨inn_1, now_6, makers_1, makerMany_1, queue_1, hc_5, h⟩ := bd5_el h
      refine tg_cMv (va_runV (As := [.int 11, .int zr_4]) (rest := []) ⟨hx, hb, hml, hown, hts⟩ (qX7_join l D cI cZ ad n many image turn shelf groups inn now_5 makers makerMany queue 11 zr_4 F inn_1 now_6 makers_1 makerMany_1 queue_1 hc_5) (cwV 2 hts gX7_goDown_X7_join rfl rfl rfl zVX7_join ⟨Nat.le_of_ble_eq_true rfl, Nat.le_of_ble_eq_true rfl⟩) (tg_preVM (r := (RX7, TX7, 11)) (ci := 6) (q0 := 0) hP (hDD _ rfl) hK hN rfl rfl) rfl rfl hl.1 rfl (lv_room (Nat.le_of_ble_eq_true rfl)) dX7_goDown_100 ⟨Nat.zero_le _, Nat.zero_le _⟩) hS (tg_inA (hDD _ rfl)) (fun zH zlocs _ hP hS => ?_)
      refine lv_iinc (v := (zx3 + 1)) (lv' := [(3, .int (zx3 + 1)), (5, .int zx5), (4, .int zx4), (0, .ref (ad 0)), (2, .int zx2)]) hx hb dX7_goDown_103 hl (k := 4) rfl rfl (by decide) rfl (fun zls hl => ?_)
      refine lv_goto (tgt := 34) hx hb dX7_goDown_106 (by decide) ?_
      exact ih _ _ _ _ _ _ _ _ _ _ _ h _ _ hP hS _ (lv_sub hl [3, 4, 0] rfl) kk
set_option maxRecDepth 100000 in
set_option maxHeartbeats 4000000 in
theorem wX7_goDown_L21 {p : Program} {l : Launch} {e : Env} {s : State} {m : MethodId} {zargs : Array Value} {zbelow : List Frame} {zmeth : Method} {c : Code} {D : va_G} {zQ : State → Prop} {zA : Nat → Prop} {ad : Nat → Nat} {cI cZ : ClassId} {n : Int32} {many : Int32} {image : Nat → Int32} {turn : Int32} {shelf : Nat → Int32} {groups : Int32} (C0 : tg_C p s m zmeth c zargs cX7_goDown RX7 wsX7_goDown 6 D [(cI, .int), (cZ, .boolean)]) (hDD : tg_DD zA [ad 0, ad 1, ad 2, ad 3, ad 4, ad 5, ad 6, ad 7]) (hlocks : zmeth.locks = false) (hr : zmeth.sig.returnType = none) (F : Nat) : ∀ (f : Nat) (zx2 : Int32) (inn : Nat → Int32) (now : Nat → Int32) (makers : Nat → Int32) (makerMany : Nat → Int32) (queue : Nat → Int32) (oinn : Nat → Int32) (onow : Nat → Int32) (omakers : Nat → Int32) (omakerMany : Nat → Int32) (oqueue : Nat → Int32), mX7_goDown_L21 F n many image f zx2 inn now makers makerMany queue = some (oinn, onow, omakers, omakerMany, oqueue) → ∀ (zH : Heap) (zlocs : List Loc), va_P D vwCl (wM cI cZ ad n many image turn shelf groups inn now makers makerMany queue) zH → va_S zA s.heap zH zlocs → ∀ (zls : Array Slot), lv_has zls 6 [(0, .ref (ad 0)), (2, .int zx2)] → (∀ (zH : Heap) (zlocs : List Loc), va_P D vwCl (wM cI cZ ad n many image turn shelf groups oinn onow omakers omakerMany oqueue) zH → va_S zA s.heap zH zlocs → ∀ (zls : Array Slot), lv_has zls 6 [(0, .ref (ad 0))] → W p l e ({ frames := 4, cells := 0, slots := 0, locals := 97 } : Room) s m zargs zbelow zmeth c zH zlocs 0 0 zQ (F0 m 115 zls [])) → W p l e ({ frames := 4, cells := 0, slots := 0, locals := 97 } : Room) s m zargs zbelow zmeth c zH zlocs 0 0 zQ (F0 m 21 zls []) := by
  obtain ⟨hx, hb, hml, hown, hts, hK, hN⟩ := C0
  intro f
  induction f with
  | zero => intro _ _ _ _ _ _ _ _ _ _ _ h; exact absurd (show none = some _ from h) (fun h9 => by cases h9)
  | succ f ih =>
    intro zx2 inn now makers makerMany queue oinn onow omakers omakerMany oqueue h zH zlocs hP hS zls hl kk
    rw [mX7_goDown_L21_s] at h
    refine lv_iload_n hx hb dX7_goDown_21 rfl (lv_at hl 1 rfl) ?_
    refine lv_aload_n hx hb dX7_goDown_22 rfl (lv_at hl 0 rfl) ?_
    refine va_get (D := D) (ci := 6) (v := .ref (ad 6)) (C := RX7) (T := TX7) (N := 11) hx hb hts uX7_goDown_RX7 hown hK hP 0 rfl rfl 9 (by decide) (hts _ kX7_goDown_1) (fun _ h9 => h9) rfl dX7_goDown_23 ?_
    refine lv_bipush (v := 10) hx hb dX7_goDown_26 (by decide) ?_
    obtain ⟨gg, h⟩ := gd_el h
    refine va_iald hx hb hK hP 6 0 rfl rfl (inb_in gg) dX7_goDown_28 ?_
    refine lv_icmp_ge (tgt := 115) hx hb dX7_goDown_29 (by decide) (fun cb => ?_) (fun cb => ?_)
    · rw [if_pos cb] at h
      cases h
      exact kk _ _ hP hS _ (lv_sub hl [0] rfl)
    · rw [if_neg cb] at h
      refine lv_iconst (v := 0) hx hb dX7_goDown_32 (by decide) ?_
      refine lv_istore_n (lv' := [(3, .int 0), (0, .ref (ad 0)), (2, .int zx2)]) hx hb dX7_goDown_33 rfl hl (by decide) rfl (fun zls hl => ?_)
      obtain ⟨inn_1, now_1, makers_1, makerMany_1, queue_1, hv, h⟩ := bd5_el h
      refine wX7_goDown_L34 ⟨hx, hb, hml, hown, hts, hK, hN⟩ hDD hlocks hr F F _ _ _ _ _ _ _ _ _ _ _ hv _ _ hP hS _ (lv_sub hl [1, 2, 0] rfl) (fun zH zlocs hP hS zls hl => ?_)
      refine lv_iinc (v := (zx2 + 1)) (lv' := [(2, .int (zx2 + 1)), (0, .ref (ad 0))]) hx hb dX7_goDown_109 hl (k := 1) rfl rfl (by decide) rfl (fun zls hl => ?_)
      refine lv_goto (tgt := 21) hx hb dX7_goDown_112 (by decide) ?_
      exact ih _ _ _ _ _ _ _ _ _ _ _ h _ _ hP hS _ (lv_sub hl [1, 0] rfl) kk
set_option maxRecDepth 100000 in
set_option maxHeartbeats 4000000 in
theorem qX7_goDown (l : Launch) (D : va_G) (cI : ClassId) (cZ : ClassId) (ad : Nat → Nat) (n : Int32) (many : Int32) (image : Nat → Int32) (turn : Int32) (shelf : Nat → Int32) (groups : Int32) (inn : Nat → Int32) (now : Nat → Int32) (makers : Nat → Int32) (makerMany : Nat → Int32) (queue : Nat → Int32) (zx1 : Int32) (F : Nat) (oinn : Nat → Int32) (onow : Nat → Int32) (omakers : Nat → Int32) (omakerMany : Nat → Int32) (oqueue : Nat → Int32) (h : mX7_goDown F n many image inn now makers makerMany queue zx1 = some (oinn, onow, omakers, omakerMany, oqueue)) : Met l yX7_goDown wsX7_goDown ({ frames := 4, cells := 0, slots := 0, locals := 97 } : Room) (tg_PM D [(cI, .int), (cZ, .boolean)] [.ref (ad 0), .int zx1] (wM cI cZ ad n many image turn shelf groups inn now makers makerMany queue)) (tg_Mv D (wM cI cZ ad n many image turn shelf groups inn now makers makerMany queue) (wM cI cZ ad n many image turn shelf groups oinn onow omakers omakerMany oqueue)) 0 0 (tg_in (wM cI cZ ad n many image turn shelf groups inn now makers makerMany queue)) := by
  refine Met.ofW (cc := cX7_goDown) (maxL := 6) (ret := none) (by decide) rfl ?_
  intro p e s m zargs zbelow zmeth c s₁ B hml hv
  obtain ⟨hargs, hP, hK, hN, hD0⟩ := hv
  have hx := B.exec
  have hb := B.bytes
  have hr := B.returns
  have hts := atoms_spec (ws := wsX7_goDown) B.pre
  have hown : s.vm.findClass RX7 = some m.cls := findClass_of_methodNamed B.named
  have hlocks := B.notSynchronized
  have hDD : tg_DD (tg_in (wM cI cZ ad n many image turn shelf groups inn now makers makerMany queue)) [ad 0, ad 1, ad 2, ad 3, ad 4, ad 5, ad 6, ad 7] := tg_DD.of (tg_D hD0) rfl
  have hS : va_S (tg_in (wM cI cZ ad n many image turn shelf groups inn now makers makerMany queue)) s.heap s.heap [] := va_S.rf
  have hl := lv_entry ([.ref (ad 0), .int zx1]) (n := 6) (Nat.le_of_ble_eq_true rfl)
  refine W.eq (g2 := entryFrame m ([.ref (ad 0), .int zx1] : List Value).toArray 6) (by rw [hargs]) ?_
  rw [lg_entry_eq]
  generalize (lg_sl ([.ref (ad 0), .int zx1]) ++ List.replicate (6 - (lg_sl ([.ref (ad 0), .int zx1])).length) Slot.unset).toArray = zls at hl ⊢
  have hl : lv_has zls 6 [(0, .ref (ad 0)), (1, .int zx1)] := hl
  rw [mX7_goDown] at h
  refine lv_aload_n hx hb dX7_goDown_0 rfl (lv_at hl 0 rfl) ?_
  refine lv_bipush (v := 10) hx hb dX7_goDown_1 (by decide) ?_
  obtain ⟨inn_1, makerMany_1, hc, h⟩ := bd2_el h
  refine tg_cMv (va_runV (As := [.int 10]) (rest := []) ⟨hx, hb, hml, hown, hts⟩ (qX7_begin l D cI cZ ad n many image turn shelf groups inn now makers makerMany queue 10 F inn_1 makerMany_1 hc) (cwV 1 hts gX7_goDown_X7_begin rfl rfl rfl zVX7_begin ⟨Nat.le_of_ble_eq_true rfl, Nat.le_of_ble_eq_true rfl⟩) (tg_preVM (r := (RX7, TX7, 11)) (ci := 6) (q0 := 0) hP (hDD _ rfl) hK hN rfl rfl) rfl rfl hl.1 rfl (lv_room (Nat.le_of_ble_eq_true rfl)) dX7_goDown_3 ⟨Nat.zero_le _, Nat.zero_le _⟩) hS (tg_inA (hDD _ rfl)) (fun zH zlocs _ hP hS => ?_)
  refine lv_aload_n hx hb dX7_goDown_6 rfl (lv_at hl 0 rfl) ?_
  refine lv_bipush (v := 10) hx hb dX7_goDown_7 (by decide) ?_
  refine lv_iload_n hx hb dX7_goDown_9 rfl (lv_at hl 1 rfl) ?_
  obtain ⟨inn_2, now_1, makers_1, makerMany_2, queue_1, hc_1, h⟩ := bd5_el h
  refine tg_cMv (va_runV (As := [.int 10, .int zx1]) (rest := []) ⟨hx, hb, hml, hown, hts⟩ (qX7_joinAll l D cI cZ ad n many image turn shelf groups inn_1 now makers makerMany_1 queue 10 zx1 F inn_2 now_1 makers_1 makerMany_2 queue_1 hc_1) (cwV 2 hts gX7_goDown_X7_joinAll rfl rfl rfl zVX7_joinAll ⟨Nat.le_of_ble_eq_true rfl, Nat.le_of_ble_eq_true rfl⟩) (tg_preVM (r := (RX7, TX7, 11)) (ci := 6) (q0 := 0) hP (hDD _ rfl) hK hN rfl rfl) rfl rfl hl.1 rfl (lv_room (Nat.le_of_ble_eq_true rfl)) dX7_goDown_10 ⟨Nat.zero_le _, Nat.zero_le _⟩) hS (tg_inA (hDD _ rfl)) (fun zH zlocs _ hP hS => ?_)
  refine lv_aload_n hx hb dX7_goDown_13 rfl (lv_at hl 0 rfl) ?_
  refine lv_bipush (v := 11) hx hb dX7_goDown_14 (by decide) ?_
  obtain ⟨inn_3, makerMany_3, hc_2, h⟩ := bd2_el h
  refine tg_cMv (va_runV (As := [.int 11]) (rest := []) ⟨hx, hb, hml, hown, hts⟩ (qX7_begin l D cI cZ ad n many image turn shelf groups inn_2 now_1 makers_1 makerMany_2 queue_1 11 F inn_3 makerMany_3 hc_2) (cwV 1 hts gX7_goDown_X7_begin rfl rfl rfl zVX7_begin ⟨Nat.le_of_ble_eq_true rfl, Nat.le_of_ble_eq_true rfl⟩) (tg_preVM (r := (RX7, TX7, 11)) (ci := 6) (q0 := 0) hP (hDD _ rfl) hK hN rfl rfl) rfl rfl hl.1 rfl (lv_room (Nat.le_of_ble_eq_true rfl)) dX7_goDown_16 ⟨Nat.zero_le _, Nat.zero_le _⟩) hS (tg_inA (hDD _ rfl)) (fun zH zlocs _ hP hS => ?_)
  refine lv_iconst (v := 0) hx hb dX7_goDown_19 (by decide) ?_
  refine lv_istore_n (lv' := [(2, .int 0), (0, .ref (ad 0)), (1, .int zx1)]) hx hb dX7_goDown_20 rfl hl (by decide) rfl (fun zls hl => ?_)
  obtain ⟨inn_4, now_2, makers_2, makerMany_4, queue_2, hv, h⟩ := bd5_el h
  refine wX7_goDown_L21 ⟨hx, hb, hml, hown, hts, hK, hN⟩ hDD hlocks hr F F _ _ _ _ _ _ _ _ _ _ _ hv _ _ hP hS _ (lv_sub hl [1, 0] rfl) (fun zH zlocs hP hS zls hl => ?_)
  refine lv_aload_n hx hb dX7_goDown_115 rfl (lv_at hl 0 rfl) ?_
  refine lv_bipush (v := 11) hx hb dX7_goDown_116 (by decide) ?_
  refine lv_bipush (v := 10) hx hb dX7_goDown_118 (by decide) ?_
  obtain ⟨inn_5, now_3, makers_3, makerMany_5, queue_3, hc_3, h⟩ := bd5_el h
  refine tg_cMv (va_runV (As := [.int 11, .int 10]) (rest := []) ⟨hx, hb, hml, hown, hts⟩ (qX7_close l D cI cZ ad n many image turn shelf groups inn_4 now_2 makers_2 makerMany_4 queue_2 11 10 F inn_5 now_3 makers_3 makerMany_5 queue_3 hc_3) (cwV 2 hts gX7_goDown_X7_close rfl rfl rfl zVX7_close ⟨Nat.le_of_ble_eq_true rfl, Nat.le_of_ble_eq_true rfl⟩) (tg_preVM (r := (RX7, TX7, 11)) (ci := 6) (q0 := 0) hP (hDD _ rfl) hK hN rfl rfl) rfl rfl hl.1 rfl (lv_room (Nat.le_of_ble_eq_true rfl)) dX7_goDown_120 ⟨Nat.zero_le _, Nat.zero_le _⟩) hS (tg_inA (hDD _ rfl)) (fun zH zlocs _ hP hS => ?_)
  cases h
  exact W.vret hx hb hr (fun t ht hW => ⟨rfl, by rw [ht]; exact hP, hS.F ht⟩) hS.2.2 dX7_goDown_123
theorem zVX7_goDown : yX7_goDown.cls = RX7 ∧ yX7_goDown.cls ≠ "java/lang/invoke/MethodHandle" ∧ yX7_goDown.cls ≠ "java/lang/invoke/VarHandle" ∧ (parseMethodDescriptor yX7_goDown.desc).map (fun d => d.parameters.length) = some 1 := by decide +kernel

/-! ===== private int newGroup(int); ===== -/
theorem kX7_newGroup_1 : Cond.fieldLink RX7 61 "TurnGroupsModel" "groups" "I" ∈ wsX7_newGroup := by decide +kernel
theorem uX7_newGroup_RX7 : ∀ w ∈ u_ws RX7 TX7 11, w ∈ wsX7_newGroup := by decide +kernel
def mX7_newGroup (F : Nat) (many : Int32) (groups : Int32) (inn : Nat → Int32) (zx1 : Int32) : Option (Int32 × Int32 × (Nat → Int32)) := bd (if zx1 < 0 then (some inn) else (bd (mX7_copy F many inn zx1 groups) (fun inn_2 => some inn_2))) (fun inn_1 => lT (groups + 1) (fun groups_1 => some ((groups_1 - 1), groups_1, inn_1)))
set_option maxRecDepth 100000 in
set_option maxHeartbeats 4000000 in
theorem qX7_newGroup (l : Launch) (D : va_G) (cI : ClassId) (cZ : ClassId) (ad : Nat → Nat) (n : Int32) (many : Int32) (image : Nat → Int32) (turn : Int32) (shelf : Nat → Int32) (groups : Int32) (inn : Nat → Int32) (now : Nat → Int32) (makers : Nat → Int32) (makerMany : Nat → Int32) (queue : Nat → Int32) (zx1 : Int32) (F : Nat) (zr0 : Int32) (ogroups : Int32) (oinn : Nat → Int32) (h : mX7_newGroup F many groups inn zx1 = some (zr0, ogroups, oinn)) : Met l yX7_newGroup wsX7_newGroup ({ frames := 1, cells := 0, slots := 0, locals := 23 } : Room) (tg_PM D [(cI, .int), (cZ, .boolean)] [.ref (ad 0), .int zx1] (wM cI cZ ad n many image turn shelf groups inn now makers makerMany queue)) (tg_Mi D (wM cI cZ ad n many image turn shelf groups inn now makers makerMany queue) (wM cI cZ ad n many image turn shelf ogroups oinn now makers makerMany queue) zr0) 0 0 (tg_in (wM cI cZ ad n many image turn shelf groups inn now makers makerMany queue)) := by
  refine Met.ofW (cc := cX7_newGroup) (maxL := 2) (ret := (some .int)) (by decide) rfl ?_
  intro p e s m zargs zbelow zmeth c s₁ B hml hv
  obtain ⟨hargs, hP, hK, hN, hD0⟩ := hv
  have hx := B.exec
  have hb := B.bytes
  have hr := B.returns
  have hts := atoms_spec (ws := wsX7_newGroup) B.pre
  have hown : s.vm.findClass RX7 = some m.cls := findClass_of_methodNamed B.named
  have hlocks := B.notSynchronized
  have hDD : tg_DD (tg_in (wM cI cZ ad n many image turn shelf groups inn now makers makerMany queue)) [ad 0, ad 1, ad 2, ad 3, ad 4, ad 5, ad 6, ad 7] := tg_DD.of (tg_D hD0) rfl
  have hS : va_S (tg_in (wM cI cZ ad n many image turn shelf groups inn now makers makerMany queue)) s.heap s.heap [] := va_S.rf
  have hl := lv_entry ([.ref (ad 0), .int zx1]) (n := 2) (Nat.le_of_ble_eq_true rfl)
  refine W.eq (g2 := entryFrame m ([.ref (ad 0), .int zx1] : List Value).toArray 2) (by rw [hargs]) ?_
  rw [lg_entry_eq]
  generalize (lg_sl ([.ref (ad 0), .int zx1]) ++ List.replicate (2 - (lg_sl ([.ref (ad 0), .int zx1])).length) Slot.unset).toArray = zls at hl ⊢
  have hl : lv_has zls 2 [(0, .ref (ad 0)), (1, .int zx1)] := hl
  rw [mX7_newGroup] at h
  refine lv_iload_n hx hb dX7_newGroup_0 rfl (lv_at hl 1 rfl) ?_
  obtain ⟨inn_1, hv, h⟩ := bd_el h
  have hj : ∀ (zH : Heap) (zlocs : List Loc), va_P D vwCl (wM cI cZ ad n many image turn shelf groups inn_1 now makers makerMany queue) zH → va_S (tg_in (wM cI cZ ad n many image turn shelf groups inn now makers makerMany queue)) s.heap zH zlocs → W p l e ({ frames := 1, cells := 0, slots := 0, locals := 23 } : Room) s m zargs zbelow zmeth c zH zlocs 0 0 (MQ zbelow (tg_Mi D (wM cI cZ ad n many image turn shelf groups inn now makers makerMany queue) (wM cI cZ ad n many image turn shelf ogroups oinn now makers makerMany queue) zr0) zargs s 0 0 (tg_in (wM cI cZ ad n many image turn shelf groups inn now makers makerMany queue))) (F0 m 13 zls []) := by
    intro zH zlocs hP hS
    refine lv_aload_n hx hb dX7_newGroup_13 rfl (lv_at hl 0 rfl) ?_
    refine lv_dup hx hb dX7_newGroup_14 rfl ?_
    refine va_get (D := D) (ci := 6) (v := .int groups) (C := RX7) (T := TX7) (N := 11) hx hb hts uX7_newGroup_RX7 hown hK hP 0 rfl rfl 5 (by decide) (hts _ kX7_newGroup_1) (fun _ h9 => h9) rfl dX7_newGroup_15 ?_
    refine lv_iconst (v := 1) hx hb dX7_newGroup_18 (by decide) ?_
    refine lv_iadd hx hb dX7_newGroup_19 ?_
    obtain ⟨groups_1, egroups_1, h⟩ := lT_el h
    refine tg_top egroups_1 ?_
    refine va_put (D := D) (ci := 6) (v := .int groups_1) (ty := .int) (C := RX7) (T := TX7) (N := 11) hx hb hts uX7_newGroup_RX7 tyX7 tyX7_ok nmX7 hown hK hP (hDD _ rfl) hS 0 rfl rfl 5 (by decide) (hts _ kX7_newGroup_1) (fun _ h9 => h9) rfl (by decide +kernel) rfl rfl (Nat.le_of_ble_eq_true rfl) dX7_newGroup_20 (fun zH zlocs hP _ hS => ?_)
    have hP : va_P D vwCl (wM cI cZ ad n many image turn shelf groups_1 inn_1 now makers makerMany queue) zH := hP
    refine lv_aload_n hx hb dX7_newGroup_23 rfl (lv_at hl 0 rfl) ?_
    refine va_get (D := D) (ci := 6) (v := .int groups_1) (C := RX7) (T := TX7) (N := 11) hx hb hts uX7_newGroup_RX7 hown hK hP 0 rfl rfl 5 (by decide) (hts _ kX7_newGroup_1) (fun _ h9 => h9) rfl dX7_newGroup_24 ?_
    refine lv_iconst (v := 1) hx hb dX7_newGroup_27 (by decide) ?_
    refine lv_isub hx hb dX7_newGroup_28 ?_
    cases h
    exact W.iret hx hb hr (fun t ht hW => ⟨rfl, by rw [ht]; exact hP, hS.F ht⟩) hS.2.2 dX7_newGroup_29
  refine lv_if_lt (tgt := 13) hx hb dX7_newGroup_1 (by decide) (fun cb => ?_) (fun cb => ?_)
  · rw [if_pos cb] at hv
    cases hv
    exact hj _ _ hP hS
  · rw [if_neg cb] at hv
    refine lv_aload_n hx hb dX7_newGroup_4 rfl (lv_at hl 0 rfl) ?_
    refine lv_iload_n hx hb dX7_newGroup_5 rfl (lv_at hl 1 rfl) ?_
    refine lv_aload_n hx hb dX7_newGroup_6 rfl (lv_at hl 0 rfl) ?_
    refine va_get (D := D) (ci := 6) (v := .int groups) (C := RX7) (T := TX7) (N := 11) hx hb hts uX7_newGroup_RX7 hown hK hP 0 rfl rfl 5 (by decide) (hts _ kX7_newGroup_1) (fun _ h9 => h9) rfl dX7_newGroup_7 ?_
    obtain ⟨inn_2, hc, hv⟩ := bd_el hv
    refine tg_cMv (va_runV (As := [.int zx1, .int groups]) (rest := []) ⟨hx, hb, hml, hown, hts⟩ (qX7_copy l D cI cZ ad n many image turn shelf groups inn now makers makerMany queue zx1 groups F inn_2 hc) (cwV 2 hts gX7_newGroup_X7_copy rfl rfl rfl zVX7_copy ⟨Nat.le_of_ble_eq_true rfl, Nat.le_of_ble_eq_true rfl⟩) (tg_preVM (r := (RX7, TX7, 11)) (ci := 6) (q0 := 0) hP (hDD _ rfl) hK hN rfl rfl) rfl rfl hl.1 rfl (lv_room (Nat.le_of_ble_eq_true rfl)) dX7_newGroup_10 ⟨Nat.zero_le _, Nat.zero_le _⟩) hS (tg_inA (hDD _ rfl)) (fun zH zlocs _ hP hS => ?_)
    cases hv
    exact hj _ _ hP hS
theorem zVX7_newGroup : yX7_newGroup.cls = RX7 ∧ yX7_newGroup.cls ≠ "java/lang/invoke/MethodHandle" ∧ yX7_newGroup.cls ≠ "java/lang/invoke/VarHandle" ∧ (parseMethodDescriptor yX7_newGroup.desc).map (fun d => d.parameters.length) = some 1 := by decide +kernel

/-! ===== private boolean isEven(int); ===== -/
theorem kX7_isEven_1 : Cond.fieldLink RX7 7 "TurnGroupsModel" "n" "I" ∈ wsX7_isEven := by decide +kernel
theorem kX7_isEven_2 : Cond.fieldLink RX7 14 "TurnGroupsModel" "image" "[I" ∈ wsX7_isEven := by decide +kernel
theorem uX7_isEven_RX7 : ∀ w ∈ u_ws RX7 TX7 11, w ∈ wsX7_isEven := by decide +kernel
def mX7_isEven_L17 (zx1 : Int32) (zx3 : Int32) (n : Int32) (image : Nat → Int32) : Nat → Int32 → Int32 → Option (Int32)
  | 0, _, _ => none
  | f + 1, zx2, zx4 => if n ≤ zx4 then (some zx2) else (gd (inb ((8 * zx1) + zx3) 322560) (gd (inb ((8 * zx1) + zx4) 322560) (lT (if (image (Int32.toNatClampNeg ((8 * zx1) + zx3))) ≤ (image (Int32.toNatClampNeg ((8 * zx1) + zx4))) then 0 else 1) (fun zv => lT (zx2 + zv) (fun zx2_1 => mX7_isEven_L17 zx1 zx3 n image f zx2_1 (zx4 + 1))))))
theorem mX7_isEven_L17_s (zx1 : Int32) (zx3 : Int32) (n : Int32) (image : Nat → Int32) (f : Nat) (zx2 : Int32) (zx4 : Int32) : mX7_isEven_L17 zx1 zx3 n image (f + 1) zx2 zx4 = (if n ≤ zx4 then (some zx2) else (gd (inb ((8 * zx1) + zx3) 322560) (gd (inb ((8 * zx1) + zx4) 322560) (lT (if (image (Int32.toNatClampNeg ((8 * zx1) + zx3))) ≤ (image (Int32.toNatClampNeg ((8 * zx1) + zx4))) then 0 else 1) (fun zv => lT (zx2 + zv) (fun zx2_1 => mX7_isEven_L17 zx1 zx3 n image f zx2_1 (zx4 + 1))))))) := rfl
def mX7_isEven_L4 (F : Nat) (zx1 : Int32) (n : Int32) (image : Nat → Int32) : Nat → Int32 → Int32 → Option (Int32)
  | 0, _, _ => none
  | f + 1, zx2, zx3 => if n ≤ zx3 then (some zx2) else (lT (zx3 + 1) (fun zx4 => bd (mX7_isEven_L17 zx1 zx3 n image F zx2 zx4) (fun zx2_1 => mX7_isEven_L4 F zx1 n image f zx2_1 (zx3 + 1))))
theorem mX7_isEven_L4_s (F : Nat) (zx1 : Int32) (n : Int32) (image : Nat → Int32) (f : Nat) (zx2 : Int32) (zx3 : Int32) : mX7_isEven_L4 F zx1 n image (f + 1) zx2 zx3 = (if n ≤ zx3 then (some zx2) else (lT (zx3 + 1) (fun zx4 => bd (mX7_isEven_L17 zx1 zx3 n image F zx2 zx4) (fun zx2_1 => mX7_isEven_L4 F zx1 n image f zx2_1 (zx3 + 1))))) := rfl
def mX7_isEven (F : Nat) (n : Int32) (image : Nat → Int32) (zx1 : Int32) : Option (Int32) := bd (mX7_isEven_L4 F zx1 n image F 0 0) (fun zx2 => if (zx2 - zx2 / 2 * 2) = 0 then (some 1) else (some 0))
set_option maxRecDepth 100000 in
set_option maxHeartbeats 4000000 in
theorem wX7_isEven_L17 {p : Program} {l : Launch} {e : Env} {s : State} {m : MethodId} {zargs : Array Value} {zbelow : List Frame} {zmeth : Method} {c : Code} {D : va_G} {zQ : State → Prop} {ad : Nat → Nat} {cI cZ : ClassId} {n : Int32} {many : Int32} {image : Nat → Int32} {turn : Int32} {shelf : Nat → Int32} {groups : Int32} {inn : Nat → Int32} {now : Nat → Int32} {makers : Nat → Int32} {makerMany : Nat → Int32} {queue : Nat → Int32} {zx1 : Int32} {zx3 : Int32} (C0 : tg_C p s m zmeth c zargs cX7_isEven RX7 wsX7_isEven 5 D [(cI, .int), (cZ, .boolean)]) (hP : va_P D vwCl (wM cI cZ ad n many image turn shelf groups inn now makers makerMany queue) s.heap) (hlocks : zmeth.locks = false) (hr : zmeth.sig.returnType = (some .boolean)) (F : Nat) : ∀ (f : Nat) (zx2 : Int32) (zx4 : Int32) (zo2 : Int32), mX7_isEven_L17 zx1 zx3 n image f zx2 zx4 = some zo2 → ∀ (zls : Array Slot), lv_has zls 5 [(0, .ref (ad 0)), (1, .int zx1), (2, .int zx2), (3, .int zx3), (4, .int zx4)] → (∀ (zls : Array Slot), lv_has zls 5 [(0, .ref (ad 0)), (1, .int zx1), (2, .int zo2), (3, .int zx3)] → W p l e ({ frames := 0, cells := 0, slots := 0, locals := 0 } : Room) s m zargs zbelow zmeth c s.heap [] 0 0 zQ (F0 m 66 zls [])) → W p l e ({ frames := 0, cells := 0, slots := 0, locals := 0 } : Room) s m zargs zbelow zmeth c s.heap [] 0 0 zQ (F0 m 17 zls []) := by
  obtain ⟨hx, hb, hml, hown, hts, hK, hN⟩ := C0
  intro f
  induction f with
  | zero => intro _ _ _ h; exact absurd (show none = some _ from h) (fun h9 => by cases h9)
  | succ f ih =>
    intro zx2 zx4 zo2 h  zls hl kk
    rw [mX7_isEven_L17_s] at h
    refine lv_iload hx hb dX7_isEven_17 (lv_at hl 4 rfl) ?_
    refine lv_aload_n hx hb dX7_isEven_19 rfl (lv_at hl 0 rfl) ?_
    refine va_get (D := D) (ci := 6) (v := .int n) (C := RX7) (T := TX7) (N := 11) hx hb hts uX7_isEven_RX7 hown hK hP 0 rfl rfl 0 (by decide) (hts _ kX7_isEven_1) (fun _ h9 => h9) rfl dX7_isEven_20 ?_
    refine lv_icmp_ge (tgt := 66) hx hb dX7_isEven_23 (by decide) (fun cb => ?_) (fun cb => ?_)
    · rw [if_pos cb] at h
      cases h
      exact kk  _ (lv_sub hl [0, 1, 2, 3] rfl)
    · rw [if_neg cb] at h
      refine lv_iload_n hx hb dX7_isEven_26 rfl (lv_at hl 2 rfl) ?_
      refine lv_aload_n hx hb dX7_isEven_27 rfl (lv_at hl 0 rfl) ?_
      refine va_get (D := D) (ci := 6) (v := .ref (ad 1)) (C := RX7) (T := TX7) (N := 11) hx hb hts uX7_isEven_RX7 hown hK hP 0 rfl rfl 2 (by decide) (hts _ kX7_isEven_2) (fun _ h9 => h9) rfl dX7_isEven_28 ?_
      refine lv_bipush (v := 8) hx hb dX7_isEven_31 (by decide) ?_
      refine lv_iload_n hx hb dX7_isEven_33 rfl (lv_at hl 1 rfl) ?_
      refine lv_imul hx hb dX7_isEven_34 ?_
      refine lv_iload_n hx hb dX7_isEven_35 rfl (lv_at hl 3 rfl) ?_
      refine lv_iadd hx hb dX7_isEven_36 ?_
      obtain ⟨gg, h⟩ := gd_el h
      refine va_iald hx hb hK hP 1 0 rfl rfl (inb_in gg) dX7_isEven_37 ?_
      refine lv_aload_n hx hb dX7_isEven_38 rfl (lv_at hl 0 rfl) ?_
      refine va_get (D := D) (ci := 6) (v := .ref (ad 1)) (C := RX7) (T := TX7) (N := 11) hx hb hts uX7_isEven_RX7 hown hK hP 0 rfl rfl 2 (by decide) (hts _ kX7_isEven_2) (fun _ h9 => h9) rfl dX7_isEven_39 ?_
      refine lv_bipush (v := 8) hx hb dX7_isEven_42 (by decide) ?_
      refine lv_iload_n hx hb dX7_isEven_44 rfl (lv_at hl 1 rfl) ?_
      refine lv_imul hx hb dX7_isEven_45 ?_
      refine lv_iload hx hb dX7_isEven_46 (lv_at hl 4 rfl) ?_
      refine lv_iadd hx hb dX7_isEven_48 ?_
      obtain ⟨gg_1, h⟩ := gd_el h
      refine va_iald hx hb hK hP 1 0 rfl rfl (inb_in gg_1) dX7_isEven_49 ?_
      obtain ⟨zv, hv, h⟩ := lT_el h
      have hj : W p l e ({ frames := 0, cells := 0, slots := 0, locals := 0 } : Room) s m zargs zbelow zmeth c s.heap [] 0 0 zQ (F0 m 58 zls [.int zv, .int zx2]) := by
        refine lv_iadd hx hb dX7_isEven_58 ?_
        obtain ⟨zx2_1, ex2_1, h⟩ := lT_el h
        refine tg_top ex2_1 ?_
        refine lv_istore_n (lv' := [(2, .int zx2_1), (0, .ref (ad 0)), (1, .int zx1), (3, .int zx3), (4, .int zx4)]) hx hb dX7_isEven_59 rfl hl (by decide) rfl (fun zls hl => ?_)
        refine lv_iinc (v := (zx4 + 1)) (lv' := [(4, .int (zx4 + 1)), (2, .int zx2_1), (0, .ref (ad 0)), (1, .int zx1), (3, .int zx3)]) hx hb dX7_isEven_60 hl (k := 4) rfl rfl (by decide) rfl (fun zls hl => ?_)
        refine lv_goto (tgt := 17) hx hb dX7_isEven_63 (by decide) ?_
        exact ih _ _ _ h  _ (lv_sub hl [2, 3, 1, 4, 0] rfl) kk
      refine lv_icmp_le (tgt := 57) hx hb dX7_isEven_50 (by decide) (fun cb_1 => ?_) (fun cb_1 => ?_)
      · rw [if_pos cb_1] at hv
        refine lv_iconst (v := 0) hx hb dX7_isEven_57 (by decide) ?_
        subst hv
        exact hj 
      · rw [if_neg cb_1] at hv
        refine lv_iconst (v := 1) hx hb dX7_isEven_53 (by decide) ?_
        refine lv_goto (tgt := 58) hx hb dX7_isEven_54 (by decide) ?_
        subst hv
        exact hj 
set_option maxRecDepth 100000 in
set_option maxHeartbeats 4000000 in
theorem wX7_isEven_L4 {p : Program} {l : Launch} {e : Env} {s : State} {m : MethodId} {zargs : Array Value} {zbelow : List Frame} {zmeth : Method} {c : Code} {D : va_G} {zQ : State → Prop} {ad : Nat → Nat} {cI cZ : ClassId} {n : Int32} {many : Int32} {image : Nat → Int32} {turn : Int32} {shelf : Nat → Int32} {groups : Int32} {inn : Nat → Int32} {now : Nat → Int32} {makers : Nat → Int32} {makerMany : Nat → Int32} {queue : Nat → Int32} {zx1 : Int32} (C0 : tg_C p s m zmeth c zargs cX7_isEven RX7 wsX7_isEven 5 D [(cI, .int), (cZ, .boolean)]) (hP : va_P D vwCl (wM cI cZ ad n many image turn shelf groups inn now makers makerMany queue) s.heap) (hlocks : zmeth.locks = false) (hr : zmeth.sig.returnType = (some .boolean)) (F : Nat) : ∀ (f : Nat) (zx2 : Int32) (zx3 : Int32) (zo2 : Int32), mX7_isEven_L4 F zx1 n image f zx2 zx3 = some zo2 → ∀ (zls : Array Slot), lv_has zls 5 [(0, .ref (ad 0)), (1, .int zx1), (2, .int zx2), (3, .int zx3)] → (∀ (zls : Array Slot), lv_has zls 5 [(2, .int zo2)] → W p l e ({ frames := 0, cells := 0, slots := 0, locals := 0 } : Room) s m zargs zbelow zmeth c s.heap [] 0 0 zQ (F0 m 72 zls [])) → W p l e ({ frames := 0, cells := 0, slots := 0, locals := 0 } : Room) s m zargs zbelow zmeth c s.heap [] 0 0 zQ (F0 m 4 zls []) := by
  obtain ⟨hx, hb, hml, hown, hts, hK, hN⟩ := C0
  intro f
  induction f with
  | zero => intro _ _ _ h; exact absurd (show none = some _ from h) (fun h9 => by cases h9)
  | succ f ih =>
    intro zx2 zx3 zo2 h  zls hl kk
    rw [mX7_isEven_L4_s] at h
    refine lv_iload_n hx hb dX7_isEven_4 rfl (lv_at hl 3 rfl) ?_
    refine lv_aload_n hx hb dX7_isEven_5 rfl (lv_at hl 0 rfl) ?_
    refine va_get (D := D) (ci := 6) (v := .int n) (C := RX7) (T := TX7) (N := 11) hx hb hts uX7_isEven_RX7 hown hK hP 0 rfl rfl 0 (by decide) (hts _ kX7_isEven_1) (fun _ h9 => h9) rfl dX7_isEven_6 ?_
    refine lv_icmp_ge (tgt := 72) hx hb dX7_isEven_9 (by decide) (fun cb => ?_) (fun cb => ?_)
    · rw [if_pos cb] at h
      cases h
      exact kk  _ (lv_sub hl [2] rfl)
    · rw [if_neg cb] at h
      refine lv_iload_n hx hb dX7_isEven_12 rfl (lv_at hl 3 rfl) ?_
      refine lv_iconst (v := 1) hx hb dX7_isEven_13 (by decide) ?_
      refine lv_iadd hx hb dX7_isEven_14 ?_
      obtain ⟨zx4, ex4, h⟩ := lT_el h
      refine tg_top ex4 ?_
      refine lv_istore (lv' := [(4, .int zx4), (0, .ref (ad 0)), (1, .int zx1), (2, .int zx2), (3, .int zx3)]) hx hb dX7_isEven_15 hl (by decide) rfl (fun zls hl => ?_)
      obtain ⟨zx2_1, hv, h⟩ := bd_el h
      refine wX7_isEven_L17 ⟨hx, hb, hml, hown, hts, hK, hN⟩ hP hlocks hr F F _ _ _ hv  _ (lv_sub hl [1, 2, 3, 4, 0] rfl) (fun zls hl => ?_)
      refine lv_iinc (v := (zx3 + 1)) (lv' := [(3, .int (zx3 + 1)), (0, .ref (ad 0)), (1, .int zx1), (2, .int zx2_1)]) hx hb dX7_isEven_66 hl (k := 3) rfl rfl (by decide) rfl (fun zls hl => ?_)
      refine lv_goto (tgt := 4) hx hb dX7_isEven_69 (by decide) ?_
      exact ih _ _ _ h  _ (lv_sub hl [1, 2, 3, 0] rfl) kk
set_option maxRecDepth 100000 in
set_option maxHeartbeats 4000000 in
theorem qX7_isEven (l : Launch) (D : va_G) (cI : ClassId) (cZ : ClassId) (ad : Nat → Nat) (n : Int32) (many : Int32) (image : Nat → Int32) (turn : Int32) (shelf : Nat → Int32) (groups : Int32) (inn : Nat → Int32) (now : Nat → Int32) (makers : Nat → Int32) (makerMany : Nat → Int32) (queue : Nat → Int32) (zx1 : Int32) (F : Nat) (zr0 : Int32) (h : mX7_isEven F n image zx1 = some zr0) : Met l yX7_isEven wsX7_isEven ({ frames := 0, cells := 0, slots := 0, locals := 0 } : Room) (tg_P D [(cI, .int), (cZ, .boolean)] [.ref (ad 0), .int zx1] ((wM cI cZ ad n many image turn shelf groups inn now makers makerMany queue))) (tg_Ri zr0) 0 0 (fun _ => False) := by
  refine Met.ofW (cc := cX7_isEven) (maxL := 5) (ret := (some .boolean)) (by decide) rfl ?_
  intro p e s m zargs zbelow zmeth c s₁ B hml hv
  obtain ⟨hargs, hP, hK, hN⟩ := hv
  have hx := B.exec
  have hb := B.bytes
  have hr := B.returns
  have hts := atoms_spec (ws := wsX7_isEven) B.pre
  have hown : s.vm.findClass RX7 = some m.cls := findClass_of_methodNamed B.named
  have hlocks := B.notSynchronized
  have hl := lv_entry ([.ref (ad 0), .int zx1]) (n := 5) (Nat.le_of_ble_eq_true rfl)
  refine W.eq (g2 := entryFrame m ([.ref (ad 0), .int zx1] : List Value).toArray 5) (by rw [hargs]) ?_
  rw [lg_entry_eq]
  generalize (lg_sl ([.ref (ad 0), .int zx1]) ++ List.replicate (5 - (lg_sl ([.ref (ad 0), .int zx1])).length) Slot.unset).toArray = zls at hl ⊢
  have hl : lv_has zls 5 [(0, .ref (ad 0)), (1, .int zx1)] := hl
  rw [mX7_isEven] at h
  refine lv_iconst (v := 0) hx hb dX7_isEven_0 (by decide) ?_
  refine lv_istore_n (lv' := [(2, .int 0), (0, .ref (ad 0)), (1, .int zx1)]) hx hb dX7_isEven_1 rfl hl (by decide) rfl (fun zls hl => ?_)
  refine lv_iconst (v := 0) hx hb dX7_isEven_2 (by decide) ?_
  refine lv_istore_n (lv' := [(3, .int 0), (2, .int 0), (0, .ref (ad 0)), (1, .int zx1)]) hx hb dX7_isEven_3 rfl hl (by decide) rfl (fun zls hl => ?_)
  obtain ⟨zx2, hv, h⟩ := bd_el h
  refine wX7_isEven_L4 ⟨hx, hb, hml, hown, hts, hK, hN⟩ hP hlocks hr F F _ _ _ hv  _ (lv_sub hl [2, 3, 1, 0] rfl) (fun zls hl => ?_)
  refine lv_iload_n hx hb dX7_isEven_72 rfl (lv_at hl 0 rfl) ?_
  refine lv_iconst (v := 2) hx hb dX7_isEven_73 (by decide) ?_
  refine lv_irem hx hb dX7_isEven_74 (by decide) ?_
  refine lv_if_ne (tgt := 82) hx hb dX7_isEven_75 (by decide) (fun cb => ?_) (fun cb => ?_)
  · rw [if_neg cb] at h
    refine lv_iconst (v := 0) hx hb dX7_isEven_82 (by decide) ?_
    cases h
    exact W.zret hx hb hr rfl (fun t ht hW => ⟨rfl, ht⟩) (fun _ h9 => absurd h9 List.not_mem_nil) dX7_isEven_83
  · rw [if_pos cb] at h
    refine lv_iconst (v := 1) hx hb dX7_isEven_78 (by decide) ?_
    refine lv_goto (tgt := 83) hx hb dX7_isEven_79 (by decide) ?_
    cases h
    exact W.zret hx hb hr rfl (fun t ht hW => ⟨rfl, ht⟩) (fun _ h9 => absurd h9 List.not_mem_nil) dX7_isEven_83
theorem zVX7_isEven : yX7_isEven.cls = RX7 ∧ yX7_isEven.cls ≠ "java/lang/invoke/MethodHandle" ∧ yX7_isEven.cls ≠ "java/lang/invoke/VarHandle" ∧ (parseMethodDescriptor yX7_isEven.desc).map (fun d => d.parameters.length) = some 1 := by decide +kernel

/-! ===== private int sizeOf(int); ===== -/
theorem kX7_sizeOf_1 : Cond.fieldLink RX7 46 "TurnGroupsModel" "many" "I" ∈ wsX7_sizeOf := by decide +kernel
theorem uX7_sizeOf_RX7 : ∀ w ∈ u_ws RX7 TX7 11, w ∈ wsX7_sizeOf := by decide +kernel
def mX7_sizeOf_L4 (zx1 : Int32) (many : Int32) (inn : Nat → Int32) : Nat → Int32 → Int32 → Option (Int32)
  | 0, _, _ => none
  | f + 1, zx2, zx3 => if many ≤ zx3 then (some zx2) else (bd (mX7_hasIt inn zx1 zx3) (fun zr => lT (if zr = 0 then 0 else 1) (fun zv => lT (zx2 + zv) (fun zx2_1 => mX7_sizeOf_L4 zx1 many inn f zx2_1 (zx3 + 1)))))
theorem mX7_sizeOf_L4_s (zx1 : Int32) (many : Int32) (inn : Nat → Int32) (f : Nat) (zx2 : Int32) (zx3 : Int32) : mX7_sizeOf_L4 zx1 many inn (f + 1) zx2 zx3 = (if many ≤ zx3 then (some zx2) else (bd (mX7_hasIt inn zx1 zx3) (fun zr => lT (if zr = 0 then 0 else 1) (fun zv => lT (zx2 + zv) (fun zx2_1 => mX7_sizeOf_L4 zx1 many inn f zx2_1 (zx3 + 1)))))) := rfl
def mX7_sizeOf (F : Nat) (many : Int32) (inn : Nat → Int32) (zx1 : Int32) : Option (Int32) := bd (mX7_sizeOf_L4 zx1 many inn F 0 0) (fun zx2 => some zx2)
set_option maxRecDepth 100000 in
set_option maxHeartbeats 4000000 in
theorem wX7_sizeOf_L4 {p : Program} {l : Launch} {e : Env} {s : State} {m : MethodId} {zargs : Array Value} {zbelow : List Frame} {zmeth : Method} {c : Code} {D : va_G} {zQ : State → Prop} {ad : Nat → Nat} {cI cZ : ClassId} {n : Int32} {many : Int32} {image : Nat → Int32} {turn : Int32} {shelf : Nat → Int32} {groups : Int32} {inn : Nat → Int32} {now : Nat → Int32} {makers : Nat → Int32} {makerMany : Nat → Int32} {queue : Nat → Int32} {zx1 : Int32} (C0 : tg_C p s m zmeth c zargs cX7_sizeOf RX7 wsX7_sizeOf 4 D [(cI, .int), (cZ, .boolean)]) (hP : va_P D vwCl (wM cI cZ ad n many image turn shelf groups inn now makers makerMany queue) s.heap) (hlocks : zmeth.locks = false) (hr : zmeth.sig.returnType = (some .int)) (F : Nat) : ∀ (f : Nat) (zx2 : Int32) (zx3 : Int32) (zo2 : Int32), mX7_sizeOf_L4 zx1 many inn f zx2 zx3 = some zo2 → ∀ (zls : Array Slot), lv_has zls 4 [(0, .ref (ad 0)), (1, .int zx1), (2, .int zx2), (3, .int zx3)] → (∀ (zls : Array Slot), lv_has zls 4 [(2, .int zo2)] → W p l e ({ frames := 1, cells := 0, slots := 0, locals := 22 } : Room) s m zargs zbelow zmeth c s.heap [] 0 0 zQ (F0 m 35 zls [])) → W p l e ({ frames := 1, cells := 0, slots := 0, locals := 22 } : Room) s m zargs zbelow zmeth c s.heap [] 0 0 zQ (F0 m 4 zls []) := by
  obtain ⟨hx, hb, hml, hown, hts, hK, hN⟩ := C0
  intro f
  induction f with
  | zero => intro _ _ _ h; exact absurd (show none = some _ from h) (fun h9 => by cases h9)
  | succ f ih =>
    intro zx2 zx3 zo2 h  zls hl kk
    rw [mX7_sizeOf_L4_s] at h
    refine lv_iload_n hx hb dX7_sizeOf_4 rfl (lv_at hl 3 rfl) ?_
    refine lv_aload_n hx hb dX7_sizeOf_5 rfl (lv_at hl 0 rfl) ?_
    refine va_get (D := D) (ci := 6) (v := .int many) (C := RX7) (T := TX7) (N := 11) hx hb hts uX7_sizeOf_RX7 hown hK hP 0 rfl rfl 1 (by decide) (hts _ kX7_sizeOf_1) (fun _ h9 => h9) rfl dX7_sizeOf_6 ?_
    refine lv_icmp_ge (tgt := 35) hx hb dX7_sizeOf_9 (by decide) (fun cb => ?_) (fun cb => ?_)
    · rw [if_pos cb] at h
      cases h
      exact kk  _ (lv_sub hl [2] rfl)
    · rw [if_neg cb] at h
      refine lv_iload_n hx hb dX7_sizeOf_12 rfl (lv_at hl 2 rfl) ?_
      refine lv_aload_n hx hb dX7_sizeOf_13 rfl (lv_at hl 0 rfl) ?_
      refine lv_iload_n hx hb dX7_sizeOf_14 rfl (lv_at hl 1 rfl) ?_
      refine lv_iload_n hx hb dX7_sizeOf_15 rfl (lv_at hl 3 rfl) ?_
      obtain ⟨zr, hc, h⟩ := bd_el h
      refine tg_cRi (va_runV (As := [.int zx1, .int zx3]) (rest := [.int zx2]) ⟨hx, hb, hml, hown, hts⟩ (qX7_hasIt l D cI cZ ad n many image turn shelf groups inn now makers makerMany queue zx1 zx3 zr hc) (cwV 2 hts gX7_sizeOf_X7_hasIt rfl rfl rfl zVX7_hasIt ⟨Nat.le_of_ble_eq_true rfl, Nat.le_of_ble_eq_true rfl⟩) (tg_preV (r := (RX7, TX7, 11)) (ci := 6) (q0 := 0) hP hK hN rfl rfl) rfl rfl hl.1 rfl (lv_room (Nat.le_of_ble_eq_true rfl)) dX7_sizeOf_16 ⟨Nat.zero_le _, Nat.zero_le _⟩) ?_
      obtain ⟨zv, hv, h⟩ := lT_el h
      have hj : W p l e ({ frames := 1, cells := 0, slots := 0, locals := 22 } : Room) s m zargs zbelow zmeth c s.heap [] 0 0 zQ (F0 m 27 zls [.int zv, .int zx2]) := by
        refine lv_iadd hx hb dX7_sizeOf_27 ?_
        obtain ⟨zx2_1, ex2_1, h⟩ := lT_el h
        refine tg_top ex2_1 ?_
        refine lv_istore_n (lv' := [(2, .int zx2_1), (0, .ref (ad 0)), (1, .int zx1), (3, .int zx3)]) hx hb dX7_sizeOf_28 rfl hl (by decide) rfl (fun zls hl => ?_)
        refine lv_iinc (v := (zx3 + 1)) (lv' := [(3, .int (zx3 + 1)), (2, .int zx2_1), (0, .ref (ad 0)), (1, .int zx1)]) hx hb dX7_sizeOf_29 hl (k := 3) rfl rfl (by decide) rfl (fun zls hl => ?_)
        refine lv_goto (tgt := 4) hx hb dX7_sizeOf_32 (by decide) ?_
        exact ih _ _ _ h  _ (lv_sub hl [2, 3, 1, 0] rfl) kk
      refine lv_if_eq (tgt := 26) hx hb dX7_sizeOf_19 (by decide) (fun cb_1 => ?_) (fun cb_1 => ?_)
      · rw [if_pos cb_1] at hv
        refine lv_iconst (v := 0) hx hb dX7_sizeOf_26 (by decide) ?_
        subst hv
        exact hj 
      · rw [if_neg cb_1] at hv
        refine lv_iconst (v := 1) hx hb dX7_sizeOf_22 (by decide) ?_
        refine lv_goto (tgt := 27) hx hb dX7_sizeOf_23 (by decide) ?_
        subst hv
        exact hj 
set_option maxRecDepth 100000 in
set_option maxHeartbeats 4000000 in
theorem qX7_sizeOf (l : Launch) (D : va_G) (cI : ClassId) (cZ : ClassId) (ad : Nat → Nat) (n : Int32) (many : Int32) (image : Nat → Int32) (turn : Int32) (shelf : Nat → Int32) (groups : Int32) (inn : Nat → Int32) (now : Nat → Int32) (makers : Nat → Int32) (makerMany : Nat → Int32) (queue : Nat → Int32) (zx1 : Int32) (F : Nat) (zr0 : Int32) (h : mX7_sizeOf F many inn zx1 = some zr0) : Met l yX7_sizeOf wsX7_sizeOf ({ frames := 1, cells := 0, slots := 0, locals := 22 } : Room) (tg_P D [(cI, .int), (cZ, .boolean)] [.ref (ad 0), .int zx1] ((wM cI cZ ad n many image turn shelf groups inn now makers makerMany queue))) (tg_Ri zr0) 0 0 (fun _ => False) := by
  refine Met.ofW (cc := cX7_sizeOf) (maxL := 4) (ret := (some .int)) (by decide) rfl ?_
  intro p e s m zargs zbelow zmeth c s₁ B hml hv
  obtain ⟨hargs, hP, hK, hN⟩ := hv
  have hx := B.exec
  have hb := B.bytes
  have hr := B.returns
  have hts := atoms_spec (ws := wsX7_sizeOf) B.pre
  have hown : s.vm.findClass RX7 = some m.cls := findClass_of_methodNamed B.named
  have hlocks := B.notSynchronized
  have hl := lv_entry ([.ref (ad 0), .int zx1]) (n := 4) (Nat.le_of_ble_eq_true rfl)
  refine W.eq (g2 := entryFrame m ([.ref (ad 0), .int zx1] : List Value).toArray 4) (by rw [hargs]) ?_
  rw [lg_entry_eq]
  generalize (lg_sl ([.ref (ad 0), .int zx1]) ++ List.replicate (4 - (lg_sl ([.ref (ad 0), .int zx1])).length) Slot.unset).toArray = zls at hl ⊢
  have hl : lv_has zls 4 [(0, .ref (ad 0)), (1, .int zx1)] := hl
  rw [mX7_sizeOf] at h
  refine lv_iconst (v := 0) hx hb dX7_sizeOf_0 (by decide) ?_
  refine lv_istore_n (lv' := [(2, .int 0), (0, .ref (ad 0)), (1, .int zx1)]) hx hb dX7_sizeOf_1 rfl hl (by decide) rfl (fun zls hl => ?_)
  refine lv_iconst (v := 0) hx hb dX7_sizeOf_2 (by decide) ?_
  refine lv_istore_n (lv' := [(3, .int 0), (2, .int 0), (0, .ref (ad 0)), (1, .int zx1)]) hx hb dX7_sizeOf_3 rfl hl (by decide) rfl (fun zls hl => ?_)
  obtain ⟨zx2, hv, h⟩ := bd_el h
  refine wX7_sizeOf_L4 ⟨hx, hb, hml, hown, hts, hK, hN⟩ hP hlocks hr F F _ _ _ hv  _ (lv_sub hl [2, 3, 1, 0] rfl) (fun zls hl => ?_)
  refine lv_iload_n hx hb dX7_sizeOf_35 rfl (lv_at hl 0 rfl) ?_
  cases h
  exact W.iret hx hb hr (fun t ht hW => ⟨rfl, ht⟩) (fun _ h9 => absurd h9 List.not_mem_nil) dX7_sizeOf_36
theorem zVX7_sizeOf : yX7_sizeOf.cls = RX7 ∧ yX7_sizeOf.cls ≠ "java/lang/invoke/MethodHandle" ∧ yX7_sizeOf.cls ≠ "java/lang/invoke/VarHandle" ∧ (parseMethodDescriptor yX7_sizeOf.desc).map (fun d => d.parameters.length) = some 1 := by decide +kernel

/-! ===== private boolean isWithin(int, int); ===== -/
theorem kX7_isWithin_1 : Cond.fieldLink RX7 46 "TurnGroupsModel" "many" "I" ∈ wsX7_isWithin := by decide +kernel
theorem uX7_isWithin_RX7 : ∀ w ∈ u_ws RX7 TX7 11, w ∈ wsX7_isWithin := by decide +kernel
def mX7_isWithin_L5 (zx1 : Int32) (zx2 : Int32) (many : Int32) (inn : Nat → Int32) : Nat → Int32 → Int32 → Option (Int32)
  | 0, _, _ => none
  | f + 1, zx3, zx4 => if many ≤ zx4 then (some zx3) else (if zx3 = 0 then (some zx3) else (bd (mX7_hasIt inn zx1 zx4) (fun zr => bd (if zr = 0 then (some 1) else (bd (mX7_hasIt inn zx2 zx4) (fun zr_1 => if zr_1 = 0 then (some 0) else (some 1)))) (fun zv => mX7_isWithin_L5 zx1 zx2 many inn f zv (zx4 + 1)))))
theorem mX7_isWithin_L5_s (zx1 : Int32) (zx2 : Int32) (many : Int32) (inn : Nat → Int32) (f : Nat) (zx3 : Int32) (zx4 : Int32) : mX7_isWithin_L5 zx1 zx2 many inn (f + 1) zx3 zx4 = (if many ≤ zx4 then (some zx3) else (if zx3 = 0 then (some zx3) else (bd (mX7_hasIt inn zx1 zx4) (fun zr => bd (if zr = 0 then (some 1) else (bd (mX7_hasIt inn zx2 zx4) (fun zr_1 => if zr_1 = 0 then (some 0) else (some 1)))) (fun zv => mX7_isWithin_L5 zx1 zx2 many inn f zv (zx4 + 1)))))) := rfl
def mX7_isWithin (F : Nat) (many : Int32) (inn : Nat → Int32) (zx1 : Int32) (zx2 : Int32) : Option (Int32) := bd (mX7_isWithin_L5 zx1 zx2 many inn F 1 0) (fun zx3 => gd (isb zx3) (some zx3))
set_option maxRecDepth 100000 in
set_option maxHeartbeats 4000000 in
theorem wX7_isWithin_L5 {p : Program} {l : Launch} {e : Env} {s : State} {m : MethodId} {zargs : Array Value} {zbelow : List Frame} {zmeth : Method} {c : Code} {D : va_G} {zQ : State → Prop} {ad : Nat → Nat} {cI cZ : ClassId} {n : Int32} {many : Int32} {image : Nat → Int32} {turn : Int32} {shelf : Nat → Int32} {groups : Int32} {inn : Nat → Int32} {now : Nat → Int32} {makers : Nat → Int32} {makerMany : Nat → Int32} {queue : Nat → Int32} {zx1 : Int32} {zx2 : Int32} (C0 : tg_C p s m zmeth c zargs cX7_isWithin RX7 wsX7_isWithin 5 D [(cI, .int), (cZ, .boolean)]) (hP : va_P D vwCl (wM cI cZ ad n many image turn shelf groups inn now makers makerMany queue) s.heap) (hlocks : zmeth.locks = false) (hr : zmeth.sig.returnType = (some .boolean)) (F : Nat) : ∀ (f : Nat) (zx3 : Int32) (zx4 : Int32) (zo3 : Int32), mX7_isWithin_L5 zx1 zx2 many inn f zx3 zx4 = some zo3 → ∀ (zls : Array Slot), lv_has zls 5 [(0, .ref (ad 0)), (1, .int zx1), (2, .int zx2), (3, .int zx3), (4, .int zx4)] → (∀ (zls : Array Slot), lv_has zls 5 [(3, .int zo3)] → W p l e ({ frames := 1, cells := 0, slots := 0, locals := 22 } : Room) s m zargs zbelow zmeth c s.heap [] 0 0 zQ (F0 m 50 zls [])) → W p l e ({ frames := 1, cells := 0, slots := 0, locals := 22 } : Room) s m zargs zbelow zmeth c s.heap [] 0 0 zQ (F0 m 5 zls []) := by
  obtain ⟨hx, hb, hml, hown, hts, hK, hN⟩ := C0
  intro f
  induction f with
  | zero => intro _ _ _ h; exact absurd (show none = some _ from h) (fun h9 => by cases h9)
  | succ f ih =>
    intro zx3 zx4 zo3 h  zls hl kk
    rw [mX7_isWithin_L5_s] at h
    refine lv_iload hx hb dX7_isWithin_5 (lv_at hl 4 rfl) ?_
    refine lv_aload_n hx hb dX7_isWithin_7 rfl (lv_at hl 0 rfl) ?_
    refine va_get (D := D) (ci := 6) (v := .int many) (C := RX7) (T := TX7) (N := 11) hx hb hts uX7_isWithin_RX7 hown hK hP 0 rfl rfl 1 (by decide) (hts _ kX7_isWithin_1) (fun _ h9 => h9) rfl dX7_isWithin_8 ?_
    refine lv_icmp_ge (tgt := 50) hx hb dX7_isWithin_11 (by decide) (fun cb => ?_) (fun cb => ?_)
    · rw [if_pos cb] at h
      cases h
      exact kk  _ (lv_sub hl [3] rfl)
    · rw [if_neg cb] at h
      refine lv_iload_n hx hb dX7_isWithin_14 rfl (lv_at hl 3 rfl) ?_
      refine lv_if_eq (tgt := 50) hx hb dX7_isWithin_15 (by decide) (fun cb_1 => ?_) (fun cb_1 => ?_)
      · rw [if_pos cb_1] at h
        cases h
        exact kk  _ (lv_sub hl [3] rfl)
      · rw [if_neg cb_1] at h
        refine lv_aload_n hx hb dX7_isWithin_18 rfl (lv_at hl 0 rfl) ?_
        refine lv_iload_n hx hb dX7_isWithin_19 rfl (lv_at hl 1 rfl) ?_
        refine lv_iload hx hb dX7_isWithin_20 (lv_at hl 4 rfl) ?_
        obtain ⟨zr, hc, h⟩ := bd_el h
        refine tg_cRi (va_runV (As := [.int zx1, .int zx4]) (rest := []) ⟨hx, hb, hml, hown, hts⟩ (qX7_hasIt l D cI cZ ad n many image turn shelf groups inn now makers makerMany queue zx1 zx4 zr hc) (cwV 2 hts gX7_isWithin_X7_hasIt rfl rfl rfl zVX7_hasIt ⟨Nat.le_of_ble_eq_true rfl, Nat.le_of_ble_eq_true rfl⟩) (tg_preV (r := (RX7, TX7, 11)) (ci := 6) (q0 := 0) hP hK hN rfl rfl) rfl rfl hl.1 rfl (lv_room (Nat.le_of_ble_eq_true rfl)) dX7_isWithin_22 ⟨Nat.zero_le _, Nat.zero_le _⟩) ?_
        obtain ⟨zv, hv, h⟩ := bd_el h
        have hj : W p l e ({ frames := 1, cells := 0, slots := 0, locals := 22 } : Room) s m zargs zbelow zmeth c s.heap [] 0 0 zQ (F0 m 43 zls [.int zv]) := by
          refine lv_istore_n (lv' := [(3, .int zv), (0, .ref (ad 0)), (1, .int zx1), (2, .int zx2), (4, .int zx4)]) hx hb dX7_isWithin_43 rfl hl (by decide) rfl (fun zls hl => ?_)
          refine lv_iinc (v := (zx4 + 1)) (lv' := [(4, .int (zx4 + 1)), (3, .int zv), (0, .ref (ad 0)), (1, .int zx1), (2, .int zx2)]) hx hb dX7_isWithin_44 hl (k := 4) rfl rfl (by decide) rfl (fun zls hl => ?_)
          refine lv_goto (tgt := 5) hx hb dX7_isWithin_47 (by decide) ?_
          exact ih _ _ _ h  _ (lv_sub hl [2, 3, 4, 1, 0] rfl) kk
        refine lv_if_eq (tgt := 38) hx hb dX7_isWithin_25 (by decide) (fun cb_2 => ?_) (fun cb_2 => ?_)
        · rw [if_pos cb_2] at hv
          refine lv_iconst (v := 1) hx hb dX7_isWithin_38 (by decide) ?_
          refine lv_goto (tgt := 43) hx hb dX7_isWithin_39 (by decide) ?_
          cases hv
          exact hj 
        · rw [if_neg cb_2] at hv
          refine lv_aload_n hx hb dX7_isWithin_28 rfl (lv_at hl 0 rfl) ?_
          refine lv_iload_n hx hb dX7_isWithin_29 rfl (lv_at hl 2 rfl) ?_
          refine lv_iload hx hb dX7_isWithin_30 (lv_at hl 4 rfl) ?_
          obtain ⟨zr_1, hc_1, hv⟩ := bd_el hv
          refine tg_cRi (va_runV (As := [.int zx2, .int zx4]) (rest := []) ⟨hx, hb, hml, hown, hts⟩ (qX7_hasIt l D cI cZ ad n many image turn shelf groups inn now makers makerMany queue zx2 zx4 zr_1 hc_1) (cwV 2 hts gX7_isWithin_X7_hasIt rfl rfl rfl zVX7_hasIt ⟨Nat.le_of_ble_eq_true rfl, Nat.le_of_ble_eq_true rfl⟩) (tg_preV (r := (RX7, TX7, 11)) (ci := 6) (q0 := 0) hP hK hN rfl rfl) rfl rfl hl.1 rfl (lv_room (Nat.le_of_ble_eq_true rfl)) dX7_isWithin_32 ⟨Nat.zero_le _, Nat.zero_le _⟩) ?_
          refine lv_if_eq (tgt := 42) hx hb dX7_isWithin_35 (by decide) (fun cb_3 => ?_) (fun cb_3 => ?_)
          · rw [if_pos cb_3] at hv
            refine lv_iconst (v := 0) hx hb dX7_isWithin_42 (by decide) ?_
            cases hv
            exact hj 
          · rw [if_neg cb_3] at hv
            refine lv_iconst (v := 1) hx hb dX7_isWithin_38 (by decide) ?_
            refine lv_goto (tgt := 43) hx hb dX7_isWithin_39 (by decide) ?_
            cases hv
            exact hj 
set_option maxRecDepth 100000 in
set_option maxHeartbeats 4000000 in
theorem qX7_isWithin (l : Launch) (D : va_G) (cI : ClassId) (cZ : ClassId) (ad : Nat → Nat) (n : Int32) (many : Int32) (image : Nat → Int32) (turn : Int32) (shelf : Nat → Int32) (groups : Int32) (inn : Nat → Int32) (now : Nat → Int32) (makers : Nat → Int32) (makerMany : Nat → Int32) (queue : Nat → Int32) (zx1 : Int32) (zx2 : Int32) (F : Nat) (zr0 : Int32) (h : mX7_isWithin F many inn zx1 zx2 = some zr0) : Met l yX7_isWithin wsX7_isWithin ({ frames := 1, cells := 0, slots := 0, locals := 22 } : Room) (tg_P D [(cI, .int), (cZ, .boolean)] [.ref (ad 0), .int zx1, .int zx2] ((wM cI cZ ad n many image turn shelf groups inn now makers makerMany queue))) (tg_Ri zr0) 0 0 (fun _ => False) := by
  refine Met.ofW (cc := cX7_isWithin) (maxL := 5) (ret := (some .boolean)) (by decide) rfl ?_
  intro p e s m zargs zbelow zmeth c s₁ B hml hv
  obtain ⟨hargs, hP, hK, hN⟩ := hv
  have hx := B.exec
  have hb := B.bytes
  have hr := B.returns
  have hts := atoms_spec (ws := wsX7_isWithin) B.pre
  have hown : s.vm.findClass RX7 = some m.cls := findClass_of_methodNamed B.named
  have hlocks := B.notSynchronized
  have hl := lv_entry ([.ref (ad 0), .int zx1, .int zx2]) (n := 5) (Nat.le_of_ble_eq_true rfl)
  refine W.eq (g2 := entryFrame m ([.ref (ad 0), .int zx1, .int zx2] : List Value).toArray 5) (by rw [hargs]) ?_
  rw [lg_entry_eq]
  generalize (lg_sl ([.ref (ad 0), .int zx1, .int zx2]) ++ List.replicate (5 - (lg_sl ([.ref (ad 0), .int zx1, .int zx2])).length) Slot.unset).toArray = zls at hl ⊢
  have hl : lv_has zls 5 [(0, .ref (ad 0)), (1, .int zx1), (2, .int zx2)] := hl
  rw [mX7_isWithin] at h
  refine lv_iconst (v := 1) hx hb dX7_isWithin_0 (by decide) ?_
  refine lv_istore_n (lv' := [(3, .int 1), (0, .ref (ad 0)), (1, .int zx1), (2, .int zx2)]) hx hb dX7_isWithin_1 rfl hl (by decide) rfl (fun zls hl => ?_)
  refine lv_iconst (v := 0) hx hb dX7_isWithin_2 (by decide) ?_
  refine lv_istore (lv' := [(4, .int 0), (3, .int 1), (0, .ref (ad 0)), (1, .int zx1), (2, .int zx2)]) hx hb dX7_isWithin_3 hl (by decide) rfl (fun zls hl => ?_)
  obtain ⟨zx3, hv, h⟩ := bd_el h
  refine wX7_isWithin_L5 ⟨hx, hb, hml, hown, hts, hK, hN⟩ hP hlocks hr F F _ _ _ hv  _ (lv_sub hl [2, 3, 4, 1, 0] rfl) (fun zls hl => ?_)
  refine lv_iload_n hx hb dX7_isWithin_50 rfl (lv_at hl 0 rfl) ?_
  obtain ⟨gz, h⟩ := gd_el h
  cases h
  exact W.zret hx hb hr (isb_n gz) (fun t ht hW => ⟨rfl, ht⟩) (fun _ h9 => absurd h9 List.not_mem_nil) dX7_isWithin_51
theorem zVX7_isWithin : yX7_isWithin.cls = RX7 ∧ yX7_isWithin.cls ≠ "java/lang/invoke/MethodHandle" ∧ yX7_isWithin.cls ≠ "java/lang/invoke/VarHandle" ∧ (parseMethodDescriptor yX7_isWithin.desc).map (fun d => d.parameters.length) = some 2 := by decide +kernel

/-! ===== private boolean isNormal(int, int); ===== -/
theorem kX7_isNormal_1 : Cond.fieldLink RX7 32 "TurnGroupsModel" "makerMany" "[I" ∈ wsX7_isNormal := by decide +kernel
theorem kX7_isNormal_2 : Cond.fieldLink RX7 29 "TurnGroupsModel" "makers" "[I" ∈ wsX7_isNormal := by decide +kernel
theorem uX7_isNormal_RX7 : ∀ w ∈ u_ws RX7 TX7 11, w ∈ wsX7_isNormal := by decide +kernel
def mX7_isNormal_L46 (F : Nat) (zx1 : Int32) (zx4 : Int32) (n : Int32) (image : Nat → Int32) (inn : Nat → Int32) (makers : Nat → Int32) (makerMany : Nat → Int32) : Nat → Int32 → Int32 → (Nat → Int32) → Option (Int32 × (Nat → Int32))
  | 0, _, _, _ => none
  | f + 1, zx3, zx5, now => gd (inb 11 13) (if (makerMany (Int32.toNatClampNeg 11)) ≤ zx5 then (some (zx3, now)) else (bd2 (if zx3 = 0 then (some (0, now)) else (gd (inb (320 + zx4) 416) (gd (inb (352 + zx5) 416) (bd2 (mX7_carried F n image now (makers (Int32.toNatClampNeg (320 + zx4))) (makers (Int32.toNatClampNeg (352 + zx5)))) (fun zr now_2 => bd (mX7_hasIt inn zx1 zr) (fun zr_1 => if zr_1 = 0 then (some (0, now_2)) else (some (1, now_2)))))))) (fun zv now_1 => mX7_isNormal_L46 F zx1 zx4 n image inn makers makerMany f zv (zx5 + 1) now_1)))
theorem mX7_isNormal_L46_s (F : Nat) (zx1 : Int32) (zx4 : Int32) (n : Int32) (image : Nat → Int32) (inn : Nat → Int32) (makers : Nat → Int32) (makerMany : Nat → Int32) (f : Nat) (zx3 : Int32) (zx5 : Int32) (now : Nat → Int32) : mX7_isNormal_L46 F zx1 zx4 n image inn makers makerMany (f + 1) zx3 zx5 now = (gd (inb 11 13) (if (makerMany (Int32.toNatClampNeg 11)) ≤ zx5 then (some (zx3, now)) else (bd2 (if zx3 = 0 then (some (0, now)) else (gd (inb (320 + zx4) 416) (gd (inb (352 + zx5) 416) (bd2 (mX7_carried F n image now (makers (Int32.toNatClampNeg (320 + zx4))) (makers (Int32.toNatClampNeg (352 + zx5)))) (fun zr now_2 => bd (mX7_hasIt inn zx1 zr) (fun zr_1 => if zr_1 = 0 then (some (0, now_2)) else (some (1, now_2)))))))) (fun zv now_1 => mX7_isNormal_L46 F zx1 zx4 n image inn makers makerMany f zv (zx5 + 1) now_1)))) := rfl
def mX7_isNormal_L31 (F : Nat) (zx1 : Int32) (n : Int32) (image : Nat → Int32) (inn : Nat → Int32) (makers : Nat → Int32) (makerMany : Nat → Int32) : Nat → Int32 → Int32 → (Nat → Int32) → Option (Int32 × (Nat → Int32))
  | 0, _, _, _ => none
  | f + 1, zx3, zx4, now => gd (inb 10 13) (if (makerMany (Int32.toNatClampNeg 10)) ≤ zx4 then (some (zx3, now)) else (bd2 (mX7_isNormal_L46 F zx1 zx4 n image inn makers makerMany F zx3 0 now) (fun zx3_1 now_1 => mX7_isNormal_L31 F zx1 n image inn makers makerMany f zx3_1 (zx4 + 1) now_1)))
theorem mX7_isNormal_L31_s (F : Nat) (zx1 : Int32) (n : Int32) (image : Nat → Int32) (inn : Nat → Int32) (makers : Nat → Int32) (makerMany : Nat → Int32) (f : Nat) (zx3 : Int32) (zx4 : Int32) (now : Nat → Int32) : mX7_isNormal_L31 F zx1 n image inn makers makerMany (f + 1) zx3 zx4 now = (gd (inb 10 13) (if (makerMany (Int32.toNatClampNeg 10)) ≤ zx4 then (some (zx3, now)) else (bd2 (mX7_isNormal_L46 F zx1 zx4 n image inn makers makerMany F zx3 0 now) (fun zx3_1 now_1 => mX7_isNormal_L31 F zx1 n image inn makers makerMany f zx3_1 (zx4 + 1) now_1)))) := rfl
def mX7_isNormal (F : Nat) (n : Int32) (many : Int32) (image : Nat → Int32) (inn : Nat → Int32) (now : Nat → Int32) (makers : Nat → Int32) (makerMany : Nat → Int32) (queue : Nat → Int32) (zx1 : Int32) (zx2 : Int32) : Option (Int32 × (Nat → Int32) × (Nat → Int32) × (Nat → Int32) × (Nat → Int32) × (Nat → Int32)) := bd2 (mX7_begin F many inn makerMany 10) (fun inn_1 makerMany_1 => bd5 (mX7_joinAll F n many image inn_1 now makers makerMany_1 queue 10 zx1) (fun inn_2 now_1 makers_1 makerMany_2 queue_1 => bd2 (mX7_begin F many inn_2 makerMany_2 11) (fun inn_3 makerMany_3 => bd5 (mX7_joinAll F n many image inn_3 now_1 makers_1 makerMany_3 queue_1 11 zx2) (fun inn_4 now_2 makers_2 makerMany_4 queue_2 => bd2 (mX7_isNormal_L31 F zx1 n image inn_4 makers_2 makerMany_4 F 1 0 now_2) (fun zx3 now_3 => gd (isb zx3) (some (zx3, inn_4, now_3, makers_2, makerMany_4, queue_2)))))))
set_option maxRecDepth 100000 in
set_option maxHeartbeats 4000000 in
theorem wX7_isNormal_L46 {p : Program} {l : Launch} {e : Env} {s : State} {m : MethodId} {zargs : Array Value} {zbelow : List Frame} {zmeth : Method} {c : Code} {D : va_G} {zQ : State → Prop} {zA : Nat → Prop} {ad : Nat → Nat} {cI cZ : ClassId} {n : Int32} {many : Int32} {image : Nat → Int32} {turn : Int32} {shelf : Nat → Int32} {groups : Int32} {inn : Nat → Int32} {makers : Nat → Int32} {makerMany : Nat → Int32} {queue : Nat → Int32} {zx1 : Int32} {zx4 : Int32} (C0 : tg_C p s m zmeth c zargs cX7_isNormal RX7 wsX7_isNormal 6 D [(cI, .int), (cZ, .boolean)]) (hDD : tg_DD zA [ad 0, ad 1, ad 2, ad 3, ad 4, ad 5, ad 6, ad 7]) (hlocks : zmeth.locks = false) (hr : zmeth.sig.returnType = (some .boolean)) (F : Nat) : ∀ (f : Nat) (zx3 : Int32) (zx5 : Int32) (now : Nat → Int32) (zo3 : Int32) (onow : Nat → Int32), mX7_isNormal_L46 F zx1 zx4 n image inn makers makerMany f zx3 zx5 now = some (zo3, onow) → ∀ (zH : Heap) (zlocs : List Loc), va_P D vwCl (wM cI cZ ad n many image turn shelf groups inn now makers makerMany queue) zH → va_S zA s.heap zH zlocs → ∀ (zls : Array Slot), lv_has zls 6 [(0, .ref (ad 0)), (1, .int zx1), (3, .int zx3), (4, .int zx4), (5, .int zx5)] → (∀ (zH : Heap) (zlocs : List Loc), va_P D vwCl (wM cI cZ ad n many image turn shelf groups inn onow makers makerMany queue) zH → va_S zA s.heap zH zlocs → ∀ (zls : Array Slot), lv_has zls 6 [(0, .ref (ad 0)), (1, .int zx1), (3, .int zo3), (4, .int zx4)] → W p l e ({ frames := 4, cells := 0, slots := 0, locals := 96 } : Room) s m zargs zbelow zmeth c zH zlocs 0 0 zQ (F0 m 108 zls [])) → W p l e ({ frames := 4, cells := 0, slots := 0, locals := 96 } : Room) s m zargs zbelow zmeth c zH zlocs 0 0 zQ (F0 m 46 zls []) := by
  obtain ⟨hx, hb, hml, hown, hts, hK, hN⟩ := C0
  intro f
  induction f with
  | zero => intro _ _ _ _ _ h; exact absurd (show none = some _ from h) (fun h9 => by cases h9)
  | succ f ih =>
    intro zx3 zx5 now zo3 onow h zH zlocs hP hS zls hl kk
    rw [mX7_isNormal_L46_s] at h
    refine lv_iload hx hb dX7_isNormal_46 (lv_at hl 4 rfl) ?_
    refine lv_aload_n hx hb dX7_isNormal_48 rfl (lv_at hl 0 rfl) ?_
    refine va_get (D := D) (ci := 6) (v := .ref (ad 6)) (C := RX7) (T := TX7) (N := 11) hx hb hts uX7_isNormal_RX7 hown hK hP 0 rfl rfl 9 (by decide) (hts _ kX7_isNormal_1) (fun _ h9 => h9) rfl dX7_isNormal_49 ?_
    refine lv_bipush (v := 11) hx hb dX7_isNormal_52 (by decide) ?_
    obtain ⟨gg, h⟩ := gd_el h
    refine va_iald hx hb hK hP 6 0 rfl rfl (inb_in gg) dX7_isNormal_54 ?_
    refine lv_icmp_ge (tgt := 108) hx hb dX7_isNormal_55 (by decide) (fun cb => ?_) (fun cb => ?_)
    · rw [if_pos cb] at h
      cases h
      exact kk _ _ hP hS _ (lv_sub hl [0, 1, 2, 3] rfl)
    · rw [if_neg cb] at h
      refine lv_iload_n hx hb dX7_isNormal_58 rfl (lv_at hl 2 rfl) ?_
      obtain ⟨zv, now_1, hv, h⟩ := bd2_el h
      have hj : ∀ (zH : Heap) (zlocs : List Loc), va_P D vwCl (wM cI cZ ad n many image turn shelf groups inn now_1 makers makerMany queue) zH → va_S zA s.heap zH zlocs → W p l e ({ frames := 4, cells := 0, slots := 0, locals := 96 } : Room) s m zargs zbelow zmeth c zH zlocs 0 0 zQ (F0 m 101 zls [.int zv]) := by
        intro zH zlocs hP hS
        refine lv_istore_n (lv' := [(3, .int zv), (0, .ref (ad 0)), (1, .int zx1), (4, .int zx4), (5, .int zx5)]) hx hb dX7_isNormal_101 rfl hl (by decide) rfl (fun zls hl => ?_)
        refine lv_iinc (v := (zx5 + 1)) (lv' := [(5, .int (zx5 + 1)), (3, .int zv), (0, .ref (ad 0)), (1, .int zx1), (4, .int zx4)]) hx hb dX7_isNormal_102 hl (k := 4) rfl rfl (by decide) rfl (fun zls hl => ?_)
        refine lv_goto (tgt := 46) hx hb dX7_isNormal_105 (by decide) ?_
        exact ih _ _ _ _ _ h _ _ hP hS _ (lv_sub hl [2, 3, 1, 4, 0] rfl) kk
      refine lv_if_eq (tgt := 100) hx hb dX7_isNormal_59 (by decide) (fun cb_1 => ?_) (fun cb_1 => ?_)
      · rw [if_pos cb_1] at hv
        refine lv_iconst (v := 0) hx hb dX7_isNormal_100 (by decide) ?_
        cases hv
        exact hj _ _ hP hS
      · rw [if_neg cb_1] at hv
        refine lv_aload_n hx hb dX7_isNormal_62 rfl (lv_at hl 0 rfl) ?_
        refine lv_iload_n hx hb dX7_isNormal_63 rfl (lv_at hl 1 rfl) ?_
        refine lv_aload_n hx hb dX7_isNormal_64 rfl (lv_at hl 0 rfl) ?_
        refine lv_aload_n hx hb dX7_isNormal_65 rfl (lv_at hl 0 rfl) ?_
        refine va_get (D := D) (ci := 6) (v := .ref (ad 5)) (C := RX7) (T := TX7) (N := 11) hx hb hts uX7_isNormal_RX7 hown hK hP 0 rfl rfl 8 (by decide) (hts _ kX7_isNormal_2) (fun _ h9 => h9) rfl dX7_isNormal_66 ?_
        refine lv_sipush (v := 320) hx hb dX7_isNormal_69 (by decide) ?_
        refine lv_iload hx hb dX7_isNormal_72 (lv_at hl 3 rfl) ?_
        refine lv_iadd hx hb dX7_isNormal_74 ?_
        obtain ⟨gg_1, hv⟩ := gd_el hv
        refine va_iald hx hb hK hP 5 0 rfl rfl (inb_in gg_1) dX7_isNormal_75 ?_
        refine lv_aload_n hx hb dX7_isNormal_76 rfl (lv_at hl 0 rfl) ?_
        refine va_get (D := D) (ci := 6) (v := .ref (ad 5)) (C := RX7) (T := TX7) (N := 11) hx hb hts uX7_isNormal_RX7 hown hK hP 0 rfl rfl 8 (by decide) (hts _ kX7_isNormal_2) (fun _ h9 => h9) rfl dX7_isNormal_77 ?_
        refine lv_sipush (v := 352) hx hb dX7_isNormal_80 (by decide) ?_
        refine lv_iload hx hb dX7_isNormal_83 (lv_at hl 4 rfl) ?_
        refine lv_iadd hx hb dX7_isNormal_85 ?_
        obtain ⟨gg_2, hv⟩ := gd_el hv
        refine va_iald hx hb hK hP 5 0 rfl rfl (inb_in gg_2) dX7_isNormal_86 ?_
        obtain ⟨zr, now_2, hc, hv⟩ := bd2_el hv
        refine tg_cMi (va_runV (As := [.int (makers (Int32.toNatClampNeg (320 + zx4))), .int (makers (Int32.toNatClampNeg (352 + zx5)))]) (rest := [.int zx1, .ref (ad 0)]) ⟨hx, hb, hml, hown, hts⟩ (qX7_carried l D cI cZ ad n many image turn shelf groups inn now makers makerMany queue (makers (Int32.toNatClampNeg (320 + zx4))) (makers (Int32.toNatClampNeg (352 + zx5))) F zr now_2 hc) (cwV 2 hts gX7_isNormal_X7_carried rfl rfl rfl zVX7_carried ⟨Nat.le_of_ble_eq_true rfl, Nat.le_of_ble_eq_true rfl⟩) (tg_preVM (r := (RX7, TX7, 11)) (ci := 6) (q0 := 0) hP (hDD _ rfl) hK hN rfl rfl) rfl rfl hl.1 rfl (lv_room (Nat.le_of_ble_eq_true rfl)) dX7_isNormal_87 ⟨Nat.zero_le _, Nat.zero_le _⟩) hS (tg_inA (hDD _ rfl)) (fun zH zlocs _ hP hS => ?_)
        obtain ⟨zr_1, hc_1, hv⟩ := bd_el hv
        refine tg_cRi (va_runV (As := [.int zx1, .int zr]) (rest := []) ⟨hx, hb, hml, hown, hts⟩ (qX7_hasIt l D cI cZ ad n many image turn shelf groups inn now_2 makers makerMany queue zx1 zr zr_1 hc_1) (cwV 2 hts gX7_isNormal_X7_hasIt rfl rfl rfl zVX7_hasIt ⟨Nat.le_of_ble_eq_true rfl, Nat.le_of_ble_eq_true rfl⟩) (tg_preV (r := (RX7, TX7, 11)) (ci := 6) (q0 := 0) hP hK hN rfl rfl) rfl rfl hl.1 rfl (lv_room (Nat.le_of_ble_eq_true rfl)) dX7_isNormal_90 ⟨Nat.zero_le _, Nat.zero_le _⟩) ?_
        refine lv_if_eq (tgt := 100) hx hb dX7_isNormal_93 (by decide) (fun cb_2 => ?_) (fun cb_2 => ?_)
        · rw [if_pos cb_2] at hv
          refine lv_iconst (v := 0) hx hb dX7_isNormal_100 (by decide) ?_
          cases hv
          exact hj _ _ hP hS
        · rw [if_neg cb_2] at hv
          refine lv_iconst (v := 1) hx hb dX7_isNormal_96 (by decide) ?_
          refine lv_goto (tgt := 101) hx hb dX7_isNormal_97 (by decide) ?_
          cases hv
          exact hj _ _ hP hS
set_option maxRecDepth 100000 in
set_option maxHeartbeats 4000000 in
theorem wX7_isNormal_L31 {p : Program} {l : Launch} {e : Env} {s : State} {m : MethodId} {zargs : Array Value} {zbelow : List Frame} {zmeth : Method} {c : Code} {D : va_G} {zQ : State → Prop} {zA : Nat → Prop} {ad : Nat → Nat} {cI cZ : ClassId} {n : Int32} {many : Int32} {image : Nat → Int32} {turn : Int32} {shelf : Nat → Int32} {groups : Int32} {inn : Nat → Int32} {makers : Nat → Int32} {makerMany : Nat → Int32} {queue : Nat → Int32} {zx1 : Int32} (C0 : tg_C p s m zmeth c zargs cX7_isNormal RX7 wsX7_isNormal 6 D [(cI, .int), (cZ, .boolean)]) (hDD : tg_DD zA [ad 0, ad 1, ad 2, ad 3, ad 4, ad 5, ad 6, ad 7]) (hlocks : zmeth.locks = false) (hr : zmeth.sig.returnType = (some .boolean)) (F : Nat) : ∀ (f : Nat) (zx3 : Int32) (zx4 : Int32) (now : Nat → Int32) (zo3 : Int32) (onow : Nat → Int32), mX7_isNormal_L31 F zx1 n image inn makers makerMany f zx3 zx4 now = some (zo3, onow) → ∀ (zH : Heap) (zlocs : List Loc), va_P D vwCl (wM cI cZ ad n many image turn shelf groups inn now makers makerMany queue) zH → va_S zA s.heap zH zlocs → ∀ (zls : Array Slot), lv_has zls 6 [(0, .ref (ad 0)), (1, .int zx1), (3, .int zx3), (4, .int zx4)] → (∀ (zH : Heap) (zlocs : List Loc), va_P D vwCl (wM cI cZ ad n many image turn shelf groups inn onow makers makerMany queue) zH → va_S zA s.heap zH zlocs → ∀ (zls : Array Slot), lv_has zls 6 [(3, .int zo3)] → W p l e ({ frames := 4, cells := 0, slots := 0, locals := 96 } : Room) s m zargs zbelow zmeth c zH zlocs 0 0 zQ (F0 m 114 zls [])) → W p l e ({ frames := 4, cells := 0, slots := 0, locals := 96 } : Room) s m zargs zbelow zmeth c zH zlocs 0 0 zQ (F0 m 31 zls []) := by
  obtain ⟨hx, hb, hml, hown, hts, hK, hN⟩ := C0
  intro f
  induction f with
  | zero => intro _ _ _ _ _ h; exact absurd (show none = some _ from h) (fun h9 => by cases h9)
  | succ f ih =>
    intro zx3 zx4 now zo3 onow h zH zlocs hP hS zls hl kk
    rw [mX7_isNormal_L31_s] at h
    refine lv_iload hx hb dX7_isNormal_31 (lv_at hl 3 rfl) ?_
    refine lv_aload_n hx hb dX7_isNormal_33 rfl (lv_at hl 0 rfl) ?_
    refine va_get (D := D) (ci := 6) (v := .ref (ad 6)) (C := RX7) (T := TX7) (N := 11) hx hb hts uX7_isNormal_RX7 hown hK hP 0 rfl rfl 9 (by decide) (hts _ kX7_isNormal_1) (fun _ h9 => h9) rfl dX7_isNormal_34 ?_
    refine lv_bipush (v := 10) hx hb dX7_isNormal_37 (by decide) ?_
    obtain ⟨gg, h⟩ := gd_el h
    refine va_iald hx hb hK hP 6 0 rfl rfl (inb_in gg) dX7_isNormal_39 ?_
    refine lv_icmp_ge (tgt := 114) hx hb dX7_isNormal_40 (by decide) (fun cb => ?_) (fun cb => ?_)
    · rw [if_pos cb] at h
      cases h
      exact kk _ _ hP hS _ (lv_sub hl [2] rfl)
    · rw [if_neg cb] at h
      refine lv_iconst (v := 0) hx hb dX7_isNormal_43 (by decide) ?_
      refine lv_istore (lv' := [(5, .int 0), (0, .ref (ad 0)), (1, .int zx1), (3, .int zx3), (4, .int zx4)]) hx hb dX7_isNormal_44 hl (by decide) rfl (fun zls hl => ?_)
      obtain ⟨zx3_1, now_1, hv, h⟩ := bd2_el h
      refine wX7_isNormal_L46 ⟨hx, hb, hml, hown, hts, hK, hN⟩ hDD hlocks hr F F _ _ _ _ _ hv _ _ hP hS _ (lv_sub hl [1, 2, 3, 4, 0] rfl) (fun zH zlocs hP hS zls hl => ?_)
      refine lv_iinc (v := (zx4 + 1)) (lv' := [(4, .int (zx4 + 1)), (0, .ref (ad 0)), (1, .int zx1), (3, .int zx3_1)]) hx hb dX7_isNormal_108 hl (k := 3) rfl rfl (by decide) rfl (fun zls hl => ?_)
      refine lv_goto (tgt := 31) hx hb dX7_isNormal_111 (by decide) ?_
      exact ih _ _ _ _ _ h _ _ hP hS _ (lv_sub hl [1, 2, 3, 0] rfl) kk
set_option maxRecDepth 100000 in
set_option maxHeartbeats 4000000 in
theorem qX7_isNormal (l : Launch) (D : va_G) (cI : ClassId) (cZ : ClassId) (ad : Nat → Nat) (n : Int32) (many : Int32) (image : Nat → Int32) (turn : Int32) (shelf : Nat → Int32) (groups : Int32) (inn : Nat → Int32) (now : Nat → Int32) (makers : Nat → Int32) (makerMany : Nat → Int32) (queue : Nat → Int32) (zx1 : Int32) (zx2 : Int32) (F : Nat) (zr0 : Int32) (oinn : Nat → Int32) (onow : Nat → Int32) (omakers : Nat → Int32) (omakerMany : Nat → Int32) (oqueue : Nat → Int32) (h : mX7_isNormal F n many image inn now makers makerMany queue zx1 zx2 = some (zr0, oinn, onow, omakers, omakerMany, oqueue)) : Met l yX7_isNormal wsX7_isNormal ({ frames := 4, cells := 0, slots := 0, locals := 96 } : Room) (tg_PM D [(cI, .int), (cZ, .boolean)] [.ref (ad 0), .int zx1, .int zx2] (wM cI cZ ad n many image turn shelf groups inn now makers makerMany queue)) (tg_Mi D (wM cI cZ ad n many image turn shelf groups inn now makers makerMany queue) (wM cI cZ ad n many image turn shelf groups oinn onow omakers omakerMany oqueue) zr0) 0 0 (tg_in (wM cI cZ ad n many image turn shelf groups inn now makers makerMany queue)) := by
  refine Met.ofW (cc := cX7_isNormal) (maxL := 6) (ret := (some .boolean)) (by decide) rfl ?_
  intro p e s m zargs zbelow zmeth c s₁ B hml hv
  obtain ⟨hargs, hP, hK, hN, hD0⟩ := hv
  have hx := B.exec
  have hb := B.bytes
  have hr := B.returns
  have hts := atoms_spec (ws := wsX7_isNormal) B.pre
  have hown : s.vm.findClass RX7 = some m.cls := findClass_of_methodNamed B.named
  have hlocks := B.notSynchronized
  have hDD : tg_DD (tg_in (wM cI cZ ad n many image turn shelf groups inn now makers makerMany queue)) [ad 0, ad 1, ad 2, ad 3, ad 4, ad 5, ad 6, ad 7] := tg_DD.of (tg_D hD0) rfl
  have hS : va_S (tg_in (wM cI cZ ad n many image turn shelf groups inn now makers makerMany queue)) s.heap s.heap [] := va_S.rf
  have hl := lv_entry ([.ref (ad 0), .int zx1, .int zx2]) (n := 6) (Nat.le_of_ble_eq_true rfl)
  refine W.eq (g2 := entryFrame m ([.ref (ad 0), .int zx1, .int zx2] : List Value).toArray 6) (by rw [hargs]) ?_
  rw [lg_entry_eq]
  generalize (lg_sl ([.ref (ad 0), .int zx1, .int zx2]) ++ List.replicate (6 - (lg_sl ([.ref (ad 0), .int zx1, .int zx2])).length) Slot.unset).toArray = zls at hl ⊢
  have hl : lv_has zls 6 [(0, .ref (ad 0)), (1, .int zx1), (2, .int zx2)] := hl
  rw [mX7_isNormal] at h
  refine lv_aload_n hx hb dX7_isNormal_0 rfl (lv_at hl 0 rfl) ?_
  refine lv_bipush (v := 10) hx hb dX7_isNormal_1 (by decide) ?_
  obtain ⟨inn_1, makerMany_1, hc, h⟩ := bd2_el h
  refine tg_cMv (va_runV (As := [.int 10]) (rest := []) ⟨hx, hb, hml, hown, hts⟩ (qX7_begin l D cI cZ ad n many image turn shelf groups inn now makers makerMany queue 10 F inn_1 makerMany_1 hc) (cwV 1 hts gX7_isNormal_X7_begin rfl rfl rfl zVX7_begin ⟨Nat.le_of_ble_eq_true rfl, Nat.le_of_ble_eq_true rfl⟩) (tg_preVM (r := (RX7, TX7, 11)) (ci := 6) (q0 := 0) hP (hDD _ rfl) hK hN rfl rfl) rfl rfl hl.1 rfl (lv_room (Nat.le_of_ble_eq_true rfl)) dX7_isNormal_3 ⟨Nat.zero_le _, Nat.zero_le _⟩) hS (tg_inA (hDD _ rfl)) (fun zH zlocs _ hP hS => ?_)
  refine lv_aload_n hx hb dX7_isNormal_6 rfl (lv_at hl 0 rfl) ?_
  refine lv_bipush (v := 10) hx hb dX7_isNormal_7 (by decide) ?_
  refine lv_iload_n hx hb dX7_isNormal_9 rfl (lv_at hl 1 rfl) ?_
  obtain ⟨inn_2, now_1, makers_1, makerMany_2, queue_1, hc_1, h⟩ := bd5_el h
  refine tg_cMv (va_runV (As := [.int 10, .int zx1]) (rest := []) ⟨hx, hb, hml, hown, hts⟩ (qX7_joinAll l D cI cZ ad n many image turn shelf groups inn_1 now makers makerMany_1 queue 10 zx1 F inn_2 now_1 makers_1 makerMany_2 queue_1 hc_1) (cwV 2 hts gX7_isNormal_X7_joinAll rfl rfl rfl zVX7_joinAll ⟨Nat.le_of_ble_eq_true rfl, Nat.le_of_ble_eq_true rfl⟩) (tg_preVM (r := (RX7, TX7, 11)) (ci := 6) (q0 := 0) hP (hDD _ rfl) hK hN rfl rfl) rfl rfl hl.1 rfl (lv_room (Nat.le_of_ble_eq_true rfl)) dX7_isNormal_10 ⟨Nat.zero_le _, Nat.zero_le _⟩) hS (tg_inA (hDD _ rfl)) (fun zH zlocs _ hP hS => ?_)
  refine lv_aload_n hx hb dX7_isNormal_13 rfl (lv_at hl 0 rfl) ?_
  refine lv_bipush (v := 11) hx hb dX7_isNormal_14 (by decide) ?_
  obtain ⟨inn_3, makerMany_3, hc_2, h⟩ := bd2_el h
  refine tg_cMv (va_runV (As := [.int 11]) (rest := []) ⟨hx, hb, hml, hown, hts⟩ (qX7_begin l D cI cZ ad n many image turn shelf groups inn_2 now_1 makers_1 makerMany_2 queue_1 11 F inn_3 makerMany_3 hc_2) (cwV 1 hts gX7_isNormal_X7_begin rfl rfl rfl zVX7_begin ⟨Nat.le_of_ble_eq_true rfl, Nat.le_of_ble_eq_true rfl⟩) (tg_preVM (r := (RX7, TX7, 11)) (ci := 6) (q0 := 0) hP (hDD _ rfl) hK hN rfl rfl) rfl rfl hl.1 rfl (lv_room (Nat.le_of_ble_eq_true rfl)) dX7_isNormal_16 ⟨Nat.zero_le _, Nat.zero_le _⟩) hS (tg_inA (hDD _ rfl)) (fun zH zlocs _ hP hS => ?_)
  refine lv_aload_n hx hb dX7_isNormal_19 rfl (lv_at hl 0 rfl) ?_
  refine lv_bipush (v := 11) hx hb dX7_isNormal_20 (by decide) ?_
  refine lv_iload_n hx hb dX7_isNormal_22 rfl (lv_at hl 2 rfl) ?_
  obtain ⟨inn_4, now_2, makers_2, makerMany_4, queue_2, hc_3, h⟩ := bd5_el h
  refine tg_cMv (va_runV (As := [.int 11, .int zx2]) (rest := []) ⟨hx, hb, hml, hown, hts⟩ (qX7_joinAll l D cI cZ ad n many image turn shelf groups inn_3 now_1 makers_1 makerMany_3 queue_1 11 zx2 F inn_4 now_2 makers_2 makerMany_4 queue_2 hc_3) (cwV 2 hts gX7_isNormal_X7_joinAll rfl rfl rfl zVX7_joinAll ⟨Nat.le_of_ble_eq_true rfl, Nat.le_of_ble_eq_true rfl⟩) (tg_preVM (r := (RX7, TX7, 11)) (ci := 6) (q0 := 0) hP (hDD _ rfl) hK hN rfl rfl) rfl rfl hl.1 rfl (lv_room (Nat.le_of_ble_eq_true rfl)) dX7_isNormal_23 ⟨Nat.zero_le _, Nat.zero_le _⟩) hS (tg_inA (hDD _ rfl)) (fun zH zlocs _ hP hS => ?_)
  refine lv_iconst (v := 1) hx hb dX7_isNormal_26 (by decide) ?_
  refine lv_istore_n (lv' := [(3, .int 1), (0, .ref (ad 0)), (1, .int zx1), (2, .int zx2)]) hx hb dX7_isNormal_27 rfl hl (by decide) rfl (fun zls hl => ?_)
  refine lv_iconst (v := 0) hx hb dX7_isNormal_28 (by decide) ?_
  refine lv_istore (lv' := [(4, .int 0), (3, .int 1), (0, .ref (ad 0)), (1, .int zx1), (2, .int zx2)]) hx hb dX7_isNormal_29 hl (by decide) rfl (fun zls hl => ?_)
  obtain ⟨zx3, now_3, hv, h⟩ := bd2_el h
  refine wX7_isNormal_L31 ⟨hx, hb, hml, hown, hts, hK, hN⟩ hDD hlocks hr F F _ _ _ _ _ hv _ _ hP hS _ (lv_sub hl [2, 3, 1, 0] rfl) (fun zH zlocs hP hS zls hl => ?_)
  refine lv_iload_n hx hb dX7_isNormal_114 rfl (lv_at hl 0 rfl) ?_
  obtain ⟨gz, h⟩ := gd_el h
  cases h
  exact W.zret hx hb hr (isb_n gz) (fun t ht hW => ⟨rfl, by rw [ht]; exact hP, hS.F ht⟩) hS.2.2 dX7_isNormal_115
theorem zVX7_isNormal : yX7_isNormal.cls = RX7 ∧ yX7_isNormal.cls ≠ "java/lang/invoke/MethodHandle" ∧ yX7_isNormal.cls ≠ "java/lang/invoke/VarHandle" ∧ (parseMethodDescriptor yX7_isNormal.desc).map (fun d => d.parameters.length) = some 2 := by decide +kernel

/-! ===== private int stillIn(int); ===== -/
theorem kX7_stillIn_1 : Cond.fieldLink RX7 7 "TurnGroupsModel" "n" "I" ∈ wsX7_stillIn := by decide +kernel
theorem kX7_stillIn_2 : Cond.fieldLink RX7 14 "TurnGroupsModel" "image" "[I" ∈ wsX7_stillIn := by decide +kernel
theorem uX7_stillIn_RX7 : ∀ w ∈ u_ws RX7 TX7 11, w ∈ wsX7_stillIn := by decide +kernel
def mX7_stillIn_L4 (zx1 : Int32) (n : Int32) (image : Nat → Int32) : Nat → Int32 → Int32 → Option (Int32)
  | 0, _, _ => none
  | f + 1, zx2, zx3 => if n ≤ zx3 then (some zx2) else (gd (inb ((8 * zx1) + zx3) 322560) (lT (if (image (Int32.toNatClampNeg ((8 * zx1) + zx3))) = zx3 then 1 else 0) (fun zv => lT (zx2 + zv) (fun zx2_1 => mX7_stillIn_L4 zx1 n image f zx2_1 (zx3 + 1)))))
theorem mX7_stillIn_L4_s (zx1 : Int32) (n : Int32) (image : Nat → Int32) (f : Nat) (zx2 : Int32) (zx3 : Int32) : mX7_stillIn_L4 zx1 n image (f + 1) zx2 zx3 = (if n ≤ zx3 then (some zx2) else (gd (inb ((8 * zx1) + zx3) 322560) (lT (if (image (Int32.toNatClampNeg ((8 * zx1) + zx3))) = zx3 then 1 else 0) (fun zv => lT (zx2 + zv) (fun zx2_1 => mX7_stillIn_L4 zx1 n image f zx2_1 (zx3 + 1)))))) := rfl
def mX7_stillIn (F : Nat) (n : Int32) (image : Nat → Int32) (zx1 : Int32) : Option (Int32) := bd (mX7_stillIn_L4 zx1 n image F 0 0) (fun zx2 => some zx2)
set_option maxRecDepth 100000 in
set_option maxHeartbeats 4000000 in
theorem wX7_stillIn_L4 {p : Program} {l : Launch} {e : Env} {s : State} {m : MethodId} {zargs : Array Value} {zbelow : List Frame} {zmeth : Method} {c : Code} {D : va_G} {zQ : State → Prop} {ad : Nat → Nat} {cI cZ : ClassId} {n : Int32} {many : Int32} {image : Nat → Int32} {turn : Int32} {shelf : Nat → Int32} {groups : Int32} {inn : Nat → Int32} {now : Nat → Int32} {makers : Nat → Int32} {makerMany : Nat → Int32} {queue : Nat → Int32} {zx1 : Int32} (C0 : tg_C p s m zmeth c zargs cX7_stillIn RX7 wsX7_stillIn 4 D [(cI, .int), (cZ, .boolean)]) (hP : va_P D vwCl (wM cI cZ ad n many image turn shelf groups inn now makers makerMany queue) s.heap) (hlocks : zmeth.locks = false) (hr : zmeth.sig.returnType = (some .int)) (F : Nat) : ∀ (f : Nat) (zx2 : Int32) (zx3 : Int32) (zo2 : Int32), mX7_stillIn_L4 zx1 n image f zx2 zx3 = some zo2 → ∀ (zls : Array Slot), lv_has zls 4 [(0, .ref (ad 0)), (1, .int zx1), (2, .int zx2), (3, .int zx3)] → (∀ (zls : Array Slot), lv_has zls 4 [(2, .int zo2)] → W p l e ({ frames := 0, cells := 0, slots := 0, locals := 0 } : Room) s m zargs zbelow zmeth c s.heap [] 0 0 zQ (F0 m 41 zls [])) → W p l e ({ frames := 0, cells := 0, slots := 0, locals := 0 } : Room) s m zargs zbelow zmeth c s.heap [] 0 0 zQ (F0 m 4 zls []) := by
  obtain ⟨hx, hb, hml, hown, hts, hK, hN⟩ := C0
  intro f
  induction f with
  | zero => intro _ _ _ h; exact absurd (show none = some _ from h) (fun h9 => by cases h9)
  | succ f ih =>
    intro zx2 zx3 zo2 h  zls hl kk
    rw [mX7_stillIn_L4_s] at h
    refine lv_iload_n hx hb dX7_stillIn_4 rfl (lv_at hl 3 rfl) ?_
    refine lv_aload_n hx hb dX7_stillIn_5 rfl (lv_at hl 0 rfl) ?_
    refine va_get (D := D) (ci := 6) (v := .int n) (C := RX7) (T := TX7) (N := 11) hx hb hts uX7_stillIn_RX7 hown hK hP 0 rfl rfl 0 (by decide) (hts _ kX7_stillIn_1) (fun _ h9 => h9) rfl dX7_stillIn_6 ?_
    refine lv_icmp_ge (tgt := 41) hx hb dX7_stillIn_9 (by decide) (fun cb => ?_) (fun cb => ?_)
    · rw [if_pos cb] at h
      cases h
      exact kk  _ (lv_sub hl [2] rfl)
    · rw [if_neg cb] at h
      refine lv_iload_n hx hb dX7_stillIn_12 rfl (lv_at hl 2 rfl) ?_
      refine lv_aload_n hx hb dX7_stillIn_13 rfl (lv_at hl 0 rfl) ?_
      refine va_get (D := D) (ci := 6) (v := .ref (ad 1)) (C := RX7) (T := TX7) (N := 11) hx hb hts uX7_stillIn_RX7 hown hK hP 0 rfl rfl 2 (by decide) (hts _ kX7_stillIn_2) (fun _ h9 => h9) rfl dX7_stillIn_14 ?_
      refine lv_bipush (v := 8) hx hb dX7_stillIn_17 (by decide) ?_
      refine lv_iload_n hx hb dX7_stillIn_19 rfl (lv_at hl 1 rfl) ?_
      refine lv_imul hx hb dX7_stillIn_20 ?_
      refine lv_iload_n hx hb dX7_stillIn_21 rfl (lv_at hl 3 rfl) ?_
      refine lv_iadd hx hb dX7_stillIn_22 ?_
      obtain ⟨gg, h⟩ := gd_el h
      refine va_iald hx hb hK hP 1 0 rfl rfl (inb_in gg) dX7_stillIn_23 ?_
      refine lv_iload_n hx hb dX7_stillIn_24 rfl (lv_at hl 3 rfl) ?_
      obtain ⟨zv, hv, h⟩ := lT_el h
      have hj : W p l e ({ frames := 0, cells := 0, slots := 0, locals := 0 } : Room) s m zargs zbelow zmeth c s.heap [] 0 0 zQ (F0 m 33 zls [.int zv, .int zx2]) := by
        refine lv_iadd hx hb dX7_stillIn_33 ?_
        obtain ⟨zx2_1, ex2_1, h⟩ := lT_el h
        refine tg_top ex2_1 ?_
        refine lv_istore_n (lv' := [(2, .int zx2_1), (0, .ref (ad 0)), (1, .int zx1), (3, .int zx3)]) hx hb dX7_stillIn_34 rfl hl (by decide) rfl (fun zls hl => ?_)
        refine lv_iinc (v := (zx3 + 1)) (lv' := [(3, .int (zx3 + 1)), (2, .int zx2_1), (0, .ref (ad 0)), (1, .int zx1)]) hx hb dX7_stillIn_35 hl (k := 3) rfl rfl (by decide) rfl (fun zls hl => ?_)
        refine lv_goto (tgt := 4) hx hb dX7_stillIn_38 (by decide) ?_
        exact ih _ _ _ h  _ (lv_sub hl [2, 3, 1, 0] rfl) kk
      refine lv_icmp_ne (tgt := 32) hx hb dX7_stillIn_25 (by decide) (fun cb_1 => ?_) (fun cb_1 => ?_)
      · rw [if_neg cb_1] at hv
        refine lv_iconst (v := 0) hx hb dX7_stillIn_32 (by decide) ?_
        subst hv
        exact hj 
      · rw [if_pos cb_1] at hv
        refine lv_iconst (v := 1) hx hb dX7_stillIn_28 (by decide) ?_
        refine lv_goto (tgt := 33) hx hb dX7_stillIn_29 (by decide) ?_
        subst hv
        exact hj 
set_option maxRecDepth 100000 in
set_option maxHeartbeats 4000000 in
theorem qX7_stillIn (l : Launch) (D : va_G) (cI : ClassId) (cZ : ClassId) (ad : Nat → Nat) (n : Int32) (many : Int32) (image : Nat → Int32) (turn : Int32) (shelf : Nat → Int32) (groups : Int32) (inn : Nat → Int32) (now : Nat → Int32) (makers : Nat → Int32) (makerMany : Nat → Int32) (queue : Nat → Int32) (zx1 : Int32) (F : Nat) (zr0 : Int32) (h : mX7_stillIn F n image zx1 = some zr0) : Met l yX7_stillIn wsX7_stillIn ({ frames := 0, cells := 0, slots := 0, locals := 0 } : Room) (tg_P D [(cI, .int), (cZ, .boolean)] [.ref (ad 0), .int zx1] ((wM cI cZ ad n many image turn shelf groups inn now makers makerMany queue))) (tg_Ri zr0) 0 0 (fun _ => False) := by
  refine Met.ofW (cc := cX7_stillIn) (maxL := 4) (ret := (some .int)) (by decide) rfl ?_
  intro p e s m zargs zbelow zmeth c s₁ B hml hv
  obtain ⟨hargs, hP, hK, hN⟩ := hv
  have hx := B.exec
  have hb := B.bytes
  have hr := B.returns
  have hts := atoms_spec (ws := wsX7_stillIn) B.pre
  have hown : s.vm.findClass RX7 = some m.cls := findClass_of_methodNamed B.named
  have hlocks := B.notSynchronized
  have hl := lv_entry ([.ref (ad 0), .int zx1]) (n := 4) (Nat.le_of_ble_eq_true rfl)
  refine W.eq (g2 := entryFrame m ([.ref (ad 0), .int zx1] : List Value).toArray 4) (by rw [hargs]) ?_
  rw [lg_entry_eq]
  generalize (lg_sl ([.ref (ad 0), .int zx1]) ++ List.replicate (4 - (lg_sl ([.ref (ad 0), .int zx1])).length) Slot.unset).toArray = zls at hl ⊢
  have hl : lv_has zls 4 [(0, .ref (ad 0)), (1, .int zx1)] := hl
  rw [mX7_stillIn] at h
  refine lv_iconst (v := 0) hx hb dX7_stillIn_0 (by decide) ?_
  refine lv_istore_n (lv' := [(2, .int 0), (0, .ref (ad 0)), (1, .int zx1)]) hx hb dX7_stillIn_1 rfl hl (by decide) rfl (fun zls hl => ?_)
  refine lv_iconst (v := 0) hx hb dX7_stillIn_2 (by decide) ?_
  refine lv_istore_n (lv' := [(3, .int 0), (2, .int 0), (0, .ref (ad 0)), (1, .int zx1)]) hx hb dX7_stillIn_3 rfl hl (by decide) rfl (fun zls hl => ?_)
  obtain ⟨zx2, hv, h⟩ := bd_el h
  refine wX7_stillIn_L4 ⟨hx, hb, hml, hown, hts, hK, hN⟩ hP hlocks hr F F _ _ _ hv  _ (lv_sub hl [2, 3, 1, 0] rfl) (fun zls hl => ?_)
  refine lv_iload_n hx hb dX7_stillIn_41 rfl (lv_at hl 0 rfl) ?_
  cases h
  exact W.iret hx hb hr (fun t ht hW => ⟨rfl, ht⟩) (fun _ h9 => absurd h9 List.not_mem_nil) dX7_stillIn_42
theorem zVX7_stillIn : yX7_stillIn.cls = RX7 ∧ yX7_stillIn.cls ≠ "java/lang/invoke/MethodHandle" ∧ yX7_stillIn.cls ≠ "java/lang/invoke/VarHandle" ∧ (parseMethodDescriptor yX7_stillIn.desc).map (fun d => d.parameters.length) = some 1 := by decide +kernel
