/-! ===== private static int image(int, int); ===== -/
def mX6_image (zx0 : Int32) (zx1 : Int32) : Int32 := ((zx0 >>> ((4 * zx1) &&& 31)) &&& 7)
set_option maxRecDepth 100000 in
set_option maxHeartbeats 4000000 in
theorem qX6_image (l : Launch) (D : va_G) (zx0 : Int32) (zx1 : Int32) (zr0 : Int32) (h : mX6_image zx0 zx1 = zr0) : Met l yX6_image wsX6_image ({ frames := 0, cells := 0, slots := 0, locals := 0 } : Room) (tg_P D [] [.int zx0, .int zx1] ([])) (tg_Ri zr0) 0 0 (fun _ => False) := by
  refine Met.ofW (cc := cX6_image) (maxL := 2) (ret := (some .int)) (by decide) rfl ?_
  intro p e s m zargs zbelow zmeth c s₁ B hml hv
  obtain ⟨hargs, hP, hK, hN⟩ := hv
  have hx := B.exec
  have hb := B.bytes
  have hr := B.returns
  have hts := atoms_spec (ws := wsX6_image) B.pre
  have hown : s.vm.findClass RX6 = some m.cls := findClass_of_methodNamed B.named
  have hlocks := B.notSynchronized
  have hl := lv_entry ([.int zx0, .int zx1]) (n := 2) (Nat.le_of_ble_eq_true rfl)
  refine W.eq (g2 := entryFrame m ([.int zx0, .int zx1] : List Value).toArray 2) (by rw [hargs]) ?_
  rw [lg_entry_eq]
  generalize (lg_sl ([.int zx0, .int zx1]) ++ List.replicate (2 - (lg_sl ([.int zx0, .int zx1])).length) Slot.unset).toArray = zls at hl ⊢
  have hl : lv_has zls 2 [(0, .int zx0), (1, .int zx1)] := hl
  rw [mX6_image] at h
  refine lv_iload_n hx hb dX6_image_0 rfl (lv_at hl 0 rfl) ?_
  refine lv_iconst (v := 4) hx hb dX6_image_1 (by decide) ?_
  refine lv_iload_n hx hb dX6_image_2 rfl (lv_at hl 1 rfl) ?_
  refine lv_imul hx hb dX6_image_3 ?_
  refine lv_ishr hx hb dX6_image_4 ?_
  refine lv_bipush (v := 7) hx hb dX6_image_5 (by decide) ?_
  refine lv_iand hx hb dX6_image_7 ?_
  subst h
  exact W.iret hx hb hr (fun t ht hW => ⟨rfl, ht⟩) (fun _ h9 => absurd h9 List.not_mem_nil) dX6_image_8
theorem zSX6_image : yX6_image.cls ≠ "java/lang/invoke/MethodHandle" ∧ yX6_image.cls ≠ "java/lang/invoke/VarHandle" ∧ (parseMethodDescriptor yX6_image.desc).map (fun d => d.parameters.length) = some 2 := by decide +kernel

/-! ===== private static int chain(int, int); ===== -/
def mX6_chain_L4 (zx0 : Int32) (zx1 : Int32) : Nat → Int32 → Int32 → Option (Int32)
  | 0, _, _ => none
  | f + 1, zx2, zx3 => if 32 ≤ zx3 then (some zx2) else (lT ((zx0 >>> (zx3 &&& 31)) &&& 7) (fun zx4 => lT (zx2 ||| (((zx1 >>> ((4 * zx4) &&& 31)) &&& 7) <<< (zx3 &&& 31))) (fun zx2_1 => mX6_chain_L4 zx0 zx1 f zx2_1 (zx3 + 4))))
theorem mX6_chain_L4_s (zx0 : Int32) (zx1 : Int32) (f : Nat) (zx2 : Int32) (zx3 : Int32) : mX6_chain_L4 zx0 zx1 (f + 1) zx2 zx3 = (if 32 ≤ zx3 then (some zx2) else (lT ((zx0 >>> (zx3 &&& 31)) &&& 7) (fun zx4 => lT (zx2 ||| (((zx1 >>> ((4 * zx4) &&& 31)) &&& 7) <<< (zx3 &&& 31))) (fun zx2_1 => mX6_chain_L4 zx0 zx1 f zx2_1 (zx3 + 4))))) := rfl
def mX6_chain (F : Nat) (zx0 : Int32) (zx1 : Int32) : Option (Int32) := bd (mX6_chain_L4 zx0 zx1 F 0 0) (fun zx2 => some zx2)
set_option maxRecDepth 100000 in
set_option maxHeartbeats 4000000 in
theorem wX6_chain_L4 {p : Program} {l : Launch} {e : Env} {s : State} {m : MethodId} {zargs : Array Value} {zbelow : List Frame} {zmeth : Method} {c : Code} {D : va_G} {zQ : State → Prop} {zx0 : Int32} {zx1 : Int32} (C0 : tg_C p s m zmeth c zargs cX6_chain RX6 wsX6_chain 5 D []) (hlocks : zmeth.locks = false) (hr : zmeth.sig.returnType = (some .int)) (F : Nat) : ∀ (f : Nat) (zx2 : Int32) (zx3 : Int32) (zo2 : Int32), mX6_chain_L4 zx0 zx1 f zx2 zx3 = some zo2 → ∀ (zls : Array Slot), lv_has zls 5 [(0, .int zx0), (1, .int zx1), (2, .int zx2), (3, .int zx3)] → (∀ (zls : Array Slot), lv_has zls 5 [(2, .int zo2)] → W p l e ({ frames := 0, cells := 0, slots := 0, locals := 0 } : Room) s m zargs zbelow zmeth c s.heap [] 0 0 zQ (F0 m 38 zls [])) → W p l e ({ frames := 0, cells := 0, slots := 0, locals := 0 } : Room) s m zargs zbelow zmeth c s.heap [] 0 0 zQ (F0 m 4 zls []) := by
  obtain ⟨hx, hb, hml, hown, hts, hK, hN⟩ := C0
  intro f
  induction f with
  | zero => intro _ _ _ h; exact absurd (show none = some _ from h) (fun h9 => by cases h9)
  | succ f ih =>
    intro zx2 zx3 zo2 h  zls hl kk
    rw [mX6_chain_L4_s] at h
    refine lv_iload_n hx hb dX6_chain_4 rfl (lv_at hl 3 rfl) ?_
    refine lv_bipush (v := 32) hx hb dX6_chain_5 (by decide) ?_
    refine lv_icmp_ge (tgt := 38) hx hb dX6_chain_7 (by decide) (fun cb => ?_) (fun cb => ?_)
    · rw [if_pos cb] at h
      cases h
      exact kk  _ (lv_sub hl [2] rfl)
    · rw [if_neg cb] at h
      refine lv_iload_n hx hb dX6_chain_10 rfl (lv_at hl 0 rfl) ?_
      refine lv_iload_n hx hb dX6_chain_11 rfl (lv_at hl 3 rfl) ?_
      refine lv_ishr hx hb dX6_chain_12 ?_
      refine lv_bipush (v := 7) hx hb dX6_chain_13 (by decide) ?_
      refine lv_iand hx hb dX6_chain_15 ?_
      obtain ⟨zx4, ex4, h⟩ := lT_el h
      refine tg_top ex4 ?_
      refine lv_istore (lv' := [(4, .int zx4), (0, .int zx0), (1, .int zx1), (2, .int zx2), (3, .int zx3)]) hx hb dX6_chain_16 hl (by decide) rfl (fun zls hl => ?_)
      refine lv_iload_n hx hb dX6_chain_18 rfl (lv_at hl 3 rfl) ?_
      refine lv_iload_n hx hb dX6_chain_19 rfl (lv_at hl 2 rfl) ?_
      refine lv_iconst (v := 4) hx hb dX6_chain_20 (by decide) ?_
      refine lv_iload hx hb dX6_chain_21 (lv_at hl 0 rfl) ?_
      refine lv_imul hx hb dX6_chain_23 ?_
      refine lv_ishr hx hb dX6_chain_24 ?_
      refine lv_bipush (v := 7) hx hb dX6_chain_25 (by decide) ?_
      refine lv_iand hx hb dX6_chain_27 ?_
      refine lv_iload_n hx hb dX6_chain_28 rfl (lv_at hl 4 rfl) ?_
      refine lv_ishl hx hb dX6_chain_29 ?_
      refine lv_ior hx hb dX6_chain_30 ?_
      obtain ⟨zx2_1, ex2_1, h⟩ := lT_el h
      refine tg_top ex2_1 ?_
      refine lv_istore_n (lv' := [(2, .int zx2_1), (4, .int zx4), (0, .int zx0), (1, .int zx1), (3, .int zx3)]) hx hb dX6_chain_31 rfl hl (by decide) rfl (fun zls hl => ?_)
      refine lv_iinc (v := (zx3 + 4)) (lv' := [(3, .int (zx3 + 4)), (2, .int zx2_1), (4, .int zx4), (0, .int zx0), (1, .int zx1)]) hx hb dX6_chain_32 hl (k := 4) rfl rfl (by decide) rfl (fun zls hl => ?_)
      refine lv_goto (tgt := 4) hx hb dX6_chain_35 (by decide) ?_
      exact ih _ _ _ h  _ (lv_sub hl [3, 4, 1, 0] rfl) kk
set_option maxRecDepth 100000 in
set_option maxHeartbeats 4000000 in
theorem qX6_chain (l : Launch) (D : va_G) (zx0 : Int32) (zx1 : Int32) (F : Nat) (zr0 : Int32) (h : mX6_chain F zx0 zx1 = some zr0) : Met l yX6_chain wsX6_chain ({ frames := 0, cells := 0, slots := 0, locals := 0 } : Room) (tg_P D [] [.int zx0, .int zx1] ([])) (tg_Ri zr0) 0 0 (fun _ => False) := by
  refine Met.ofW (cc := cX6_chain) (maxL := 5) (ret := (some .int)) (by decide) rfl ?_
  intro p e s m zargs zbelow zmeth c s₁ B hml hv
  obtain ⟨hargs, hP, hK, hN⟩ := hv
  have hx := B.exec
  have hb := B.bytes
  have hr := B.returns
  have hts := atoms_spec (ws := wsX6_chain) B.pre
  have hown : s.vm.findClass RX6 = some m.cls := findClass_of_methodNamed B.named
  have hlocks := B.notSynchronized
  have hl := lv_entry ([.int zx0, .int zx1]) (n := 5) (Nat.le_of_ble_eq_true rfl)
  refine W.eq (g2 := entryFrame m ([.int zx0, .int zx1] : List Value).toArray 5) (by rw [hargs]) ?_
  rw [lg_entry_eq]
  generalize (lg_sl ([.int zx0, .int zx1]) ++ List.replicate (5 - (lg_sl ([.int zx0, .int zx1])).length) Slot.unset).toArray = zls at hl ⊢
  have hl : lv_has zls 5 [(0, .int zx0), (1, .int zx1)] := hl
  rw [mX6_chain] at h
  refine lv_iconst (v := 0) hx hb dX6_chain_0 (by decide) ?_
  refine lv_istore_n (lv' := [(2, .int 0), (0, .int zx0), (1, .int zx1)]) hx hb dX6_chain_1 rfl hl (by decide) rfl (fun zls hl => ?_)
  refine lv_iconst (v := 0) hx hb dX6_chain_2 (by decide) ?_
  refine lv_istore_n (lv' := [(3, .int 0), (2, .int 0), (0, .int zx0), (1, .int zx1)]) hx hb dX6_chain_3 rfl hl (by decide) rfl (fun zls hl => ?_)
  obtain ⟨zx2, hv, h⟩ := bd_el h
  refine wX6_chain_L4 ⟨hx, hb, hml, hown, hts, hK, hN⟩ hlocks hr F F _ _ _ hv  _ (lv_sub hl [2, 3, 1, 0] rfl) (fun zls hl => ?_)
  refine lv_iload_n hx hb dX6_chain_38 rfl (lv_at hl 0 rfl) ?_
  cases h
  exact W.iret hx hb hr (fun t ht hW => ⟨rfl, ht⟩) (fun _ h9 => absurd h9 List.not_mem_nil) dX6_chain_39
theorem zSX6_chain : yX6_chain.cls ≠ "java/lang/invoke/MethodHandle" ∧ yX6_chain.cls ≠ "java/lang/invoke/VarHandle" ∧ (parseMethodDescriptor yX6_chain.desc).map (fun d => d.parameters.length) = some 2 := by decide +kernel

/-! ===== private static int reverse(int); ===== -/
def mX6_reverse_L4 (zx0 : Int32) : Nat → Int32 → Int32 → Option (Int32)
  | 0, _, _ => none
  | f + 1, zx1, zx2 => if 8 ≤ zx2 then (some zx1) else (lT ((zx0 >>> ((4 * zx2) &&& 31)) &&& 7) (fun zx3 => lT (zx1 ||| (zx2 <<< ((4 * zx3) &&& 31))) (fun zx1_1 => mX6_reverse_L4 zx0 f zx1_1 (zx2 + 1))))
theorem mX6_reverse_L4_s (zx0 : Int32) (f : Nat) (zx1 : Int32) (zx2 : Int32) : mX6_reverse_L4 zx0 (f + 1) zx1 zx2 = (if 8 ≤ zx2 then (some zx1) else (lT ((zx0 >>> ((4 * zx2) &&& 31)) &&& 7) (fun zx3 => lT (zx1 ||| (zx2 <<< ((4 * zx3) &&& 31))) (fun zx1_1 => mX6_reverse_L4 zx0 f zx1_1 (zx2 + 1))))) := rfl
def mX6_reverse (F : Nat) (zx0 : Int32) : Option (Int32) := bd (mX6_reverse_L4 zx0 F 0 0) (fun zx1 => some zx1)
set_option maxRecDepth 100000 in
set_option maxHeartbeats 4000000 in
theorem wX6_reverse_L4 {p : Program} {l : Launch} {e : Env} {s : State} {m : MethodId} {zargs : Array Value} {zbelow : List Frame} {zmeth : Method} {c : Code} {D : va_G} {zQ : State → Prop} {zx0 : Int32} (C0 : tg_C p s m zmeth c zargs cX6_reverse RX6 wsX6_reverse 4 D []) (hlocks : zmeth.locks = false) (hr : zmeth.sig.returnType = (some .int)) (F : Nat) : ∀ (f : Nat) (zx1 : Int32) (zx2 : Int32) (zo1 : Int32), mX6_reverse_L4 zx0 f zx1 zx2 = some zo1 → ∀ (zls : Array Slot), lv_has zls 4 [(0, .int zx0), (1, .int zx1), (2, .int zx2)] → (∀ (zls : Array Slot), lv_has zls 4 [(1, .int zo1)] → W p l e ({ frames := 0, cells := 0, slots := 0, locals := 0 } : Room) s m zargs zbelow zmeth c s.heap [] 0 0 zQ (F0 m 33 zls [])) → W p l e ({ frames := 0, cells := 0, slots := 0, locals := 0 } : Room) s m zargs zbelow zmeth c s.heap [] 0 0 zQ (F0 m 4 zls []) := by
  obtain ⟨hx, hb, hml, hown, hts, hK, hN⟩ := C0
  intro f
  induction f with
  | zero => intro _ _ _ h; exact absurd (show none = some _ from h) (fun h9 => by cases h9)
  | succ f ih =>
    intro zx1 zx2 zo1 h  zls hl kk
    rw [mX6_reverse_L4_s] at h
    refine lv_iload_n hx hb dX6_reverse_4 rfl (lv_at hl 2 rfl) ?_
    refine lv_bipush (v := 8) hx hb dX6_reverse_5 (by decide) ?_
    refine lv_icmp_ge (tgt := 33) hx hb dX6_reverse_7 (by decide) (fun cb => ?_) (fun cb => ?_)
    · rw [if_pos cb] at h
      cases h
      exact kk  _ (lv_sub hl [1] rfl)
    · rw [if_neg cb] at h
      refine lv_iload_n hx hb dX6_reverse_10 rfl (lv_at hl 0 rfl) ?_
      refine lv_iconst (v := 4) hx hb dX6_reverse_11 (by decide) ?_
      refine lv_iload_n hx hb dX6_reverse_12 rfl (lv_at hl 2 rfl) ?_
      refine lv_imul hx hb dX6_reverse_13 ?_
      refine lv_ishr hx hb dX6_reverse_14 ?_
      refine lv_bipush (v := 7) hx hb dX6_reverse_15 (by decide) ?_
      refine lv_iand hx hb dX6_reverse_17 ?_
      obtain ⟨zx3, ex3, h⟩ := lT_el h
      refine tg_top ex3 ?_
      refine lv_istore_n (lv' := [(3, .int zx3), (0, .int zx0), (1, .int zx1), (2, .int zx2)]) hx hb dX6_reverse_18 rfl hl (by decide) rfl (fun zls hl => ?_)
      refine lv_iload_n hx hb dX6_reverse_19 rfl (lv_at hl 2 rfl) ?_
      refine lv_iload_n hx hb dX6_reverse_20 rfl (lv_at hl 3 rfl) ?_
      refine lv_iconst (v := 4) hx hb dX6_reverse_21 (by decide) ?_
      refine lv_iload_n hx hb dX6_reverse_22 rfl (lv_at hl 0 rfl) ?_
      refine lv_imul hx hb dX6_reverse_23 ?_
      refine lv_ishl hx hb dX6_reverse_24 ?_
      refine lv_ior hx hb dX6_reverse_25 ?_
      obtain ⟨zx1_1, ex1_1, h⟩ := lT_el h
      refine tg_top ex1_1 ?_
      refine lv_istore_n (lv' := [(1, .int zx1_1), (3, .int zx3), (0, .int zx0), (2, .int zx2)]) hx hb dX6_reverse_26 rfl hl (by decide) rfl (fun zls hl => ?_)
      refine lv_iinc (v := (zx2 + 1)) (lv' := [(2, .int (zx2 + 1)), (1, .int zx1_1), (3, .int zx3), (0, .int zx0)]) hx hb dX6_reverse_27 hl (k := 3) rfl rfl (by decide) rfl (fun zls hl => ?_)
      refine lv_goto (tgt := 4) hx hb dX6_reverse_30 (by decide) ?_
      exact ih _ _ _ h  _ (lv_sub hl [3, 1, 0] rfl) kk
set_option maxRecDepth 100000 in
set_option maxHeartbeats 4000000 in
theorem qX6_reverse (l : Launch) (D : va_G) (zx0 : Int32) (F : Nat) (zr0 : Int32) (h : mX6_reverse F zx0 = some zr0) : Met l yX6_reverse wsX6_reverse ({ frames := 0, cells := 0, slots := 0, locals := 0 } : Room) (tg_P D [] [.int zx0] ([])) (tg_Ri zr0) 0 0 (fun _ => False) := by
  refine Met.ofW (cc := cX6_reverse) (maxL := 4) (ret := (some .int)) (by decide) rfl ?_
  intro p e s m zargs zbelow zmeth c s₁ B hml hv
  obtain ⟨hargs, hP, hK, hN⟩ := hv
  have hx := B.exec
  have hb := B.bytes
  have hr := B.returns
  have hts := atoms_spec (ws := wsX6_reverse) B.pre
  have hown : s.vm.findClass RX6 = some m.cls := findClass_of_methodNamed B.named
  have hlocks := B.notSynchronized
  have hl := lv_entry ([.int zx0]) (n := 4) (Nat.le_of_ble_eq_true rfl)
  refine W.eq (g2 := entryFrame m ([.int zx0] : List Value).toArray 4) (by rw [hargs]) ?_
  rw [lg_entry_eq]
  generalize (lg_sl ([.int zx0]) ++ List.replicate (4 - (lg_sl ([.int zx0])).length) Slot.unset).toArray = zls at hl ⊢
  have hl : lv_has zls 4 [(0, .int zx0)] := hl
  rw [mX6_reverse] at h
  refine lv_iconst (v := 0) hx hb dX6_reverse_0 (by decide) ?_
  refine lv_istore_n (lv' := [(1, .int 0), (0, .int zx0)]) hx hb dX6_reverse_1 rfl hl (by decide) rfl (fun zls hl => ?_)
  refine lv_iconst (v := 0) hx hb dX6_reverse_2 (by decide) ?_
  refine lv_istore_n (lv' := [(2, .int 0), (1, .int 0), (0, .int zx0)]) hx hb dX6_reverse_3 rfl hl (by decide) rfl (fun zls hl => ?_)
  obtain ⟨zx1, hv, h⟩ := bd_el h
  refine wX6_reverse_L4 ⟨hx, hb, hml, hown, hts, hK, hN⟩ hlocks hr F F _ _ _ hv  _ (lv_sub hl [2, 1, 0] rfl) (fun zls hl => ?_)
  refine lv_iload_n hx hb dX6_reverse_33 rfl (lv_at hl 0 rfl) ?_
  cases h
  exact W.iret hx hb hr (fun t ht hW => ⟨rfl, ht⟩) (fun _ h9 => absurd h9 List.not_mem_nil) dX6_reverse_34
theorem zSX6_reverse : yX6_reverse.cls ≠ "java/lang/invoke/MethodHandle" ∧ yX6_reverse.cls ≠ "java/lang/invoke/VarHandle" ∧ (parseMethodDescriptor yX6_reverse.desc).map (fun d => d.parameters.length) = some 1 := by decide +kernel

/-! ===== private static int swap(int, int); ===== -/
theorem kX6_swap_1 : Cond.constant RX6 73 (1985229328) ∈ wsX6_swap := by decide +kernel
def mX6_swap (zx0 : Int32) (zx1 : Int32) : Int32 := lT (zx0 ^^^ zx1) (fun zx2 => ((1985229328 ^^^ (zx2 <<< ((4 * zx0) &&& 31))) ^^^ (zx2 <<< ((4 * zx1) &&& 31))))
set_option maxRecDepth 100000 in
set_option maxHeartbeats 4000000 in
theorem qX6_swap (l : Launch) (D : va_G) (zx0 : Int32) (zx1 : Int32) (zr0 : Int32) (h : mX6_swap zx0 zx1 = zr0) : Met l yX6_swap wsX6_swap ({ frames := 0, cells := 0, slots := 0, locals := 0 } : Room) (tg_P D [] [.int zx0, .int zx1] ([])) (tg_Ri zr0) 0 0 (fun _ => False) := by
  refine Met.ofW (cc := cX6_swap) (maxL := 3) (ret := (some .int)) (by decide) rfl ?_
  intro p e s m zargs zbelow zmeth c s₁ B hml hv
  obtain ⟨hargs, hP, hK, hN⟩ := hv
  have hx := B.exec
  have hb := B.bytes
  have hr := B.returns
  have hts := atoms_spec (ws := wsX6_swap) B.pre
  have hown : s.vm.findClass RX6 = some m.cls := findClass_of_methodNamed B.named
  have hlocks := B.notSynchronized
  have hl := lv_entry ([.int zx0, .int zx1]) (n := 3) (Nat.le_of_ble_eq_true rfl)
  refine W.eq (g2 := entryFrame m ([.int zx0, .int zx1] : List Value).toArray 3) (by rw [hargs]) ?_
  rw [lg_entry_eq]
  generalize (lg_sl ([.int zx0, .int zx1]) ++ List.replicate (3 - (lg_sl ([.int zx0, .int zx1])).length) Slot.unset).toArray = zls at hl ⊢
  have hl : lv_has zls 3 [(0, .int zx0), (1, .int zx1)] := hl
  rw [mX6_swap] at h
  refine lv_iload_n hx hb dX6_swap_0 rfl (lv_at hl 0 rfl) ?_
  refine lv_iload_n hx hb dX6_swap_1 rfl (lv_at hl 1 rfl) ?_
  refine lv_ixor hx hb dX6_swap_2 ?_
  obtain ⟨zx2, ex2, h⟩ := lT_el h
  refine tg_top ex2 ?_
  refine lv_istore_n (lv' := [(2, .int zx2), (0, .int zx0), (1, .int zx1)]) hx hb dX6_swap_3 rfl hl (by decide) rfl (fun zls hl => ?_)
  refine lv_ldc hx hb hown (hts _ kX6_swap_1) dX6_swap_4 ?_
  refine lv_iload_n hx hb dX6_swap_6 rfl (lv_at hl 0 rfl) ?_
  refine lv_iconst (v := 4) hx hb dX6_swap_7 (by decide) ?_
  refine lv_iload_n hx hb dX6_swap_8 rfl (lv_at hl 1 rfl) ?_
  refine lv_imul hx hb dX6_swap_9 ?_
  refine lv_ishl hx hb dX6_swap_10 ?_
  refine lv_ixor hx hb dX6_swap_11 ?_
  refine lv_iload_n hx hb dX6_swap_12 rfl (lv_at hl 0 rfl) ?_
  refine lv_iconst (v := 4) hx hb dX6_swap_13 (by decide) ?_
  refine lv_iload_n hx hb dX6_swap_14 rfl (lv_at hl 2 rfl) ?_
  refine lv_imul hx hb dX6_swap_15 ?_
  refine lv_ishl hx hb dX6_swap_16 ?_
  refine lv_ixor hx hb dX6_swap_17 ?_
  subst h
  exact W.iret hx hb hr (fun t ht hW => ⟨rfl, ht⟩) (fun _ h9 => absurd h9 List.not_mem_nil) dX6_swap_18
theorem zSX6_swap : yX6_swap.cls ≠ "java/lang/invoke/MethodHandle" ∧ yX6_swap.cls ≠ "java/lang/invoke/VarHandle" ∧ (parseMethodDescriptor yX6_swap.desc).map (fun d => d.parameters.length) = some 2 := by decide +kernel

/-! ===== private static int carried(int, int); ===== -/
def mX6_carried (F : Nat) (zx0 : Int32) (zx1 : Int32) : Option (Int32) := bd (mX6_reverse F zx1) (fun zr => bd (mX6_chain F zr zx0) (fun zr_1 => bd (mX6_chain F zr_1 zx1) (fun zr_2 => some zr_2)))
set_option maxRecDepth 100000 in
set_option maxHeartbeats 4000000 in
theorem qX6_carried (l : Launch) (D : va_G) (zx0 : Int32) (zx1 : Int32) (F : Nat) (zr0 : Int32) (h : mX6_carried F zx0 zx1 = some zr0) : Met l yX6_carried wsX6_carried ({ frames := 1, cells := 0, slots := 0, locals := 24 } : Room) (tg_P D [] [.int zx0, .int zx1] ([])) (tg_Ri zr0) 0 0 (fun _ => False) := by
  refine Met.ofW (cc := cX6_carried) (maxL := 2) (ret := (some .int)) (by decide) rfl ?_
  intro p e s m zargs zbelow zmeth c s₁ B hml hv
  obtain ⟨hargs, hP, hK, hN⟩ := hv
  have hx := B.exec
  have hb := B.bytes
  have hr := B.returns
  have hts := atoms_spec (ws := wsX6_carried) B.pre
  have hown : s.vm.findClass RX6 = some m.cls := findClass_of_methodNamed B.named
  have hlocks := B.notSynchronized
  have hl := lv_entry ([.int zx0, .int zx1]) (n := 2) (Nat.le_of_ble_eq_true rfl)
  refine W.eq (g2 := entryFrame m ([.int zx0, .int zx1] : List Value).toArray 2) (by rw [hargs]) ?_
  rw [lg_entry_eq]
  generalize (lg_sl ([.int zx0, .int zx1]) ++ List.replicate (2 - (lg_sl ([.int zx0, .int zx1])).length) Slot.unset).toArray = zls at hl ⊢
  have hl : lv_has zls 2 [(0, .int zx0), (1, .int zx1)] := hl
  rw [mX6_carried] at h
  refine lv_iload_n hx hb dX6_carried_0 rfl (lv_at hl 1 rfl) ?_
  obtain ⟨zr, hc, h⟩ := bd_el h
  refine tg_cRi (va_runS (As := [.int zx1]) (rest := []) ⟨hx, hb, hml, hown, hts⟩ (qX6_reverse l D zx1 F zr hc) (va_cwS 1 hts gX6_carried_X6_reverse rfl rfl rfl zSX6_reverse ⟨Nat.le_of_ble_eq_true rfl, Nat.le_of_ble_eq_true rfl⟩) (tg_preS tg_nil (hK.sub (tys' := []) [] rfl) hN) rfl rfl hl.1 rfl (lv_room (Nat.le_of_ble_eq_true rfl)) dX6_carried_1 ⟨Nat.zero_le _, Nat.zero_le _⟩) ?_
  refine lv_iload_n hx hb dX6_carried_4 rfl (lv_at hl 0 rfl) ?_
  obtain ⟨zr_1, hc_1, h⟩ := bd_el h
  refine tg_cRi (va_runS (As := [.int zr, .int zx0]) (rest := []) ⟨hx, hb, hml, hown, hts⟩ (qX6_chain l D zr zx0 F zr_1 hc_1) (va_cwS 2 hts gX6_carried_X6_chain rfl rfl rfl zSX6_chain ⟨Nat.le_of_ble_eq_true rfl, Nat.le_of_ble_eq_true rfl⟩) (tg_preS tg_nil (hK.sub (tys' := []) [] rfl) hN) rfl rfl hl.1 rfl (lv_room (Nat.le_of_ble_eq_true rfl)) dX6_carried_5 ⟨Nat.zero_le _, Nat.zero_le _⟩) ?_
  refine lv_iload_n hx hb dX6_carried_8 rfl (lv_at hl 1 rfl) ?_
  obtain ⟨zr_2, hc_2, h⟩ := bd_el h
  refine tg_cRi (va_runS (As := [.int zr_1, .int zx1]) (rest := []) ⟨hx, hb, hml, hown, hts⟩ (qX6_chain l D zr_1 zx1 F zr_2 hc_2) (va_cwS 2 hts gX6_carried_X6_chain rfl rfl rfl zSX6_chain ⟨Nat.le_of_ble_eq_true rfl, Nat.le_of_ble_eq_true rfl⟩) (tg_preS tg_nil (hK.sub (tys' := []) [] rfl) hN) rfl rfl hl.1 rfl (lv_room (Nat.le_of_ble_eq_true rfl)) dX6_carried_9 ⟨Nat.zero_le _, Nat.zero_le _⟩) ?_
  cases h
  exact W.iret hx hb hr (fun t ht hW => ⟨rfl, ht⟩) (fun _ h9 => absurd h9 List.not_mem_nil) dX6_carried_12
theorem zSX6_carried : yX6_carried.cls ≠ "java/lang/invoke/MethodHandle" ∧ yX6_carried.cls ≠ "java/lang/invoke/VarHandle" ∧ (parseMethodDescriptor yX6_carried.desc).map (fun d => d.parameters.length) = some 2 := by decide +kernel

/-! ===== private static int commutator(int, int); ===== -/
def mX6_commutator (F : Nat) (zx0 : Int32) (zx1 : Int32) : Option (Int32) := bd (mX6_reverse F zx0) (fun zr => bd (mX6_reverse F zx1) (fun zr_1 => bd (mX6_chain F zr zr_1) (fun zr_2 => bd (mX6_chain F zx0 zx1) (fun zr_3 => bd (mX6_chain F zr_2 zr_3) (fun zr_4 => some zr_4)))))
set_option maxRecDepth 100000 in
set_option maxHeartbeats 4000000 in
theorem qX6_commutator (l : Launch) (D : va_G) (zx0 : Int32) (zx1 : Int32) (F : Nat) (zr0 : Int32) (h : mX6_commutator F zx0 zx1 = some zr0) : Met l yX6_commutator wsX6_commutator ({ frames := 1, cells := 0, slots := 0, locals := 24 } : Room) (tg_P D [] [.int zx0, .int zx1] ([])) (tg_Ri zr0) 0 0 (fun _ => False) := by
  refine Met.ofW (cc := cX6_commutator) (maxL := 2) (ret := (some .int)) (by decide) rfl ?_
  intro p e s m zargs zbelow zmeth c s₁ B hml hv
  obtain ⟨hargs, hP, hK, hN⟩ := hv
  have hx := B.exec
  have hb := B.bytes
  have hr := B.returns
  have hts := atoms_spec (ws := wsX6_commutator) B.pre
  have hown : s.vm.findClass RX6 = some m.cls := findClass_of_methodNamed B.named
  have hlocks := B.notSynchronized
  have hl := lv_entry ([.int zx0, .int zx1]) (n := 2) (Nat.le_of_ble_eq_true rfl)
  refine W.eq (g2 := entryFrame m ([.int zx0, .int zx1] : List Value).toArray 2) (by rw [hargs]) ?_
  rw [lg_entry_eq]
  generalize (lg_sl ([.int zx0, .int zx1]) ++ List.replicate (2 - (lg_sl ([.int zx0, .int zx1])).length) Slot.unset).toArray = zls at hl ⊢
  have hl : lv_has zls 2 [(0, .int zx0), (1, .int zx1)] := hl
  rw [mX6_commutator] at h
  refine lv_iload_n hx hb dX6_commutator_0 rfl (lv_at hl 0 rfl) ?_
  obtain ⟨zr, hc, h⟩ := bd_el h
  refine tg_cRi (va_runS (As := [.int zx0]) (rest := []) ⟨hx, hb, hml, hown, hts⟩ (qX6_reverse l D zx0 F zr hc) (va_cwS 1 hts gX6_commutator_X6_reverse rfl rfl rfl zSX6_reverse ⟨Nat.le_of_ble_eq_true rfl, Nat.le_of_ble_eq_true rfl⟩) (tg_preS tg_nil (hK.sub (tys' := []) [] rfl) hN) rfl rfl hl.1 rfl (lv_room (Nat.le_of_ble_eq_true rfl)) dX6_commutator_1 ⟨Nat.zero_le _, Nat.zero_le _⟩) ?_
  refine lv_iload_n hx hb dX6_commutator_4 rfl (lv_at hl 1 rfl) ?_
  obtain ⟨zr_1, hc_1, h⟩ := bd_el h
  refine tg_cRi (va_runS (As := [.int zx1]) (rest := [.int zr]) ⟨hx, hb, hml, hown, hts⟩ (qX6_reverse l D zx1 F zr_1 hc_1) (va_cwS 1 hts gX6_commutator_X6_reverse rfl rfl rfl zSX6_reverse ⟨Nat.le_of_ble_eq_true rfl, Nat.le_of_ble_eq_true rfl⟩) (tg_preS tg_nil (hK.sub (tys' := []) [] rfl) hN) rfl rfl hl.1 rfl (lv_room (Nat.le_of_ble_eq_true rfl)) dX6_commutator_5 ⟨Nat.zero_le _, Nat.zero_le _⟩) ?_
  obtain ⟨zr_2, hc_2, h⟩ := bd_el h
  refine tg_cRi (va_runS (As := [.int zr, .int zr_1]) (rest := []) ⟨hx, hb, hml, hown, hts⟩ (qX6_chain l D zr zr_1 F zr_2 hc_2) (va_cwS 2 hts gX6_commutator_X6_chain rfl rfl rfl zSX6_chain ⟨Nat.le_of_ble_eq_true rfl, Nat.le_of_ble_eq_true rfl⟩) (tg_preS tg_nil (hK.sub (tys' := []) [] rfl) hN) rfl rfl hl.1 rfl (lv_room (Nat.le_of_ble_eq_true rfl)) dX6_commutator_8 ⟨Nat.zero_le _, Nat.zero_le _⟩) ?_
  refine lv_iload_n hx hb dX6_commutator_11 rfl (lv_at hl 0 rfl) ?_
  refine lv_iload_n hx hb dX6_commutator_12 rfl (lv_at hl 1 rfl) ?_
  obtain ⟨zr_3, hc_3, h⟩ := bd_el h
  refine tg_cRi (va_runS (As := [.int zx0, .int zx1]) (rest := [.int zr_2]) ⟨hx, hb, hml, hown, hts⟩ (qX6_chain l D zx0 zx1 F zr_3 hc_3) (va_cwS 2 hts gX6_commutator_X6_chain rfl rfl rfl zSX6_chain ⟨Nat.le_of_ble_eq_true rfl, Nat.le_of_ble_eq_true rfl⟩) (tg_preS tg_nil (hK.sub (tys' := []) [] rfl) hN) rfl rfl hl.1 rfl (lv_room (Nat.le_of_ble_eq_true rfl)) dX6_commutator_13 ⟨Nat.zero_le _, Nat.zero_le _⟩) ?_
  obtain ⟨zr_4, hc_4, h⟩ := bd_el h
  refine tg_cRi (va_runS (As := [.int zr_2, .int zr_3]) (rest := []) ⟨hx, hb, hml, hown, hts⟩ (qX6_chain l D zr_2 zr_3 F zr_4 hc_4) (va_cwS 2 hts gX6_commutator_X6_chain rfl rfl rfl zSX6_chain ⟨Nat.le_of_ble_eq_true rfl, Nat.le_of_ble_eq_true rfl⟩) (tg_preS tg_nil (hK.sub (tys' := []) [] rfl) hN) rfl rfl hl.1 rfl (lv_room (Nat.le_of_ble_eq_true rfl)) dX6_commutator_16 ⟨Nat.zero_le _, Nat.zero_le _⟩) ?_
  cases h
  exact W.iret hx hb hr (fun t ht hW => ⟨rfl, ht⟩) (fun _ h9 => absurd h9 List.not_mem_nil) dX6_commutator_19
theorem zSX6_commutator : yX6_commutator.cls ≠ "java/lang/invoke/MethodHandle" ∧ yX6_commutator.cls ≠ "java/lang/invoke/VarHandle" ∧ (parseMethodDescriptor yX6_commutator.desc).map (fun d => d.parameters.length) = some 2 := by decide +kernel

/-! ===== private static int timesToOne(int); ===== -/
theorem kX6_timesToOne_1 : Cond.constant RX6 73 (1985229328) ∈ wsX6_timesToOne := by decide +kernel
def mX6_timesToOne_L4 (F : Nat) (zx0 : Int32) : Nat → Int32 → Int32 → Option (Int32)
  | 0, _, _ => none
  | f + 1, zx1, zx2 => if zx1 = 1985229328 then (some zx2) else (if 1000 ≤ zx2 then (some zx2) else (bd (mX6_chain F zx1 zx0) (fun zr => mX6_timesToOne_L4 F zx0 f zr (zx2 + 1))))
theorem mX6_timesToOne_L4_s (F : Nat) (zx0 : Int32) (f : Nat) (zx1 : Int32) (zx2 : Int32) : mX6_timesToOne_L4 F zx0 (f + 1) zx1 zx2 = (if zx1 = 1985229328 then (some zx2) else (if 1000 ≤ zx2 then (some zx2) else (bd (mX6_chain F zx1 zx0) (fun zr => mX6_timesToOne_L4 F zx0 f zr (zx2 + 1))))) := rfl
def mX6_timesToOne (F : Nat) (zx0 : Int32) : Option (Int32) := bd (mX6_timesToOne_L4 F zx0 F zx0 1) (fun zx2 => some zx2)
set_option maxRecDepth 100000 in
set_option maxHeartbeats 4000000 in
theorem wX6_timesToOne_L4 {p : Program} {l : Launch} {e : Env} {s : State} {m : MethodId} {zargs : Array Value} {zbelow : List Frame} {zmeth : Method} {c : Code} {D : va_G} {zQ : State → Prop} {zx0 : Int32} (C0 : tg_C p s m zmeth c zargs cX6_timesToOne RX6 wsX6_timesToOne 3 D []) (hlocks : zmeth.locks = false) (hr : zmeth.sig.returnType = (some .int)) (F : Nat) : ∀ (f : Nat) (zx1 : Int32) (zx2 : Int32) (zo2 : Int32), mX6_timesToOne_L4 F zx0 f zx1 zx2 = some zo2 → ∀ (zls : Array Slot), lv_has zls 3 [(0, .int zx0), (1, .int zx1), (2, .int zx2)] → (∀ (zls : Array Slot), lv_has zls 3 [(2, .int zo2)] → W p l e ({ frames := 1, cells := 0, slots := 0, locals := 24 } : Room) s m zargs zbelow zmeth c s.heap [] 0 0 zQ (F0 m 29 zls [])) → W p l e ({ frames := 1, cells := 0, slots := 0, locals := 24 } : Room) s m zargs zbelow zmeth c s.heap [] 0 0 zQ (F0 m 4 zls []) := by
  obtain ⟨hx, hb, hml, hown, hts, hK, hN⟩ := C0
  intro f
  induction f with
  | zero => intro _ _ _ h; exact absurd (show none = some _ from h) (fun h9 => by cases h9)
  | succ f ih =>
    intro zx1 zx2 zo2 h  zls hl kk
    rw [mX6_timesToOne_L4_s] at h
    refine lv_iload_n hx hb dX6_timesToOne_4 rfl (lv_at hl 1 rfl) ?_
    refine lv_ldc hx hb hown (hts _ kX6_timesToOne_1) dX6_timesToOne_5 ?_
    refine lv_icmp_eq (tgt := 29) hx hb dX6_timesToOne_7 (by decide) (fun cb => ?_) (fun cb => ?_)
    · rw [if_pos cb] at h
      cases h
      exact kk  _ (lv_sub hl [2] rfl)
    · rw [if_neg cb] at h
      refine lv_iload_n hx hb dX6_timesToOne_10 rfl (lv_at hl 2 rfl) ?_
      refine lv_sipush (v := 1000) hx hb dX6_timesToOne_11 (by decide) ?_
      refine lv_icmp_ge (tgt := 29) hx hb dX6_timesToOne_14 (by decide) (fun cb_1 => ?_) (fun cb_1 => ?_)
      · rw [if_pos cb_1] at h
        cases h
        exact kk  _ (lv_sub hl [2] rfl)
      · rw [if_neg cb_1] at h
        refine lv_iload_n hx hb dX6_timesToOne_17 rfl (lv_at hl 1 rfl) ?_
        refine lv_iload_n hx hb dX6_timesToOne_18 rfl (lv_at hl 0 rfl) ?_
        obtain ⟨zr, hc, h⟩ := bd_el h
        refine tg_cRi (va_runS (As := [.int zx1, .int zx0]) (rest := []) ⟨hx, hb, hml, hown, hts⟩ (qX6_chain l D zx1 zx0 F zr hc) (va_cwS 2 hts gX6_timesToOne_X6_chain rfl rfl rfl zSX6_chain ⟨Nat.le_of_ble_eq_true rfl, Nat.le_of_ble_eq_true rfl⟩) (tg_preS tg_nil (hK.sub (tys' := []) [] rfl) hN) rfl rfl hl.1 rfl (lv_room (Nat.le_of_ble_eq_true rfl)) dX6_timesToOne_19 ⟨Nat.zero_le _, Nat.zero_le _⟩) ?_
        refine lv_istore_n (lv' := [(1, .int zr), (0, .int zx0), (2, .int zx2)]) hx hb dX6_timesToOne_22 rfl hl (by decide) rfl (fun zls hl => ?_)
        refine lv_iinc (v := (zx2 + 1)) (lv' := [(2, .int (zx2 + 1)), (1, .int zr), (0, .int zx0)]) hx hb dX6_timesToOne_23 hl (k := 2) rfl rfl (by decide) rfl (fun zls hl => ?_)
        refine lv_goto (tgt := 4) hx hb dX6_timesToOne_26 (by decide) ?_
        exact ih _ _ _ h  _ (lv_sub hl [2, 1, 0] rfl) kk
set_option maxRecDepth 100000 in
set_option maxHeartbeats 4000000 in
theorem qX6_timesToOne (l : Launch) (D : va_G) (zx0 : Int32) (F : Nat) (zr0 : Int32) (h : mX6_timesToOne F zx0 = some zr0) : Met l yX6_timesToOne wsX6_timesToOne ({ frames := 1, cells := 0, slots := 0, locals := 24 } : Room) (tg_P D [] [.int zx0] ([])) (tg_Ri zr0) 0 0 (fun _ => False) := by
  refine Met.ofW (cc := cX6_timesToOne) (maxL := 3) (ret := (some .int)) (by decide) rfl ?_
  intro p e s m zargs zbelow zmeth c s₁ B hml hv
  obtain ⟨hargs, hP, hK, hN⟩ := hv
  have hx := B.exec
  have hb := B.bytes
  have hr := B.returns
  have hts := atoms_spec (ws := wsX6_timesToOne) B.pre
  have hown : s.vm.findClass RX6 = some m.cls := findClass_of_methodNamed B.named
  have hlocks := B.notSynchronized
  have hl := lv_entry ([.int zx0]) (n := 3) (Nat.le_of_ble_eq_true rfl)
  refine W.eq (g2 := entryFrame m ([.int zx0] : List Value).toArray 3) (by rw [hargs]) ?_
  rw [lg_entry_eq]
  generalize (lg_sl ([.int zx0]) ++ List.replicate (3 - (lg_sl ([.int zx0])).length) Slot.unset).toArray = zls at hl ⊢
  have hl : lv_has zls 3 [(0, .int zx0)] := hl
  rw [mX6_timesToOne] at h
  refine lv_iload_n hx hb dX6_timesToOne_0 rfl (lv_at hl 0 rfl) ?_
  refine lv_istore_n (lv' := [(1, .int zx0), (0, .int zx0)]) hx hb dX6_timesToOne_1 rfl hl (by decide) rfl (fun zls hl => ?_)
  refine lv_iconst (v := 1) hx hb dX6_timesToOne_2 (by decide) ?_
  refine lv_istore_n (lv' := [(2, .int 1), (1, .int zx0), (0, .int zx0)]) hx hb dX6_timesToOne_3 rfl hl (by decide) rfl (fun zls hl => ?_)
  obtain ⟨zx2, hv, h⟩ := bd_el h
  refine wX6_timesToOne_L4 ⟨hx, hb, hml, hown, hts, hK, hN⟩ hlocks hr F F _ _ _ hv  _ (lv_sub hl [2, 1, 0] rfl) (fun zls hl => ?_)
  refine lv_iload_n hx hb dX6_timesToOne_29 rfl (lv_at hl 0 rfl) ?_
  cases h
  exact W.iret hx hb hr (fun t ht hW => ⟨rfl, ht⟩) (fun _ h9 => absurd h9 List.not_mem_nil) dX6_timesToOne_30
theorem zSX6_timesToOne : yX6_timesToOne.cls ≠ "java/lang/invoke/MethodHandle" ∧ yX6_timesToOne.cls ≠ "java/lang/invoke/VarHandle" ∧ (parseMethodDescriptor yX6_timesToOne.desc).map (fun d => d.parameters.length) = some 1 := by decide +kernel

/-! ===== private static int pointsLeft(int); ===== -/
def mX6_pointsLeft_L4 (zx0 : Int32) : Nat → Int32 → Int32 → Option (Int32)
  | 0, _, _ => none
  | f + 1, zx1, zx2 => if 8 ≤ zx2 then (some zx1) else (lT (if (mX6_image zx0 zx2) = zx2 then (zx1 + 1) else zx1) (fun zx1_1 => mX6_pointsLeft_L4 zx0 f zx1_1 (zx2 + 1)))
theorem mX6_pointsLeft_L4_s (zx0 : Int32) (f : Nat) (zx1 : Int32) (zx2 : Int32) : mX6_pointsLeft_L4 zx0 (f + 1) zx1 zx2 = (if 8 ≤ zx2 then (some zx1) else (lT (if (mX6_image zx0 zx2) = zx2 then (zx1 + 1) else zx1) (fun zx1_1 => mX6_pointsLeft_L4 zx0 f zx1_1 (zx2 + 1)))) := rfl
def mX6_pointsLeft (F : Nat) (zx0 : Int32) : Option (Int32) := bd (mX6_pointsLeft_L4 zx0 F 0 0) (fun zx1 => some zx1)
set_option maxRecDepth 100000 in
set_option maxHeartbeats 4000000 in
theorem wX6_pointsLeft_L4 {p : Program} {l : Launch} {e : Env} {s : State} {m : MethodId} {zargs : Array Value} {zbelow : List Frame} {zmeth : Method} {c : Code} {D : va_G} {zQ : State → Prop} {zx0 : Int32} (C0 : tg_C p s m zmeth c zargs cX6_pointsLeft RX6 wsX6_pointsLeft 3 D []) (hlocks : zmeth.locks = false) (hr : zmeth.sig.returnType = (some .int)) (F : Nat) : ∀ (f : Nat) (zx1 : Int32) (zx2 : Int32) (zo1 : Int32), mX6_pointsLeft_L4 zx0 f zx1 zx2 = some zo1 → ∀ (zls : Array Slot), lv_has zls 3 [(0, .int zx0), (1, .int zx1), (2, .int zx2)] → (∀ (zls : Array Slot), lv_has zls 3 [(1, .int zo1)] → W p l e ({ frames := 1, cells := 0, slots := 0, locals := 21 } : Room) s m zargs zbelow zmeth c s.heap [] 0 0 zQ (F0 m 28 zls [])) → W p l e ({ frames := 1, cells := 0, slots := 0, locals := 21 } : Room) s m zargs zbelow zmeth c s.heap [] 0 0 zQ (F0 m 4 zls []) := by
  obtain ⟨hx, hb, hml, hown, hts, hK, hN⟩ := C0
  intro f
  induction f with
  | zero => intro _ _ _ h; exact absurd (show none = some _ from h) (fun h9 => by cases h9)
  | succ f ih =>
    intro zx1 zx2 zo1 h  zls hl kk
    rw [mX6_pointsLeft_L4_s] at h
    refine lv_iload_n hx hb dX6_pointsLeft_4 rfl (lv_at hl 2 rfl) ?_
    refine lv_bipush (v := 8) hx hb dX6_pointsLeft_5 (by decide) ?_
    refine lv_icmp_ge (tgt := 28) hx hb dX6_pointsLeft_7 (by decide) (fun cb => ?_) (fun cb => ?_)
    · rw [if_pos cb] at h
      cases h
      exact kk  _ (lv_sub hl [1] rfl)
    · rw [if_neg cb] at h
      refine lv_iload_n hx hb dX6_pointsLeft_10 rfl (lv_at hl 0 rfl) ?_
      refine lv_iload_n hx hb dX6_pointsLeft_11 rfl (lv_at hl 2 rfl) ?_
      refine tg_cRi (va_runS (As := [.int zx0, .int zx2]) (rest := []) ⟨hx, hb, hml, hown, hts⟩ (qX6_image l D zx0 zx2 _ rfl) (va_cwS 2 hts gX6_pointsLeft_X6_image rfl rfl rfl zSX6_image ⟨Nat.le_of_ble_eq_true rfl, Nat.le_of_ble_eq_true rfl⟩) (tg_preS tg_nil (hK.sub (tys' := []) [] rfl) hN) rfl rfl hl.1 rfl (lv_room (Nat.le_of_ble_eq_true rfl)) dX6_pointsLeft_12 ⟨Nat.zero_le _, Nat.zero_le _⟩) ?_
      refine lv_iload_n hx hb dX6_pointsLeft_15 rfl (lv_at hl 2 rfl) ?_
      obtain ⟨zx1_1, hv, h⟩ := lT_el h
      have hv := hv.symm
      have hj : ∀ (zls : Array Slot), lv_has zls 3 [(0, .int zx0), (1, .int zx1_1), (2, .int zx2)] → W p l e ({ frames := 1, cells := 0, slots := 0, locals := 21 } : Room) s m zargs zbelow zmeth c s.heap [] 0 0 zQ (F0 m 22 zls []) := by
        intro zls hl
        refine lv_iinc (v := (zx2 + 1)) (lv' := [(2, .int (zx2 + 1)), (0, .int zx0), (1, .int zx1_1)]) hx hb dX6_pointsLeft_22 hl (k := 2) rfl rfl (by decide) rfl (fun zls hl => ?_)
        refine lv_goto (tgt := 4) hx hb dX6_pointsLeft_25 (by decide) ?_
        exact ih _ _ _ h  _ (lv_sub hl [1, 2, 0] rfl) kk
      refine lv_icmp_ne (tgt := 22) hx hb dX6_pointsLeft_16 (by decide) (fun cb_1 => ?_) (fun cb_1 => ?_)
      · rw [if_neg cb_1] at hv
        subst hv
        exact hj _ (lv_sub hl [0, 1, 2] rfl)
      · rw [if_pos cb_1] at hv
        refine lv_iinc (v := (zx1 + 1)) (lv' := [(1, .int (zx1 + 1)), (0, .int zx0), (2, .int zx2)]) hx hb dX6_pointsLeft_19 hl (k := 1) rfl rfl (by decide) rfl (fun zls hl => ?_)
        subst hv
        exact hj _ (lv_sub hl [1, 0, 2] rfl)
set_option maxRecDepth 100000 in
set_option maxHeartbeats 4000000 in
theorem qX6_pointsLeft (l : Launch) (D : va_G) (zx0 : Int32) (F : Nat) (zr0 : Int32) (h : mX6_pointsLeft F zx0 = some zr0) : Met l yX6_pointsLeft wsX6_pointsLeft ({ frames := 1, cells := 0, slots := 0, locals := 21 } : Room) (tg_P D [] [.int zx0] ([])) (tg_Ri zr0) 0 0 (fun _ => False) := by
  refine Met.ofW (cc := cX6_pointsLeft) (maxL := 3) (ret := (some .int)) (by decide) rfl ?_
  intro p e s m zargs zbelow zmeth c s₁ B hml hv
  obtain ⟨hargs, hP, hK, hN⟩ := hv
  have hx := B.exec
  have hb := B.bytes
  have hr := B.returns
  have hts := atoms_spec (ws := wsX6_pointsLeft) B.pre
  have hown : s.vm.findClass RX6 = some m.cls := findClass_of_methodNamed B.named
  have hlocks := B.notSynchronized
  have hl := lv_entry ([.int zx0]) (n := 3) (Nat.le_of_ble_eq_true rfl)
  refine W.eq (g2 := entryFrame m ([.int zx0] : List Value).toArray 3) (by rw [hargs]) ?_
  rw [lg_entry_eq]
  generalize (lg_sl ([.int zx0]) ++ List.replicate (3 - (lg_sl ([.int zx0])).length) Slot.unset).toArray = zls at hl ⊢
  have hl : lv_has zls 3 [(0, .int zx0)] := hl
  rw [mX6_pointsLeft] at h
  refine lv_iconst (v := 0) hx hb dX6_pointsLeft_0 (by decide) ?_
  refine lv_istore_n (lv' := [(1, .int 0), (0, .int zx0)]) hx hb dX6_pointsLeft_1 rfl hl (by decide) rfl (fun zls hl => ?_)
  refine lv_iconst (v := 0) hx hb dX6_pointsLeft_2 (by decide) ?_
  refine lv_istore_n (lv' := [(2, .int 0), (1, .int 0), (0, .int zx0)]) hx hb dX6_pointsLeft_3 rfl hl (by decide) rfl (fun zls hl => ?_)
  obtain ⟨zx1, hv, h⟩ := bd_el h
  refine wX6_pointsLeft_L4 ⟨hx, hb, hml, hown, hts, hK, hN⟩ hlocks hr F F _ _ _ hv  _ (lv_sub hl [2, 1, 0] rfl) (fun zls hl => ?_)
  refine lv_iload_n hx hb dX6_pointsLeft_28 rfl (lv_at hl 0 rfl) ?_
  cases h
  exact W.iret hx hb hr (fun t ht hW => ⟨rfl, ht⟩) (fun _ h9 => absurd h9 List.not_mem_nil) dX6_pointsLeft_29
theorem zSX6_pointsLeft : yX6_pointsLeft.cls ≠ "java/lang/invoke/MethodHandle" ∧ yX6_pointsLeft.cls ≠ "java/lang/invoke/VarHandle" ∧ (parseMethodDescriptor yX6_pointsLeft.desc).map (fun d => d.parameters.length) = some 1 := by decide +kernel

/-! ===== private static boolean isEven(int); ===== -/
def mX6_isEven_L14 (zx0 : Int32) (zx2 : Int32) : Nat → Int32 → Int32 → Option (Int32)
  | 0, _, _ => none
  | f + 1, zx1, zx3 => if 8 ≤ zx3 then (some zx1) else (lT (if (mX6_image zx0 zx2) ≤ (mX6_image zx0 zx3) then zx1 else (zx1 + 1)) (fun zx1_1 => mX6_isEven_L14 zx0 zx2 f zx1_1 (zx3 + 1)))
theorem mX6_isEven_L14_s (zx0 : Int32) (zx2 : Int32) (f : Nat) (zx1 : Int32) (zx3 : Int32) : mX6_isEven_L14 zx0 zx2 (f + 1) zx1 zx3 = (if 8 ≤ zx3 then (some zx1) else (lT (if (mX6_image zx0 zx2) ≤ (mX6_image zx0 zx3) then zx1 else (zx1 + 1)) (fun zx1_1 => mX6_isEven_L14 zx0 zx2 f zx1_1 (zx3 + 1)))) := rfl
def mX6_isEven_L4 (F : Nat) (zx0 : Int32) : Nat → Int32 → Int32 → Option (Int32)
  | 0, _, _ => none
  | f + 1, zx1, zx2 => if 8 ≤ zx2 then (some zx1) else (lT (zx2 + 1) (fun zx3 => bd (mX6_isEven_L14 zx0 zx2 F zx1 zx3) (fun zx1_1 => mX6_isEven_L4 F zx0 f zx1_1 (zx2 + 1))))
theorem mX6_isEven_L4_s (F : Nat) (zx0 : Int32) (f : Nat) (zx1 : Int32) (zx2 : Int32) : mX6_isEven_L4 F zx0 (f + 1) zx1 zx2 = (if 8 ≤ zx2 then (some zx1) else (lT (zx2 + 1) (fun zx3 => bd (mX6_isEven_L14 zx0 zx2 F zx1 zx3) (fun zx1_1 => mX6_isEven_L4 F zx0 f zx1_1 (zx2 + 1))))) := rfl
def mX6_isEven (F : Nat) (zx0 : Int32) : Option (Int32) := bd (mX6_isEven_L4 F zx0 F 0 0) (fun zx1 => if (zx1 &&& 1) = 0 then (some (1 : Int32)) else (some (0 : Int32)))
set_option maxRecDepth 100000 in
set_option maxHeartbeats 4000000 in
theorem wX6_isEven_L14 {p : Program} {l : Launch} {e : Env} {s : State} {m : MethodId} {zargs : Array Value} {zbelow : List Frame} {zmeth : Method} {c : Code} {D : va_G} {zQ : State → Prop} {zx0 : Int32} {zx2 : Int32} (C0 : tg_C p s m zmeth c zargs cX6_isEven RX6 wsX6_isEven 4 D []) (hlocks : zmeth.locks = false) (hr : zmeth.sig.returnType = (some .boolean)) (F : Nat) : ∀ (f : Nat) (zx1 : Int32) (zx3 : Int32) (zo1 : Int32), mX6_isEven_L14 zx0 zx2 f zx1 zx3 = some zo1 → ∀ (zls : Array Slot), lv_has zls 4 [(0, .int zx0), (1, .int zx1), (2, .int zx2), (3, .int zx3)] → (∀ (zls : Array Slot), lv_has zls 4 [(0, .int zx0), (1, .int zo1), (2, .int zx2)] → W p l e ({ frames := 1, cells := 0, slots := 0, locals := 21 } : Room) s m zargs zbelow zmeth c s.heap [] 0 0 zQ (F0 m 42 zls [])) → W p l e ({ frames := 1, cells := 0, slots := 0, locals := 21 } : Room) s m zargs zbelow zmeth c s.heap [] 0 0 zQ (F0 m 14 zls []) := by
  obtain ⟨hx, hb, hml, hown, hts, hK, hN⟩ := C0
  intro f
  induction f with
  | zero => intro _ _ _ h; exact absurd (show none = some _ from h) (fun h9 => by cases h9)
  | succ f ih =>
    intro zx1 zx3 zo1 h  zls hl kk
    rw [mX6_isEven_L14_s] at h
    refine lv_iload_n hx hb dX6_isEven_14 rfl (lv_at hl 3 rfl) ?_
    refine lv_bipush (v := 8) hx hb dX6_isEven_15 (by decide) ?_
    refine lv_icmp_ge (tgt := 42) hx hb dX6_isEven_17 (by decide) (fun cb => ?_) (fun cb => ?_)
    · rw [if_pos cb] at h
      cases h
      exact kk  _ (lv_sub hl [0, 1, 2] rfl)
    · rw [if_neg cb] at h
      refine lv_iload_n hx hb dX6_isEven_20 rfl (lv_at hl 0 rfl) ?_
      refine lv_iload_n hx hb dX6_isEven_21 rfl (lv_at hl 2 rfl) ?_
      refine tg_cRi (va_runS (As := [.int zx0, .int zx2]) (rest := []) ⟨hx, hb, hml, hown, hts⟩ (qX6_image l D zx0 zx2 _ rfl) (va_cwS 2 hts gX6_isEven_X6_image rfl rfl rfl zSX6_image ⟨Nat.le_of_ble_eq_true rfl, Nat.le_of_ble_eq_true rfl⟩) (tg_preS tg_nil (hK.sub (tys' := []) [] rfl) hN) rfl rfl hl.1 rfl (lv_room (Nat.le_of_ble_eq_true rfl)) dX6_isEven_22 ⟨Nat.zero_le _, Nat.zero_le _⟩) ?_
      refine lv_iload_n hx hb dX6_isEven_25 rfl (lv_at hl 0 rfl) ?_
      refine lv_iload_n hx hb dX6_isEven_26 rfl (lv_at hl 3 rfl) ?_
      refine tg_cRi (va_runS (As := [.int zx0, .int zx3]) (rest := [.int (mX6_image zx0 zx2)]) ⟨hx, hb, hml, hown, hts⟩ (qX6_image l D zx0 zx3 _ rfl) (va_cwS 2 hts gX6_isEven_X6_image rfl rfl rfl zSX6_image ⟨Nat.le_of_ble_eq_true rfl, Nat.le_of_ble_eq_true rfl⟩) (tg_preS tg_nil (hK.sub (tys' := []) [] rfl) hN) rfl rfl hl.1 rfl (lv_room (Nat.le_of_ble_eq_true rfl)) dX6_isEven_27 ⟨Nat.zero_le _, Nat.zero_le _⟩) ?_
      obtain ⟨zx1_1, hv, h⟩ := lT_el h
      have hv := hv.symm
      have hj : ∀ (zls : Array Slot), lv_has zls 4 [(0, .int zx0), (1, .int zx1_1), (2, .int zx2), (3, .int zx3)] → W p l e ({ frames := 1, cells := 0, slots := 0, locals := 21 } : Room) s m zargs zbelow zmeth c s.heap [] 0 0 zQ (F0 m 36 zls []) := by
        intro zls hl
        refine lv_iinc (v := (zx3 + 1)) (lv' := [(3, .int (zx3 + 1)), (0, .int zx0), (1, .int zx1_1), (2, .int zx2)]) hx hb dX6_isEven_36 hl (k := 3) rfl rfl (by decide) rfl (fun zls hl => ?_)
        refine lv_goto (tgt := 14) hx hb dX6_isEven_39 (by decide) ?_
        exact ih _ _ _ h  _ (lv_sub hl [1, 2, 3, 0] rfl) kk
      refine lv_icmp_le (tgt := 36) hx hb dX6_isEven_30 (by decide) (fun cb_1 => ?_) (fun cb_1 => ?_)
      · rw [if_pos cb_1] at hv
        subst hv
        exact hj _ (lv_sub hl [0, 1, 2, 3] rfl)
      · rw [if_neg cb_1] at hv
        refine lv_iinc (v := (zx1 + 1)) (lv' := [(1, .int (zx1 + 1)), (0, .int zx0), (2, .int zx2), (3, .int zx3)]) hx hb dX6_isEven_33 hl (k := 1) rfl rfl (by decide) rfl (fun zls hl => ?_)
        subst hv
        exact hj _ (lv_sub hl [1, 0, 2, 3] rfl)
set_option maxRecDepth 100000 in
set_option maxHeartbeats 4000000 in
theorem wX6_isEven_L4 {p : Program} {l : Launch} {e : Env} {s : State} {m : MethodId} {zargs : Array Value} {zbelow : List Frame} {zmeth : Method} {c : Code} {D : va_G} {zQ : State → Prop} {zx0 : Int32} (C0 : tg_C p s m zmeth c zargs cX6_isEven RX6 wsX6_isEven 4 D []) (hlocks : zmeth.locks = false) (hr : zmeth.sig.returnType = (some .boolean)) (F : Nat) : ∀ (f : Nat) (zx1 : Int32) (zx2 : Int32) (zo1 : Int32), mX6_isEven_L4 F zx0 f zx1 zx2 = some zo1 → ∀ (zls : Array Slot), lv_has zls 4 [(0, .int zx0), (1, .int zx1), (2, .int zx2)] → (∀ (zls : Array Slot), lv_has zls 4 [(1, .int zo1)] → W p l e ({ frames := 1, cells := 0, slots := 0, locals := 21 } : Room) s m zargs zbelow zmeth c s.heap [] 0 0 zQ (F0 m 48 zls [])) → W p l e ({ frames := 1, cells := 0, slots := 0, locals := 21 } : Room) s m zargs zbelow zmeth c s.heap [] 0 0 zQ (F0 m 4 zls []) := by
  obtain ⟨hx, hb, hml, hown, hts, hK, hN⟩ := C0
  intro f
  induction f with
  | zero => intro _ _ _ h; exact absurd (show none = some _ from h) (fun h9 => by cases h9)
  | succ f ih =>
    intro zx1 zx2 zo1 h  zls hl kk
    rw [mX6_isEven_L4_s] at h
    refine lv_iload_n hx hb dX6_isEven_4 rfl (lv_at hl 2 rfl) ?_
    refine lv_bipush (v := 8) hx hb dX6_isEven_5 (by decide) ?_
    refine lv_icmp_ge (tgt := 48) hx hb dX6_isEven_7 (by decide) (fun cb => ?_) (fun cb => ?_)
    · rw [if_pos cb] at h
      cases h
      exact kk  _ (lv_sub hl [1] rfl)
    · rw [if_neg cb] at h
      refine lv_iload_n hx hb dX6_isEven_10 rfl (lv_at hl 2 rfl) ?_
      refine lv_iconst (v := 1) hx hb dX6_isEven_11 (by decide) ?_
      refine lv_iadd hx hb dX6_isEven_12 ?_
      obtain ⟨zx3, ex3, h⟩ := lT_el h
      refine tg_top ex3 ?_
      refine lv_istore_n (lv' := [(3, .int zx3), (0, .int zx0), (1, .int zx1), (2, .int zx2)]) hx hb dX6_isEven_13 rfl hl (by decide) rfl (fun zls hl => ?_)
      obtain ⟨zx1_1, hv, h⟩ := bd_el h
      refine wX6_isEven_L14 ⟨hx, hb, hml, hown, hts, hK, hN⟩ hlocks hr F F _ _ _ hv  _ (lv_sub hl [1, 2, 3, 0] rfl) (fun zls hl => ?_)
      refine lv_iinc (v := (zx2 + 1)) (lv' := [(2, .int (zx2 + 1)), (0, .int zx0), (1, .int zx1_1)]) hx hb dX6_isEven_42 hl (k := 2) rfl rfl (by decide) rfl (fun zls hl => ?_)
      refine lv_goto (tgt := 4) hx hb dX6_isEven_45 (by decide) ?_
      exact ih _ _ _ h  _ (lv_sub hl [1, 2, 0] rfl) kk
set_option maxRecDepth 100000 in
set_option maxHeartbeats 4000000 in
theorem qX6_isEven (l : Launch) (D : va_G) (zx0 : Int32) (F : Nat) (zr0 : Int32) (h : mX6_isEven F zx0 = some zr0) : Met l yX6_isEven wsX6_isEven ({ frames := 1, cells := 0, slots := 0, locals := 21 } : Room) (tg_P D [] [.int zx0] ([])) (tg_Ri zr0) 0 0 (fun _ => False) := by
  refine Met.ofW (cc := cX6_isEven) (maxL := 4) (ret := (some .boolean)) (by decide) rfl ?_
  intro p e s m zargs zbelow zmeth c s₁ B hml hv
  obtain ⟨hargs, hP, hK, hN⟩ := hv
  have hx := B.exec
  have hb := B.bytes
  have hr := B.returns
  have hts := atoms_spec (ws := wsX6_isEven) B.pre
  have hown : s.vm.findClass RX6 = some m.cls := findClass_of_methodNamed B.named
  have hlocks := B.notSynchronized
  have hl := lv_entry ([.int zx0]) (n := 4) (Nat.le_of_ble_eq_true rfl)
  refine W.eq (g2 := entryFrame m ([.int zx0] : List Value).toArray 4) (by rw [hargs]) ?_
  rw [lg_entry_eq]
  generalize (lg_sl ([.int zx0]) ++ List.replicate (4 - (lg_sl ([.int zx0])).length) Slot.unset).toArray = zls at hl ⊢
  have hl : lv_has zls 4 [(0, .int zx0)] := hl
  rw [mX6_isEven] at h
  refine lv_iconst (v := 0) hx hb dX6_isEven_0 (by decide) ?_
  refine lv_istore_n (lv' := [(1, .int 0), (0, .int zx0)]) hx hb dX6_isEven_1 rfl hl (by decide) rfl (fun zls hl => ?_)
  refine lv_iconst (v := 0) hx hb dX6_isEven_2 (by decide) ?_
  refine lv_istore_n (lv' := [(2, .int 0), (1, .int 0), (0, .int zx0)]) hx hb dX6_isEven_3 rfl hl (by decide) rfl (fun zls hl => ?_)
  obtain ⟨zx1, hv, h⟩ := bd_el h
  refine wX6_isEven_L4 ⟨hx, hb, hml, hown, hts, hK, hN⟩ hlocks hr F F _ _ _ hv  _ (lv_sub hl [2, 1, 0] rfl) (fun zls hl => ?_)
  refine lv_iload_n hx hb dX6_isEven_48 rfl (lv_at hl 0 rfl) ?_
  refine lv_iconst (v := 1) hx hb dX6_isEven_49 (by decide) ?_
  refine lv_iand hx hb dX6_isEven_50 ?_
  refine lv_if_ne (tgt := 58) hx hb dX6_isEven_51 (by decide) (fun cb => ?_) (fun cb => ?_)
  · rw [if_neg cb] at h
    refine lv_iconst (v := 0) hx hb dX6_isEven_58 (by decide) ?_
    cases h
    exact W.zret hx hb hr rfl (fun t ht hW => ⟨rfl, ht⟩) (fun _ h9 => absurd h9 List.not_mem_nil) dX6_isEven_59
  · rw [if_pos cb] at h
    refine lv_iconst (v := 1) hx hb dX6_isEven_54 (by decide) ?_
    refine lv_goto (tgt := 59) hx hb dX6_isEven_55 (by decide) ?_
    cases h
    exact W.zret hx hb hr rfl (fun t ht hW => ⟨rfl, ht⟩) (fun _ h9 => absurd h9 List.not_mem_nil) dX6_isEven_59
theorem zSX6_isEven : yX6_isEven.cls ≠ "java/lang/invoke/MethodHandle" ∧ yX6_isEven.cls ≠ "java/lang/invoke/VarHandle" ∧ (parseMethodDescriptor yX6_isEven.desc).map (fun d => d.parameters.length) = some 1 := by decide +kernel

/-! ===== private static int truth(boolean); ===== -/
def mX6_truth (zx0 : Int32) : Int32 := if zx0 = 0 then (0 : Int32) else (1 : Int32)
set_option maxRecDepth 100000 in
set_option maxHeartbeats 4000000 in
theorem qX6_truth (l : Launch) (D : va_G) (zx0 : Int32) (zr0 : Int32) (h : mX6_truth zx0 = zr0) : Met l yX6_truth wsX6_truth ({ frames := 0, cells := 0, slots := 0, locals := 0 } : Room) (tg_P D [] [.int zx0] ([])) (tg_Ri zr0) 0 0 (fun _ => False) := by
  refine Met.ofW (cc := cX6_truth) (maxL := 1) (ret := (some .int)) (by decide) rfl ?_
  intro p e s m zargs zbelow zmeth c s₁ B hml hv
  obtain ⟨hargs, hP, hK, hN⟩ := hv
  have hx := B.exec
  have hb := B.bytes
  have hr := B.returns
  have hts := atoms_spec (ws := wsX6_truth) B.pre
  have hown : s.vm.findClass RX6 = some m.cls := findClass_of_methodNamed B.named
  have hlocks := B.notSynchronized
  have hl := lv_entry ([.int zx0]) (n := 1) (Nat.le_of_ble_eq_true rfl)
  refine W.eq (g2 := entryFrame m ([.int zx0] : List Value).toArray 1) (by rw [hargs]) ?_
  rw [lg_entry_eq]
  generalize (lg_sl ([.int zx0]) ++ List.replicate (1 - (lg_sl ([.int zx0])).length) Slot.unset).toArray = zls at hl ⊢
  have hl : lv_has zls 1 [(0, .int zx0)] := hl
  rw [mX6_truth] at h
  refine lv_iload_n hx hb dX6_truth_0 rfl (lv_at hl 0 rfl) ?_
  refine lv_if_eq (tgt := 8) hx hb dX6_truth_1 (by decide) (fun cb => ?_) (fun cb => ?_)
  · rw [if_pos cb] at h
    refine lv_iconst (v := 0) hx hb dX6_truth_8 (by decide) ?_
    subst h
    exact W.iret hx hb hr (fun t ht hW => ⟨rfl, ht⟩) (fun _ h9 => absurd h9 List.not_mem_nil) dX6_truth_9
  · rw [if_neg cb] at h
    refine lv_iconst (v := 1) hx hb dX6_truth_4 (by decide) ?_
    refine lv_goto (tgt := 9) hx hb dX6_truth_5 (by decide) ?_
    subst h
    exact W.iret hx hb hr (fun t ht hW => ⟨rfl, ht⟩) (fun _ h9 => absurd h9 List.not_mem_nil) dX6_truth_9
theorem zSX6_truth : yX6_truth.cls ≠ "java/lang/invoke/MethodHandle" ∧ yX6_truth.cls ≠ "java/lang/invoke/VarHandle" ∧ (parseMethodDescriptor yX6_truth.desc).map (fun d => d.parameters.length) = some 1 := by decide +kernel

/-! ===== private static boolean isShelfPlace(int); ===== -/
def mX6_isShelfPlace (zx0 : Int32) : Int32 := if zx0 < 0 then (0 : Int32) else (if 8 ≤ zx0 then (0 : Int32) else (1 : Int32))
set_option maxRecDepth 100000 in
set_option maxHeartbeats 4000000 in
theorem qX6_isShelfPlace (l : Launch) (D : va_G) (zx0 : Int32) (zr0 : Int32) (h : mX6_isShelfPlace zx0 = zr0) : Met l yX6_isShelfPlace wsX6_isShelfPlace ({ frames := 0, cells := 0, slots := 0, locals := 0 } : Room) (tg_P D [] [.int zx0] ([])) (tg_Ri zr0) 0 0 (fun _ => False) := by
  refine Met.ofW (cc := cX6_isShelfPlace) (maxL := 1) (ret := (some .boolean)) (by decide) rfl ?_
  intro p e s m zargs zbelow zmeth c s₁ B hml hv
  obtain ⟨hargs, hP, hK, hN⟩ := hv
  have hx := B.exec
  have hb := B.bytes
  have hr := B.returns
  have hts := atoms_spec (ws := wsX6_isShelfPlace) B.pre
  have hown : s.vm.findClass RX6 = some m.cls := findClass_of_methodNamed B.named
  have hlocks := B.notSynchronized
  have hl := lv_entry ([.int zx0]) (n := 1) (Nat.le_of_ble_eq_true rfl)
  refine W.eq (g2 := entryFrame m ([.int zx0] : List Value).toArray 1) (by rw [hargs]) ?_
  rw [lg_entry_eq]
  generalize (lg_sl ([.int zx0]) ++ List.replicate (1 - (lg_sl ([.int zx0])).length) Slot.unset).toArray = zls at hl ⊢
  have hl : lv_has zls 1 [(0, .int zx0)] := hl
  rw [mX6_isShelfPlace] at h
  refine lv_iload_n hx hb dX6_isShelfPlace_0 rfl (lv_at hl 0 rfl) ?_
  refine lv_if_lt (tgt := 14) hx hb dX6_isShelfPlace_1 (by decide) (fun cb => ?_) (fun cb => ?_)
  · rw [if_pos cb] at h
    refine lv_iconst (v := 0) hx hb dX6_isShelfPlace_14 (by decide) ?_
    subst h
    exact W.zret hx hb hr rfl (fun t ht hW => ⟨rfl, ht⟩) (fun _ h9 => absurd h9 List.not_mem_nil) dX6_isShelfPlace_15
  · rw [if_neg cb] at h
    refine lv_iload_n hx hb dX6_isShelfPlace_4 rfl (lv_at hl 0 rfl) ?_
    refine lv_bipush (v := 8) hx hb dX6_isShelfPlace_5 (by decide) ?_
    refine lv_icmp_ge (tgt := 14) hx hb dX6_isShelfPlace_7 (by decide) (fun cb_1 => ?_) (fun cb_1 => ?_)
    · rw [if_pos cb_1] at h
      refine lv_iconst (v := 0) hx hb dX6_isShelfPlace_14 (by decide) ?_
      subst h
      exact W.zret hx hb hr rfl (fun t ht hW => ⟨rfl, ht⟩) (fun _ h9 => absurd h9 List.not_mem_nil) dX6_isShelfPlace_15
    · rw [if_neg cb_1] at h
      refine lv_iconst (v := 1) hx hb dX6_isShelfPlace_10 (by decide) ?_
      refine lv_goto (tgt := 15) hx hb dX6_isShelfPlace_11 (by decide) ?_
      subst h
      exact W.zret hx hb hr rfl (fun t ht hW => ⟨rfl, ht⟩) (fun _ h9 => absurd h9 List.not_mem_nil) dX6_isShelfPlace_15
theorem zSX6_isShelfPlace : yX6_isShelfPlace.cls ≠ "java/lang/invoke/MethodHandle" ∧ yX6_isShelfPlace.cls ≠ "java/lang/invoke/VarHandle" ∧ (parseMethodDescriptor yX6_isShelfPlace.desc).map (fun d => d.parameters.length) = some 1 := by decide +kernel

/-! ===== private static int cellOf(int, int); ===== -/
def mX4_cellOf (zx0 : Int32) (zx1 : Int32) : Int32 := ((zx0 * 8) + zx1)
set_option maxRecDepth 100000 in
set_option maxHeartbeats 4000000 in
theorem qX4_cellOf (l : Launch) (D : va_G) (zx0 : Int32) (zx1 : Int32) (zr0 : Int32) (h : mX4_cellOf zx0 zx1 = zr0) : Met l yX4_cellOf wsX4_cellOf ({ frames := 0, cells := 0, slots := 0, locals := 0 } : Room) (tg_P D [] [.int zx0, .int zx1] ([])) (tg_Ri zr0) 0 0 (fun _ => False) := by
  refine Met.ofW (cc := cX4_cellOf) (maxL := 2) (ret := (some .int)) (by decide) rfl ?_
  intro p e s m zargs zbelow zmeth c s₁ B hml hv
  obtain ⟨hargs, hP, hK, hN⟩ := hv
  have hx := B.exec
  have hb := B.bytes
  have hr := B.returns
  have hts := atoms_spec (ws := wsX4_cellOf) B.pre
  have hown : s.vm.findClass RX4 = some m.cls := findClass_of_methodNamed B.named
  have hlocks := B.notSynchronized
  have hl := lv_entry ([.int zx0, .int zx1]) (n := 2) (Nat.le_of_ble_eq_true rfl)
  refine W.eq (g2 := entryFrame m ([.int zx0, .int zx1] : List Value).toArray 2) (by rw [hargs]) ?_
  rw [lg_entry_eq]
  generalize (lg_sl ([.int zx0, .int zx1]) ++ List.replicate (2 - (lg_sl ([.int zx0, .int zx1])).length) Slot.unset).toArray = zls at hl ⊢
  have hl : lv_has zls 2 [(0, .int zx0), (1, .int zx1)] := hl
  rw [mX4_cellOf] at h
  refine lv_iload_n hx hb dX4_cellOf_0 rfl (lv_at hl 0 rfl) ?_
  refine lv_bipush (v := 8) hx hb dX4_cellOf_1 (by decide) ?_
  refine lv_imul hx hb dX4_cellOf_3 ?_
  refine lv_iload_n hx hb dX4_cellOf_4 rfl (lv_at hl 1 rfl) ?_
  refine lv_iadd hx hb dX4_cellOf_5 ?_
  subst h
  exact W.iret hx hb hr (fun t ht hW => ⟨rfl, ht⟩) (fun _ h9 => absurd h9 List.not_mem_nil) dX4_cellOf_6
theorem zSX4_cellOf : yX4_cellOf.cls ≠ "java/lang/invoke/MethodHandle" ∧ yX4_cellOf.cls ≠ "java/lang/invoke/VarHandle" ∧ (parseMethodDescriptor yX4_cellOf.desc).map (fun d => d.parameters.length) = some 2 := by decide +kernel

/-! ===== private static int levelOf(int); ===== -/
def mX4_levelOf (zx0 : Int32) : Int32 := (zx0 / 8)
set_option maxRecDepth 100000 in
set_option maxHeartbeats 4000000 in
theorem qX4_levelOf (l : Launch) (D : va_G) (zx0 : Int32) (zr0 : Int32) (h : mX4_levelOf zx0 = zr0) : Met l yX4_levelOf wsX4_levelOf ({ frames := 0, cells := 0, slots := 0, locals := 0 } : Room) (tg_P D [] [.int zx0] ([])) (tg_Ri zr0) 0 0 (fun _ => False) := by
  refine Met.ofW (cc := cX4_levelOf) (maxL := 1) (ret := (some .int)) (by decide) rfl ?_
  intro p e s m zargs zbelow zmeth c s₁ B hml hv
  obtain ⟨hargs, hP, hK, hN⟩ := hv
  have hx := B.exec
  have hb := B.bytes
  have hr := B.returns
  have hts := atoms_spec (ws := wsX4_levelOf) B.pre
  have hown : s.vm.findClass RX4 = some m.cls := findClass_of_methodNamed B.named
  have hlocks := B.notSynchronized
  have hl := lv_entry ([.int zx0]) (n := 1) (Nat.le_of_ble_eq_true rfl)
  refine W.eq (g2 := entryFrame m ([.int zx0] : List Value).toArray 1) (by rw [hargs]) ?_
  rw [lg_entry_eq]
  generalize (lg_sl ([.int zx0]) ++ List.replicate (1 - (lg_sl ([.int zx0])).length) Slot.unset).toArray = zls at hl ⊢
  have hl : lv_has zls 1 [(0, .int zx0)] := hl
  rw [mX4_levelOf] at h
  refine lv_iload_n hx hb dX4_levelOf_0 rfl (lv_at hl 0 rfl) ?_
  refine lv_bipush (v := 8) hx hb dX4_levelOf_1 (by decide) ?_
  refine lv_idiv hx hb dX4_levelOf_3 (by decide) ?_
  subst h
  exact W.iret hx hb hr (fun t ht hW => ⟨rfl, ht⟩) (fun _ h9 => absurd h9 List.not_mem_nil) dX4_levelOf_4
theorem zSX4_levelOf : yX4_levelOf.cls ≠ "java/lang/invoke/MethodHandle" ∧ yX4_levelOf.cls ≠ "java/lang/invoke/VarHandle" ∧ (parseMethodDescriptor yX4_levelOf.desc).map (fun d => d.parameters.length) = some 1 := by decide +kernel

/-! ===== private static int imageOfSet(int, int); ===== -/
theorem kX4_imageOfSet_1 : Cond.initialized RX6 ∈ wsX4_imageOfSet := by decide +kernel
theorem kX4_imageOfSet_2 : Cond.static yX6_image ∈ wsX4_imageOfSet := by decide +kernel
def mX4_imageOfSet_L4 (zx0 : Int32) (zx1 : Int32) : Nat → Int32 → Int32 → Option (Int32)
  | 0, _, _ => none
  | f + 1, zx2, zx3 => if 8 ≤ zx3 then (some zx2) else (lT (if ((zx1 >>> (zx3 &&& 31)) &&& 1) = 1 then (lT (zx2 ||| (1 <<< ((mX6_image zx0 zx3) &&& 31))) (fun zx2_2 => zx2_2)) else zx2) (fun zx2_1 => mX4_imageOfSet_L4 zx0 zx1 f zx2_1 (zx3 + 1)))
theorem mX4_imageOfSet_L4_s (zx0 : Int32) (zx1 : Int32) (f : Nat) (zx2 : Int32) (zx3 : Int32) : mX4_imageOfSet_L4 zx0 zx1 (f + 1) zx2 zx3 = (if 8 ≤ zx3 then (some zx2) else (lT (if ((zx1 >>> (zx3 &&& 31)) &&& 1) = 1 then (lT (zx2 ||| (1 <<< ((mX6_image zx0 zx3) &&& 31))) (fun zx2_2 => zx2_2)) else zx2) (fun zx2_1 => mX4_imageOfSet_L4 zx0 zx1 f zx2_1 (zx3 + 1)))) := rfl
def mX4_imageOfSet (F : Nat) (zx0 : Int32) (zx1 : Int32) : Option (Int32) := bd (mX4_imageOfSet_L4 zx0 zx1 F 0 0) (fun zx2 => some zx2)
set_option maxRecDepth 100000 in
set_option maxHeartbeats 4000000 in
theorem wX4_imageOfSet_L4 {p : Program} {l : Launch} {e : Env} {s : State} {m : MethodId} {zargs : Array Value} {zbelow : List Frame} {zmeth : Method} {c : Code} {D : va_G} {zQ : State → Prop} {zx0 : Int32} {zx1 : Int32} (C0 : tg_C p s m zmeth c zargs cX4_imageOfSet RX4 wsX4_imageOfSet 4 D []) (hlocks : zmeth.locks = false) (hr : zmeth.sig.returnType = (some .int)) (F : Nat) : ∀ (f : Nat) (zx2 : Int32) (zx3 : Int32) (zo2 : Int32), mX4_imageOfSet_L4 zx0 zx1 f zx2 zx3 = some zo2 → ∀ (zls : Array Slot), lv_has zls 4 [(0, .int zx0), (1, .int zx1), (2, .int zx2), (3, .int zx3)] → (∀ (zls : Array Slot), lv_has zls 4 [(2, .int zo2)] → W p l e ({ frames := 1, cells := 0, slots := 0, locals := 21 } : Room) s m zargs zbelow zmeth c s.heap [] 0 0 zQ (F0 m 35 zls [])) → W p l e ({ frames := 1, cells := 0, slots := 0, locals := 21 } : Room) s m zargs zbelow zmeth c s.heap [] 0 0 zQ (F0 m 4 zls []) := by
  obtain ⟨hx, hb, hml, hown, hts, hK, hN⟩ := C0
  intro f
  induction f with
  | zero => intro _ _ _ h; exact absurd (show none = some _ from h) (fun h9 => by cases h9)
  | succ f ih =>
    intro zx2 zx3 zo2 h  zls hl kk
    rw [mX4_imageOfSet_L4_s] at h
    refine lv_iload_n hx hb dX4_imageOfSet_4 rfl (lv_at hl 3 rfl) ?_
    refine lv_bipush (v := 8) hx hb dX4_imageOfSet_5 (by decide) ?_
    refine lv_icmp_ge (tgt := 35) hx hb dX4_imageOfSet_7 (by decide) (fun cb => ?_) (fun cb => ?_)
    · rw [if_pos cb] at h
      cases h
      exact kk  _ (lv_sub hl [2] rfl)
    · rw [if_neg cb] at h
      refine lv_iload_n hx hb dX4_imageOfSet_10 rfl (lv_at hl 1 rfl) ?_
      refine lv_iload_n hx hb dX4_imageOfSet_11 rfl (lv_at hl 3 rfl) ?_
      refine lv_ishr hx hb dX4_imageOfSet_12 ?_
      refine lv_iconst (v := 1) hx hb dX4_imageOfSet_13 (by decide) ?_
      refine lv_iand hx hb dX4_imageOfSet_14 ?_
      refine lv_iconst (v := 1) hx hb dX4_imageOfSet_15 (by decide) ?_
      obtain ⟨zx2_1, hv, h⟩ := lT_el h
      have hv := hv.symm
      have hj : ∀ (zls : Array Slot), lv_has zls 4 [(0, .int zx0), (1, .int zx1), (2, .int zx2_1), (3, .int zx3)] → W p l e ({ frames := 1, cells := 0, slots := 0, locals := 21 } : Room) s m zargs zbelow zmeth c s.heap [] 0 0 zQ (F0 m 29 zls []) := by
        intro zls hl
        refine lv_iinc (v := (zx3 + 1)) (lv' := [(3, .int (zx3 + 1)), (0, .int zx0), (1, .int zx1), (2, .int zx2_1)]) hx hb dX4_imageOfSet_29 hl (k := 3) rfl rfl (by decide) rfl (fun zls hl => ?_)
        refine lv_goto (tgt := 4) hx hb dX4_imageOfSet_32 (by decide) ?_
        exact ih _ _ _ h  _ (lv_sub hl [1, 2, 3, 0] rfl) kk
      refine lv_icmp_ne (tgt := 29) hx hb dX4_imageOfSet_16 (by decide) (fun cb_1 => ?_) (fun cb_1 => ?_)
      · rw [if_neg cb_1] at hv
        subst hv
        exact hj _ (lv_sub hl [0, 1, 2, 3] rfl)
      · rw [if_pos cb_1] at hv
        refine lv_iload_n hx hb dX4_imageOfSet_19 rfl (lv_at hl 2 rfl) ?_
        refine lv_iconst (v := 1) hx hb dX4_imageOfSet_20 (by decide) ?_
        refine lv_iload_n hx hb dX4_imageOfSet_21 rfl (lv_at hl 0 rfl) ?_
        refine lv_iload_n hx hb dX4_imageOfSet_22 rfl (lv_at hl 3 rfl) ?_
        refine tg_cRi (va_runSN (As := [.int zx0, .int zx3]) (rest := [.int 1, .int zx2]) ⟨hx, hb, hml, hown, hts⟩ (qX6_image l D zx0 zx3 _ rfl) (⟨va_cnB 2 hts gX4_imageOfSet_X6_image_n76 rfl rfl rfl (hN _ nw_X4_76) (hts _ kX4_imageOfSet_1) zSX6_image ⟨Nat.le_of_ble_eq_true rfl, Nat.le_of_ble_eq_true rfl⟩, hts _ kX4_imageOfSet_2, trivial⟩) (tg_preS tg_nil (hK.sub (tys' := []) [] rfl) hN) rfl rfl hl.1 rfl (lv_room (Nat.le_of_ble_eq_true rfl)) dX4_imageOfSet_23 ⟨Nat.zero_le _, Nat.zero_le _⟩) ?_
        refine lv_ishl hx hb dX4_imageOfSet_26 ?_
        refine lv_ior hx hb dX4_imageOfSet_27 ?_
        obtain ⟨zx2_2, ex2_2, hv⟩ := lT_el hv
        refine tg_top ex2_2 ?_
        refine lv_istore_n (lv' := [(2, .int zx2_2), (0, .int zx0), (1, .int zx1), (3, .int zx3)]) hx hb dX4_imageOfSet_28 rfl hl (by decide) rfl (fun zls hl => ?_)
        subst hv
        exact hj _ (lv_sub hl [1, 2, 0, 3] rfl)
set_option maxRecDepth 100000 in
set_option maxHeartbeats 4000000 in
theorem qX4_imageOfSet (l : Launch) (D : va_G) (zx0 : Int32) (zx1 : Int32) (F : Nat) (zr0 : Int32) (h : mX4_imageOfSet F zx0 zx1 = some zr0) : Met l yX4_imageOfSet wsX4_imageOfSet ({ frames := 1, cells := 0, slots := 0, locals := 21 } : Room) (tg_P D [] [.int zx0, .int zx1] ([])) (tg_Ri zr0) 0 0 (fun _ => False) := by
  refine Met.ofW (cc := cX4_imageOfSet) (maxL := 4) (ret := (some .int)) (by decide) rfl ?_
  intro p e s m zargs zbelow zmeth c s₁ B hml hv
  obtain ⟨hargs, hP, hK, hN⟩ := hv
  have hx := B.exec
  have hb := B.bytes
  have hr := B.returns
  have hts := atoms_spec (ws := wsX4_imageOfSet) B.pre
  have hown : s.vm.findClass RX4 = some m.cls := findClass_of_methodNamed B.named
  have hlocks := B.notSynchronized
  have hl := lv_entry ([.int zx0, .int zx1]) (n := 4) (Nat.le_of_ble_eq_true rfl)
  refine W.eq (g2 := entryFrame m ([.int zx0, .int zx1] : List Value).toArray 4) (by rw [hargs]) ?_
  rw [lg_entry_eq]
  generalize (lg_sl ([.int zx0, .int zx1]) ++ List.replicate (4 - (lg_sl ([.int zx0, .int zx1])).length) Slot.unset).toArray = zls at hl ⊢
  have hl : lv_has zls 4 [(0, .int zx0), (1, .int zx1)] := hl
  rw [mX4_imageOfSet] at h
  refine lv_iconst (v := 0) hx hb dX4_imageOfSet_0 (by decide) ?_
  refine lv_istore_n (lv' := [(2, .int 0), (0, .int zx0), (1, .int zx1)]) hx hb dX4_imageOfSet_1 rfl hl (by decide) rfl (fun zls hl => ?_)
  refine lv_iconst (v := 0) hx hb dX4_imageOfSet_2 (by decide) ?_
  refine lv_istore_n (lv' := [(3, .int 0), (2, .int 0), (0, .int zx0), (1, .int zx1)]) hx hb dX4_imageOfSet_3 rfl hl (by decide) rfl (fun zls hl => ?_)
  obtain ⟨zx2, hv, h⟩ := bd_el h
  refine wX4_imageOfSet_L4 ⟨hx, hb, hml, hown, hts, hK, hN⟩ hlocks hr F F _ _ _ hv  _ (lv_sub hl [2, 3, 1, 0] rfl) (fun zls hl => ?_)
  refine lv_iload_n hx hb dX4_imageOfSet_35 rfl (lv_at hl 0 rfl) ?_
  cases h
  exact W.iret hx hb hr (fun t ht hW => ⟨rfl, ht⟩) (fun _ h9 => absurd h9 List.not_mem_nil) dX4_imageOfSet_36
theorem zSX4_imageOfSet : yX4_imageOfSet.cls ≠ "java/lang/invoke/MethodHandle" ∧ yX4_imageOfSet.cls ≠ "java/lang/invoke/VarHandle" ∧ (parseMethodDescriptor yX4_imageOfSet.desc).map (fun d => d.parameters.length) = some 2 := by decide +kernel

/-! ===== private static int merge(int, int, int); ===== -/
theorem kX4_merge_1 : Cond.initialized RX6 ∈ wsX4_merge := by decide +kernel
theorem kX4_merge_2 : Cond.static yX6_image ∈ wsX4_merge := by decide +kernel
def mX4_merge_L19 (zx0 : Int32) (zx3 : Int32) (zx4 : Int32) : Nat → Int32 → Int32 → Option (Int32)
  | 0, _, _ => none
  | f + 1, zx5, zx6 => if 8 ≤ zx6 then (some zx5) else (if zx3 = zx4 then (some zx5) else (lT (if (mX6_image zx0 zx6) = zx3 then (lT (zx5 ^^^ ((zx3 ^^^ zx4) <<< ((4 * zx6) &&& 31))) (fun zx5_2 => zx5_2)) else zx5) (fun zx5_1 => mX4_merge_L19 zx0 zx3 zx4 f zx5_1 (zx6 + 1))))
theorem mX4_merge_L19_s (zx0 : Int32) (zx3 : Int32) (zx4 : Int32) (f : Nat) (zx5 : Int32) (zx6 : Int32) : mX4_merge_L19 zx0 zx3 zx4 (f + 1) zx5 zx6 = (if 8 ≤ zx6 then (some zx5) else (if zx3 = zx4 then (some zx5) else (lT (if (mX6_image zx0 zx6) = zx3 then (lT (zx5 ^^^ ((zx3 ^^^ zx4) <<< ((4 * zx6) &&& 31))) (fun zx5_2 => zx5_2)) else zx5) (fun zx5_1 => mX4_merge_L19 zx0 zx3 zx4 f zx5_1 (zx6 + 1))))) := rfl
def mX4_merge (F : Nat) (zx0 : Int32) (zx1 : Int32) (zx2 : Int32) : Option (Int32) := lT (mX6_image zx0 zx1) (fun zx3 => lT (mX6_image zx0 zx2) (fun zx4 => bd (mX4_merge_L19 zx0 zx3 zx4 F zx0 0) (fun zx5 => some zx5)))
set_option maxRecDepth 100000 in
set_option maxHeartbeats 4000000 in
theorem wX4_merge_L19 {p : Program} {l : Launch} {e : Env} {s : State} {m : MethodId} {zargs : Array Value} {zbelow : List Frame} {zmeth : Method} {c : Code} {D : va_G} {zQ : State → Prop} {zx0 : Int32} {zx3 : Int32} {zx4 : Int32} (C0 : tg_C p s m zmeth c zargs cX4_merge RX4 wsX4_merge 7 D []) (hlocks : zmeth.locks = false) (hr : zmeth.sig.returnType = (some .int)) (F : Nat) : ∀ (f : Nat) (zx5 : Int32) (zx6 : Int32) (zo5 : Int32), mX4_merge_L19 zx0 zx3 zx4 f zx5 zx6 = some zo5 → ∀ (zls : Array Slot), lv_has zls 7 [(0, .int zx0), (3, .int zx3), (4, .int zx4), (5, .int zx5), (6, .int zx6)] → (∀ (zls : Array Slot), lv_has zls 7 [(5, .int zo5)] → W p l e ({ frames := 1, cells := 0, slots := 0, locals := 21 } : Room) s m zargs zbelow zmeth c s.heap [] 0 0 zQ (F0 m 62 zls [])) → W p l e ({ frames := 1, cells := 0, slots := 0, locals := 21 } : Room) s m zargs zbelow zmeth c s.heap [] 0 0 zQ (F0 m 19 zls []) := by
  obtain ⟨hx, hb, hml, hown, hts, hK, hN⟩ := C0
  intro f
  induction f with
  | zero => intro _ _ _ h; exact absurd (show none = some _ from h) (fun h9 => by cases h9)
  | succ f ih =>
    intro zx5 zx6 zo5 h  zls hl kk
    rw [mX4_merge_L19_s] at h
    refine lv_iload hx hb dX4_merge_19 (lv_at hl 4 rfl) ?_
    refine lv_bipush (v := 8) hx hb dX4_merge_21 (by decide) ?_
    refine lv_icmp_ge (tgt := 62) hx hb dX4_merge_23 (by decide) (fun cb => ?_) (fun cb => ?_)
    · rw [if_pos cb] at h
      cases h
      exact kk  _ (lv_sub hl [3] rfl)
    · rw [if_neg cb] at h
      refine lv_iload_n hx hb dX4_merge_26 rfl (lv_at hl 1 rfl) ?_
      refine lv_iload hx hb dX4_merge_27 (lv_at hl 2 rfl) ?_
      refine lv_icmp_eq (tgt := 62) hx hb dX4_merge_29 (by decide) (fun cb_1 => ?_) (fun cb_1 => ?_)
      · rw [if_pos cb_1] at h
        cases h
        exact kk  _ (lv_sub hl [3] rfl)
      · rw [if_neg cb_1] at h
        refine lv_iload_n hx hb dX4_merge_32 rfl (lv_at hl 0 rfl) ?_
        refine lv_iload hx hb dX4_merge_33 (lv_at hl 4 rfl) ?_
        refine tg_cRi (va_runSN (As := [.int zx0, .int zx6]) (rest := []) ⟨hx, hb, hml, hown, hts⟩ (qX6_image l D zx0 zx6 _ rfl) (⟨va_cnB 2 hts gX4_merge_X6_image_n76 rfl rfl rfl (hN _ nw_X4_76) (hts _ kX4_merge_1) zSX6_image ⟨Nat.le_of_ble_eq_true rfl, Nat.le_of_ble_eq_true rfl⟩, hts _ kX4_merge_2, trivial⟩) (tg_preS tg_nil (hK.sub (tys' := []) [] rfl) hN) rfl rfl hl.1 rfl (lv_room (Nat.le_of_ble_eq_true rfl)) dX4_merge_35 ⟨Nat.zero_le _, Nat.zero_le _⟩) ?_
        refine lv_iload_n hx hb dX4_merge_38 rfl (lv_at hl 1 rfl) ?_
        obtain ⟨zx5_1, hv, h⟩ := lT_el h
        have hv := hv.symm
        have hj : ∀ (zls : Array Slot), lv_has zls 7 [(0, .int zx0), (3, .int zx3), (4, .int zx4), (5, .int zx5_1), (6, .int zx6)] → W p l e ({ frames := 1, cells := 0, slots := 0, locals := 21 } : Room) s m zargs zbelow zmeth c s.heap [] 0 0 zQ (F0 m 56 zls []) := by
          intro zls hl
          refine lv_iinc (v := (zx6 + 1)) (lv' := [(6, .int (zx6 + 1)), (0, .int zx0), (3, .int zx3), (4, .int zx4), (5, .int zx5_1)]) hx hb dX4_merge_56 hl (k := 4) rfl rfl (by decide) rfl (fun zls hl => ?_)
          refine lv_goto (tgt := 19) hx hb dX4_merge_59 (by decide) ?_
          exact ih _ _ _ h  _ (lv_sub hl [1, 2, 3, 4, 0] rfl) kk
        refine lv_icmp_ne (tgt := 56) hx hb dX4_merge_39 (by decide) (fun cb_2 => ?_) (fun cb_2 => ?_)
        · rw [if_neg cb_2] at hv
          subst hv
          exact hj _ (lv_sub hl [0, 1, 2, 3, 4] rfl)
        · rw [if_pos cb_2] at hv
          refine lv_iload hx hb dX4_merge_42 (lv_at hl 3 rfl) ?_
          refine lv_iload_n hx hb dX4_merge_44 rfl (lv_at hl 1 rfl) ?_
          refine lv_iload hx hb dX4_merge_45 (lv_at hl 2 rfl) ?_
          refine lv_ixor hx hb dX4_merge_47 ?_
          refine lv_iconst (v := 4) hx hb dX4_merge_48 (by decide) ?_
          refine lv_iload hx hb dX4_merge_49 (lv_at hl 4 rfl) ?_
          refine lv_imul hx hb dX4_merge_51 ?_
          refine lv_ishl hx hb dX4_merge_52 ?_
          refine lv_ixor hx hb dX4_merge_53 ?_
          obtain ⟨zx5_2, ex5_2, hv⟩ := lT_el hv
          refine tg_top ex5_2 ?_
          refine lv_istore (lv' := [(5, .int zx5_2), (0, .int zx0), (3, .int zx3), (4, .int zx4), (6, .int zx6)]) hx hb dX4_merge_54 hl (by decide) rfl (fun zls hl => ?_)
          subst hv
          exact hj _ (lv_sub hl [1, 2, 3, 0, 4] rfl)
set_option maxRecDepth 100000 in
set_option maxHeartbeats 4000000 in
theorem qX4_merge (l : Launch) (D : va_G) (zx0 : Int32) (zx1 : Int32) (zx2 : Int32) (F : Nat) (zr0 : Int32) (h : mX4_merge F zx0 zx1 zx2 = some zr0) : Met l yX4_merge wsX4_merge ({ frames := 1, cells := 0, slots := 0, locals := 21 } : Room) (tg_P D [] [.int zx0, .int zx1, .int zx2] ([])) (tg_Ri zr0) 0 0 (fun _ => False) := by
  refine Met.ofW (cc := cX4_merge) (maxL := 7) (ret := (some .int)) (by decide) rfl ?_
  intro p e s m zargs zbelow zmeth c s₁ B hml hv
  obtain ⟨hargs, hP, hK, hN⟩ := hv
  have hx := B.exec
  have hb := B.bytes
  have hr := B.returns
  have hts := atoms_spec (ws := wsX4_merge) B.pre
  have hown : s.vm.findClass RX4 = some m.cls := findClass_of_methodNamed B.named
  have hlocks := B.notSynchronized
  have hl := lv_entry ([.int zx0, .int zx1, .int zx2]) (n := 7) (Nat.le_of_ble_eq_true rfl)
  refine W.eq (g2 := entryFrame m ([.int zx0, .int zx1, .int zx2] : List Value).toArray 7) (by rw [hargs]) ?_
  rw [lg_entry_eq]
  generalize (lg_sl ([.int zx0, .int zx1, .int zx2]) ++ List.replicate (7 - (lg_sl ([.int zx0, .int zx1, .int zx2])).length) Slot.unset).toArray = zls at hl ⊢
  have hl : lv_has zls 7 [(0, .int zx0), (1, .int zx1), (2, .int zx2)] := hl
  rw [mX4_merge] at h
  refine lv_iload_n hx hb dX4_merge_0 rfl (lv_at hl 0 rfl) ?_
  refine lv_iload_n hx hb dX4_merge_1 rfl (lv_at hl 1 rfl) ?_
  refine tg_cRi (va_runSN (As := [.int zx0, .int zx1]) (rest := []) ⟨hx, hb, hml, hown, hts⟩ (qX6_image l D zx0 zx1 _ rfl) (⟨va_cnB 2 hts gX4_merge_X6_image_n76 rfl rfl rfl (hN _ nw_X4_76) (hts _ kX4_merge_1) zSX6_image ⟨Nat.le_of_ble_eq_true rfl, Nat.le_of_ble_eq_true rfl⟩, hts _ kX4_merge_2, trivial⟩) (tg_preS tg_nil (hK.sub (tys' := []) [] rfl) hN) rfl rfl hl.1 rfl (lv_room (Nat.le_of_ble_eq_true rfl)) dX4_merge_2 ⟨Nat.zero_le _, Nat.zero_le _⟩) ?_
  obtain ⟨zx3, ex3, h⟩ := lT_el h
  refine tg_top ex3 ?_
  refine lv_istore_n (lv' := [(3, .int zx3), (0, .int zx0), (1, .int zx1), (2, .int zx2)]) hx hb dX4_merge_5 rfl hl (by decide) rfl (fun zls hl => ?_)
  refine lv_iload_n hx hb dX4_merge_6 rfl (lv_at hl 1 rfl) ?_
  refine lv_iload_n hx hb dX4_merge_7 rfl (lv_at hl 3 rfl) ?_
  refine tg_cRi (va_runSN (As := [.int zx0, .int zx2]) (rest := []) ⟨hx, hb, hml, hown, hts⟩ (qX6_image l D zx0 zx2 _ rfl) (⟨va_cnB 2 hts gX4_merge_X6_image_n76 rfl rfl rfl (hN _ nw_X4_76) (hts _ kX4_merge_1) zSX6_image ⟨Nat.le_of_ble_eq_true rfl, Nat.le_of_ble_eq_true rfl⟩, hts _ kX4_merge_2, trivial⟩) (tg_preS tg_nil (hK.sub (tys' := []) [] rfl) hN) rfl rfl hl.1 rfl (lv_room (Nat.le_of_ble_eq_true rfl)) dX4_merge_8 ⟨Nat.zero_le _, Nat.zero_le _⟩) ?_
  obtain ⟨zx4, ex4, h⟩ := lT_el h
  refine tg_top ex4 ?_
  refine lv_istore (lv' := [(4, .int zx4), (3, .int zx3), (0, .int zx0), (1, .int zx1), (2, .int zx2)]) hx hb dX4_merge_11 hl (by decide) rfl (fun zls hl => ?_)
  refine lv_iload_n hx hb dX4_merge_13 rfl (lv_at hl 2 rfl) ?_
  refine lv_istore (lv' := [(5, .int zx0), (4, .int zx4), (3, .int zx3), (0, .int zx0), (1, .int zx1), (2, .int zx2)]) hx hb dX4_merge_14 hl (by decide) rfl (fun zls hl => ?_)
  refine lv_iconst (v := 0) hx hb dX4_merge_16 (by decide) ?_
  refine lv_istore (lv' := [(6, .int 0), (5, .int zx0), (4, .int zx4), (3, .int zx3), (0, .int zx0), (1, .int zx1), (2, .int zx2)]) hx hb dX4_merge_17 hl (by decide) rfl (fun zls hl => ?_)
  obtain ⟨zx5, hv, h⟩ := bd_el h
  refine wX4_merge_L19 ⟨hx, hb, hml, hown, hts, hK, hN⟩ hlocks hr F F _ _ _ hv  _ (lv_sub hl [4, 3, 2, 1, 0] rfl) (fun zls hl => ?_)
  refine lv_iload hx hb dX4_merge_62 (lv_at hl 0 rfl) ?_
  cases h
  exact W.iret hx hb hr (fun t ht hW => ⟨rfl, ht⟩) (fun _ h9 => absurd h9 List.not_mem_nil) dX4_merge_64
theorem zSX4_merge : yX4_merge.cls ≠ "java/lang/invoke/MethodHandle" ∧ yX4_merge.cls ≠ "java/lang/invoke/VarHandle" ∧ (parseMethodDescriptor yX4_merge.desc).map (fun d => d.parameters.length) = some 3 := by decide +kernel

/-! ===== private static int mergeImages(int, int); ===== -/
theorem kX4_mergeImages_1 : Cond.initialized RX6 ∈ wsX4_mergeImages := by decide +kernel
theorem kX4_mergeImages_2 : Cond.static yX6_image ∈ wsX4_mergeImages := by decide +kernel
def mX4_mergeImages_L4 (F : Nat) (zx1 : Int32) : Nat → Int32 → Int32 → Option (Int32)
  | 0, _, _ => none
  | f + 1, zx2, zx3 => if 8 ≤ zx3 then (some zx2) else (bd (mX4_merge F zx2 (mX6_image zx1 zx3) (mX6_image zx1 (mX6_image zx2 zx3))) (fun zr_3 => mX4_mergeImages_L4 F zx1 f zr_3 (zx3 + 1)))
theorem mX4_mergeImages_L4_s (F : Nat) (zx1 : Int32) (f : Nat) (zx2 : Int32) (zx3 : Int32) : mX4_mergeImages_L4 F zx1 (f + 1) zx2 zx3 = (if 8 ≤ zx3 then (some zx2) else (bd (mX4_merge F zx2 (mX6_image zx1 zx3) (mX6_image zx1 (mX6_image zx2 zx3))) (fun zr_3 => mX4_mergeImages_L4 F zx1 f zr_3 (zx3 + 1)))) := rfl
def mX4_mergeImages (F : Nat) (zx0 : Int32) (zx1 : Int32) : Option (Int32) := bd (mX4_mergeImages_L4 F zx1 F zx0 0) (fun zx2 => some zx2)
set_option maxRecDepth 100000 in
set_option maxHeartbeats 4000000 in
theorem wX4_mergeImages_L4 {p : Program} {l : Launch} {e : Env} {s : State} {m : MethodId} {zargs : Array Value} {zbelow : List Frame} {zmeth : Method} {c : Code} {D : va_G} {zQ : State → Prop} {zx1 : Int32} (C0 : tg_C p s m zmeth c zargs cX4_mergeImages RX4 wsX4_mergeImages 4 D []) (hlocks : zmeth.locks = false) (hr : zmeth.sig.returnType = (some .int)) (F : Nat) : ∀ (f : Nat) (zx2 : Int32) (zx3 : Int32) (zo2 : Int32), mX4_mergeImages_L4 F zx1 f zx2 zx3 = some zo2 → ∀ (zls : Array Slot), lv_has zls 4 [(1, .int zx1), (2, .int zx2), (3, .int zx3)] → (∀ (zls : Array Slot), lv_has zls 4 [(2, .int zo2)] → W p l e ({ frames := 2, cells := 0, slots := 0, locals := 47 } : Room) s m zargs zbelow zmeth c s.heap [] 0 0 zQ (F0 m 35 zls [])) → W p l e ({ frames := 2, cells := 0, slots := 0, locals := 47 } : Room) s m zargs zbelow zmeth c s.heap [] 0 0 zQ (F0 m 4 zls []) := by
  obtain ⟨hx, hb, hml, hown, hts, hK, hN⟩ := C0
  intro f
  induction f with
  | zero => intro _ _ _ h; exact absurd (show none = some _ from h) (fun h9 => by cases h9)
  | succ f ih =>
    intro zx2 zx3 zo2 h  zls hl kk
    rw [mX4_mergeImages_L4_s] at h
    refine lv_iload_n hx hb dX4_mergeImages_4 rfl (lv_at hl 2 rfl) ?_
    refine lv_bipush (v := 8) hx hb dX4_mergeImages_5 (by decide) ?_
    refine lv_icmp_ge (tgt := 35) hx hb dX4_mergeImages_7 (by decide) (fun cb => ?_) (fun cb => ?_)
    · rw [if_pos cb] at h
      cases h
      exact kk  _ (lv_sub hl [1] rfl)
    · rw [if_neg cb] at h
      refine lv_iload_n hx hb dX4_mergeImages_10 rfl (lv_at hl 1 rfl) ?_
      refine lv_iload_n hx hb dX4_mergeImages_11 rfl (lv_at hl 0 rfl) ?_
      refine lv_iload_n hx hb dX4_mergeImages_12 rfl (lv_at hl 2 rfl) ?_
      refine tg_cRi (va_runSN (As := [.int zx1, .int zx3]) (rest := [.int zx2]) ⟨hx, hb, hml, hown, hts⟩ (qX6_image l D zx1 zx3 _ rfl) (⟨va_cnB 2 hts gX4_mergeImages_X6_image_n76 rfl rfl rfl (hN _ nw_X4_76) (hts _ kX4_mergeImages_1) zSX6_image ⟨Nat.le_of_ble_eq_true rfl, Nat.le_of_ble_eq_true rfl⟩, hts _ kX4_mergeImages_2, trivial⟩) (tg_preS tg_nil (hK.sub (tys' := []) [] rfl) hN) rfl rfl hl.1 rfl (lv_room (Nat.le_of_ble_eq_true rfl)) dX4_mergeImages_13 ⟨Nat.zero_le _, Nat.zero_le _⟩) ?_
      refine lv_iload_n hx hb dX4_mergeImages_16 rfl (lv_at hl 0 rfl) ?_
      refine lv_iload_n hx hb dX4_mergeImages_17 rfl (lv_at hl 1 rfl) ?_
      refine lv_iload_n hx hb dX4_mergeImages_18 rfl (lv_at hl 2 rfl) ?_
      refine tg_cRi (va_runSN (As := [.int zx2, .int zx3]) (rest := [.int zx1, .int (mX6_image zx1 zx3), .int zx2]) ⟨hx, hb, hml, hown, hts⟩ (qX6_image l D zx2 zx3 _ rfl) (⟨va_cnB 2 hts gX4_mergeImages_X6_image_n76 rfl rfl rfl (hN _ nw_X4_76) (hts _ kX4_mergeImages_1) zSX6_image ⟨Nat.le_of_ble_eq_true rfl, Nat.le_of_ble_eq_true rfl⟩, hts _ kX4_mergeImages_2, trivial⟩) (tg_preS tg_nil (hK.sub (tys' := []) [] rfl) hN) rfl rfl hl.1 rfl (lv_room (Nat.le_of_ble_eq_true rfl)) dX4_mergeImages_19 ⟨Nat.zero_le _, Nat.zero_le _⟩) ?_
      refine tg_cRi (va_runSN (As := [.int zx1, .int (mX6_image zx2 zx3)]) (rest := [.int (mX6_image zx1 zx3), .int zx2]) ⟨hx, hb, hml, hown, hts⟩ (qX6_image l D zx1 (mX6_image zx2 zx3) _ rfl) (⟨va_cnB 2 hts gX4_mergeImages_X6_image_n76 rfl rfl rfl (hN _ nw_X4_76) (hts _ kX4_mergeImages_1) zSX6_image ⟨Nat.le_of_ble_eq_true rfl, Nat.le_of_ble_eq_true rfl⟩, hts _ kX4_mergeImages_2, trivial⟩) (tg_preS tg_nil (hK.sub (tys' := []) [] rfl) hN) rfl rfl hl.1 rfl (lv_room (Nat.le_of_ble_eq_true rfl)) dX4_mergeImages_22 ⟨Nat.zero_le _, Nat.zero_le _⟩) ?_
      obtain ⟨zr_3, hc, h⟩ := bd_el h
      refine tg_cRi (va_runS (As := [.int zx2, .int (mX6_image zx1 zx3), .int (mX6_image zx1 (mX6_image zx2 zx3))]) (rest := []) ⟨hx, hb, hml, hown, hts⟩ (qX4_merge l D zx2 (mX6_image zx1 zx3) (mX6_image zx1 (mX6_image zx2 zx3)) F zr_3 hc) (va_cwS 3 hts gX4_mergeImages_X4_merge rfl rfl rfl zSX4_merge ⟨Nat.le_of_ble_eq_true rfl, Nat.le_of_ble_eq_true rfl⟩) (tg_preS tg_nil (hK.sub (tys' := []) [] rfl) hN) rfl rfl hl.1 rfl (lv_room (Nat.le_of_ble_eq_true rfl)) dX4_mergeImages_25 ⟨Nat.zero_le _, Nat.zero_le _⟩) ?_
      refine lv_istore_n (lv' := [(2, .int zr_3), (1, .int zx1), (3, .int zx3)]) hx hb dX4_mergeImages_28 rfl hl (by decide) rfl (fun zls hl => ?_)
      refine lv_iinc (v := (zx3 + 1)) (lv' := [(3, .int (zx3 + 1)), (2, .int zr_3), (1, .int zx1)]) hx hb dX4_mergeImages_29 hl (k := 2) rfl rfl (by decide) rfl (fun zls hl => ?_)
      refine lv_goto (tgt := 4) hx hb dX4_mergeImages_32 (by decide) ?_
      exact ih _ _ _ h  _ (lv_sub hl [2, 1, 0] rfl) kk
set_option maxRecDepth 100000 in
set_option maxHeartbeats 4000000 in
theorem qX4_mergeImages (l : Launch) (D : va_G) (zx0 : Int32) (zx1 : Int32) (F : Nat) (zr0 : Int32) (h : mX4_mergeImages F zx0 zx1 = some zr0) : Met l yX4_mergeImages wsX4_mergeImages ({ frames := 2, cells := 0, slots := 0, locals := 47 } : Room) (tg_P D [] [.int zx0, .int zx1] ([])) (tg_Ri zr0) 0 0 (fun _ => False) := by
  refine Met.ofW (cc := cX4_mergeImages) (maxL := 4) (ret := (some .int)) (by decide) rfl ?_
  intro p e s m zargs zbelow zmeth c s₁ B hml hv
  obtain ⟨hargs, hP, hK, hN⟩ := hv
  have hx := B.exec
  have hb := B.bytes
  have hr := B.returns
  have hts := atoms_spec (ws := wsX4_mergeImages) B.pre
  have hown : s.vm.findClass RX4 = some m.cls := findClass_of_methodNamed B.named
  have hlocks := B.notSynchronized
  have hl := lv_entry ([.int zx0, .int zx1]) (n := 4) (Nat.le_of_ble_eq_true rfl)
  refine W.eq (g2 := entryFrame m ([.int zx0, .int zx1] : List Value).toArray 4) (by rw [hargs]) ?_
  rw [lg_entry_eq]
  generalize (lg_sl ([.int zx0, .int zx1]) ++ List.replicate (4 - (lg_sl ([.int zx0, .int zx1])).length) Slot.unset).toArray = zls at hl ⊢
  have hl : lv_has zls 4 [(0, .int zx0), (1, .int zx1)] := hl
  rw [mX4_mergeImages] at h
  refine lv_iload_n hx hb dX4_mergeImages_0 rfl (lv_at hl 0 rfl) ?_
  refine lv_istore_n (lv' := [(2, .int zx0), (0, .int zx0), (1, .int zx1)]) hx hb dX4_mergeImages_1 rfl hl (by decide) rfl (fun zls hl => ?_)
  refine lv_iconst (v := 0) hx hb dX4_mergeImages_2 (by decide) ?_
  refine lv_istore_n (lv' := [(3, .int 0), (2, .int zx0), (0, .int zx0), (1, .int zx1)]) hx hb dX4_mergeImages_3 rfl hl (by decide) rfl (fun zls hl => ?_)
  obtain ⟨zx2, hv, h⟩ := bd_el h
  refine wX4_mergeImages_L4 ⟨hx, hb, hml, hown, hts, hK, hN⟩ hlocks hr F F _ _ _ hv  _ (lv_sub hl [3, 1, 0] rfl) (fun zls hl => ?_)
  refine lv_iload_n hx hb dX4_mergeImages_35 rfl (lv_at hl 0 rfl) ?_
  cases h
  exact W.iret hx hb hr (fun t ht hW => ⟨rfl, ht⟩) (fun _ h9 => absurd h9 List.not_mem_nil) dX4_mergeImages_36
theorem zSX4_mergeImages : yX4_mergeImages.cls ≠ "java/lang/invoke/MethodHandle" ∧ yX4_mergeImages.cls ≠ "java/lang/invoke/VarHandle" ∧ (parseMethodDescriptor yX4_mergeImages.desc).map (fun d => d.parameters.length) = some 2 := by decide +kernel

/-! ===== private static boolean agree(int, int, int); ===== -/
theorem kX1_agree_1 : Cond.initialized RX6 ∈ wsX1_agree := by decide +kernel
theorem kX1_agree_2 : Cond.static yX6_image ∈ wsX1_agree := by decide +kernel
def mX1_agree_L2 (zx0 : Int32) (zx1 : Int32) (zx2 : Int32) : Nat → Int32 → Option (Int32)
  | 0, _ => none
  | f + 1, zx3 => if zx2 < zx3 then (some (1 : Int32)) else (lT (mX6_image zx1 zx3) (fun zx4 => if zx2 < zx4 then (mX1_agree_L2 zx0 zx1 zx2 f (zx3 + 1)) else (if (mX6_image zx0 zx4) = (mX6_image zx1 (mX6_image zx0 zx3)) then (mX1_agree_L2 zx0 zx1 zx2 f (zx3 + 1)) else (some (0 : Int32)))))
theorem mX1_agree_L2_s (zx0 : Int32) (zx1 : Int32) (zx2 : Int32) (f : Nat) (zx3 : Int32) : mX1_agree_L2 zx0 zx1 zx2 (f + 1) zx3 = (if zx2 < zx3 then (some (1 : Int32)) else (lT (mX6_image zx1 zx3) (fun zx4 => if zx2 < zx4 then (mX1_agree_L2 zx0 zx1 zx2 f (zx3 + 1)) else (if (mX6_image zx0 zx4) = (mX6_image zx1 (mX6_image zx0 zx3)) then (mX1_agree_L2 zx0 zx1 zx2 f (zx3 + 1)) else (some (0 : Int32)))))) := rfl
def mX1_agree (F : Nat) (zx0 : Int32) (zx1 : Int32) (zx2 : Int32) : Option (Int32) := mX1_agree_L2 zx0 zx1 zx2 F 0
set_option maxRecDepth 100000 in
set_option maxHeartbeats 4000000 in
theorem wX1_agree_L2 {p : Program} {l : Launch} {e : Env} {s : State} {m : MethodId} {zargs : Array Value} {zbelow : List Frame} {zmeth : Method} {c : Code} {D : va_G} {zx0 : Int32} {zx1 : Int32} {zx2 : Int32} (C0 : tg_C p s m zmeth c zargs cX1_agree RX1 wsX1_agree 5 D []) (hlocks : zmeth.locks = false) (hr : zmeth.sig.returnType = (some .boolean)) (F : Nat) : ∀ (f : Nat) (zx3 : Int32) (zr0 : Int32), mX1_agree_L2 zx0 zx1 zx2 f zx3 = some zr0 → ∀ (zls : Array Slot), lv_has zls 5 [(0, .int zx0), (1, .int zx1), (2, .int zx2), (3, .int zx3)] → W p l e ({ frames := 1, cells := 0, slots := 0, locals := 21 } : Room) s m zargs zbelow zmeth c s.heap [] 0 0 (MQ zbelow (tg_Ri zr0) zargs s 0 0 (fun _ => False)) (F0 m 2 zls []) := by
  obtain ⟨hx, hb, hml, hown, hts, hK, hN⟩ := C0
  intro f
  induction f with
  | zero => intro _ _ h; exact absurd (show none = some _ from h) (fun h9 => by cases h9)
  | succ f ih =>
    intro zx3 zr0 h  zls hl 
    rw [mX1_agree_L2_s] at h
    refine lv_iload_n hx hb dX1_agree_2 rfl (lv_at hl 3 rfl) ?_
    refine lv_iload_n hx hb dX1_agree_3 rfl (lv_at hl 2 rfl) ?_
    refine lv_icmp_gt (tgt := 46) hx hb dX1_agree_4 (by decide) (fun cb => ?_) (fun cb => ?_)
    · rw [if_pos cb] at h
      refine lv_iconst (v := 1) hx hb dX1_agree_46 (by decide) ?_
      cases h
      exact W.zret hx hb hr rfl (fun t ht hW => ⟨rfl, ht⟩) (fun _ h9 => absurd h9 List.not_mem_nil) dX1_agree_47
    · rw [if_neg cb] at h
      refine lv_iload_n hx hb dX1_agree_7 rfl (lv_at hl 1 rfl) ?_
      refine lv_iload_n hx hb dX1_agree_8 rfl (lv_at hl 3 rfl) ?_
      refine tg_cRi (va_runSN (As := [.int zx1, .int zx3]) (rest := []) ⟨hx, hb, hml, hown, hts⟩ (qX6_image l D zx1 zx3 _ rfl) (⟨va_cnB 2 hts gX1_agree_X6_image_n27 rfl rfl rfl (hN _ nw_X1_27) (hts _ kX1_agree_1) zSX6_image ⟨Nat.le_of_ble_eq_true rfl, Nat.le_of_ble_eq_true rfl⟩, hts _ kX1_agree_2, trivial⟩) (tg_preS tg_nil (hK.sub (tys' := []) [] rfl) hN) rfl rfl hl.1 rfl (lv_room (Nat.le_of_ble_eq_true rfl)) dX1_agree_9 ⟨Nat.zero_le _, Nat.zero_le _⟩) ?_
      obtain ⟨zx4, ex4, h⟩ := lT_el h
      refine tg_top ex4 ?_
      refine lv_istore (lv' := [(4, .int zx4), (0, .int zx0), (1, .int zx1), (2, .int zx2), (3, .int zx3)]) hx hb dX1_agree_12 hl (by decide) rfl (fun zls hl => ?_)
      refine lv_iload hx hb dX1_agree_14 (lv_at hl 0 rfl) ?_
      refine lv_iload_n hx hb dX1_agree_16 rfl (lv_at hl 3 rfl) ?_
      refine lv_icmp_gt (tgt := 40) hx hb dX1_agree_17 (by decide) (fun cb_1 => ?_) (fun cb_1 => ?_)
      · rw [if_pos cb_1] at h
        refine lv_iinc (v := (zx3 + 1)) (lv' := [(3, .int (zx3 + 1)), (4, .int zx4), (0, .int zx0), (1, .int zx1), (2, .int zx2)]) hx hb dX1_agree_40 hl (k := 4) rfl rfl (by decide) rfl (fun zls hl => ?_)
        refine lv_goto (tgt := 2) hx hb dX1_agree_43 (by decide) ?_
        exact ih _ _ h  _ (lv_sub hl [2, 3, 4, 0] rfl) 
      · rw [if_neg cb_1] at h
        refine lv_iload_n hx hb dX1_agree_20 rfl (lv_at hl 1 rfl) ?_
        refine lv_iload hx hb dX1_agree_21 (lv_at hl 0 rfl) ?_
        refine tg_cRi (va_runSN (As := [.int zx0, .int zx4]) (rest := []) ⟨hx, hb, hml, hown, hts⟩ (qX6_image l D zx0 zx4 _ rfl) (⟨va_cnB 2 hts gX1_agree_X6_image_n27 rfl rfl rfl (hN _ nw_X1_27) (hts _ kX1_agree_1) zSX6_image ⟨Nat.le_of_ble_eq_true rfl, Nat.le_of_ble_eq_true rfl⟩, hts _ kX1_agree_2, trivial⟩) (tg_preS tg_nil (hK.sub (tys' := []) [] rfl) hN) rfl rfl hl.1 rfl (lv_room (Nat.le_of_ble_eq_true rfl)) dX1_agree_23 ⟨Nat.zero_le _, Nat.zero_le _⟩) ?_
        refine lv_iload_n hx hb dX1_agree_26 rfl (lv_at hl 2 rfl) ?_
        refine lv_iload_n hx hb dX1_agree_27 rfl (lv_at hl 1 rfl) ?_
        refine lv_iload_n hx hb dX1_agree_28 rfl (lv_at hl 4 rfl) ?_
        refine tg_cRi (va_runSN (As := [.int zx0, .int zx3]) (rest := [.int zx1, .int (mX6_image zx0 zx4)]) ⟨hx, hb, hml, hown, hts⟩ (qX6_image l D zx0 zx3 _ rfl) (⟨va_cnB 2 hts gX1_agree_X6_image_n27 rfl rfl rfl (hN _ nw_X1_27) (hts _ kX1_agree_1) zSX6_image ⟨Nat.le_of_ble_eq_true rfl, Nat.le_of_ble_eq_true rfl⟩, hts _ kX1_agree_2, trivial⟩) (tg_preS tg_nil (hK.sub (tys' := []) [] rfl) hN) rfl rfl hl.1 rfl (lv_room (Nat.le_of_ble_eq_true rfl)) dX1_agree_29 ⟨Nat.zero_le _, Nat.zero_le _⟩) ?_
        refine tg_cRi (va_runSN (As := [.int zx1, .int (mX6_image zx0 zx3)]) (rest := [.int (mX6_image zx0 zx4)]) ⟨hx, hb, hml, hown, hts⟩ (qX6_image l D zx1 (mX6_image zx0 zx3) _ rfl) (⟨va_cnB 2 hts gX1_agree_X6_image_n27 rfl rfl rfl (hN _ nw_X1_27) (hts _ kX1_agree_1) zSX6_image ⟨Nat.le_of_ble_eq_true rfl, Nat.le_of_ble_eq_true rfl⟩, hts _ kX1_agree_2, trivial⟩) (tg_preS tg_nil (hK.sub (tys' := []) [] rfl) hN) rfl rfl hl.1 rfl (lv_room (Nat.le_of_ble_eq_true rfl)) dX1_agree_32 ⟨Nat.zero_le _, Nat.zero_le _⟩) ?_
        refine lv_icmp_eq (tgt := 40) hx hb dX1_agree_35 (by decide) (fun cb_2 => ?_) (fun cb_2 => ?_)
        · rw [if_pos cb_2] at h
          refine lv_iinc (v := (zx3 + 1)) (lv' := [(3, .int (zx3 + 1)), (4, .int zx4), (0, .int zx0), (1, .int zx1), (2, .int zx2)]) hx hb dX1_agree_40 hl (k := 4) rfl rfl (by decide) rfl (fun zls hl => ?_)
          refine lv_goto (tgt := 2) hx hb dX1_agree_43 (by decide) ?_
          exact ih _ _ h  _ (lv_sub hl [2, 3, 4, 0] rfl) 
        · rw [if_neg cb_2] at h
          refine lv_iconst (v := 0) hx hb dX1_agree_38 (by decide) ?_
          cases h
          exact W.zret hx hb hr rfl (fun t ht hW => ⟨rfl, ht⟩) (fun _ h9 => absurd h9 List.not_mem_nil) dX1_agree_39
set_option maxRecDepth 100000 in
set_option maxHeartbeats 4000000 in
theorem qX1_agree (l : Launch) (D : va_G) (zx0 : Int32) (zx1 : Int32) (zx2 : Int32) (F : Nat) (zr0 : Int32) (h : mX1_agree F zx0 zx1 zx2 = some zr0) : Met l yX1_agree wsX1_agree ({ frames := 1, cells := 0, slots := 0, locals := 21 } : Room) (tg_P D [] [.int zx0, .int zx1, .int zx2] ([])) (tg_Ri zr0) 0 0 (fun _ => False) := by
  refine Met.ofW (cc := cX1_agree) (maxL := 5) (ret := (some .boolean)) (by decide) rfl ?_
  intro p e s m zargs zbelow zmeth c s₁ B hml hv
  obtain ⟨hargs, hP, hK, hN⟩ := hv
  have hx := B.exec
  have hb := B.bytes
  have hr := B.returns
  have hts := atoms_spec (ws := wsX1_agree) B.pre
  have hown : s.vm.findClass RX1 = some m.cls := findClass_of_methodNamed B.named
  have hlocks := B.notSynchronized
  have hl := lv_entry ([.int zx0, .int zx1, .int zx2]) (n := 5) (Nat.le_of_ble_eq_true rfl)
  refine W.eq (g2 := entryFrame m ([.int zx0, .int zx1, .int zx2] : List Value).toArray 5) (by rw [hargs]) ?_
  rw [lg_entry_eq]
  generalize (lg_sl ([.int zx0, .int zx1, .int zx2]) ++ List.replicate (5 - (lg_sl ([.int zx0, .int zx1, .int zx2])).length) Slot.unset).toArray = zls at hl ⊢
  have hl : lv_has zls 5 [(0, .int zx0), (1, .int zx1), (2, .int zx2)] := hl
  rw [mX1_agree] at h
  refine lv_iconst (v := 0) hx hb dX1_agree_0 (by decide) ?_
  refine lv_istore_n (lv' := [(3, .int 0), (0, .int zx0), (1, .int zx1), (2, .int zx2)]) hx hb dX1_agree_1 rfl hl (by decide) rfl (fun zls hl => ?_)
  exact wX1_agree_L2 ⟨hx, hb, hml, hown, hts, hK, hN⟩ hlocks hr F F _ _ h  _ (lv_sub hl [1, 2, 3, 0] rfl) 
theorem zSX1_agree : yX1_agree.cls ≠ "java/lang/invoke/MethodHandle" ∧ yX1_agree.cls ≠ "java/lang/invoke/VarHandle" ∧ (parseMethodDescriptor yX1_agree.desc).map (fun d => d.parameters.length) = some 3 := by decide +kernel

/-! ===== public static int bitCount(int); ===== -/
theorem kJ6_bitCount_0f7a4_1 : Cond.constant RJ6 265 (1431655765) ∈ wsJ6_bitCount_0f7a4 := by decide +kernel
theorem kJ6_bitCount_0f7a4_2 : Cond.constant RJ6 266 (858993459) ∈ wsJ6_bitCount_0f7a4 := by decide +kernel
theorem kJ6_bitCount_0f7a4_3 : Cond.constant RJ6 267 (252645135) ∈ wsJ6_bitCount_0f7a4 := by decide +kernel
def mJ6_bitCount_0f7a4 (zx0 : Int32) : Int32 := lT (zx0 - (((Int32.toUInt32 zx0 >>> (Int32.toUInt32 1 &&& Int32.toUInt32 31)).toInt32) &&& 1431655765)) (fun zx0_1 => lT ((zx0_1 &&& 858993459) + (((Int32.toUInt32 zx0_1 >>> (Int32.toUInt32 2 &&& Int32.toUInt32 31)).toInt32) &&& 858993459)) (fun zx0_2 => lT ((zx0_2 + ((Int32.toUInt32 zx0_2 >>> (Int32.toUInt32 4 &&& Int32.toUInt32 31)).toInt32)) &&& 252645135) (fun zx0_3 => lT (zx0_3 + ((Int32.toUInt32 zx0_3 >>> (Int32.toUInt32 8 &&& Int32.toUInt32 31)).toInt32)) (fun zx0_4 => lT (zx0_4 + ((Int32.toUInt32 zx0_4 >>> (Int32.toUInt32 16 &&& Int32.toUInt32 31)).toInt32)) (fun zx0_5 => (zx0_5 &&& 63))))))
set_option maxRecDepth 100000 in
set_option maxHeartbeats 4000000 in
theorem qJ6_bitCount_0f7a4 (l : Launch) (D : va_G) (zx0 : Int32) (zr0 : Int32) (h : mJ6_bitCount_0f7a4 zx0 = zr0) : Met l yJ6_bitCount_0f7a4 wsJ6_bitCount_0f7a4 ({ frames := 0, cells := 0, slots := 0, locals := 0 } : Room) (tg_P D [] [.int zx0] ([])) (tg_Ri zr0) 0 0 (fun _ => False) := by
  refine Met.ofW (cc := cJ6_bitCount_0f7a4) (maxL := 1) (ret := (some .int)) (by decide) rfl ?_
  intro p e s m zargs zbelow zmeth c s₁ B hml hv
  obtain ⟨hargs, hP, hK, hN⟩ := hv
  have hx := B.exec
  have hb := B.bytes
  have hr := B.returns
  have hts := atoms_spec (ws := wsJ6_bitCount_0f7a4) B.pre
  have hown : s.vm.findClass RJ6 = some m.cls := findClass_of_methodNamed B.named
  have hlocks := B.notSynchronized
  have hl := lv_entry ([.int zx0]) (n := 1) (Nat.le_of_ble_eq_true rfl)
  refine W.eq (g2 := entryFrame m ([.int zx0] : List Value).toArray 1) (by rw [hargs]) ?_
  rw [lg_entry_eq]
  generalize (lg_sl ([.int zx0]) ++ List.replicate (1 - (lg_sl ([.int zx0])).length) Slot.unset).toArray = zls at hl ⊢
  have hl : lv_has zls 1 [(0, .int zx0)] := hl
  rw [mJ6_bitCount_0f7a4] at h
  refine lv_iload_n hx hb dJ6_bitCount_0f7a4_0 rfl (lv_at hl 0 rfl) ?_
  refine lv_iload_n hx hb dJ6_bitCount_0f7a4_1 rfl (lv_at hl 0 rfl) ?_
  refine lv_iconst (v := 1) hx hb dJ6_bitCount_0f7a4_2 (by decide) ?_
  refine lv_iushr (v := ((Int32.toUInt32 zx0 >>> (Int32.toUInt32 1 &&& Int32.toUInt32 31)).toInt32)) hx hb dJ6_bitCount_0f7a4_3 rfl ?_
  refine lv_ldcw hx hb hown (hts _ kJ6_bitCount_0f7a4_1) dJ6_bitCount_0f7a4_4 ?_
  refine lv_iand hx hb dJ6_bitCount_0f7a4_7 ?_
  refine lv_isub hx hb dJ6_bitCount_0f7a4_8 ?_
  obtain ⟨zx0_1, ex0_1, h⟩ := lT_el h
  refine tg_top ex0_1 ?_
  refine lv_istore_n (lv' := [(0, .int zx0_1)]) hx hb dJ6_bitCount_0f7a4_9 rfl hl (by decide) rfl (fun zls hl => ?_)
  refine lv_iload_n hx hb dJ6_bitCount_0f7a4_10 rfl (lv_at hl 0 rfl) ?_
  refine lv_ldcw hx hb hown (hts _ kJ6_bitCount_0f7a4_2) dJ6_bitCount_0f7a4_11 ?_
  refine lv_iand hx hb dJ6_bitCount_0f7a4_14 ?_
  refine lv_iload_n hx hb dJ6_bitCount_0f7a4_15 rfl (lv_at hl 0 rfl) ?_
  refine lv_iconst (v := 2) hx hb dJ6_bitCount_0f7a4_16 (by decide) ?_
  refine lv_iushr (v := ((Int32.toUInt32 zx0_1 >>> (Int32.toUInt32 2 &&& Int32.toUInt32 31)).toInt32)) hx hb dJ6_bitCount_0f7a4_17 rfl ?_
  refine lv_ldcw hx hb hown (hts _ kJ6_bitCount_0f7a4_2) dJ6_bitCount_0f7a4_18 ?_
  refine lv_iand hx hb dJ6_bitCount_0f7a4_21 ?_
  refine lv_iadd hx hb dJ6_bitCount_0f7a4_22 ?_
  obtain ⟨zx0_2, ex0_2, h⟩ := lT_el h
  refine tg_top ex0_2 ?_
  refine lv_istore_n (lv' := [(0, .int zx0_2)]) hx hb dJ6_bitCount_0f7a4_23 rfl hl (by decide) rfl (fun zls hl => ?_)
  refine lv_iload_n hx hb dJ6_bitCount_0f7a4_24 rfl (lv_at hl 0 rfl) ?_
  refine lv_iload_n hx hb dJ6_bitCount_0f7a4_25 rfl (lv_at hl 0 rfl) ?_
  refine lv_iconst (v := 4) hx hb dJ6_bitCount_0f7a4_26 (by decide) ?_
  refine lv_iushr (v := ((Int32.toUInt32 zx0_2 >>> (Int32.toUInt32 4 &&& Int32.toUInt32 31)).toInt32)) hx hb dJ6_bitCount_0f7a4_27 rfl ?_
  refine lv_iadd hx hb dJ6_bitCount_0f7a4_28 ?_
  refine lv_ldcw hx hb hown (hts _ kJ6_bitCount_0f7a4_3) dJ6_bitCount_0f7a4_29 ?_
  refine lv_iand hx hb dJ6_bitCount_0f7a4_32 ?_
  obtain ⟨zx0_3, ex0_3, h⟩ := lT_el h
  refine tg_top ex0_3 ?_
  refine lv_istore_n (lv' := [(0, .int zx0_3)]) hx hb dJ6_bitCount_0f7a4_33 rfl hl (by decide) rfl (fun zls hl => ?_)
  refine lv_iload_n hx hb dJ6_bitCount_0f7a4_34 rfl (lv_at hl 0 rfl) ?_
  refine lv_iload_n hx hb dJ6_bitCount_0f7a4_35 rfl (lv_at hl 0 rfl) ?_
  refine lv_bipush (v := 8) hx hb dJ6_bitCount_0f7a4_36 (by decide) ?_
  refine lv_iushr (v := ((Int32.toUInt32 zx0_3 >>> (Int32.toUInt32 8 &&& Int32.toUInt32 31)).toInt32)) hx hb dJ6_bitCount_0f7a4_38 rfl ?_
  refine lv_iadd hx hb dJ6_bitCount_0f7a4_39 ?_
  obtain ⟨zx0_4, ex0_4, h⟩ := lT_el h
  refine tg_top ex0_4 ?_
  refine lv_istore_n (lv' := [(0, .int zx0_4)]) hx hb dJ6_bitCount_0f7a4_40 rfl hl (by decide) rfl (fun zls hl => ?_)
  refine lv_iload_n hx hb dJ6_bitCount_0f7a4_41 rfl (lv_at hl 0 rfl) ?_
  refine lv_iload_n hx hb dJ6_bitCount_0f7a4_42 rfl (lv_at hl 0 rfl) ?_
  refine lv_bipush (v := 16) hx hb dJ6_bitCount_0f7a4_43 (by decide) ?_
  refine lv_iushr (v := ((Int32.toUInt32 zx0_4 >>> (Int32.toUInt32 16 &&& Int32.toUInt32 31)).toInt32)) hx hb dJ6_bitCount_0f7a4_45 rfl ?_
  refine lv_iadd hx hb dJ6_bitCount_0f7a4_46 ?_
  obtain ⟨zx0_5, ex0_5, h⟩ := lT_el h
  refine tg_top ex0_5 ?_
  refine lv_istore_n (lv' := [(0, .int zx0_5)]) hx hb dJ6_bitCount_0f7a4_47 rfl hl (by decide) rfl (fun zls hl => ?_)
  refine lv_iload_n hx hb dJ6_bitCount_0f7a4_48 rfl (lv_at hl 0 rfl) ?_
  refine lv_bipush (v := 63) hx hb dJ6_bitCount_0f7a4_49 (by decide) ?_
  refine lv_iand hx hb dJ6_bitCount_0f7a4_51 ?_
  subst h
  exact W.iret hx hb hr (fun t ht hW => ⟨rfl, ht⟩) (fun _ h9 => absurd h9 List.not_mem_nil) dJ6_bitCount_0f7a4_52
theorem zSJ6_bitCount_0f7a4 : yJ6_bitCount_0f7a4.cls ≠ "java/lang/invoke/MethodHandle" ∧ yJ6_bitCount_0f7a4.cls ≠ "java/lang/invoke/VarHandle" ∧ (parseMethodDescriptor yJ6_bitCount_0f7a4.desc).map (fun d => d.parameters.length) = some 1 := by decide +kernel
