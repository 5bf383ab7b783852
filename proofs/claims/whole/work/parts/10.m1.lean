/-! ===== private static boolean isIn(int, int, int); ===== -/
def mX7_isIn (zx0 : Int32) (zx1 : Int32) (zx2 : Int32) : Int32 := if zx0 < zx1 then 0 else (if zx2 < zx0 then 0 else 1)
set_option maxRecDepth 100000 in
set_option maxHeartbeats 4000000 in
theorem qX7_isIn (l : Launch) (D : va_G) (zx0 : Int32) (zx1 : Int32) (zx2 : Int32) (zr0 : Int32) (h : mX7_isIn zx0 zx1 zx2 = zr0) : Met l yX7_isIn wsX7_isIn ({ frames := 0, cells := 0, slots := 0, locals := 0 } : Room) (tg_P D [] [.int zx0, .int zx1, .int zx2] ([])) (tg_Ri zr0) 0 0 (fun _ => False) := by
  refine Met.ofW (cc := cX7_isIn) (maxL := 3) (ret := (some .boolean)) (by decide) rfl ?_
  intro p e s m zargs zbelow zmeth c s₁ B hml hv
  obtain ⟨hargs, hP, hK, hN⟩ := hv
  have hx := B.exec
  have hb := B.bytes
  have hr := B.returns
  have hts := atoms_spec (ws := wsX7_isIn) B.pre
  have hown : s.vm.findClass RX7 = some m.cls := findClass_of_methodNamed B.named
  have hlocks := B.notSynchronized
  have hl := lv_entry ([.int zx0, .int zx1, .int zx2]) (n := 3) (Nat.le_of_ble_eq_true rfl)
  refine W.eq (g2 := entryFrame m ([.int zx0, .int zx1, .int zx2] : List Value).toArray 3) (by rw [hargs]) ?_
  rw [lg_entry_eq]
  generalize (lg_sl ([.int zx0, .int zx1, .int zx2]) ++ List.replicate (3 - (lg_sl ([.int zx0, .int zx1, .int zx2])).length) Slot.unset).toArray = zls at hl ⊢
  have hl : lv_has zls 3 [(0, .int zx0), (1, .int zx1), (2, .int zx2)] := hl
  rw [mX7_isIn] at h
  refine lv_iload_n hx hb dX7_isIn_0 rfl (lv_at hl 0 rfl) ?_
  refine lv_iload_n hx hb dX7_isIn_1 rfl (lv_at hl 1 rfl) ?_
  refine lv_icmp_lt (tgt := 14) hx hb dX7_isIn_2 (by decide) (fun cb => ?_) (fun cb => ?_)
  · rw [if_pos cb] at h
    refine lv_iconst (v := 0) hx hb dX7_isIn_14 (by decide) ?_
    subst h
    exact W.zret hx hb hr rfl (fun t ht hW => ⟨rfl, ht⟩) (fun _ h9 => absurd h9 List.not_mem_nil) dX7_isIn_15
  · rw [if_neg cb] at h
    refine lv_iload_n hx hb dX7_isIn_5 rfl (lv_at hl 0 rfl) ?_
    refine lv_iload_n hx hb dX7_isIn_6 rfl (lv_at hl 2 rfl) ?_
    refine lv_icmp_gt (tgt := 14) hx hb dX7_isIn_7 (by decide) (fun cb_1 => ?_) (fun cb_1 => ?_)
    · rw [if_pos cb_1] at h
      refine lv_iconst (v := 0) hx hb dX7_isIn_14 (by decide) ?_
      subst h
      exact W.zret hx hb hr rfl (fun t ht hW => ⟨rfl, ht⟩) (fun _ h9 => absurd h9 List.not_mem_nil) dX7_isIn_15
    · rw [if_neg cb_1] at h
      refine lv_iconst (v := 1) hx hb dX7_isIn_10 (by decide) ?_
      refine lv_goto (tgt := 15) hx hb dX7_isIn_11 (by decide) ?_
      subst h
      exact W.zret hx hb hr rfl (fun t ht hW => ⟨rfl, ht⟩) (fun _ h9 => absurd h9 List.not_mem_nil) dX7_isIn_15
theorem zSX7_isIn : yX7_isIn.cls ≠ "java/lang/invoke/MethodHandle" ∧ yX7_isIn.cls ≠ "java/lang/invoke/VarHandle" ∧ (parseMethodDescriptor yX7_isIn.desc).map (fun d => d.parameters.length) = some 3 := by decide +kernel

/-! ===== private static int product(int); ===== -/
def mX7_product_L4 (zx0 : Int32) : Nat → Int32 → Int32 → Option (Int32)
  | 0, _, _ => none
  | f + 1, zx1, zx2 => if zx0 < zx2 then (some zx1) else (lT (zx1 * zx2) (fun zx1_1 => mX7_product_L4 zx0 f zx1_1 (zx2 + 1)))
theorem mX7_product_L4_s (zx0 : Int32) (f : Nat) (zx1 : Int32) (zx2 : Int32) : mX7_product_L4 zx0 (f + 1) zx1 zx2 = (if zx0 < zx2 then (some zx1) else (lT (zx1 * zx2) (fun zx1_1 => mX7_product_L4 zx0 f zx1_1 (zx2 + 1)))) := rfl
def mX7_product (F : Nat) (zx0 : Int32) : Option (Int32) := bd (mX7_product_L4 zx0 F 1 2) (fun zx1 => some zx1)
set_option maxRecDepth 100000 in
set_option maxHeartbeats 4000000 in
theorem wX7_product_L4 {p : Program} {l : Launch} {e : Env} {s : State} {m : MethodId} {zargs : Array Value} {zbelow : List Frame} {zmeth : Method} {c : Code} {D : va_G} {zQ : State → Prop} {zx0 : Int32} (C0 : tg_C p s m zmeth c zargs cX7_product RX7 wsX7_product 3 D []) (hlocks : zmeth.locks = false) (hr : zmeth.sig.returnType = (some .int)) (F : Nat) : ∀ (f : Nat) (zx1 : Int32) (zx2 : Int32) (zo1 : Int32), mX7_product_L4 zx0 f zx1 zx2 = some zo1 → ∀ (zls : Array Slot), lv_has zls 3 [(0, .int zx0), (1, .int zx1), (2, .int zx2)] → (∀ (zls : Array Slot), lv_has zls 3 [(1, .int zo1)] → W p l e ({ frames := 0, cells := 0, slots := 0, locals := 0 } : Room) s m zargs zbelow zmeth c s.heap [] 0 0 zQ (F0 m 19 zls [])) → W p l e ({ frames := 0, cells := 0, slots := 0, locals := 0 } : Room) s m zargs zbelow zmeth c s.heap [] 0 0 zQ (F0 m 4 zls []) := by
  obtain ⟨hx, hb, hml, hown, hts, hK, hN⟩ := C0
  intro f
  induction f with
  | zero => intro _ _ _ h; exact absurd (show none = some _ from h) (fun h9 => by cases h9)
  | succ f ih =>
    intro zx1 zx2 zo1 h  zls hl kk
    rw [mX7_product_L4_s] at h
    refine lv_iload_n hx hb dX7_product_4 rfl (lv_at hl 2 rfl) ?_
    refine lv_iload_n hx hb dX7_product_5 rfl (lv_at hl 0 rfl) ?_
    refine lv_icmp_gt (tgt := 19) hx hb dX7_product_6 (by decide) (fun cb => ?_) (fun cb => ?_)
    · rw [if_pos cb] at h
      cases h
      exact kk  _ (lv_sub hl [1] rfl)
    · rw [if_neg cb] at h
      refine lv_iload_n hx hb dX7_product_9 rfl (lv_at hl 1 rfl) ?_
      refine lv_iload_n hx hb dX7_product_10 rfl (lv_at hl 2 rfl) ?_
      refine lv_imul hx hb dX7_product_11 ?_
      obtain ⟨zx1_1, ex1_1, h⟩ := lT_el h
      refine tg_top ex1_1 ?_
      refine lv_istore_n (lv' := [(1, .int zx1_1), (0, .int zx0), (2, .int zx2)]) hx hb dX7_product_12 rfl hl (by decide) rfl (fun zls hl => ?_)
      refine lv_iinc (v := (zx2 + 1)) (lv' := [(2, .int (zx2 + 1)), (1, .int zx1_1), (0, .int zx0)]) hx hb dX7_product_13 hl (k := 2) rfl rfl (by decide) rfl (fun zls hl => ?_)
      refine lv_goto (tgt := 4) hx hb dX7_product_16 (by decide) ?_
      exact ih _ _ _ h  _ (lv_sub hl [2, 1, 0] rfl) kk
set_option maxRecDepth 100000 in
set_option maxHeartbeats 4000000 in
theorem qX7_product (l : Launch) (D : va_G) (zx0 : Int32) (F : Nat) (zr0 : Int32) (h : mX7_product F zx0 = some zr0) : Met l yX7_product wsX7_product ({ frames := 0, cells := 0, slots := 0, locals := 0 } : Room) (tg_P D [] [.int zx0] ([])) (tg_Ri zr0) 0 0 (fun _ => False) := by
  refine Met.ofW (cc := cX7_product) (maxL := 3) (ret := (some .int)) (by decide) rfl ?_
  intro p e s m zargs zbelow zmeth c s₁ B hml hv
  obtain ⟨hargs, hP, hK, hN⟩ := hv
  have hx := B.exec
  have hb := B.bytes
  have hr := B.returns
  have hts := atoms_spec (ws := wsX7_product) B.pre
  have hown : s.vm.findClass RX7 = some m.cls := findClass_of_methodNamed B.named
  have hlocks := B.notSynchronized
  have hl := lv_entry ([.int zx0]) (n := 3) (Nat.le_of_ble_eq_true rfl)
  refine W.eq (g2 := entryFrame m ([.int zx0] : List Value).toArray 3) (by rw [hargs]) ?_
  rw [lg_entry_eq]
  generalize (lg_sl ([.int zx0]) ++ List.replicate (3 - (lg_sl ([.int zx0])).length) Slot.unset).toArray = zls at hl ⊢
  have hl : lv_has zls 3 [(0, .int zx0)] := hl
  rw [mX7_product] at h
  refine lv_iconst (v := 1) hx hb dX7_product_0 (by decide) ?_
  refine lv_istore_n (lv' := [(1, .int 1), (0, .int zx0)]) hx hb dX7_product_1 rfl hl (by decide) rfl (fun zls hl => ?_)
  refine lv_iconst (v := 2) hx hb dX7_product_2 (by decide) ?_
  refine lv_istore_n (lv' := [(2, .int 2), (1, .int 1), (0, .int zx0)]) hx hb dX7_product_3 rfl hl (by decide) rfl (fun zls hl => ?_)
  obtain ⟨zx1, hv, h⟩ := bd_el h
  refine wX7_product_L4 ⟨hx, hb, hml, hown, hts, hK, hN⟩ hlocks hr F F _ _ _ hv  _ (lv_sub hl [2, 1, 0] rfl) (fun zls hl => ?_)
  refine lv_iload_n hx hb dX7_product_19 rfl (lv_at hl 0 rfl) ?_
  cases h
  exact W.iret hx hb hr (fun t ht hW => ⟨rfl, ht⟩) (fun _ h9 => absurd h9 List.not_mem_nil) dX7_product_20
theorem zSX7_product : yX7_product.cls ≠ "java/lang/invoke/MethodHandle" ∧ yX7_product.cls ≠ "java/lang/invoke/VarHandle" ∧ (parseMethodDescriptor yX7_product.desc).map (fun d => d.parameters.length) = some 1 := by decide +kernel

/-! ===== private void layAll(); ===== -/
theorem kX7_layAll_1 : Cond.fieldLink RX7 7 "TurnGroupsModel" "n" "I" ∈ wsX7_layAll := by decide +kernel
theorem kX7_layAll_2 : Cond.fieldLink RX7 46 "TurnGroupsModel" "many" "I" ∈ wsX7_layAll := by decide +kernel
theorem kX7_layAll_3 : Cond.fieldLink RX7 14 "TurnGroupsModel" "image" "[I" ∈ wsX7_layAll := by decide +kernel
theorem uX7_layAll_RX7 : ∀ w ∈ u_ws RX7 TX7 11, w ∈ wsX7_layAll := by decide +kernel
def mX7_layAll_L65 (zx3 : Int32) : Nat → Int32 → Int32 → Option (Int32)
  | 0, _, _ => none
  | f + 1, zx6, zx7 => if ((zx3 >>> (zx7 &&& 31)) &&& 1) = 1 then (lT (if ((zx3 >>> (zx7 &&& 31)) &&& 1) = 0 then 1 else 0) (fun zv => lT (zx6 - zv) (fun zx6_1 => mX7_layAll_L65 zx3 f zx6_1 (zx7 + 1)))) else (if zx6 ≤ 0 then (some zx7) else (lT (if ((zx3 >>> (zx7 &&& 31)) &&& 1) = 0 then 1 else 0) (fun zv_1 => lT (zx6 - zv_1) (fun zx6_2 => mX7_layAll_L65 zx3 f zx6_2 (zx7 + 1)))))
theorem mX7_layAll_L65_s (zx3 : Int32) (f : Nat) (zx6 : Int32) (zx7 : Int32) : mX7_layAll_L65 zx3 (f + 1) zx6 zx7 = (if ((zx3 >>> (zx7 &&& 31)) &&& 1) = 1 then (lT (if ((zx3 >>> (zx7 &&& 31)) &&& 1) = 0 then 1 else 0) (fun zv => lT (zx6 - zv) (fun zx6_1 => mX7_layAll_L65 zx3 f zx6_1 (zx7 + 1)))) else (if zx6 ≤ 0 then (some zx7) else (lT (if ((zx3 >>> (zx7 &&& 31)) &&& 1) = 0 then 1 else 0) (fun zv_1 => lT (zx6 - zv_1) (fun zx6_2 => mX7_layAll_L65 zx3 f zx6_2 (zx7 + 1)))))) := rfl
def mX7_layAll_L28 (F : Nat) (zx1 : Int32) (n : Int32) : Nat → Int32 → Int32 → Int32 → (Nat → Int32) → Option ((Nat → Int32))
  | 0, _, _, _, _ => none
  | f + 1, zx2, zx3, zx4, image => if n ≤ zx4 then (some image) else (bd (mX7_product F ((n - 1) - zx4)) (fun zr => gd (nzb zr) (lT (zx2 / zr) (fun zx6 => gd (nzb zr) (lT (zx2 - zx2 / zr * zr) (fun zx2_1 => bd (mX7_layAll_L65 zx3 F zx6 0) (fun zx7 => lT (zx3 ||| (1 <<< (zx7 &&& 31))) (fun zx3_1 => gd (inb ((8 * zx1) + zx4) 322560) (lT (upd image (Int32.toNatClampNeg ((8 * zx1) + zx4)) zx7) (fun image_1 => mX7_layAll_L28 F zx1 n f zx2_1 zx3_1 (zx4 + 1) image_1))))))))))
theorem mX7_layAll_L28_s (F : Nat) (zx1 : Int32) (n : Int32) (f : Nat) (zx2 : Int32) (zx3 : Int32) (zx4 : Int32) (image : Nat → Int32) : mX7_layAll_L28 F zx1 n (f + 1) zx2 zx3 zx4 image = (if n ≤ zx4 then (some image) else (bd (mX7_product F ((n - 1) - zx4)) (fun zr => gd (nzb zr) (lT (zx2 / zr) (fun zx6 => gd (nzb zr) (lT (zx2 - zx2 / zr * zr) (fun zx2_1 => bd (mX7_layAll_L65 zx3 F zx6 0) (fun zx7 => lT (zx3 ||| (1 <<< (zx7 &&& 31))) (fun zx3_1 => gd (inb ((8 * zx1) + zx4) 322560) (lT (upd image (Int32.toNatClampNeg ((8 * zx1) + zx4)) zx7) (fun image_1 => mX7_layAll_L28 F zx1 n f zx2_1 zx3_1 (zx4 + 1) image_1))))))))))) := rfl
def mX7_layAll_L13 (F : Nat) (n : Int32) (many : Int32) : Nat → Int32 → (Nat → Int32) → Option ((Nat → Int32))
  | 0, _, _ => none
  | f + 1, zx1, image => if many ≤ zx1 then (some image) else (bd (mX7_layAll_L28 F zx1 n F zx1 0 0 image) (fun image_1 => mX7_layAll_L13 F n many f (zx1 + 1) image_1))
theorem mX7_layAll_L13_s (F : Nat) (n : Int32) (many : Int32) (f : Nat) (zx1 : Int32) (image : Nat → Int32) : mX7_layAll_L13 F n many (f + 1) zx1 image = (if many ≤ zx1 then (some image) else (bd (mX7_layAll_L28 F zx1 n F zx1 0 0 image) (fun image_1 => mX7_layAll_L13 F n many f (zx1 + 1) image_1))) := rfl
def mX7_layAll (F : Nat) (n : Int32) (many : Int32) (image : Nat → Int32) : Option (Int32 × (Nat → Int32)) := bd (mX7_product F n) (fun zr => bd (mX7_layAll_L13 F n zr F 0 image) (fun image_1 => some (zr, image_1)))
set_option maxRecDepth 100000 in
set_option maxHeartbeats 4000000 in
theorem wX7_layAll_L65 {p : Program} {l : Launch} {e : Env} {s : State} {m : MethodId} {zargs : Array Value} {zbelow : List Frame} {zmeth : Method} {c : Code} {D : va_G} {zQ : State → Prop} {zA : Nat → Prop} {ad : Nat → Nat} {cI cZ : ClassId} {n : Int32} {many : Int32} {image : Nat → Int32} {turn : Int32} {shelf : Nat → Int32} {groups : Int32} {inn : Nat → Int32} {now : Nat → Int32} {makers : Nat → Int32} {makerMany : Nat → Int32} {queue : Nat → Int32} {zx1 : Int32} {zx2 : Int32} {zx3 : Int32} {zx4 : Int32} (C0 : tg_C p s m zmeth c zargs cX7_layAll RX7 wsX7_layAll 8 D [(cI, .int), (cZ, .boolean)]) (hDD : tg_DD zA [ad 0, ad 1, ad 2, ad 3, ad 4, ad 5, ad 6, ad 7]) (hlocks : zmeth.locks = false) (hr : zmeth.sig.returnType = none) (F : Nat) : ∀ (f : Nat) (zx6 : Int32) (zx7 : Int32) (zo7 : Int32), mX7_layAll_L65 zx3 f zx6 zx7 = some zo7 → ∀ (zH : Heap) (zlocs : List Loc), va_P D vwCl (wM cI cZ ad n many image turn shelf groups inn now makers makerMany queue) zH → va_S zA s.heap zH zlocs → ∀ (zls : Array Slot), lv_has zls 8 [(0, .ref (ad 0)), (1, .int zx1), (2, .int zx2), (3, .int zx3), (4, .int zx4), (6, .int zx6), (7, .int zx7)] → (∀ (zH : Heap) (zlocs : List Loc), va_P D vwCl (wM cI cZ ad n many image turn shelf groups inn now makers makerMany queue) zH → va_S zA s.heap zH zlocs → ∀ (zls : Array Slot), lv_has zls 8 [(0, .ref (ad 0)), (1, .int zx1), (2, .int zx2), (3, .int zx3), (4, .int zx4), (7, .int zo7)] → W p l e ({ frames := 1, cells := 0, slots := 0, locals := 22 } : Room) s m zargs zbelow zmeth c zH zlocs 0 0 zQ (F0 m 105 zls [])) → W p l e ({ frames := 1, cells := 0, slots := 0, locals := 22 } : Room) s m zargs zbelow zmeth c zH zlocs 0 0 zQ (F0 m 65 zls []) := by
  obtain ⟨hx, hb, hml, hown, hts, hK, hN⟩ := C0
  intro f
  induction f with
  | zero => intro _ _ _ h; exact absurd (show none = some _ from h) (fun h9 => by cases h9)
  | succ f ih =>
    intro zx6 zx7 zo7 h zH zlocs hP hS zls hl kk
    rw [mX7_layAll_L65_s] at h
    refine lv_iload_n hx hb dX7_layAll_65 rfl (lv_at hl 3 rfl) ?_
    refine lv_iload hx hb dX7_layAll_66 (lv_at hl 6 rfl) ?_
    refine lv_ishr hx hb dX7_layAll_68 ?_
    refine lv_iconst (v := 1) hx hb dX7_layAll_69 (by decide) ?_
    refine lv_iand hx hb dX7_layAll_70 ?_
    refine lv_iconst (v := 1) hx hb dX7_layAll_71 (by decide) ?_
    refine lv_icmp_eq (tgt := 80) hx hb dX7_layAll_72 (by decide) (fun cb => ?_) (fun cb => ?_)
    · rw [if_pos cb] at h
      refine lv_iload hx hb dX7_layAll_80 (lv_at hl 5 rfl) ?_
      refine lv_iload_n hx hb dX7_layAll_82 rfl (lv_at hl 3 rfl) ?_
      refine lv_iload hx hb dX7_layAll_83 (lv_at hl 6 rfl) ?_
      refine lv_ishr hx hb dX7_layAll_85 ?_
      refine lv_iconst (v := 1) hx hb dX7_layAll_86 (by decide) ?_
      refine lv_iand hx hb dX7_layAll_87 ?_
      obtain ⟨zv, hv, h⟩ := lT_el h
      have hj : W p l e ({ frames := 1, cells := 0, slots := 0, locals := 22 } : Room) s m zargs zbelow zmeth c zH zlocs 0 0 zQ (F0 m 96 zls [.int zv, .int zx6]) := by
        refine lv_isub hx hb dX7_layAll_96 ?_
        obtain ⟨zx6_1, ex6_1, h⟩ := lT_el h
        refine tg_top ex6_1 ?_
        refine lv_istore (lv' := [(6, .int zx6_1), (0, .ref (ad 0)), (1, .int zx1), (2, .int zx2), (3, .int zx3), (4, .int zx4), (7, .int zx7)]) hx hb dX7_layAll_97 hl (by decide) rfl (fun zls hl => ?_)
        refine lv_iinc (v := (zx7 + 1)) (lv' := [(7, .int (zx7 + 1)), (6, .int zx6_1), (0, .ref (ad 0)), (1, .int zx1), (2, .int zx2), (3, .int zx3), (4, .int zx4)]) hx hb dX7_layAll_99 hl (k := 6) rfl rfl (by decide) rfl (fun zls hl => ?_)
        refine lv_goto (tgt := 65) hx hb dX7_layAll_102 (by decide) ?_
        exact ih _ _ _ h _ _ hP hS _ (lv_sub hl [2, 3, 4, 5, 6, 1, 0] rfl) kk
      refine lv_if_ne (tgt := 95) hx hb dX7_layAll_88 (by decide) (fun cb_1 => ?_) (fun cb_1 => ?_)
      · rw [if_neg cb_1] at hv
        refine lv_iconst (v := 0) hx hb dX7_layAll_95 (by decide) ?_
        subst hv
        exact hj 
      · rw [if_pos cb_1] at hv
        refine lv_iconst (v := 1) hx hb dX7_layAll_91 (by decide) ?_
        refine lv_goto (tgt := 96) hx hb dX7_layAll_92 (by decide) ?_
        subst hv
        exact hj 
    · rw [if_neg cb] at h
      refine lv_iload hx hb dX7_layAll_75 (lv_at hl 5 rfl) ?_
      refine lv_if_le (tgt := 105) hx hb dX7_layAll_77 (by decide) (fun cb_2 => ?_) (fun cb_2 => ?_)
      · rw [if_pos cb_2] at h
        cases h
        exact kk _ _ hP hS _ (lv_sub hl [0, 1, 2, 3, 4, 6] rfl)
      · rw [if_neg cb_2] at h
        refine lv_iload hx hb dX7_layAll_80 (lv_at hl 5 rfl) ?_
        refine lv_iload_n hx hb dX7_layAll_82 rfl (lv_at hl 3 rfl) ?_
        refine lv_iload hx hb dX7_layAll_83 (lv_at hl 6 rfl) ?_
        refine lv_ishr hx hb dX7_layAll_85 ?_
        refine lv_iconst (v := 1) hx hb dX7_layAll_86 (by decide) ?_
        refine lv_iand hx hb dX7_layAll_87 ?_
        obtain ⟨zv_1, hv_1, h⟩ := lT_el h
        have hj_1 : W p l e ({ frames := 1, cells := 0, slots := 0, locals := 22 } : Room) s m zargs zbelow zmeth c zH zlocs 0 0 zQ (F0 m 96 zls [.int zv_1, .int zx6]) := by
          refine lv_isub hx hb dX7_layAll_96 ?_
          obtain ⟨zx6_2, ex6_2, h⟩ := lT_el h
          refine tg_top ex6_2 ?_
          refine lv_istore (lv' := [(6, .int zx6_2), (0, .ref (ad 0)), (1, .int zx1), (2, .int zx2), (3, .int zx3), (4, .int zx4), (7, .int zx7)]) hx hb dX7_layAll_97 hl (by decide) rfl (fun zls hl => ?_)
          refine lv_iinc (v := (zx7 + 1)) (lv' := [(7, .int (zx7 + 1)), (6, .int zx6_2), (0, .ref (ad 0)), (1, .int zx1), (2, .int zx2), (3, .int zx3), (4, .int zx4)]) hx hb dX7_layAll_99 hl (k := 6) rfl rfl (by decide) rfl (fun zls hl => ?_)
          refine lv_goto (tgt := 65) hx hb dX7_layAll_102 (by decide) ?_
          exact ih _ _ _ h _ _ hP hS _ (lv_sub hl [2, 3, 4, 5, 6, 1, 0] rfl) kk
        refine lv_if_ne (tgt := 95) hx hb dX7_layAll_88 (by decide) (fun cb_3 => ?_) (fun cb_3 => ?_)
        · rw [if_neg cb_3] at hv_1
          refine lv_iconst (v := 0) hx hb dX7_layAll_95 (by decide) ?_
          subst hv_1
          exact hj_1 
        · rw [if_pos cb_3] at hv_1
          refine lv_iconst (v := 1) hx hb dX7_layAll_91 (by decide) ?_
          refine lv_goto (tgt := 96) hx hb dX7_layAll_92 (by decide) ?_
          subst hv_1
          exact hj_1 
set_option maxRecDepth 100000 in
set_option maxHeartbeats 4000000 in
theorem wX7_layAll_L28 {p : Program} {l : Launch} {e : Env} {s : State} {m : MethodId} {zargs : Array Value} {zbelow : List Frame} {zmeth : Method} {c : Code} {D : va_G} {zQ : State → Prop} {zA : Nat → Prop} {ad : Nat → Nat} {cI cZ : ClassId} {n : Int32} {many : Int32} {turn : Int32} {shelf : Nat → Int32} {groups : Int32} {inn : Nat → Int32} {now : Nat → Int32} {makers : Nat → Int32} {makerMany : Nat → Int32} {queue : Nat → Int32} {zx1 : Int32} (C0 : tg_C p s m zmeth c zargs cX7_layAll RX7 wsX7_layAll 8 D [(cI, .int), (cZ, .boolean)]) (hDD : tg_DD zA [ad 0, ad 1, ad 2, ad 3, ad 4, ad 5, ad 6, ad 7]) (hlocks : zmeth.locks = false) (hr : zmeth.sig.returnType = none) (F : Nat) : ∀ (f : Nat) (zx2 : Int32) (zx3 : Int32) (zx4 : Int32) (image : Nat → Int32) (oimage : Nat → Int32), mX7_layAll_L28 F zx1 n f zx2 zx3 zx4 image = some oimage → ∀ (zH : Heap) (zlocs : List Loc), va_P D vwCl (wM cI cZ ad n many image turn shelf groups inn now makers makerMany queue) zH → va_S zA s.heap zH zlocs → ∀ (zls : Array Slot), lv_has zls 8 [(0, .ref (ad 0)), (1, .int zx1), (2, .int zx2), (3, .int zx3), (4, .int zx4)] → (∀ (zH : Heap) (zlocs : List Loc), va_P D vwCl (wM cI cZ ad n many oimage turn shelf groups inn now makers makerMany queue) zH → va_S zA s.heap zH zlocs → ∀ (zls : Array Slot), lv_has zls 8 [(0, .ref (ad 0)), (1, .int zx1)] → W p l e ({ frames := 1, cells := 0, slots := 0, locals := 22 } : Room) s m zargs zbelow zmeth c zH zlocs 0 0 zQ (F0 m 132 zls [])) → W p l e ({ frames := 1, cells := 0, slots := 0, locals := 22 } : Room) s m zargs zbelow zmeth c zH zlocs 0 0 zQ (F0 m 28 zls []) := by
  obtain ⟨hx, hb, hml, hown, hts, hK, hN⟩ := C0
  intro f
  induction f with
  | zero => intro _ _ _ _ _ h; exact absurd (show none = some _ from h) (fun h9 => by cases h9)
  | succ f ih =>
    intro zx2 zx3 zx4 image oimage h zH zlocs hP hS zls hl kk
    rw [mX7_layAll_L28_s] at h
    refine lv_iload hx hb dX7_layAll_28 (lv_at hl 4 rfl) ?_
    refine lv_aload_n hx hb dX7_layAll_30 rfl (lv_at hl 0 rfl) ?_
    refine va_get (D := D) (ci := 6) (v := .int n) (C := RX7) (T := TX7) (N := 11) hx hb hts uX7_layAll_RX7 hown hK hP 0 rfl rfl 0 (by decide) (hts _ kX7_layAll_1) (fun _ h9 => h9) rfl dX7_layAll_31 ?_
    refine lv_icmp_ge (tgt := 132) hx hb dX7_layAll_34 (by decide) (fun cb => ?_) (fun cb => ?_)
    · rw [if_pos cb] at h
      cases h
      exact kk _ _ hP hS _ (lv_sub hl [0, 1] rfl)
    · rw [if_neg cb] at h
      refine lv_aload_n hx hb dX7_layAll_37 rfl (lv_at hl 0 rfl) ?_
      refine va_get (D := D) (ci := 6) (v := .int n) (C := RX7) (T := TX7) (N := 11) hx hb hts uX7_layAll_RX7 hown hK hP 0 rfl rfl 0 (by decide) (hts _ kX7_layAll_1) (fun _ h9 => h9) rfl dX7_layAll_38 ?_
      refine lv_iconst (v := 1) hx hb dX7_layAll_41 (by decide) ?_
      refine lv_isub hx hb dX7_layAll_42 ?_
      refine lv_iload hx hb dX7_layAll_43 (lv_at hl 4 rfl) ?_
      refine lv_isub hx hb dX7_layAll_45 ?_
      obtain ⟨zr, hc, h⟩ := bd_el h
      refine tg_cRi (va_runS (As := [.int ((n - 1) - zx4)]) (rest := []) ⟨hx, hb, hml, hown, hts⟩ (qX7_product l D ((n - 1) - zx4) F zr hc) (va_cwS 1 hts gX7_layAll_X7_product rfl rfl rfl zSX7_product ⟨Nat.le_of_ble_eq_true rfl, Nat.le_of_ble_eq_true rfl⟩) (tg_preS tg_nil (hK.sub (tys' := []) [] rfl) hN) rfl rfl hl.1 rfl (lv_room (Nat.le_of_ble_eq_true rfl)) dX7_layAll_46 ⟨Nat.zero_le _, Nat.zero_le _⟩) ?_
      refine lv_istore (lv' := [(5, .int zr), (0, .ref (ad 0)), (1, .int zx1), (2, .int zx2), (3, .int zx3), (4, .int zx4)]) hx hb dX7_layAll_49 hl (by decide) rfl (fun zls hl => ?_)
      refine lv_iload_n hx hb dX7_layAll_51 rfl (lv_at hl 3 rfl) ?_
      refine lv_iload hx hb dX7_layAll_52 (lv_at hl 0 rfl) ?_
      obtain ⟨gg, h⟩ := gd_el h
      refine lv_idiv hx hb dX7_layAll_54 (nzb_el gg) ?_
      obtain ⟨zx6, ex6, h⟩ := lT_el h
      refine tg_top ex6 ?_
      refine lv_istore (lv' := [(6, .int zx6), (5, .int zr), (0, .ref (ad 0)), (1, .int zx1), (2, .int zx2), (3, .int zx3), (4, .int zx4)]) hx hb dX7_layAll_55 hl (by decide) rfl (fun zls hl => ?_)
      refine lv_iload_n hx hb dX7_layAll_57 rfl (lv_at hl 4 rfl) ?_
      refine lv_iload hx hb dX7_layAll_58 (lv_at hl 1 rfl) ?_
      obtain ⟨gg_1, h⟩ := gd_el h
      refine lv_irem hx hb dX7_layAll_60 (nzb_el gg_1) ?_
      obtain ⟨zx2_1, ex2_1, h⟩ := lT_el h
      refine tg_top ex2_1 ?_
      refine lv_istore_n (lv' := [(2, .int zx2_1), (6, .int zx6), (5, .int zr), (0, .ref (ad 0)), (1, .int zx1), (3, .int zx3), (4, .int zx4)]) hx hb dX7_layAll_61 rfl hl (by decide) rfl (fun zls hl => ?_)
      refine lv_iconst (v := 0) hx hb dX7_layAll_62 (by decide) ?_
      refine lv_istore (lv' := [(7, .int 0), (2, .int zx2_1), (6, .int zx6), (5, .int zr), (0, .ref (ad 0)), (1, .int zx1), (3, .int zx3), (4, .int zx4)]) hx hb dX7_layAll_63 hl (by decide) rfl (fun zls hl => ?_)
      obtain ⟨zx7, hv, h⟩ := bd_el h
      refine wX7_layAll_L65 ⟨hx, hb, hml, hown, hts, hK, hN⟩ hDD hlocks hr F F _ _ _ hv _ _ hP hS _ (lv_sub hl [4, 5, 1, 6, 7, 2, 0] rfl) (fun zH zlocs hP hS zls hl => ?_)
      refine lv_iload_n hx hb dX7_layAll_105 rfl (lv_at hl 3 rfl) ?_
      refine lv_iconst (v := 1) hx hb dX7_layAll_106 (by decide) ?_
      refine lv_iload hx hb dX7_layAll_107 (lv_at hl 5 rfl) ?_
      refine lv_ishl hx hb dX7_layAll_109 ?_
      refine lv_ior hx hb dX7_layAll_110 ?_
      obtain ⟨zx3_1, ex3_1, h⟩ := lT_el h
      refine tg_top ex3_1 ?_
      refine lv_istore_n (lv' := [(3, .int zx3_1), (0, .ref (ad 0)), (1, .int zx1), (2, .int zx2_1), (4, .int zx4), (7, .int zx7)]) hx hb dX7_layAll_111 rfl hl (by decide) rfl (fun zls hl => ?_)
      refine lv_aload_n hx hb dX7_layAll_112 rfl (lv_at hl 1 rfl) ?_
      refine va_get (D := D) (ci := 6) (v := .ref (ad 1)) (C := RX7) (T := TX7) (N := 11) hx hb hts uX7_layAll_RX7 hown hK hP 0 rfl rfl 2 (by decide) (hts _ kX7_layAll_3) (fun _ h9 => h9) rfl dX7_layAll_113 ?_
      refine lv_bipush (v := 8) hx hb dX7_layAll_116 (by decide) ?_
      refine lv_iload_n hx hb dX7_layAll_118 rfl (lv_at hl 2 rfl) ?_
      refine lv_imul hx hb dX7_layAll_119 ?_
      refine lv_iload hx hb dX7_layAll_120 (lv_at hl 4 rfl) ?_
      refine lv_iadd hx hb dX7_layAll_122 ?_
      refine lv_iload hx hb dX7_layAll_123 (lv_at hl 5 rfl) ?_
      obtain ⟨gg_2, h⟩ := gd_el h
      obtain ⟨image_1, eimage_1, h⟩ := lT_el h
      refine va_iast hx hb hK hP (hDD _ rfl) hS 1 0 rfl rfl (inb_in gg_2) dX7_layAll_125 (fun zH zlocs hP _ hS => ?_)
      have hP : va_P D vwCl (wM cI cZ ad n many (upd image (Int32.toNatClampNeg ((8 * zx1) + zx4)) zx7) turn shelf groups inn now makers makerMany queue) zH := hP
      rw [← eimage_1] at hP
      refine lv_iinc (v := (zx4 + 1)) (lv' := [(4, .int (zx4 + 1)), (3, .int zx3_1), (0, .ref (ad 0)), (1, .int zx1), (2, .int zx2_1), (7, .int zx7)]) hx hb dX7_layAll_126 hl (k := 4) rfl rfl (by decide) rfl (fun zls hl => ?_)
      refine lv_goto (tgt := 28) hx hb dX7_layAll_129 (by decide) ?_
      exact ih _ _ _ _ _ h _ _ hP hS _ (lv_sub hl [2, 3, 4, 1, 0] rfl) kk
set_option maxRecDepth 100000 in
set_option maxHeartbeats 4000000 in
theorem wX7_layAll_L13 {p : Program} {l : Launch} {e : Env} {s : State} {m : MethodId} {zargs : Array Value} {zbelow : List Frame} {zmeth : Method} {c : Code} {D : va_G} {zQ : State → Prop} {zA : Nat → Prop} {ad : Nat → Nat} {cI cZ : ClassId} {n : Int32} {many : Int32} {turn : Int32} {shelf : Nat → Int32} {groups : Int32} {inn : Nat → Int32} {now : Nat → Int32} {makers : Nat → Int32} {makerMany : Nat → Int32} {queue : Nat → Int32} (C0 : tg_C p s m zmeth c zargs cX7_layAll RX7 wsX7_layAll 8 D [(cI, .int), (cZ, .boolean)]) (hDD : tg_DD zA [ad 0, ad 1, ad 2, ad 3, ad 4, ad 5, ad 6, ad 7]) (hlocks : zmeth.locks = false) (hr : zmeth.sig.returnType = none) (F : Nat) : ∀ (f : Nat) (zx1 : Int32) (image : Nat → Int32) (oimage : Nat → Int32), mX7_layAll_L13 F n many f zx1 image = some oimage → ∀ (zH : Heap) (zlocs : List Loc), va_P D vwCl (wM cI cZ ad n many image turn shelf groups inn now makers makerMany queue) zH → va_S zA s.heap zH zlocs → ∀ (zls : Array Slot), lv_has zls 8 [(0, .ref (ad 0)), (1, .int zx1)] → (∀ (zH : Heap) (zlocs : List Loc), va_P D vwCl (wM cI cZ ad n many oimage turn shelf groups inn now makers makerMany queue) zH → va_S zA s.heap zH zlocs → ∀ (zls : Array Slot), lv_has zls 8 [] → W p l e ({ frames := 1, cells := 0, slots := 0, locals := 22 } : Room) s m zargs zbelow zmeth c zH zlocs 0 0 zQ (F0 m 138 zls [])) → W p l e ({ frames := 1, cells := 0, slots := 0, locals := 22 } : Room) s m zargs zbelow zmeth c zH zlocs 0 0 zQ (F0 m 13 zls []) := by
  obtain ⟨hx, hb, hml, hown, hts, hK, hN⟩ := C0
  intro f
  induction f with
  | zero => intro _ _ _ h; exact absurd (show none = some _ from h) (fun h9 => by cases h9)
  | succ f ih =>
    intro zx1 image oimage h zH zlocs hP hS zls hl kk
    rw [mX7_layAll_L13_s] at h
    refine lv_iload_n hx hb dX7_layAll_13 rfl (lv_at hl 1 rfl) ?_
    refine lv_aload_n hx hb dX7_layAll_14 rfl (lv_at hl 0 rfl) ?_
    refine va_get (D := D) (ci := 6) (v := .int many) (C := RX7) (T := TX7) (N := 11) hx hb hts uX7_layAll_RX7 hown hK hP 0 rfl rfl 1 (by decide) (hts _ kX7_layAll_2) (fun _ h9 => h9) rfl dX7_layAll_15 ?_
    refine lv_icmp_ge (tgt := 138) hx hb dX7_layAll_18 (by decide) (fun cb => ?_) (fun cb => ?_)
    · rw [if_pos cb] at h
      cases h
      exact kk _ _ hP hS _ (lv_sub hl [] rfl)
    · rw [if_neg cb] at h
      refine lv_iload_n hx hb dX7_layAll_21 rfl (lv_at hl 1 rfl) ?_
      refine lv_istore_n (lv' := [(2, .int zx1), (0, .ref (ad 0)), (1, .int zx1)]) hx hb dX7_layAll_22 rfl hl (by decide) rfl (fun zls hl => ?_)
      refine lv_iconst (v := 0) hx hb dX7_layAll_23 (by decide) ?_
      refine lv_istore_n (lv' := [(3, .int 0), (2, .int zx1), (0, .ref (ad 0)), (1, .int zx1)]) hx hb dX7_layAll_24 rfl hl (by decide) rfl (fun zls hl => ?_)
      refine lv_iconst (v := 0) hx hb dX7_layAll_25 (by decide) ?_
      refine lv_istore (lv' := [(4, .int 0), (3, .int 0), (2, .int zx1), (0, .ref (ad 0)), (1, .int zx1)]) hx hb dX7_layAll_26 hl (by decide) rfl (fun zls hl => ?_)
      obtain ⟨image_1, hv, h⟩ := bd_el h
      refine wX7_layAll_L28 ⟨hx, hb, hml, hown, hts, hK, hN⟩ hDD hlocks hr F F _ _ _ _ _ hv _ _ hP hS _ (lv_sub hl [3, 4, 2, 1, 0] rfl) (fun zH zlocs hP hS zls hl => ?_)
      refine lv_iinc (v := (zx1 + 1)) (lv' := [(1, .int (zx1 + 1)), (0, .ref (ad 0))]) hx hb dX7_layAll_132 hl (k := 1) rfl rfl (by decide) rfl (fun zls hl => ?_)
      refine lv_goto (tgt := 13) hx hb dX7_layAll_135 (by decide) ?_
      exact ih _ _ _ h _ _ hP hS _ (lv_sub hl [1, 0] rfl) kk
set_option maxRecDepth 100000 in
set_option maxHeartbeats 4000000 in
theorem qX7_layAll (l : Launch) (D : va_G) (cI : ClassId) (cZ : ClassId) (ad : Nat → Nat) (n : Int32) (many : Int32) (image : Nat → Int32) (turn : Int32) (shelf : Nat → Int32) (groups : Int32) (inn : Nat → Int32) (now : Nat → Int32) (makers : Nat → Int32) (makerMany : Nat → Int32) (queue : Nat → Int32) (F : Nat) (omany : Int32) (oimage : Nat → Int32) (h : mX7_layAll F n many image = some (omany, oimage)) : Met l yX7_layAll wsX7_layAll ({ frames := 1, cells := 0, slots := 0, locals := 22 } : Room) (tg_PM D [(cI, .int), (cZ, .boolean)] [.ref (ad 0)] (wM cI cZ ad n many image turn shelf groups inn now makers makerMany queue)) (tg_Mv D (wM cI cZ ad n many image turn shelf groups inn now makers makerMany queue) (wM cI cZ ad n omany oimage turn shelf groups inn now makers makerMany queue)) 0 0 (tg_in (wM cI cZ ad n many image turn shelf groups inn now makers makerMany queue)) := by
  refine Met.ofW (cc := cX7_layAll) (maxL := 8) (ret := none) (by decide) rfl ?_
  intro p e s m zargs zbelow zmeth c s₁ B hml hv
  obtain ⟨hargs, hP, hK, hN, hD0⟩ := hv
  have hx := B.exec
  have hb := B.bytes
  have hr := B.returns
  have hts := atoms_spec (ws := wsX7_layAll) B.pre
  have hown : s.vm.findClass RX7 = some m.cls := findClass_of_methodNamed B.named
  have hlocks := B.notSynchronized
  have hDD : tg_DD (tg_in (wM cI cZ ad n many image turn shelf groups inn now makers makerMany queue)) [ad 0, ad 1, ad 2, ad 3, ad 4, ad 5, ad 6, ad 7] := tg_DD.of (tg_D hD0) rfl
  have hS : va_S (tg_in (wM cI cZ ad n many image turn shelf groups inn now makers makerMany queue)) s.heap s.heap [] := va_S.rf
  have hl := lv_entry ([.ref (ad 0)]) (n := 8) (Nat.le_of_ble_eq_true rfl)
  refine W.eq (g2 := entryFrame m ([.ref (ad 0)] : List Value).toArray 8) (by rw [hargs]) ?_
  rw [lg_entry_eq]
  generalize (lg_sl ([.ref (ad 0)]) ++ List.replicate (8 - (lg_sl ([.ref (ad 0)])).length) Slot.unset).toArray = zls at hl ⊢
  have hl : lv_has zls 8 [(0, .ref (ad 0))] := hl
  rw [mX7_layAll] at h
  refine lv_aload_n hx hb dX7_layAll_0 rfl (lv_at hl 0 rfl) ?_
  refine lv_aload_n hx hb dX7_layAll_1 rfl (lv_at hl 0 rfl) ?_
  refine va_get (D := D) (ci := 6) (v := .int n) (C := RX7) (T := TX7) (N := 11) hx hb hts uX7_layAll_RX7 hown hK hP 0 rfl rfl 0 (by decide) (hts _ kX7_layAll_1) (fun _ h9 => h9) rfl dX7_layAll_2 ?_
  obtain ⟨zr, hc, h⟩ := bd_el h
  refine tg_cRi (va_runS (As := [.int n]) (rest := [.ref (ad 0)]) ⟨hx, hb, hml, hown, hts⟩ (qX7_product l D n F zr hc) (va_cwS 1 hts gX7_layAll_X7_product rfl rfl rfl zSX7_product ⟨Nat.le_of_ble_eq_true rfl, Nat.le_of_ble_eq_true rfl⟩) (tg_preS tg_nil (hK.sub (tys' := []) [] rfl) hN) rfl rfl hl.1 rfl (lv_room (Nat.le_of_ble_eq_true rfl)) dX7_layAll_5 ⟨Nat.zero_le _, Nat.zero_le _⟩) ?_
  refine va_put (D := D) (ci := 6) (v := .int zr) (ty := .int) (C := RX7) (T := TX7) (N := 11) hx hb hts uX7_layAll_RX7 tyX7 tyX7_ok nmX7 hown hK hP (hDD _ rfl) hS 0 rfl rfl 1 (by decide) (hts _ kX7_layAll_2) (fun _ h9 => h9) rfl (by decide +kernel) rfl rfl (Nat.le_of_ble_eq_true rfl) dX7_layAll_8 (fun zH zlocs hP _ hS => ?_)
  have hP : va_P D vwCl (wM cI cZ ad n zr image turn shelf groups inn now makers makerMany queue) zH := hP
  refine lv_iconst (v := 0) hx hb dX7_layAll_11 (by decide) ?_
  refine lv_istore_n (lv' := [(1, .int 0), (0, .ref (ad 0))]) hx hb dX7_layAll_12 rfl hl (by decide) rfl (fun zls hl => ?_)
  obtain ⟨image_1, hv, h⟩ := bd_el h
  refine wX7_layAll_L13 ⟨hx, hb, hml, hown, hts, hK, hN⟩ hDD hlocks hr F F _ _ _ hv _ _ hP hS _ (lv_sub hl [1, 0] rfl) (fun zH zlocs hP hS zls hl => ?_)
  cases h
  exact W.vret hx hb hr (fun t ht hW => ⟨rfl, by rw [ht]; exact hP, hS.F ht⟩) hS.2.2 dX7_layAll_138
theorem zVX7_layAll : yX7_layAll.cls = RX7 ∧ yX7_layAll.cls ≠ "java/lang/invoke/MethodHandle" ∧ yX7_layAll.cls ≠ "java/lang/invoke/VarHandle" ∧ (parseMethodDescriptor yX7_layAll.desc).map (fun d => d.parameters.length) = some 0 := by decide +kernel

/-! ===== private int placeNow(); ===== -/
theorem kX7_placeNow_1 : Cond.fieldLink RX7 7 "TurnGroupsModel" "n" "I" ∈ wsX7_placeNow := by decide +kernel
theorem kX7_placeNow_2 : Cond.fieldLink RX7 26 "TurnGroupsModel" "now" "[I" ∈ wsX7_placeNow := by decide +kernel
theorem uX7_placeNow_RX7 : ∀ w ∈ u_ws RX7 TX7 11, w ∈ wsX7_placeNow := by decide +kernel
def mX7_placeNow_L19 (zx2 : Int32) (n : Int32) (now : Nat → Int32) : Nat → Int32 → Int32 → Option (Int32)
  | 0, _, _ => none
  | f + 1, zx3, zx4 => if n ≤ zx4 then (some zx3) else (gd (inb zx4 8) (gd (inb zx2 8) (lT (if (now (Int32.toNatClampNeg zx2)) ≤ (now (Int32.toNatClampNeg zx4)) then 0 else 1) (fun zv => lT (zx3 + zv) (fun zx3_1 => mX7_placeNow_L19 zx2 n now f zx3_1 (zx4 + 1))))))
theorem mX7_placeNow_L19_s (zx2 : Int32) (n : Int32) (now : Nat → Int32) (f : Nat) (zx3 : Int32) (zx4 : Int32) : mX7_placeNow_L19 zx2 n now (f + 1) zx3 zx4 = (if n ≤ zx4 then (some zx3) else (gd (inb zx4 8) (gd (inb zx2 8) (lT (if (now (Int32.toNatClampNeg zx2)) ≤ (now (Int32.toNatClampNeg zx4)) then 0 else 1) (fun zv => lT (zx3 + zv) (fun zx3_1 => mX7_placeNow_L19 zx2 n now f zx3_1 (zx4 + 1))))))) := rfl
def mX7_placeNow_L4 (F : Nat) (n : Int32) (now : Nat → Int32) : Nat → Int32 → Int32 → Option (Int32)
  | 0, _, _ => none
  | f + 1, zx1, zx2 => if n ≤ zx2 then (some zx1) else (lT (zx2 + 1) (fun zx4 => bd (mX7_placeNow_L19 zx2 n now F 0 zx4) (fun zx3 => lT ((zx1 * (n - zx2)) + zx3) (fun zx1_1 => mX7_placeNow_L4 F n now f zx1_1 (zx2 + 1)))))
theorem mX7_placeNow_L4_s (F : Nat) (n : Int32) (now : Nat → Int32) (f : Nat) (zx1 : Int32) (zx2 : Int32) : mX7_placeNow_L4 F n now (f + 1) zx1 zx2 = (if n ≤ zx2 then (some zx1) else (lT (zx2 + 1) (fun zx4 => bd (mX7_placeNow_L19 zx2 n now F 0 zx4) (fun zx3 => lT ((zx1 * (n - zx2)) + zx3) (fun zx1_1 => mX7_placeNow_L4 F n now f zx1_1 (zx2 + 1)))))) := rfl
def mX7_placeNow (F : Nat) (n : Int32) (now : Nat → Int32) : Option (Int32) := bd (mX7_placeNow_L4 F n now F 0 0) (fun zx1 => some zx1)
set_option maxRecDepth 100000 in
set_option maxHeartbeats 4000000 in
theorem wX7_placeNow_L19 {p : Program} {l : Launch} {e : Env} {s : State} {m : MethodId} {zargs : Array Value} {zbelow : List Frame} {zmeth : Method} {c : Code} {D : va_G} {zQ : State → Prop} {ad : Nat → Nat} {cI cZ : ClassId} {n : Int32} {many : Int32} {image : Nat → Int32} {turn : Int32} {shelf : Nat → Int32} {groups : Int32} {inn : Nat → Int32} {now : Nat → Int32} {makers : Nat → Int32} {makerMany : Nat → Int32} {queue : Nat → Int32} {zx1 : Int32} {zx2 : Int32} (C0 : tg_C p s m zmeth c zargs cX7_placeNow RX7 wsX7_placeNow 5 D [(cI, .int), (cZ, .boolean)]) (hP : va_P D vwCl (wM cI cZ ad n many image turn shelf groups inn now makers makerMany queue) s.heap) (hlocks : zmeth.locks = false) (hr : zmeth.sig.returnType = (some .int)) (F : Nat) : ∀ (f : Nat) (zx3 : Int32) (zx4 : Int32) (zo3 : Int32), mX7_placeNow_L19 zx2 n now f zx3 zx4 = some zo3 → ∀ (zls : Array Slot), lv_has zls 5 [(0, .ref (ad 0)), (1, .int zx1), (2, .int zx2), (3, .int zx3), (4, .int zx4)] → (∀ (zls : Array Slot), lv_has zls 5 [(0, .ref (ad 0)), (1, .int zx1), (2, .int zx2), (3, .int zo3)] → W p l e ({ frames := 0, cells := 0, slots := 0, locals := 0 } : Room) s m zargs zbelow zmeth c s.heap [] 0 0 zQ (F0 m 58 zls [])) → W p l e ({ frames := 0, cells := 0, slots := 0, locals := 0 } : Room) s m zargs zbelow zmeth c s.heap [] 0 0 zQ (F0 m 19 zls []) := by
  obtain ⟨hx, hb, hml, hown, hts, hK, hN⟩ := C0
  intro f
  induction f with
  | zero => intro _ _ _ h; exact absurd (show none = some _ from h) (fun h9 => by cases h9)
  | succ f ih =>
    intro zx3 zx4 zo3 h  zls hl kk
    rw [mX7_placeNow_L19_s] at h
    refine lv_iload hx hb dX7_placeNow_19 (lv_at hl 4 rfl) ?_
    refine lv_aload_n hx hb dX7_placeNow_21 rfl (lv_at hl 0 rfl) ?_
    refine va_get (D := D) (ci := 6) (v := .int n) (C := RX7) (T := TX7) (N := 11) hx hb hts uX7_placeNow_RX7 hown hK hP 0 rfl rfl 0 (by decide) (hts _ kX7_placeNow_1) (fun _ h9 => h9) rfl dX7_placeNow_22 ?_
    refine lv_icmp_ge (tgt := 58) hx hb dX7_placeNow_25 (by decide) (fun cb => ?_) (fun cb => ?_)
    · rw [if_pos cb] at h
      cases h
      exact kk  _ (lv_sub hl [0, 1, 2, 3] rfl)
    · rw [if_neg cb] at h
      refine lv_iload_n hx hb dX7_placeNow_28 rfl (lv_at hl 3 rfl) ?_
      refine lv_aload_n hx hb dX7_placeNow_29 rfl (lv_at hl 0 rfl) ?_
      refine va_get (D := D) (ci := 6) (v := .ref (ad 4)) (C := RX7) (T := TX7) (N := 11) hx hb hts uX7_placeNow_RX7 hown hK hP 0 rfl rfl 7 (by decide) (hts _ kX7_placeNow_2) (fun _ h9 => h9) rfl dX7_placeNow_30 ?_
      refine lv_iload hx hb dX7_placeNow_33 (lv_at hl 4 rfl) ?_
      obtain ⟨gg, h⟩ := gd_el h
      refine va_iald hx hb hK hP 4 0 rfl rfl (inb_in gg) dX7_placeNow_35 ?_
      refine lv_aload_n hx hb dX7_placeNow_36 rfl (lv_at hl 0 rfl) ?_
      refine va_get (D := D) (ci := 6) (v := .ref (ad 4)) (C := RX7) (T := TX7) (N := 11) hx hb hts uX7_placeNow_RX7 hown hK hP 0 rfl rfl 7 (by decide) (hts _ kX7_placeNow_2) (fun _ h9 => h9) rfl dX7_placeNow_37 ?_
      refine lv_iload_n hx hb dX7_placeNow_40 rfl (lv_at hl 2 rfl) ?_
      obtain ⟨gg_1, h⟩ := gd_el h
      refine va_iald hx hb hK hP 4 0 rfl rfl (inb_in gg_1) dX7_placeNow_41 ?_
      obtain ⟨zv, hv, h⟩ := lT_el h
      have hj : W p l e ({ frames := 0, cells := 0, slots := 0, locals := 0 } : Room) s m zargs zbelow zmeth c s.heap [] 0 0 zQ (F0 m 50 zls [.int zv, .int zx3]) := by
        refine lv_iadd hx hb dX7_placeNow_50 ?_
        obtain ⟨zx3_1, ex3_1, h⟩ := lT_el h
        refine tg_top ex3_1 ?_
        refine lv_istore_n (lv' := [(3, .int zx3_1), (0, .ref (ad 0)), (1, .int zx1), (2, .int zx2), (4, .int zx4)]) hx hb dX7_placeNow_51 rfl hl (by decide) rfl (fun zls hl => ?_)
        refine lv_iinc (v := (zx4 + 1)) (lv' := [(4, .int (zx4 + 1)), (3, .int zx3_1), (0, .ref (ad 0)), (1, .int zx1), (2, .int zx2)]) hx hb dX7_placeNow_52 hl (k := 4) rfl rfl (by decide) rfl (fun zls hl => ?_)
        refine lv_goto (tgt := 19) hx hb dX7_placeNow_55 (by decide) ?_
        exact ih _ _ _ h  _ (lv_sub hl [2, 3, 4, 1, 0] rfl) kk
      refine lv_icmp_ge (tgt := 49) hx hb dX7_placeNow_42 (by decide) (fun cb_1 => ?_) (fun cb_1 => ?_)
      · rw [if_pos cb_1] at hv
        refine lv_iconst (v := 0) hx hb dX7_placeNow_49 (by decide) ?_
        subst hv
        exact hj 
      · rw [if_neg cb_1] at hv
        refine lv_iconst (v := 1) hx hb dX7_placeNow_45 (by decide) ?_
        refine lv_goto (tgt := 50) hx hb dX7_placeNow_46 (by decide) ?_
        subst hv
        exact hj 
set_option maxRecDepth 100000 in
set_option maxHeartbeats 4000000 in
theorem wX7_placeNow_L4 {p : Program} {l : Launch} {e : Env} {s : State} {m : MethodId} {zargs : Array Value} {zbelow : List Frame} {zmeth : Method} {c : Code} {D : va_G} {zQ : State → Prop} {ad : Nat → Nat} {cI cZ : ClassId} {n : Int32} {many : Int32} {image : Nat → Int32} {turn : Int32} {shelf : Nat → Int32} {groups : Int32} {inn : Nat → Int32} {now : Nat → Int32} {makers : Nat → Int32} {makerMany : Nat → Int32} {queue : Nat → Int32} (C0 : tg_C p s m zmeth c zargs cX7_placeNow RX7 wsX7_placeNow 5 D [(cI, .int), (cZ, .boolean)]) (hP : va_P D vwCl (wM cI cZ ad n many image turn shelf groups inn now makers makerMany queue) s.heap) (hlocks : zmeth.locks = false) (hr : zmeth.sig.returnType = (some .int)) (F : Nat) : ∀ (f : Nat) (zx1 : Int32) (zx2 : Int32) (zo1 : Int32), mX7_placeNow_L4 F n now f zx1 zx2 = some zo1 → ∀ (zls : Array Slot), lv_has zls 5 [(0, .ref (ad 0)), (1, .int zx1), (2, .int zx2)] → (∀ (zls : Array Slot), lv_has zls 5 [(1, .int zo1)] → W p l e ({ frames := 0, cells := 0, slots := 0, locals := 0 } : Room) s m zargs zbelow zmeth c s.heap [] 0 0 zQ (F0 m 75 zls [])) → W p l e ({ frames := 0, cells := 0, slots := 0, locals := 0 } : Room) s m zargs zbelow zmeth c s.heap [] 0 0 zQ (F0 m 4 zls []) := by
  obtain ⟨hx, hb, hml, hown, hts, hK, hN⟩ := C0
  intro f
  induction f with
  | zero => intro _ _ _ h; exact absurd (show none = some _ from h) (fun h9 => by cases h9)
  | succ f ih =>
    intro zx1 zx2 zo1 h  zls hl kk
    rw [mX7_placeNow_L4_s] at h
    refine lv_iload_n hx hb dX7_placeNow_4 rfl (lv_at hl 2 rfl) ?_
    refine lv_aload_n hx hb dX7_placeNow_5 rfl (lv_at hl 0 rfl) ?_
    refine va_get (D := D) (ci := 6) (v := .int n) (C := RX7) (T := TX7) (N := 11) hx hb hts uX7_placeNow_RX7 hown hK hP 0 rfl rfl 0 (by decide) (hts _ kX7_placeNow_1) (fun _ h9 => h9) rfl dX7_placeNow_6 ?_
    refine lv_icmp_ge (tgt := 75) hx hb dX7_placeNow_9 (by decide) (fun cb => ?_) (fun cb => ?_)
    · rw [if_pos cb] at h
      cases h
      exact kk  _ (lv_sub hl [1] rfl)
    · rw [if_neg cb] at h
      refine lv_iconst (v := 0) hx hb dX7_placeNow_12 (by decide) ?_
      refine lv_istore_n (lv' := [(3, .int 0), (0, .ref (ad 0)), (1, .int zx1), (2, .int zx2)]) hx hb dX7_placeNow_13 rfl hl (by decide) rfl (fun zls hl => ?_)
      refine lv_iload_n hx hb dX7_placeNow_14 rfl (lv_at hl 3 rfl) ?_
      refine lv_iconst (v := 1) hx hb dX7_placeNow_15 (by decide) ?_
      refine lv_iadd hx hb dX7_placeNow_16 ?_
      obtain ⟨zx4, ex4, h⟩ := lT_el h
      refine tg_top ex4 ?_
      refine lv_istore (lv' := [(4, .int zx4), (3, .int 0), (0, .ref (ad 0)), (1, .int zx1), (2, .int zx2)]) hx hb dX7_placeNow_17 hl (by decide) rfl (fun zls hl => ?_)
      obtain ⟨zx3, hv, h⟩ := bd_el h
      refine wX7_placeNow_L19 ⟨hx, hb, hml, hown, hts, hK, hN⟩ hP hlocks hr F F _ _ _ hv  _ (lv_sub hl [2, 3, 4, 1, 0] rfl) (fun zls hl => ?_)
      refine lv_iload_n hx hb dX7_placeNow_58 rfl (lv_at hl 1 rfl) ?_
      refine lv_aload_n hx hb dX7_placeNow_59 rfl (lv_at hl 0 rfl) ?_
      refine va_get (D := D) (ci := 6) (v := .int n) (C := RX7) (T := TX7) (N := 11) hx hb hts uX7_placeNow_RX7 hown hK hP 0 rfl rfl 0 (by decide) (hts _ kX7_placeNow_1) (fun _ h9 => h9) rfl dX7_placeNow_60 ?_
      refine lv_iload_n hx hb dX7_placeNow_63 rfl (lv_at hl 2 rfl) ?_
      refine lv_isub hx hb dX7_placeNow_64 ?_
      refine lv_imul hx hb dX7_placeNow_65 ?_
      refine lv_iload_n hx hb dX7_placeNow_66 rfl (lv_at hl 3 rfl) ?_
      refine lv_iadd hx hb dX7_placeNow_67 ?_
      obtain ⟨zx1_1, ex1_1, h⟩ := lT_el h
      refine tg_top ex1_1 ?_
      refine lv_istore_n (lv' := [(1, .int zx1_1), (0, .ref (ad 0)), (2, .int zx2), (3, .int zx3)]) hx hb dX7_placeNow_68 rfl hl (by decide) rfl (fun zls hl => ?_)
      refine lv_iinc (v := (zx2 + 1)) (lv' := [(2, .int (zx2 + 1)), (1, .int zx1_1), (0, .ref (ad 0)), (3, .int zx3)]) hx hb dX7_placeNow_69 hl (k := 2) rfl rfl (by decide) rfl (fun zls hl => ?_)
      refine lv_goto (tgt := 4) hx hb dX7_placeNow_72 (by decide) ?_
      exact ih _ _ _ h  _ (lv_sub hl [2, 1, 0] rfl) kk
set_option maxRecDepth 100000 in
set_option maxHeartbeats 4000000 in
theorem qX7_placeNow (l : Launch) (D : va_G) (cI : ClassId) (cZ : ClassId) (ad : Nat → Nat) (n : Int32) (many : Int32) (image : Nat → Int32) (turn : Int32) (shelf : Nat → Int32) (groups : Int32) (inn : Nat → Int32) (now : Nat → Int32) (makers : Nat → Int32) (makerMany : Nat → Int32) (queue : Nat → Int32) (F : Nat) (zr0 : Int32) (h : mX7_placeNow F n now = some zr0) : Met l yX7_placeNow wsX7_placeNow ({ frames := 0, cells := 0, slots := 0, locals := 0 } : Room) (tg_P D [(cI, .int), (cZ, .boolean)] [.ref (ad 0)] ((wM cI cZ ad n many image turn shelf groups inn now makers makerMany queue))) (tg_Ri zr0) 0 0 (fun _ => False) := by
  refine Met.ofW (cc := cX7_placeNow) (maxL := 5) (ret := (some .int)) (by decide) rfl ?_
  intro p e s m zargs zbelow zmeth c s₁ B hml hv
  obtain ⟨hargs, hP, hK, hN⟩ := hv
  have hx := B.exec
  have hb := B.bytes
  have hr := B.returns
  have hts := atoms_spec (ws := wsX7_placeNow) B.pre
  have hown : s.vm.findClass RX7 = some m.cls := findClass_of_methodNamed B.named
  have hlocks := B.notSynchronized
  have hl := lv_entry ([.ref (ad 0)]) (n := 5) (Nat.le_of_ble_eq_true rfl)
  refine W.eq (g2 := entryFrame m ([.ref (ad 0)] : List Value).toArray 5) (by rw [hargs]) ?_
  rw [lg_entry_eq]
  generalize (lg_sl ([.ref (ad 0)]) ++ List.replicate (5 - (lg_sl ([.ref (ad 0)])).length) Slot.unset).toArray = zls at hl ⊢
  have hl : lv_has zls 5 [(0, .ref (ad 0))] := hl
  rw [mX7_placeNow] at h
  refine lv_iconst (v := 0) hx hb dX7_placeNow_0 (by decide) ?_
  refine lv_istore_n (lv' := [(1, .int 0), (0, .ref (ad 0))]) hx hb dX7_placeNow_1 rfl hl (by decide) rfl (fun zls hl => ?_)
  refine lv_iconst (v := 0) hx hb dX7_placeNow_2 (by decide) ?_
  refine lv_istore_n (lv' := [(2, .int 0), (1, .int 0), (0, .ref (ad 0))]) hx hb dX7_placeNow_3 rfl hl (by decide) rfl (fun zls hl => ?_)
  obtain ⟨zx1, hv, h⟩ := bd_el h
  refine wX7_placeNow_L4 ⟨hx, hb, hml, hown, hts, hK, hN⟩ hP hlocks hr F F _ _ _ hv  _ (lv_sub hl [2, 1, 0] rfl) (fun zls hl => ?_)
  refine lv_iload_n hx hb dX7_placeNow_75 rfl (lv_at hl 0 rfl) ?_
  cases h
  exact W.iret hx hb hr (fun t ht hW => ⟨rfl, ht⟩) (fun _ h9 => absurd h9 List.not_mem_nil) dX7_placeNow_76
theorem zVX7_placeNow : yX7_placeNow.cls = RX7 ∧ yX7_placeNow.cls ≠ "java/lang/invoke/MethodHandle" ∧ yX7_placeNow.cls ≠ "java/lang/invoke/VarHandle" ∧ (parseMethodDescriptor yX7_placeNow.desc).map (fun d => d.parameters.length) = some 0 := by decide +kernel

/-! ===== private int oneThen(int, int); ===== -/
theorem kX7_oneThen_1 : Cond.fieldLink RX7 7 "TurnGroupsModel" "n" "I" ∈ wsX7_oneThen := by decide +kernel
theorem kX7_oneThen_2 : Cond.fieldLink RX7 26 "TurnGroupsModel" "now" "[I" ∈ wsX7_oneThen := by decide +kernel
theorem kX7_oneThen_3 : Cond.fieldLink RX7 14 "TurnGroupsModel" "image" "[I" ∈ wsX7_oneThen := by decide +kernel
theorem uX7_oneThen_RX7 : ∀ w ∈ u_ws RX7 TX7 11, w ∈ wsX7_oneThen := by decide +kernel
def mX7_oneThen_L2 (zx1 : Int32) (zx2 : Int32) (n : Int32) (image : Nat → Int32) : Nat → Int32 → (Nat → Int32) → Option ((Nat → Int32))
  | 0, _, _ => none
  | f + 1, zx3, now => if n ≤ zx3 then (some now) else (gd (inb ((8 * zx1) + zx3) 322560) (gd (inb ((8 * zx2) + (image (Int32.toNatClampNeg ((8 * zx1) + zx3)))) 322560) (gd (inb zx3 8) (lT (upd now (Int32.toNatClampNeg zx3) (image (Int32.toNatClampNeg ((8 * zx2) + (image (Int32.toNatClampNeg ((8 * zx1) + zx3))))))) (fun now_1 => mX7_oneThen_L2 zx1 zx2 n image f (zx3 + 1) now_1)))))
theorem mX7_oneThen_L2_s (zx1 : Int32) (zx2 : Int32) (n : Int32) (image : Nat → Int32) (f : Nat) (zx3 : Int32) (now : Nat → Int32) : mX7_oneThen_L2 zx1 zx2 n image (f + 1) zx3 now = (if n ≤ zx3 then (some now) else (gd (inb ((8 * zx1) + zx3) 322560) (gd (inb ((8 * zx2) + (image (Int32.toNatClampNeg ((8 * zx1) + zx3)))) 322560) (gd (inb zx3 8) (lT (upd now (Int32.toNatClampNeg zx3) (image (Int32.toNatClampNeg ((8 * zx2) + (image (Int32.toNatClampNeg ((8 * zx1) + zx3))))))) (fun now_1 => mX7_oneThen_L2 zx1 zx2 n image f (zx3 + 1) now_1)))))) := rfl
def mX7_oneThen (F : Nat) (n : Int32) (image : Nat → Int32) (now : Nat → Int32) (zx1 : Int32) (zx2 : Int32) : Option (Int32 × (Nat → Int32)) := bd (mX7_oneThen_L2 zx1 zx2 n image F 0 now) (fun now_1 => bd (mX7_placeNow F n now_1) (fun zr => some (zr, now_1)))
set_option maxRecDepth 100000 in
set_option maxHeartbeats 4000000 in
theorem wX7_oneThen_L2 {p : Program} {l : Launch} {e : Env} {s : State} {m : MethodId} {zargs : Array Value} {zbelow : List Frame} {zmeth : Method} {c : Code} {D : va_G} {zQ : State → Prop} {zA : Nat → Prop} {ad : Nat → Nat} {cI cZ : ClassId} {n : Int32} {many : Int32} {image : Nat → Int32} {turn : Int32} {shelf : Nat → Int32} {groups : Int32} {inn : Nat → Int32} {makers : Nat → Int32} {makerMany : Nat → Int32} {queue : Nat → Int32} {zx1 : Int32} {zx2 : Int32} (C0 : tg_C p s m zmeth c zargs cX7_oneThen RX7 wsX7_oneThen 4 D [(cI, .int), (cZ, .boolean)]) (hDD : tg_DD zA [ad 0, ad 1, ad 2, ad 3, ad 4, ad 5, ad 6, ad 7]) (hlocks : zmeth.locks = false) (hr : zmeth.sig.returnType = (some .int)) (F : Nat) : ∀ (f : Nat) (zx3 : Int32) (now : Nat → Int32) (onow : Nat → Int32), mX7_oneThen_L2 zx1 zx2 n image f zx3 now = some onow → ∀ (zH : Heap) (zlocs : List Loc), va_P D vwCl (wM cI cZ ad n many image turn shelf groups inn now makers makerMany queue) zH → va_S zA s.heap zH zlocs → ∀ (zls : Array Slot), lv_has zls 4 [(0, .ref (ad 0)), (1, .int zx1), (2, .int zx2), (3, .int zx3)] → (∀ (zH : Heap) (zlocs : List Loc), va_P D vwCl (wM cI cZ ad n many image turn shelf groups inn onow makers makerMany queue) zH → va_S zA s.heap zH zlocs → ∀ (zls : Array Slot), lv_has zls 4 [(0, .ref (ad 0))] → W p l e ({ frames := 1, cells := 0, slots := 0, locals := 24 } : Room) s m zargs zbelow zmeth c zH zlocs 0 0 zQ (F0 m 43 zls [])) → W p l e ({ frames := 1, cells := 0, slots := 0, locals := 24 } : Room) s m zargs zbelow zmeth c zH zlocs 0 0 zQ (F0 m 2 zls []) := by
  obtain ⟨hx, hb, hml, hown, hts, hK, hN⟩ := C0
  intro f
  induction f with
  | zero => intro _ _ _ h; exact absurd (show none = some _ from h) (fun h9 => by cases h9)
  | succ f ih =>
    intro zx3 now onow h zH zlocs hP hS zls hl kk
    rw [mX7_oneThen_L2_s] at h
    refine lv_iload_n hx hb dX7_oneThen_2 rfl (lv_at hl 3 rfl) ?_
    refine lv_aload_n hx hb dX7_oneThen_3 rfl (lv_at hl 0 rfl) ?_
    refine va_get (D := D) (ci := 6) (v := .int n) (C := RX7) (T := TX7) (N := 11) hx hb hts uX7_oneThen_RX7 hown hK hP 0 rfl rfl 0 (by decide) (hts _ kX7_oneThen_1) (fun _ h9 => h9) rfl dX7_oneThen_4 ?_
    refine lv_icmp_ge (tgt := 43) hx hb dX7_oneThen_7 (by decide) (fun cb => ?_) (fun cb => ?_)
    · rw [if_pos cb] at h
      cases h
      exact kk _ _ hP hS _ (lv_sub hl [0] rfl)
    · rw [if_neg cb] at h
      refine lv_aload_n hx hb dX7_oneThen_10 rfl (lv_at hl 0 rfl) ?_
      refine va_get (D := D) (ci := 6) (v := .ref (ad 4)) (C := RX7) (T := TX7) (N := 11) hx hb hts uX7_oneThen_RX7 hown hK hP 0 rfl rfl 7 (by decide) (hts _ kX7_oneThen_2) (fun _ h9 => h9) rfl dX7_oneThen_11 ?_
      refine lv_iload_n hx hb dX7_oneThen_14 rfl (lv_at hl 3 rfl) ?_
      refine lv_aload_n hx hb dX7_oneThen_15 rfl (lv_at hl 0 rfl) ?_
      refine va_get (D := D) (ci := 6) (v := .ref (ad 1)) (C := RX7) (T := TX7) (N := 11) hx hb hts uX7_oneThen_RX7 hown hK hP 0 rfl rfl 2 (by decide) (hts _ kX7_oneThen_3) (fun _ h9 => h9) rfl dX7_oneThen_16 ?_
      refine lv_bipush (v := 8) hx hb dX7_oneThen_19 (by decide) ?_
      refine lv_iload_n hx hb dX7_oneThen_21 rfl (lv_at hl 2 rfl) ?_
      refine lv_imul hx hb dX7_oneThen_22 ?_
      refine lv_aload_n hx hb dX7_oneThen_23 rfl (lv_at hl 0 rfl) ?_
      refine va_get (D := D) (ci := 6) (v := .ref (ad 1)) (C := RX7) (T := TX7) (N := 11) hx hb hts uX7_oneThen_RX7 hown hK hP 0 rfl rfl 2 (by decide) (hts _ kX7_oneThen_3) (fun _ h9 => h9) rfl dX7_oneThen_24 ?_
      refine lv_bipush (v := 8) hx hb dX7_oneThen_27 (by decide) ?_
      refine lv_iload_n hx hb dX7_oneThen_29 rfl (lv_at hl 1 rfl) ?_
      refine lv_imul hx hb dX7_oneThen_30 ?_
      refine lv_iload_n hx hb dX7_oneThen_31 rfl (lv_at hl 3 rfl) ?_
      refine lv_iadd hx hb dX7_oneThen_32 ?_
      obtain ⟨gg, h⟩ := gd_el h
      refine va_iald hx hb hK hP 1 0 rfl rfl (inb_in gg) dX7_oneThen_33 ?_
      refine lv_iadd hx hb dX7_oneThen_34 ?_
      obtain ⟨gg_1, h⟩ := gd_el h
      refine va_iald hx hb hK hP 1 0 rfl rfl (inb_in gg_1) dX7_oneThen_35 ?_
      obtain ⟨gg_2, h⟩ := gd_el h
      obtain ⟨now_1, enow_1, h⟩ := lT_el h
      refine va_iast hx hb hK hP (hDD _ rfl) hS 4 0 rfl rfl (inb_in gg_2) dX7_oneThen_36 (fun zH zlocs hP _ hS => ?_)
      have hP : va_P D vwCl (wM cI cZ ad n many image turn shelf groups inn (upd now (Int32.toNatClampNeg zx3) (image (Int32.toNatClampNeg ((8 * zx2) + (image (Int32.toNatClampNeg ((8 * zx1) + zx3))))))) makers makerMany queue) zH := hP
      rw [← enow_1] at hP
      refine lv_iinc (v := (zx3 + 1)) (lv' := [(3, .int (zx3 + 1)), (0, .ref (ad 0)), (1, .int zx1), (2, .int zx2)]) hx hb dX7_oneThen_37 hl (k := 3) rfl rfl (by decide) rfl (fun zls hl => ?_)
      refine lv_goto (tgt := 2) hx hb dX7_oneThen_40 (by decide) ?_
      exact ih _ _ _ h _ _ hP hS _ (lv_sub hl [1, 2, 3, 0] rfl) kk
set_option maxRecDepth 100000 in
set_option maxHeartbeats 4000000 in
theorem qX7_oneThen (l : Launch) (D : va_G) (cI : ClassId) (cZ : ClassId) (ad : Nat → Nat) (n : Int32) (many : Int32) (image : Nat → Int32) (turn : Int32) (shelf : Nat → Int32) (groups : Int32) (inn : Nat → Int32) (now : Nat → Int32) (makers : Nat → Int32) (makerMany : Nat → Int32) (queue : Nat → Int32) (zx1 : Int32) (zx2 : Int32) (F : Nat) (zr0 : Int32) (onow : Nat → Int32) (h : mX7_oneThen F n image now zx1 zx2 = some (zr0, onow)) : Met l yX7_oneThen wsX7_oneThen ({ frames := 1, cells := 0, slots := 0, locals := 24 } : Room) (tg_PM D [(cI, .int), (cZ, .boolean)] [.ref (ad 0), .int zx1, .int zx2] (wM cI cZ ad n many image turn shelf groups inn now makers makerMany queue)) (tg_Mi D (wM cI cZ ad n many image turn shelf groups inn now makers makerMany queue) (wM cI cZ ad n many image turn shelf groups inn onow makers makerMany queue) zr0) 0 0 (tg_in (wM cI cZ ad n many image turn shelf groups inn now makers makerMany queue)) := by
  refine Met.ofW (cc := cX7_oneThen) (maxL := 4) (ret := (some .int)) (by decide) rfl ?_
  intro p e s m zargs zbelow zmeth c s₁ B hml hv
  obtain ⟨hargs, hP, hK, hN, hD0⟩ := hv
  have hx := B.exec
  have hb := B.bytes
  have hr := B.returns
  have hts := atoms_spec (ws := wsX7_oneThen) B.pre
  have hown : s.vm.findClass RX7 = some m.cls := findClass_of_methodNamed B.named
  have hlocks := B.notSynchronized
  have hDD : tg_DD (tg_in (wM cI cZ ad n many image turn shelf groups inn now makers makerMany queue)) [ad 0, ad 1, ad 2, ad 3, ad 4, ad 5, ad 6, ad 7] := tg_DD.of (tg_D hD0) rfl
  have hS : va_S (tg_in (wM cI cZ ad n many image turn shelf groups inn now makers makerMany queue)) s.heap s.heap [] := va_S.rf
  have hl := lv_entry ([.ref (ad 0), .int zx1, .int zx2]) (n := 4) (Nat.le_of_ble_eq_true rfl)
  refine W.eq (g2 := entryFrame m ([.ref (ad 0), .int zx1, .int zx2] : List Value).toArray 4) (by rw [hargs]) ?_
  rw [lg_entry_eq]
  generalize (lg_sl ([.ref (ad 0), .int zx1, .int zx2]) ++ List.replicate (4 - (lg_sl ([.ref (ad 0), .int zx1, .int zx2])).length) Slot.unset).toArray = zls at hl ⊢
  have hl : lv_has zls 4 [(0, .ref (ad 0)), (1, .int zx1), (2, .int zx2)] := hl
  rw [mX7_oneThen] at h
  refine lv_iconst (v := 0) hx hb dX7_oneThen_0 (by decide) ?_
  refine lv_istore_n (lv' := [(3, .int 0), (0, .ref (ad 0)), (1, .int zx1), (2, .int zx2)]) hx hb dX7_oneThen_1 rfl hl (by decide) rfl (fun zls hl => ?_)
  obtain ⟨now_1, hv, h⟩ := bd_el h
  refine wX7_oneThen_L2 ⟨hx, hb, hml, hown, hts, hK, hN⟩ hDD hlocks hr F F _ _ _ hv _ _ hP hS _ (lv_sub hl [1, 2, 3, 0] rfl) (fun zH zlocs hP hS zls hl => ?_)
  refine lv_aload_n hx hb dX7_oneThen_43 rfl (lv_at hl 0 rfl) ?_
  obtain ⟨zr, hc, h⟩ := bd_el h
  refine tg_cRi (va_runV (As := []) (rest := []) ⟨hx, hb, hml, hown, hts⟩ (qX7_placeNow l D cI cZ ad n many image turn shelf groups inn now_1 makers makerMany queue F zr hc) (cwV 0 hts gX7_oneThen_X7_placeNow rfl rfl rfl zVX7_placeNow ⟨Nat.le_of_ble_eq_true rfl, Nat.le_of_ble_eq_true rfl⟩) (tg_preV (r := (RX7, TX7, 11)) (ci := 6) (q0 := 0) hP hK hN rfl rfl) rfl rfl hl.1 rfl (lv_room (Nat.le_of_ble_eq_true rfl)) dX7_oneThen_44 ⟨Nat.zero_le _, Nat.zero_le _⟩) ?_
  cases h
  exact W.iret hx hb hr (fun t ht hW => ⟨rfl, by rw [ht]; exact hP, hS.F ht⟩) hS.2.2 dX7_oneThen_47
theorem zVX7_oneThen : yX7_oneThen.cls = RX7 ∧ yX7_oneThen.cls ≠ "java/lang/invoke/MethodHandle" ∧ yX7_oneThen.cls ≠ "java/lang/invoke/VarHandle" ∧ (parseMethodDescriptor yX7_oneThen.desc).map (fun d => d.parameters.length) = some 2 := by decide +kernel

/-! ===== private int backOf(int); ===== -/
theorem kX7_backOf_1 : Cond.fieldLink RX7 7 "TurnGroupsModel" "n" "I" ∈ wsX7_backOf := by decide +kernel
theorem kX7_backOf_2 : Cond.fieldLink RX7 26 "TurnGroupsModel" "now" "[I" ∈ wsX7_backOf := by decide +kernel
theorem kX7_backOf_3 : Cond.fieldLink RX7 14 "TurnGroupsModel" "image" "[I" ∈ wsX7_backOf := by decide +kernel
theorem uX7_backOf_RX7 : ∀ w ∈ u_ws RX7 TX7 11, w ∈ wsX7_backOf := by decide +kernel
def mX7_backOf_L2 (zx1 : Int32) (n : Int32) (image : Nat → Int32) : Nat → Int32 → (Nat → Int32) → Option ((Nat → Int32))
  | 0, _, _ => none
  | f + 1, zx2, now => if n ≤ zx2 then (some now) else (gd (inb ((8 * zx1) + zx2) 322560) (gd (inb (image (Int32.toNatClampNeg ((8 * zx1) + zx2))) 8) (lT (upd now (Int32.toNatClampNeg (image (Int32.toNatClampNeg ((8 * zx1) + zx2)))) zx2) (fun now_1 => mX7_backOf_L2 zx1 n image f (zx2 + 1) now_1))))
theorem mX7_backOf_L2_s (zx1 : Int32) (n : Int32) (image : Nat → Int32) (f : Nat) (zx2 : Int32) (now : Nat → Int32) : mX7_backOf_L2 zx1 n image (f + 1) zx2 now = (if n ≤ zx2 then (some now) else (gd (inb ((8 * zx1) + zx2) 322560) (gd (inb (image (Int32.toNatClampNeg ((8 * zx1) + zx2))) 8) (lT (upd now (Int32.toNatClampNeg (image (Int32.toNatClampNeg ((8 * zx1) + zx2)))) zx2) (fun now_1 => mX7_backOf_L2 zx1 n image f (zx2 + 1) now_1))))) := rfl
def mX7_backOf (F : Nat) (n : Int32) (image : Nat → Int32) (now : Nat → Int32) (zx1 : Int32) : Option (Int32 × (Nat → Int32)) := bd (mX7_backOf_L2 zx1 n image F 0 now) (fun now_1 => bd (mX7_placeNow F n now_1) (fun zr => some (zr, now_1)))
set_option maxRecDepth 100000 in
set_option maxHeartbeats 4000000 in
theorem wX7_backOf_L2 {p : Program} {l : Launch} {e : Env} {s : State} {m : MethodId} {zargs : Array Value} {zbelow : List Frame} {zmeth : Method} {c : Code} {D : va_G} {zQ : State → Prop} {zA : Nat → Prop} {ad : Nat → Nat} {cI cZ : ClassId} {n : Int32} {many : Int32} {image : Nat → Int32} {turn : Int32} {shelf : Nat → Int32} {groups : Int32} {inn : Nat → Int32} {makers : Nat → Int32} {makerMany : Nat → Int32} {queue : Nat → Int32} {zx1 : Int32} (C0 : tg_C p s m zmeth c zargs cX7_backOf RX7 wsX7_backOf 3 D [(cI, .int), (cZ, .boolean)]) (hDD : tg_DD zA [ad 0, ad 1, ad 2, ad 3, ad 4, ad 5, ad 6, ad 7]) (hlocks : zmeth.locks = false) (hr : zmeth.sig.returnType = (some .int)) (F : Nat) : ∀ (f : Nat) (zx2 : Int32) (now : Nat → Int32) (onow : Nat → Int32), mX7_backOf_L2 zx1 n image f zx2 now = some onow → ∀ (zH : Heap) (zlocs : List Loc), va_P D vwCl (wM cI cZ ad n many image turn shelf groups inn now makers makerMany queue) zH → va_S zA s.heap zH zlocs → ∀ (zls : Array Slot), lv_has zls 3 [(0, .ref (ad 0)), (1, .int zx1), (2, .int zx2)] → (∀ (zH : Heap) (zlocs : List Loc), va_P D vwCl (wM cI cZ ad n many image turn shelf groups inn onow makers makerMany queue) zH → va_S zA s.heap zH zlocs → ∀ (zls : Array Slot), lv_has zls 3 [(0, .ref (ad 0))] → W p l e ({ frames := 1, cells := 0, slots := 0, locals := 24 } : Room) s m zargs zbelow zmeth c zH zlocs 0 0 zQ (F0 m 33 zls [])) → W p l e ({ frames := 1, cells := 0, slots := 0, locals := 24 } : Room) s m zargs zbelow zmeth c zH zlocs 0 0 zQ (F0 m 2 zls []) := by
  obtain ⟨hx, hb, hml, hown, hts, hK, hN⟩ := C0
  intro f
  induction f with
  | zero => intro _ _ _ h; exact absurd (show none = some _ from h) (fun h9 => by cases h9)
  | succ f ih =>
    intro zx2 now onow h zH zlocs hP hS zls hl kk
    rw [mX7_backOf_L2_s] at h
    refine lv_iload_n hx hb dX7_backOf_2 rfl (lv_at hl 2 rfl) ?_
    refine lv_aload_n hx hb dX7_backOf_3 rfl (lv_at hl 0 rfl) ?_
    refine va_get (D := D) (ci := 6) (v := .int n) (C := RX7) (T := TX7) (N := 11) hx hb hts uX7_backOf_RX7 hown hK hP 0 rfl rfl 0 (by decide) (hts _ kX7_backOf_1) (fun _ h9 => h9) rfl dX7_backOf_4 ?_
    refine lv_icmp_ge (tgt := 33) hx hb dX7_backOf_7 (by decide) (fun cb => ?_) (fun cb => ?_)
    · rw [if_pos cb] at h
      cases h
      exact kk _ _ hP hS _ (lv_sub hl [0] rfl)
    · rw [if_neg cb] at h
      refine lv_aload_n hx hb dX7_backOf_10 rfl (lv_at hl 0 rfl) ?_
      refine va_get (D := D) (ci := 6) (v := .ref (ad 4)) (C := RX7) (T := TX7) (N := 11) hx hb hts uX7_backOf_RX7 hown hK hP 0 rfl rfl 7 (by decide) (hts _ kX7_backOf_2) (fun _ h9 => h9) rfl dX7_backOf_11 ?_
      refine lv_aload_n hx hb dX7_backOf_14 rfl (lv_at hl 0 rfl) ?_
      refine va_get (D := D) (ci := 6) (v := .ref (ad 1)) (C := RX7) (T := TX7) (N := 11) hx hb hts uX7_backOf_RX7 hown hK hP 0 rfl rfl 2 (by decide) (hts _ kX7_backOf_3) (fun _ h9 => h9) rfl dX7_backOf_15 ?_
      refine lv_bipush (v := 8) hx hb dX7_backOf_18 (by decide) ?_
      refine lv_iload_n hx hb dX7_backOf_20 rfl (lv_at hl 1 rfl) ?_
      refine lv_imul hx hb dX7_backOf_21 ?_
      refine lv_iload_n hx hb dX7_backOf_22 rfl (lv_at hl 2 rfl) ?_
      refine lv_iadd hx hb dX7_backOf_23 ?_
      obtain ⟨gg, h⟩ := gd_el h
      refine va_iald hx hb hK hP 1 0 rfl rfl (inb_in gg) dX7_backOf_24 ?_
      refine lv_iload_n hx hb dX7_backOf_25 rfl (lv_at hl 2 rfl) ?_
      obtain ⟨gg_1, h⟩ := gd_el h
      obtain ⟨now_1, enow_1, h⟩ := lT_el h
      refine va_iast hx hb hK hP (hDD _ rfl) hS 4 0 rfl rfl (inb_in gg_1) dX7_backOf_26 (fun zH zlocs hP _ hS => ?_)
      have hP : va_P D vwCl (wM cI cZ ad n many image turn shelf groups inn (upd now (Int32.toNatClampNeg (image (Int32.toNatClampNeg ((8 * zx1) + zx2)))) zx2) makers makerMany queue) zH := hP
      rw [← enow_1] at hP
      refine lv_iinc (v := (zx2 + 1)) (lv' := [(2, .int (zx2 + 1)), (0, .ref (ad 0)), (1, .int zx1)]) hx hb dX7_backOf_27 hl (k := 2) rfl rfl (by decide) rfl (fun zls hl => ?_)
      refine lv_goto (tgt := 2) hx hb dX7_backOf_30 (by decide) ?_
      exact ih _ _ _ h _ _ hP hS _ (lv_sub hl [1, 2, 0] rfl) kk
set_option maxRecDepth 100000 in
set_option maxHeartbeats 4000000 in
theorem qX7_backOf (l : Launch) (D : va_G) (cI : ClassId) (cZ : ClassId) (ad : Nat → Nat) (n : Int32) (many : Int32) (image : Nat → Int32) (turn : Int32) (shelf : Nat → Int32) (groups : Int32) (inn : Nat → Int32) (now : Nat → Int32) (makers : Nat → Int32) (makerMany : Nat → Int32) (queue : Nat → Int32) (zx1 : Int32) (F : Nat) (zr0 : Int32) (onow : Nat → Int32) (h : mX7_backOf F n image now zx1 = some (zr0, onow)) : Met l yX7_backOf wsX7_backOf ({ frames := 1, cells := 0, slots := 0, locals := 24 } : Room) (tg_PM D [(cI, .int), (cZ, .boolean)] [.ref (ad 0), .int zx1] (wM cI cZ ad n many image turn shelf groups inn now makers makerMany queue)) (tg_Mi D (wM cI cZ ad n many image turn shelf groups inn now makers makerMany queue) (wM cI cZ ad n many image turn shelf groups inn onow makers makerMany queue) zr0) 0 0 (tg_in (wM cI cZ ad n many image turn shelf groups inn now makers makerMany queue)) := by
  refine Met.ofW (cc := cX7_backOf) (maxL := 3) (ret := (some .int)) (by decide) rfl ?_
  intro p e s m zargs zbelow zmeth c s₁ B hml hv
  obtain ⟨hargs, hP, hK, hN, hD0⟩ := hv
  have hx := B.exec
  have hb := B.bytes
  have hr := B.returns
  have hts := atoms_spec (ws := wsX7_backOf) B.pre
  have hown : s.vm.findClass RX7 = some m.cls := findClass_of_methodNamed B.named
  have hlocks := B.notSynchronized
  have hDD : tg_DD (tg_in (wM cI cZ ad n many image turn shelf groups inn now makers makerMany queue)) [ad 0, ad 1, ad 2, ad 3, ad 4, ad 5, ad 6, ad 7] := tg_DD.of (tg_D hD0) rfl
  have hS : va_S (tg_in (wM cI cZ ad n many image turn shelf groups inn now makers makerMany queue)) s.heap s.heap [] := va_S.rf
  have hl := lv_entry ([.ref (ad 0), .int zx1]) (n := 3) (Nat.le_of_ble_eq_true rfl)
  refine W.eq (g2 := entryFrame m ([.ref (ad 0), .int zx1] : List Value).toArray 3) (by rw [hargs]) ?_
  rw [lg_entry_eq]
  generalize (lg_sl ([.ref (ad 0), .int zx1]) ++ List.replicate (3 - (lg_sl ([.ref (ad 0), .int zx1])).length) Slot.unset).toArray = zls at hl ⊢
  have hl : lv_has zls 3 [(0, .ref (ad 0)), (1, .int zx1)] := hl
  rw [mX7_backOf] at h
  refine lv_iconst (v := 0) hx hb dX7_backOf_0 (by decide) ?_
  refine lv_istore_n (lv' := [(2, .int 0), (0, .ref (ad 0)), (1, .int zx1)]) hx hb dX7_backOf_1 rfl hl (by decide) rfl (fun zls hl => ?_)
  obtain ⟨now_1, hv, h⟩ := bd_el h
  refine wX7_backOf_L2 ⟨hx, hb, hml, hown, hts, hK, hN⟩ hDD hlocks hr F F _ _ _ hv _ _ hP hS _ (lv_sub hl [1, 2, 0] rfl) (fun zH zlocs hP hS zls hl => ?_)
  refine lv_aload_n hx hb dX7_backOf_33 rfl (lv_at hl 0 rfl) ?_
  obtain ⟨zr, hc, h⟩ := bd_el h
  refine tg_cRi (va_runV (As := []) (rest := []) ⟨hx, hb, hml, hown, hts⟩ (qX7_placeNow l D cI cZ ad n many image turn shelf groups inn now_1 makers makerMany queue F zr hc) (cwV 0 hts gX7_backOf_X7_placeNow rfl rfl rfl zVX7_placeNow ⟨Nat.le_of_ble_eq_true rfl, Nat.le_of_ble_eq_true rfl⟩) (tg_preV (r := (RX7, TX7, 11)) (ci := 6) (q0 := 0) hP hK hN rfl rfl) rfl rfl hl.1 rfl (lv_room (Nat.le_of_ble_eq_true rfl)) dX7_backOf_34 ⟨Nat.zero_le _, Nat.zero_le _⟩) ?_
  cases h
  exact W.iret hx hb hr (fun t ht hW => ⟨rfl, by rw [ht]; exact hP, hS.F ht⟩) hS.2.2 dX7_backOf_37
theorem zVX7_backOf : yX7_backOf.cls = RX7 ∧ yX7_backOf.cls ≠ "java/lang/invoke/MethodHandle" ∧ yX7_backOf.cls ≠ "java/lang/invoke/VarHandle" ∧ (parseMethodDescriptor yX7_backOf.desc).map (fun d => d.parameters.length) = some 1 := by decide +kernel

/-! ===== private int carried(int, int); ===== -/
theorem kX7_carried_1 : Cond.fieldLink RX7 7 "TurnGroupsModel" "n" "I" ∈ wsX7_carried := by decide +kernel
theorem kX7_carried_2 : Cond.fieldLink RX7 26 "TurnGroupsModel" "now" "[I" ∈ wsX7_carried := by decide +kernel
theorem kX7_carried_3 : Cond.fieldLink RX7 14 "TurnGroupsModel" "image" "[I" ∈ wsX7_carried := by decide +kernel
theorem uX7_carried_RX7 : ∀ w ∈ u_ws RX7 TX7 11, w ∈ wsX7_carried := by decide +kernel
def mX7_carried_L2 (zx1 : Int32) (zx2 : Int32) (n : Int32) (image : Nat → Int32) : Nat → Int32 → (Nat → Int32) → Option ((Nat → Int32))
  | 0, _, _ => none
  | f + 1, zx3, now => if n ≤ zx3 then (some now) else (gd (inb ((8 * zx2) + zx3) 322560) (gd (inb ((8 * zx1) + zx3) 322560) (gd (inb ((8 * zx2) + (image (Int32.toNatClampNeg ((8 * zx1) + zx3)))) 322560) (gd (inb (image (Int32.toNatClampNeg ((8 * zx2) + zx3))) 8) (lT (upd now (Int32.toNatClampNeg (image (Int32.toNatClampNeg ((8 * zx2) + zx3)))) (image (Int32.toNatClampNeg ((8 * zx2) + (image (Int32.toNatClampNeg ((8 * zx1) + zx3))))))) (fun now_1 => mX7_carried_L2 zx1 zx2 n image f (zx3 + 1) now_1))))))
theorem mX7_carried_L2_s (zx1 : Int32) (zx2 : Int32) (n : Int32) (image : Nat → Int32) (f : Nat) (zx3 : Int32) (now : Nat → Int32) : mX7_carried_L2 zx1 zx2 n image (f + 1) zx3 now = (if n ≤ zx3 then (some now) else (gd (inb ((8 * zx2) + zx3) 322560) (gd (inb ((8 * zx1) + zx3) 322560) (gd (inb ((8 * zx2) + (image (Int32.toNatClampNeg ((8 * zx1) + zx3)))) 322560) (gd (inb (image (Int32.toNatClampNeg ((8 * zx2) + zx3))) 8) (lT (upd now (Int32.toNatClampNeg (image (Int32.toNatClampNeg ((8 * zx2) + zx3)))) (image (Int32.toNatClampNeg ((8 * zx2) + (image (Int32.toNatClampNeg ((8 * zx1) + zx3))))))) (fun now_1 => mX7_carried_L2 zx1 zx2 n image f (zx3 + 1) now_1))))))) := rfl
def mX7_carried (F : Nat) (n : Int32) (image : Nat → Int32) (now : Nat → Int32) (zx1 : Int32) (zx2 : Int32) : Option (Int32 × (Nat → Int32)) := bd (mX7_carried_L2 zx1 zx2 n image F 0 now) (fun now_1 => bd (mX7_placeNow F n now_1) (fun zr => some (zr, now_1)))
set_option maxRecDepth 100000 in
set_option maxHeartbeats 4000000 in
theorem wX7_carried_L2 {p : Program} {l : Launch} {e : Env} {s : State} {m : MethodId} {zargs : Array Value} {zbelow : List Frame} {zmeth : Method} {c : Code} {D : va_G} {zQ : State → Prop} {zA : Nat → Prop} {ad : Nat → Nat} {cI cZ : ClassId} {n : Int32} {many : Int32} {image : Nat → Int32} {turn : Int32} {shelf : Nat → Int32} {groups : Int32} {inn : Nat → Int32} {makers : Nat → Int32} {makerMany : Nat → Int32} {queue : Nat → Int32} {zx1 : Int32} {zx2 : Int32} (C0 : tg_C p s m zmeth c zargs cX7_carried RX7 wsX7_carried 4 D [(cI, .int), (cZ, .boolean)]) (hDD : tg_DD zA [ad 0, ad 1, ad 2, ad 3, ad 4, ad 5, ad 6, ad 7]) (hlocks : zmeth.locks = false) (hr : zmeth.sig.returnType = (some .int)) (F : Nat) : ∀ (f : Nat) (zx3 : Int32) (now : Nat → Int32) (onow : Nat → Int32), mX7_carried_L2 zx1 zx2 n image f zx3 now = some onow → ∀ (zH : Heap) (zlocs : List Loc), va_P D vwCl (wM cI cZ ad n many image turn shelf groups inn now makers makerMany queue) zH → va_S zA s.heap zH zlocs → ∀ (zls : Array Slot), lv_has zls 4 [(0, .ref (ad 0)), (1, .int zx1), (2, .int zx2), (3, .int zx3)] → (∀ (zH : Heap) (zlocs : List Loc), va_P D vwCl (wM cI cZ ad n many image turn shelf groups inn onow makers makerMany queue) zH → va_S zA s.heap zH zlocs → ∀ (zls : Array Slot), lv_has zls 4 [(0, .ref (ad 0))] → W p l e ({ frames := 1, cells := 0, slots := 0, locals := 24 } : Room) s m zargs zbelow zmeth c zH zlocs 0 0 zQ (F0 m 53 zls [])) → W p l e ({ frames := 1, cells := 0, slots := 0, locals := 24 } : Room) s m zargs zbelow zmeth c zH zlocs 0 0 zQ (F0 m 2 zls []) := by
  obtain ⟨hx, hb, hml, hown, hts, hK, hN⟩ := C0
  intro f
  induction f with
  | zero => intro _ _ _ h; exact absurd (show none = some _ from h) (fun h9 => by cases h9)
  | succ f ih =>
    intro zx3 now onow h zH zlocs hP hS zls hl kk
    rw [mX7_carried_L2_s] at h
    refine lv_iload_n hx hb dX7_carried_2 rfl (lv_at hl 3 rfl) ?_
    refine lv_aload_n hx hb dX7_carried_3 rfl (lv_at hl 0 rfl) ?_
    refine va_get (D := D) (ci := 6) (v := .int n) (C := RX7) (T := TX7) (N := 11) hx hb hts uX7_carried_RX7 hown hK hP 0 rfl rfl 0 (by decide) (hts _ kX7_carried_1) (fun _ h9 => h9) rfl dX7_carried_4 ?_
    refine lv_icmp_ge (tgt := 53) hx hb dX7_carried_7 (by decide) (fun cb => ?_) (fun cb => ?_)
    · rw [if_pos cb] at h
      cases h
      exact kk _ _ hP hS _ (lv_sub hl [0] rfl)
    · rw [if_neg cb] at h
      refine lv_aload_n hx hb dX7_carried_10 rfl (lv_at hl 0 rfl) ?_
      refine va_get (D := D) (ci := 6) (v := .ref (ad 4)) (C := RX7) (T := TX7) (N := 11) hx hb hts uX7_carried_RX7 hown hK hP 0 rfl rfl 7 (by decide) (hts _ kX7_carried_2) (fun _ h9 => h9) rfl dX7_carried_11 ?_
      refine lv_aload_n hx hb dX7_carried_14 rfl (lv_at hl 0 rfl) ?_
      refine va_get (D := D) (ci := 6) (v := .ref (ad 1)) (C := RX7) (T := TX7) (N := 11) hx hb hts uX7_carried_RX7 hown hK hP 0 rfl rfl 2 (by decide) (hts _ kX7_carried_3) (fun _ h9 => h9) rfl dX7_carried_15 ?_
      refine lv_bipush (v := 8) hx hb dX7_carried_18 (by decide) ?_
      refine lv_iload_n hx hb dX7_carried_20 rfl (lv_at hl 2 rfl) ?_
      refine lv_imul hx hb dX7_carried_21 ?_
      refine lv_iload_n hx hb dX7_carried_22 rfl (lv_at hl 3 rfl) ?_
      refine lv_iadd hx hb dX7_carried_23 ?_
      obtain ⟨gg, h⟩ := gd_el h
      refine va_iald hx hb hK hP 1 0 rfl rfl (inb_in gg) dX7_carried_24 ?_
      refine lv_aload_n hx hb dX7_carried_25 rfl (lv_at hl 0 rfl) ?_
      refine va_get (D := D) (ci := 6) (v := .ref (ad 1)) (C := RX7) (T := TX7) (N := 11) hx hb hts uX7_carried_RX7 hown hK hP 0 rfl rfl 2 (by decide) (hts _ kX7_carried_3) (fun _ h9 => h9) rfl dX7_carried_26 ?_
      refine lv_bipush (v := 8) hx hb dX7_carried_29 (by decide) ?_
      refine lv_iload_n hx hb dX7_carried_31 rfl (lv_at hl 2 rfl) ?_
      refine lv_imul hx hb dX7_carried_32 ?_
      refine lv_aload_n hx hb dX7_carried_33 rfl (lv_at hl 0 rfl) ?_
      refine va_get (D := D) (ci := 6) (v := .ref (ad 1)) (C := RX7) (T := TX7) (N := 11) hx hb hts uX7_carried_RX7 hown hK hP 0 rfl rfl 2 (by decide) (hts _ kX7_carried_3) (fun _ h9 => h9) rfl dX7_carried_34 ?_
      refine lv_bipush (v := 8) hx hb dX7_carried_37 (by decide) ?_
      refine lv_iload_n hx hb dX7_carried_39 rfl (lv_at hl 1 rfl) ?_
      refine lv_imul hx hb dX7_carried_40 ?_
      refine lv_iload_n hx hb dX7_carried_41 rfl (lv_at hl 3 rfl) ?_
      refine lv_iadd hx hb dX7_carried_42 ?_
      obtain ⟨gg_1, h⟩ := gd_el h
      refine va_iald hx hb hK hP 1 0 rfl rfl (inb_in gg_1) dX7_carried_43 ?_
      refine lv_iadd hx hb dX7_carried_44 ?_
      obtain ⟨gg_2, h⟩ := gd_el h
      refine va_iald hx hb hK hP 1 0 rfl rfl (inb_in gg_2) dX7_carried_45 ?_
      obtain ⟨gg_3, h⟩ := gd_el h
      obtain ⟨now_1, enow_1, h⟩ := lT_el h
      refine va_iast hx hb hK hP (hDD _ rfl) hS 4 0 rfl rfl (inb_in gg_3) dX7_carried_46 (fun zH zlocs hP _ hS => ?_)
      have hP : va_P D vwCl (wM cI cZ ad n many image turn shelf groups inn (upd now (Int32.toNatClampNeg (image (Int32.toNatClampNeg ((8 * zx2) + zx3)))) (image (Int32.toNatClampNeg ((8 * zx2) + (image (Int32.toNatClampNeg ((8 * zx1) + zx3))))))) makers makerMany queue) zH := hP
      rw [← enow_1] at hP
      refine lv_iinc (v := (zx3 + 1)) (lv' := [(3, .int (zx3 + 1)), (0, .ref (ad 0)), (1, .int zx1), (2, .int zx2)]) hx hb dX7_carried_47 hl (k := 3) rfl rfl (by decide) rfl (fun zls hl => ?_)
      refine lv_goto (tgt := 2) hx hb dX7_carried_50 (by decide) ?_
      exact ih _ _ _ h _ _ hP hS _ (lv_sub hl [1, 2, 3, 0] rfl) kk
set_option maxRecDepth 100000 in
set_option maxHeartbeats 4000000 in
theorem qX7_carried (l : Launch) (D : va_G) (cI : ClassId) (cZ : ClassId) (ad : Nat → Nat) (n : Int32) (many : Int32) (image : Nat → Int32) (turn : Int32) (shelf : Nat → Int32) (groups : Int32) (inn : Nat → Int32) (now : Nat → Int32) (makers : Nat → Int32) (makerMany : Nat → Int32) (queue : Nat → Int32) (zx1 : Int32) (zx2 : Int32) (F : Nat) (zr0 : Int32) (onow : Nat → Int32) (h : mX7_carried F n image now zx1 zx2 = some (zr0, onow)) : Met l yX7_carried wsX7_carried ({ frames := 1, cells := 0, slots := 0, locals := 24 } : Room) (tg_PM D [(cI, .int), (cZ, .boolean)] [.ref (ad 0), .int zx1, .int zx2] (wM cI cZ ad n many image turn shelf groups inn now makers makerMany queue)) (tg_Mi D (wM cI cZ ad n many image turn shelf groups inn now makers makerMany queue) (wM cI cZ ad n many image turn shelf groups inn onow makers makerMany queue) zr0) 0 0 (tg_in (wM cI cZ ad n many image turn shelf groups inn now makers makerMany queue)) := by
  refine Met.ofW (cc := cX7_carried) (maxL := 4) (ret := (some .int)) (by decide) rfl ?_
  intro p e s m zargs zbelow zmeth c s₁ B hml hv
  obtain ⟨hargs, hP, hK, hN, hD0⟩ := hv
  have hx := B.exec
  have hb := B.bytes
  have hr := B.returns
  have hts := atoms_spec (ws := wsX7_carried) B.pre
  have hown : s.vm.findClass RX7 = some m.cls := findClass_of_methodNamed B.named
  have hlocks := B.notSynchronized
  have hDD : tg_DD (tg_in (wM cI cZ ad n many image turn shelf groups inn now makers makerMany queue)) [ad 0, ad 1, ad 2, ad 3, ad 4, ad 5, ad 6, ad 7] := tg_DD.of (tg_D hD0) rfl
  have hS : va_S (tg_in (wM cI cZ ad n many image turn shelf groups inn now makers makerMany queue)) s.heap s.heap [] := va_S.rf
  have hl := lv_entry ([.ref (ad 0), .int zx1, .int zx2]) (n := 4) (Nat.le_of_ble_eq_true rfl)
  refine W.eq (g2 := entryFrame m ([.ref (ad 0), .int zx1, .int zx2] : List Value).toArray 4) (by rw [hargs]) ?_
  rw [lg_entry_eq]
  generalize (lg_sl ([.ref (ad 0), .int zx1, .int zx2]) ++ List.replicate (4 - (lg_sl ([.ref (ad 0), .int zx1, .int zx2])).length) Slot.unset).toArray = zls at hl ⊢
  have hl : lv_has zls 4 [(0, .ref (ad 0)), (1, .int zx1), (2, .int zx2)] := hl
  rw [mX7_carried] at h
  refine lv_iconst (v := 0) hx hb dX7_carried_0 (by decide) ?_
  refine lv_istore_n (lv' := [(3, .int 0), (0, .ref (ad 0)), (1, .int zx1), (2, .int zx2)]) hx hb dX7_carried_1 rfl hl (by decide) rfl (fun zls hl => ?_)
  obtain ⟨now_1, hv, h⟩ := bd_el h
  refine wX7_carried_L2 ⟨hx, hb, hml, hown, hts, hK, hN⟩ hDD hlocks hr F F _ _ _ hv _ _ hP hS _ (lv_sub hl [1, 2, 3, 0] rfl) (fun zH zlocs hP hS zls hl => ?_)
  refine lv_aload_n hx hb dX7_carried_53 rfl (lv_at hl 0 rfl) ?_
  obtain ⟨zr, hc, h⟩ := bd_el h
  refine tg_cRi (va_runV (As := []) (rest := []) ⟨hx, hb, hml, hown, hts⟩ (qX7_placeNow l D cI cZ ad n many image turn shelf groups inn now_1 makers makerMany queue F zr hc) (cwV 0 hts gX7_carried_X7_placeNow rfl rfl rfl zVX7_placeNow ⟨Nat.le_of_ble_eq_true rfl, Nat.le_of_ble_eq_true rfl⟩) (tg_preV (r := (RX7, TX7, 11)) (ci := 6) (q0 := 0) hP hK hN rfl rfl) rfl rfl hl.1 rfl (lv_room (Nat.le_of_ble_eq_true rfl)) dX7_carried_54 ⟨Nat.zero_le _, Nat.zero_le _⟩) ?_
  cases h
  exact W.iret hx hb hr (fun t ht hW => ⟨rfl, by rw [ht]; exact hP, hS.F ht⟩) hS.2.2 dX7_carried_57
theorem zVX7_carried : yX7_carried.cls = RX7 ∧ yX7_carried.cls ≠ "java/lang/invoke/MethodHandle" ∧ yX7_carried.cls ≠ "java/lang/invoke/VarHandle" ∧ (parseMethodDescriptor yX7_carried.desc).map (fun d => d.parameters.length) = some 2 := by decide +kernel

/-! ===== private int orderOf(int); ===== -/
def mX7_orderOf_L4 (F : Nat) (zx1 : Int32) (n : Int32) (image : Nat → Int32) : Nat → Int32 → Int32 → (Nat → Int32) → Option (Int32 × (Nat → Int32))
  | 0, _, _, _ => none
  | f + 1, zx2, zx3, now => if zx3 = 0 then (some (zx2, now)) else (bd2 (mX7_oneThen F n image now zx3 zx1) (fun zr now_1 => mX7_orderOf_L4 F zx1 n image f (zx2 + 1) zr now_1))
theorem mX7_orderOf_L4_s (F : Nat) (zx1 : Int32) (n : Int32) (image : Nat → Int32) (f : Nat) (zx2 : Int32) (zx3 : Int32) (now : Nat → Int32) : mX7_orderOf_L4 F zx1 n image (f + 1) zx2 zx3 now = (if zx3 = 0 then (some (zx2, now)) else (bd2 (mX7_oneThen F n image now zx3 zx1) (fun zr now_1 => mX7_orderOf_L4 F zx1 n image f (zx2 + 1) zr now_1))) := rfl
def mX7_orderOf (F : Nat) (n : Int32) (image : Nat → Int32) (now : Nat → Int32) (zx1 : Int32) : Option (Int32 × (Nat → Int32)) := bd2 (mX7_orderOf_L4 F zx1 n image F 1 zx1 now) (fun zx2 now_1 => some (zx2, now_1))
set_option maxRecDepth 100000 in
set_option maxHeartbeats 4000000 in
theorem wX7_orderOf_L4 {p : Program} {l : Launch} {e : Env} {s : State} {m : MethodId} {zargs : Array Value} {zbelow : List Frame} {zmeth : Method} {c : Code} {D : va_G} {zQ : State → Prop} {zA : Nat → Prop} {ad : Nat → Nat} {cI cZ : ClassId} {n : Int32} {many : Int32} {image : Nat → Int32} {turn : Int32} {shelf : Nat → Int32} {groups : Int32} {inn : Nat → Int32} {makers : Nat → Int32} {makerMany : Nat → Int32} {queue : Nat → Int32} {zx1 : Int32} (C0 : tg_C p s m zmeth c zargs cX7_orderOf RX7 wsX7_orderOf 4 D [(cI, .int), (cZ, .boolean)]) (hDD : tg_DD zA [ad 0, ad 1, ad 2, ad 3, ad 4, ad 5, ad 6, ad 7]) (hlocks : zmeth.locks = false) (hr : zmeth.sig.returnType = (some .int)) (F : Nat) : ∀ (f : Nat) (zx2 : Int32) (zx3 : Int32) (now : Nat → Int32) (zo2 : Int32) (onow : Nat → Int32), mX7_orderOf_L4 F zx1 n image f zx2 zx3 now = some (zo2, onow) → ∀ (zH : Heap) (zlocs : List Loc), va_P D vwCl (wM cI cZ ad n many image turn shelf groups inn now makers makerMany queue) zH → va_S zA s.heap zH zlocs → ∀ (zls : Array Slot), lv_has zls 4 [(0, .ref (ad 0)), (1, .int zx1), (2, .int zx2), (3, .int zx3)] → (∀ (zH : Heap) (zlocs : List Loc), va_P D vwCl (wM cI cZ ad n many image turn shelf groups inn onow makers makerMany queue) zH → va_S zA s.heap zH zlocs → ∀ (zls : Array Slot), lv_has zls 4 [(2, .int zo2)] → W p l e ({ frames := 2, cells := 0, slots := 0, locals := 47 } : Room) s m zargs zbelow zmeth c zH zlocs 0 0 zQ (F0 m 21 zls [])) → W p l e ({ frames := 2, cells := 0, slots := 0, locals := 47 } : Room) s m zargs zbelow zmeth c zH zlocs 0 0 zQ (F0 m 4 zls []) := by
  obtain ⟨hx, hb, hml, hown, hts, hK, hN⟩ := C0
  intro f
  induction f with
  | zero => intro _ _ _ _ _ h; exact absurd (show none = some _ from h) (fun h9 => by cases h9)
  | succ f ih =>
    intro zx2 zx3 now zo2 onow h zH zlocs hP hS zls hl kk
    rw [mX7_orderOf_L4_s] at h
    refine lv_iload_n hx hb dX7_orderOf_4 rfl (lv_at hl 3 rfl) ?_
    refine lv_if_eq (tgt := 21) hx hb dX7_orderOf_5 (by decide) (fun cb => ?_) (fun cb => ?_)
    · rw [if_pos cb] at h
      cases h
      exact kk _ _ hP hS _ (lv_sub hl [2] rfl)
    · rw [if_neg cb] at h
      refine lv_aload_n hx hb dX7_orderOf_8 rfl (lv_at hl 0 rfl) ?_
      refine lv_iload_n hx hb dX7_orderOf_9 rfl (lv_at hl 3 rfl) ?_
      refine lv_iload_n hx hb dX7_orderOf_10 rfl (lv_at hl 1 rfl) ?_
      obtain ⟨zr, now_1, hc, h⟩ := bd2_el h
      refine tg_cMi (va_runV (As := [.int zx3, .int zx1]) (rest := []) ⟨hx, hb, hml, hown, hts⟩ (qX7_oneThen l D cI cZ ad n many image turn shelf groups inn now makers makerMany queue zx3 zx1 F zr now_1 hc) (cwV 2 hts gX7_orderOf_X7_oneThen rfl rfl rfl zVX7_oneThen ⟨Nat.le_of_ble_eq_true rfl, Nat.le_of_ble_eq_true rfl⟩) (tg_preVM (r := (RX7, TX7, 11)) (ci := 6) (q0 := 0) hP (hDD _ rfl) hK hN rfl rfl) rfl rfl hl.1 rfl (lv_room (Nat.le_of_ble_eq_true rfl)) dX7_orderOf_11 ⟨Nat.zero_le _, Nat.zero_le _⟩) hS (tg_inA (hDD _ rfl)) (fun zH zlocs _ hP hS => ?_)
      refine lv_istore_n (lv' := [(3, .int zr), (0, .ref (ad 0)), (1, .int zx1), (2, .int zx2)]) hx hb dX7_orderOf_14 rfl hl (by decide) rfl (fun zls hl => ?_)
      refine lv_iinc (v := (zx2 + 1)) (lv' := [(2, .int (zx2 + 1)), (3, .int zr), (0, .ref (ad 0)), (1, .int zx1)]) hx hb dX7_orderOf_15 hl (k := 3) rfl rfl (by decide) rfl (fun zls hl => ?_)
      refine lv_goto (tgt := 4) hx hb dX7_orderOf_18 (by decide) ?_
      exact ih _ _ _ _ _ h _ _ hP hS _ (lv_sub hl [2, 3, 0, 1] rfl) kk
set_option maxRecDepth 100000 in
set_option maxHeartbeats 4000000 in
theorem qX7_orderOf (l : Launch) (D : va_G) (cI : ClassId) (cZ : ClassId) (ad : Nat → Nat) (n : Int32) (many : Int32) (image : Nat → Int32) (turn : Int32) (shelf : Nat → Int32) (groups : Int32) (inn : Nat → Int32) (now : Nat → Int32) (makers : Nat → Int32) (makerMany : Nat → Int32) (queue : Nat → Int32) (zx1 : Int32) (F : Nat) (zr0 : Int32) (onow : Nat → Int32) (h : mX7_orderOf F n image now zx1 = some (zr0, onow)) : Met l yX7_orderOf wsX7_orderOf ({ frames := 2, cells := 0, slots := 0, locals := 47 } : Room) (tg_PM D [(cI, .int), (cZ, .boolean)] [.ref (ad 0), .int zx1] (wM cI cZ ad n many image turn shelf groups inn now makers makerMany queue)) (tg_Mi D (wM cI cZ ad n many image turn shelf groups inn now makers makerMany queue) (wM cI cZ ad n many image turn shelf groups inn onow makers makerMany queue) zr0) 0 0 (tg_in (wM cI cZ ad n many image turn shelf groups inn now makers makerMany queue)) := by
  refine Met.ofW (cc := cX7_orderOf) (maxL := 4) (ret := (some .int)) (by decide) rfl ?_
  intro p e s m zargs zbelow zmeth c s₁ B hml hv
  obtain ⟨hargs, hP, hK, hN, hD0⟩ := hv
  have hx := B.exec
  have hb := B.bytes
  have hr := B.returns
  have hts := atoms_spec (ws := wsX7_orderOf) B.pre
  have hown : s.vm.findClass RX7 = some m.cls := findClass_of_methodNamed B.named
  have hlocks := B.notSynchronized
  have hDD : tg_DD (tg_in (wM cI cZ ad n many image turn shelf groups inn now makers makerMany queue)) [ad 0, ad 1, ad 2, ad 3, ad 4, ad 5, ad 6, ad 7] := tg_DD.of (tg_D hD0) rfl
  have hS : va_S (tg_in (wM cI cZ ad n many image turn shelf groups inn now makers makerMany queue)) s.heap s.heap [] := va_S.rf
  have hl := lv_entry ([.ref (ad 0), .int zx1]) (n := 4) (Nat.le_of_ble_eq_true rfl)
  refine W.eq (g2 := entryFrame m ([.ref (ad 0), .int zx1] : List Value).toArray 4) (by rw [hargs]) ?_
  rw [lg_entry_eq]
  generalize (lg_sl ([.ref (ad 0), .int zx1]) ++ List.replicate (4 - (lg_sl ([.ref (ad 0), .int zx1])).length) Slot.unset).toArray = zls at hl ⊢
  have hl : lv_has zls 4 [(0, .ref (ad 0)), (1, .int zx1)] := hl
  rw [mX7_orderOf] at h
  refine lv_iconst (v := 1) hx hb dX7_orderOf_0 (by decide) ?_
  refine lv_istore_n (lv' := [(2, .int 1), (0, .ref (ad 0)), (1, .int zx1)]) hx hb dX7_orderOf_1 rfl hl (by decide) rfl (fun zls hl => ?_)
  refine lv_iload_n hx hb dX7_orderOf_2 rfl (lv_at hl 2 rfl) ?_
  refine lv_istore_n (lv' := [(3, .int zx1), (2, .int 1), (0, .ref (ad 0)), (1, .int zx1)]) hx hb dX7_orderOf_3 rfl hl (by decide) rfl (fun zls hl => ?_)
  obtain ⟨zx2, now_1, hv, h⟩ := bd2_el h
  refine wX7_orderOf_L4 ⟨hx, hb, hml, hown, hts, hK, hN⟩ hDD hlocks hr F F _ _ _ _ _ hv _ _ hP hS _ (lv_sub hl [2, 3, 1, 0] rfl) (fun zH zlocs hP hS zls hl => ?_)
  refine lv_iload_n hx hb dX7_orderOf_21 rfl (lv_at hl 0 rfl) ?_
  cases h
  exact W.iret hx hb hr (fun t ht hW => ⟨rfl, by rw [ht]; exact hP, hS.F ht⟩) hS.2.2 dX7_orderOf_22
theorem zVX7_orderOf : yX7_orderOf.cls = RX7 ∧ yX7_orderOf.cls ≠ "java/lang/invoke/MethodHandle" ∧ yX7_orderOf.cls ≠ "java/lang/invoke/VarHandle" ∧ (parseMethodDescriptor yX7_orderOf.desc).map (fun d => d.parameters.length) = some 1 := by decide +kernel

/-! ===== private int setOf(int, int); ===== -/
theorem kX7_setOf_1 : Cond.fieldLink RX7 7 "TurnGroupsModel" "n" "I" ∈ wsX7_setOf := by decide +kernel
theorem kX7_setOf_2 : Cond.fieldLink RX7 14 "TurnGroupsModel" "image" "[I" ∈ wsX7_setOf := by decide +kernel
theorem uX7_setOf_RX7 : ∀ w ∈ u_ws RX7 TX7 11, w ∈ wsX7_setOf := by decide +kernel
def mX7_setOf_L5 (zx1 : Int32) (zx2 : Int32) (n : Int32) (image : Nat → Int32) : Nat → Int32 → Int32 → Option (Int32)
  | 0, _, _ => none
  | f + 1, zx3, zx4 => if n ≤ zx4 then (some zx3) else (bd (if ((zx2 >>> (zx4 &&& 31)) &&& 1) = 1 then (gd (inb ((8 * zx1) + zx4) 322560) (some (1 <<< ((image (Int32.toNatClampNeg ((8 * zx1) + zx4))) &&& 31)))) else (some 0)) (fun zv => lT (zx3 ||| zv) (fun zx3_1 => mX7_setOf_L5 zx1 zx2 n image f zx3_1 (zx4 + 1))))
theorem mX7_setOf_L5_s (zx1 : Int32) (zx2 : Int32) (n : Int32) (image : Nat → Int32) (f : Nat) (zx3 : Int32) (zx4 : Int32) : mX7_setOf_L5 zx1 zx2 n image (f + 1) zx3 zx4 = (if n ≤ zx4 then (some zx3) else (bd (if ((zx2 >>> (zx4 &&& 31)) &&& 1) = 1 then (gd (inb ((8 * zx1) + zx4) 322560) (some (1 <<< ((image (Int32.toNatClampNeg ((8 * zx1) + zx4))) &&& 31)))) else (some 0)) (fun zv => lT (zx3 ||| zv) (fun zx3_1 => mX7_setOf_L5 zx1 zx2 n image f zx3_1 (zx4 + 1))))) := rfl
def mX7_setOf (F : Nat) (n : Int32) (image : Nat → Int32) (zx1 : Int32) (zx2 : Int32) : Option (Int32) := bd (mX7_setOf_L5 zx1 zx2 n image F 0 0) (fun zx3 => some zx3)
set_option maxRecDepth 100000 in
set_option maxHeartbeats 4000000 in
theorem wX7_setOf_L5 {p : Program} {l : Launch} {e : Env} {s : State} {m : MethodId} {zargs : Array Value} {zbelow : List Frame} {zmeth : Method} {c : Code} {D : va_G} {zQ : State → Prop} {ad : Nat → Nat} {cI cZ : ClassId} {n : Int32} {many : Int32} {image : Nat → Int32} {turn : Int32} {shelf : Nat → Int32} {groups : Int32} {inn : Nat → Int32} {now : Nat → Int32} {makers : Nat → Int32} {makerMany : Nat → Int32} {queue : Nat → Int32} {zx1 : Int32} {zx2 : Int32} (C0 : tg_C p s m zmeth c zargs cX7_setOf RX7 wsX7_setOf 5 D [(cI, .int), (cZ, .boolean)]) (hP : va_P D vwCl (wM cI cZ ad n many image turn shelf groups inn now makers makerMany queue) s.heap) (hlocks : zmeth.locks = false) (hr : zmeth.sig.returnType = (some .int)) (F : Nat) : ∀ (f : Nat) (zx3 : Int32) (zx4 : Int32) (zo3 : Int32), mX7_setOf_L5 zx1 zx2 n image f zx3 zx4 = some zo3 → ∀ (zls : Array Slot), lv_has zls 5 [(0, .ref (ad 0)), (1, .int zx1), (2, .int zx2), (3, .int zx3), (4, .int zx4)] → (∀ (zls : Array Slot), lv_has zls 5 [(3, .int zo3)] → W p l e ({ frames := 0, cells := 0, slots := 0, locals := 0 } : Room) s m zargs zbelow zmeth c s.heap [] 0 0 zQ (F0 m 51 zls [])) → W p l e ({ frames := 0, cells := 0, slots := 0, locals := 0 } : Room) s m zargs zbelow zmeth c s.heap [] 0 0 zQ (F0 m 5 zls []) := by
  obtain ⟨hx, hb, hml, hown, hts, hK, hN⟩ := C0
  intro f
  induction f with
  | zero => intro _ _ _ h; exact absurd (show none = some _ from h) (fun h9 => by cases h9)
  | succ f ih =>
    intro zx3 zx4 zo3 h  zls hl kk
    rw [mX7_setOf_L5_s] at h
    refine lv_iload hx hb dX7_setOf_5 (lv_at hl 4 rfl) ?_
    refine lv_aload_n hx hb dX7_setOf_7 rfl (lv_at hl 0 rfl) ?_
    refine va_get (D := D) (ci := 6) (v := .int n) (C := RX7) (T := TX7) (N := 11) hx hb hts uX7_setOf_RX7 hown hK hP 0 rfl rfl 0 (by decide) (hts _ kX7_setOf_1) (fun _ h9 => h9) rfl dX7_setOf_8 ?_
    refine lv_icmp_ge (tgt := 51) hx hb dX7_setOf_11 (by decide) (fun cb => ?_) (fun cb => ?_)
    · rw [if_pos cb] at h
      cases h
      exact kk  _ (lv_sub hl [3] rfl)
    · rw [if_neg cb] at h
      refine lv_iload_n hx hb dX7_setOf_14 rfl (lv_at hl 3 rfl) ?_
      refine lv_iload_n hx hb dX7_setOf_15 rfl (lv_at hl 2 rfl) ?_
      refine lv_iload hx hb dX7_setOf_16 (lv_at hl 4 rfl) ?_
      refine lv_ishr hx hb dX7_setOf_18 ?_
      refine lv_iconst (v := 1) hx hb dX7_setOf_19 (by decide) ?_
      refine lv_iand hx hb dX7_setOf_20 ?_
      refine lv_iconst (v := 1) hx hb dX7_setOf_21 (by decide) ?_
      obtain ⟨zv, hv, h⟩ := bd_el h
      have hj : W p l e ({ frames := 0, cells := 0, slots := 0, locals := 0 } : Room) s m zargs zbelow zmeth c s.heap [] 0 0 zQ (F0 m 43 zls [.int zv, .int zx3]) := by
        refine lv_ior hx hb dX7_setOf_43 ?_
        obtain ⟨zx3_1, ex3_1, h⟩ := lT_el h
        refine tg_top ex3_1 ?_
        refine lv_istore_n (lv' := [(3, .int zx3_1), (0, .ref (ad 0)), (1, .int zx1), (2, .int zx2), (4, .int zx4)]) hx hb dX7_setOf_44 rfl hl (by decide) rfl (fun zls hl => ?_)
        refine lv_iinc (v := (zx4 + 1)) (lv' := [(4, .int (zx4 + 1)), (3, .int zx3_1), (0, .ref (ad 0)), (1, .int zx1), (2, .int zx2)]) hx hb dX7_setOf_45 hl (k := 4) rfl rfl (by decide) rfl (fun zls hl => ?_)
        refine lv_goto (tgt := 5) hx hb dX7_setOf_48 (by decide) ?_
        exact ih _ _ _ h  _ (lv_sub hl [2, 3, 4, 1, 0] rfl) kk
      refine lv_icmp_ne (tgt := 42) hx hb dX7_setOf_22 (by decide) (fun cb_1 => ?_) (fun cb_1 => ?_)
      · rw [if_neg cb_1] at hv
        refine lv_iconst (v := 0) hx hb dX7_setOf_42 (by decide) ?_
        cases hv
        exact hj 
      · rw [if_pos cb_1] at hv
        refine lv_iconst (v := 1) hx hb dX7_setOf_25 (by decide) ?_
        refine lv_aload_n hx hb dX7_setOf_26 rfl (lv_at hl 0 rfl) ?_
        refine va_get (D := D) (ci := 6) (v := .ref (ad 1)) (C := RX7) (T := TX7) (N := 11) hx hb hts uX7_setOf_RX7 hown hK hP 0 rfl rfl 2 (by decide) (hts _ kX7_setOf_2) (fun _ h9 => h9) rfl dX7_setOf_27 ?_
        refine lv_bipush (v := 8) hx hb dX7_setOf_30 (by decide) ?_
        refine lv_iload_n hx hb dX7_setOf_32 rfl (lv_at hl 1 rfl) ?_
        refine lv_imul hx hb dX7_setOf_33 ?_
        refine lv_iload hx hb dX7_setOf_34 (lv_at hl 4 rfl) ?_
        refine lv_iadd hx hb dX7_setOf_36 ?_
        obtain ⟨gg, hv⟩ := gd_el hv
        refine va_iald hx hb hK hP 1 0 rfl rfl (inb_in gg) dX7_setOf_37 ?_
        refine lv_ishl hx hb dX7_setOf_38 ?_
        refine lv_goto (tgt := 43) hx hb dX7_setOf_39 (by decide) ?_
        cases hv
        exact hj 
set_option maxRecDepth 100000 in
set_option maxHeartbeats 4000000 in
theorem qX7_setOf (l : Launch) (D : va_G) (cI : ClassId) (cZ : ClassId) (ad : Nat → Nat) (n : Int32) (many : Int32) (image : Nat → Int32) (turn : Int32) (shelf : Nat → Int32) (groups : Int32) (inn : Nat → Int32) (now : Nat → Int32) (makers : Nat → Int32) (makerMany : Nat → Int32) (queue : Nat → Int32) (zx1 : Int32) (zx2 : Int32) (F : Nat) (zr0 : Int32) (h : mX7_setOf F n image zx1 zx2 = some zr0) : Met l yX7_setOf wsX7_setOf ({ frames := 0, cells := 0, slots := 0, locals := 0 } : Room) (tg_P D [(cI, .int), (cZ, .boolean)] [.ref (ad 0), .int zx1, .int zx2] ((wM cI cZ ad n many image turn shelf groups inn now makers makerMany queue))) (tg_Ri zr0) 0 0 (fun _ => False) := by
  refine Met.ofW (cc := cX7_setOf) (maxL := 5) (ret := (some .int)) (by decide) rfl ?_
  intro p e s m zargs zbelow zmeth c s₁ B hml hv
  obtain ⟨hargs, hP, hK, hN⟩ := hv
  have hx := B.exec
  have hb := B.bytes
  have hr := B.returns
  have hts := atoms_spec (ws := wsX7_setOf) B.pre
  have hown : s.vm.findClass RX7 = some m.cls := findClass_of_methodNamed B.named
  have hlocks := B.notSynchronized
  have hl := lv_entry ([.ref (ad 0), .int zx1, .int zx2]) (n := 5) (Nat.le_of_ble_eq_true rfl)
  refine W.eq (g2 := entryFrame m ([.ref (ad 0), .int zx1, .int zx2] : List Value).toArray 5) (by rw [hargs]) ?_
  rw [lg_entry_eq]
  generalize (lg_sl ([.ref (ad 0), .int zx1, .int zx2]) ++ List.replicate (5 - (lg_sl ([.ref (ad 0), .int zx1, .int zx2])).length) Slot.unset).toArray = zls at hl ⊢
  have hl : lv_has zls 5 [(0, .ref (ad 0)), (1, .int zx1), (2, .int zx2)] := hl
  rw [mX7_setOf] at h
  refine lv_iconst (v := 0) hx hb dX7_setOf_0 (by decide) ?_
  refine lv_istore_n (lv' := [(3, .int 0), (0, .ref (ad 0)), (1, .int zx1), (2, .int zx2)]) hx hb dX7_setOf_1 rfl hl (by decide) rfl (fun zls hl => ?_)
  refine lv_iconst (v := 0) hx hb dX7_setOf_2 (by decide) ?_
  refine lv_istore (lv' := [(4, .int 0), (3, .int 0), (0, .ref (ad 0)), (1, .int zx1), (2, .int zx2)]) hx hb dX7_setOf_3 hl (by decide) rfl (fun zls hl => ?_)
  obtain ⟨zx3, hv, h⟩ := bd_el h
  refine wX7_setOf_L5 ⟨hx, hb, hml, hown, hts, hK, hN⟩ hP hlocks hr F F _ _ _ hv  _ (lv_sub hl [2, 3, 4, 1, 0] rfl) (fun zls hl => ?_)
  refine lv_iload_n hx hb dX7_setOf_51 rfl (lv_at hl 0 rfl) ?_
  cases h
  exact W.iret hx hb hr (fun t ht hW => ⟨rfl, ht⟩) (fun _ h9 => absurd h9 List.not_mem_nil) dX7_setOf_52
theorem zVX7_setOf : yX7_setOf.cls = RX7 ∧ yX7_setOf.cls ≠ "java/lang/invoke/MethodHandle" ∧ yX7_setOf.cls ≠ "java/lang/invoke/VarHandle" ∧ (parseMethodDescriptor yX7_setOf.desc).map (fun d => d.parameters.length) = some 2 := by decide +kernel
