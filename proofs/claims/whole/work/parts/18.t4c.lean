/-! ===== private int countLeaving(int, int, int); ===== -/
theorem kX4_countLeaving_1 : Cond.initialized RX6 ∈ wsX4_countLeaving := by decide +kernel
theorem kX4_countLeaving_2 : Cond.static yX6_image ∈ wsX4_countLeaving := by decide +kernel
theorem zVX4_countLeaving : yX4_countLeaving.cls = RX4 ∧ yX4_countLeaving.cls ≠ "java/lang/invoke/MethodHandle" ∧ yX4_countLeaving.cls ≠ "java/lang/invoke/VarHandle" ∧ (parseMethodDescriptor yX4_countLeaving.desc).map (fun d => d.parameters.length) = some 3 := by decide +kernel
def mX4_countLeaving_L28 (zrec : Int32 → Int32 → Int32 → Option Int32) (F : Nat) (zx1 : Int32) (zx2 : Int32) (zx3 : Int32) (cells : Nat → Int32) (reach : Nat → Int32) : Nat → Int32 → Int32 → Option (Int32)
  | 0, _, _ => none
  | f + 1, zx4, zx5 => if 8 ≤ zx5 then (some zx4) else (bd (mX4_reaches reach zx2 zx5) (fun zr => bd (if zr = 0 then (some zx4) else (bd (mX4_step F cells zx2 zx3 zx5) (fun zr_1 => lT (if (mX6_image zr_1 zx2) = zx2 then (1 : Int32) else (0 : Int32)) (fun zv => bd (zrec (zx1 - zv) (zx2 + 1) zr_1) (fun zr_3 => lT (zx4 + zr_3) (fun zx4_2 => some zx4_2)))))) (fun zx4_1 => mX4_countLeaving_L28 zrec F zx1 zx2 zx3 cells reach f zx4_1 (zx5 + 1))))
theorem mX4_countLeaving_L28_s (zrec : Int32 → Int32 → Int32 → Option Int32) (F : Nat) (zx1 : Int32) (zx2 : Int32) (zx3 : Int32) (cells : Nat → Int32) (reach : Nat → Int32) (f : Nat) (zx4 : Int32) (zx5 : Int32) : mX4_countLeaving_L28 zrec F zx1 zx2 zx3 cells reach (f + 1) zx4 zx5 = (if 8 ≤ zx5 then (some zx4) else (bd (mX4_reaches reach zx2 zx5) (fun zr => bd (if zr = 0 then (some zx4) else (bd (mX4_step F cells zx2 zx3 zx5) (fun zr_1 => lT (if (mX6_image zr_1 zx2) = zx2 then (1 : Int32) else (0 : Int32)) (fun zv => bd (zrec (zx1 - zv) (zx2 + 1) zr_1) (fun zr_3 => lT (zx4 + zr_3) (fun zx4_2 => some zx4_2)))))) (fun zx4_1 => mX4_countLeaving_L28 zrec F zx1 zx2 zx3 cells reach f zx4_1 (zx5 + 1))))) := rfl
def mX4_countLeaving (F : Nat) (cells : Nat → Int32) (reach : Nat → Int32) : Nat → Int32 → Int32 → Int32 → Option (Int32)
  | 0, _, _, _ => none
  | d + 1, zx1, zx2, zx3 => if zx1 < 0 then (some (0 : Int32)) else (if zx1 ≤ (8 - zx2) then (if zx2 < 8 then (bd (mX4_countLeaving_L28 (mX4_countLeaving F cells reach d) F zx1 zx2 zx3 cells reach F 0 zx2) (fun zx4 => some zx4)) else (some (1 : Int32))) else (some (0 : Int32)))
theorem mX4_countLeaving_s (F : Nat) (cells : Nat → Int32) (reach : Nat → Int32) (d : Nat) (zx1 : Int32) (zx2 : Int32) (zx3 : Int32) : mX4_countLeaving F cells reach (d + 1) zx1 zx2 zx3 = (if zx1 < 0 then (some (0 : Int32)) else (if zx1 ≤ (8 - zx2) then (if zx2 < 8 then (bd (mX4_countLeaving_L28 (mX4_countLeaving F cells reach d) F zx1 zx2 zx3 cells reach F 0 zx2) (fun zx4 => some zx4)) else (some (1 : Int32))) else (some (0 : Int32)))) := rfl
set_option maxRecDepth 100000 in
set_option maxHeartbeats 4000000 in
theorem wX4_countLeaving_L28 {p : Program} {l : Launch} {e : Env} {s : State} {m : MethodId} {zargs : Array Value} {zbelow : List Frame} {zmeth : Method} {c : Code} {D : va_G} {zQ : State → Prop} {ad : Nat → Nat} {cI : ClassId} {cells : Nat → Int32} {back : Nat → Int32} {reach : Nat → Int32} {filled : Nat → Int32} {fc : Int32} {makers : Nat → Int32} {mc : Int32} {zx1 : Int32} {zx2 : Int32} {zx3 : Int32} {d : Nat} {zrec : Int32 → Int32 → Int32 → Option Int32} (C0 : tg_C p s m zmeth c zargs cX4_countLeaving RX4 wsX4_countLeaving 8 D [(cI, .int)]) (hP : va_P D vwCl (wT cI ad cells back reach filled fc makers mc) s.heap) (hrec : ∀ za0 za1 za2 zr9 : Int32, zrec za0 za1 za2 = some zr9 → Met l yX4_countLeaving wsX4_countLeaving ({ frames := 2 + d, cells := 0, slots := 0, locals := 47 + 27 * d } : Room) (tg_P D [(cI, .int)] [.ref (ad 0), .int za0, .int za1, .int za2] ((wT cI ad cells back reach filled fc makers mc))) (tg_Ri zr9) 0 0 (fun _ => False)) (hlocks : zmeth.locks = false) (hr : zmeth.sig.returnType = (some .int)) (F : Nat) : ∀ (f : Nat) (zx4 : Int32) (zx5 : Int32) (zo4 : Int32), mX4_countLeaving_L28 zrec F zx1 zx2 zx3 cells reach f zx4 zx5 = some zo4 → ∀ (zls : Array Slot), lv_has zls 8 [(0, .ref (ad 0)), (1, .int zx1), (2, .int zx2), (3, .int zx3), (4, .int zx4), (5, .int zx5)] → (∀ (zls : Array Slot), lv_has zls 8 [(4, .int zo4)] → W p l e ({ frames := 2 + (d + 1), cells := 0, slots := 0, locals := 47 + 27 * (d + 1) } : Room) s m zargs zbelow zmeth c s.heap [] 0 0 zQ (F0 m 96 zls [])) → W p l e ({ frames := 2 + (d + 1), cells := 0, slots := 0, locals := 47 + 27 * (d + 1) } : Room) s m zargs zbelow zmeth c s.heap [] 0 0 zQ (F0 m 28 zls []) := by
  obtain ⟨hx, hb, hml, hown, hts, hK, hN⟩ := C0
  intro f
  induction f with
  | zero => intro _ _ _ h; exact absurd (show none = some _ from h) (fun h9 => by cases h9)
  | succ f ih =>
    intro zx4 zx5 zo4 h  zls hl kk
    rw [mX4_countLeaving_L28_s] at h
    refine lv_iload hx hb dX4_countLeaving_28 (lv_at hl 5 rfl) ?_
    refine lv_bipush (v := 8) hx hb dX4_countLeaving_30 (by decide) ?_
    refine lv_icmp_ge (tgt := 96) hx hb dX4_countLeaving_32 (by decide) (fun cb => ?_) (fun cb => ?_)
    · rw [if_pos cb] at h
      cases h
      exact kk  _ (lv_sub hl [4] rfl)
    · rw [if_neg cb] at h
      refine lv_aload_n hx hb dX4_countLeaving_35 rfl (lv_at hl 0 rfl) ?_
      refine lv_iload_n hx hb dX4_countLeaving_36 rfl (lv_at hl 2 rfl) ?_
      refine lv_iload hx hb dX4_countLeaving_37 (lv_at hl 5 rfl) ?_
      obtain ⟨zr, hc, h⟩ := bd_el h
      refine tg_cRi (va_runV (As := [.int zx2, .int zx5]) (rest := []) ⟨hx, hb, hml, hown, hts⟩ (qX4_reaches l D cI ad cells back reach filled fc makers mc zx2 zx5 zr hc) (cwV 2 hts gX4_countLeaving_X4_reaches rfl rfl rfl zVX4_reaches ⟨show 0 + 1 ≤ 2 + (d + 1) by omega, show 8 + (3 + 11) + 0 ≤ 47 + 27 * (d + 1) by omega⟩) (tg_preV (r := (RX4, TX4, 7)) (ci := 4) (q0 := 0) hP hK hN rfl rfl) rfl rfl hl.1 rfl (lv_room (Nat.le_of_ble_eq_true rfl)) dX4_countLeaving_39 ⟨Nat.zero_le _, Nat.zero_le _⟩) ?_
      obtain ⟨zx4_1, hv, h⟩ := bd_el h
      have hj : ∀ (zls : Array Slot), lv_has zls 8 [(0, .ref (ad 0)), (1, .int zx1), (2, .int zx2), (3, .int zx3), (4, .int zx4_1), (5, .int zx5)] → W p l e ({ frames := 2 + (d + 1), cells := 0, slots := 0, locals := 47 + 27 * (d + 1) } : Room) s m zargs zbelow zmeth c s.heap [] 0 0 zQ (F0 m 90 zls []) := by
        intro zls hl
        refine lv_iinc (v := (zx5 + 1)) (lv' := [(5, .int (zx5 + 1)), (0, .ref (ad 0)), (1, .int zx1), (2, .int zx2), (3, .int zx3), (4, .int zx4_1)]) hx hb dX4_countLeaving_90 hl (k := 5) rfl rfl (by decide) rfl (fun zls hl => ?_)
        refine lv_goto (tgt := 28) hx hb dX4_countLeaving_93 (by decide) ?_
        exact ih _ _ _ h  _ (lv_sub hl [1, 2, 3, 4, 5, 0] rfl) kk
      refine lv_if_eq (tgt := 90) hx hb dX4_countLeaving_42 (by decide) (fun cb_1 => ?_) (fun cb_1 => ?_)
      · rw [if_pos cb_1] at hv
        cases hv
        exact hj _ (lv_sub hl [0, 1, 2, 3, 4, 5] rfl)
      · rw [if_neg cb_1] at hv
        refine lv_aload_n hx hb dX4_countLeaving_45 rfl (lv_at hl 0 rfl) ?_
        refine lv_iload_n hx hb dX4_countLeaving_46 rfl (lv_at hl 2 rfl) ?_
        refine lv_iload_n hx hb dX4_countLeaving_47 rfl (lv_at hl 3 rfl) ?_
        refine lv_iload hx hb dX4_countLeaving_48 (lv_at hl 5 rfl) ?_
        obtain ⟨zr_1, hc_1, hv⟩ := bd_el hv
        refine tg_cRi (va_runV (As := [.int zx2, .int zx3, .int zx5]) (rest := []) ⟨hx, hb, hml, hown, hts⟩ (qX4_step l D cI ad cells back reach filled fc makers mc zx2 zx3 zx5 F zr_1 hc_1) (cwV 3 hts gX4_countLeaving_X4_step rfl rfl rfl zVX4_step ⟨show 1 + 1 ≤ 2 + (d + 1) by omega, show 8 + (4 + 11) + 24 ≤ 47 + 27 * (d + 1) by omega⟩) (tg_preV (r := (RX4, TX4, 7)) (ci := 4) (q0 := 0) hP hK hN rfl rfl) rfl rfl hl.1 rfl (lv_room (Nat.le_of_ble_eq_true rfl)) dX4_countLeaving_50 ⟨Nat.zero_le _, Nat.zero_le _⟩) ?_
        refine lv_istore (lv' := [(6, .int zr_1), (0, .ref (ad 0)), (1, .int zx1), (2, .int zx2), (3, .int zx3), (4, .int zx4), (5, .int zx5)]) hx hb dX4_countLeaving_53 hl (by decide) rfl (fun zls hl => ?_)
        refine lv_iload hx hb dX4_countLeaving_55 (lv_at hl 0 rfl) ?_
        refine lv_iload_n hx hb dX4_countLeaving_57 rfl (lv_at hl 3 rfl) ?_
        refine tg_cRi (va_runSN (As := [.int zr_1, .int zx2]) (rest := []) ⟨hx, hb, hml, hown, hts⟩ (qX6_image l D zr_1 zx2 _ rfl) (⟨va_cnB 2 hts gX4_countLeaving_X6_image_n76 rfl rfl rfl (hN _ nw_X4_76) (hts _ kX4_countLeaving_1) zSX6_image ⟨show 0 + 1 ≤ 2 + (d + 1) by omega, show 8 + (2 + 11) + 0 ≤ 47 + 27 * (d + 1) by omega⟩, hts _ kX4_countLeaving_2, trivial⟩) (tg_preS tg_nil (hK.sub (tys' := []) [] rfl) hN) rfl rfl hl.1 rfl (lv_room (Nat.le_of_ble_eq_true rfl)) dX4_countLeaving_58 ⟨Nat.zero_le _, Nat.zero_le _⟩) ?_
        refine lv_iload_n hx hb dX4_countLeaving_61 rfl (lv_at hl 3 rfl) ?_
        obtain ⟨zv, hv_1, hv⟩ := lT_el hv
        have hv_1 := hv_1.symm
        have hj_1 : W p l e ({ frames := 2 + (d + 1), cells := 0, slots := 0, locals := 47 + 27 * (d + 1) } : Room) s m zargs zbelow zmeth c s.heap [] 0 0 zQ (F0 m 70 zls [.int zv]) := by
          refine lv_istore (lv' := [(7, .int zv), (6, .int zr_1), (0, .ref (ad 0)), (1, .int zx1), (2, .int zx2), (3, .int zx3), (4, .int zx4), (5, .int zx5)]) hx hb dX4_countLeaving_70 hl (by decide) rfl (fun zls hl => ?_)
          refine lv_iload hx hb dX4_countLeaving_72 (lv_at hl 6 rfl) ?_
          refine lv_aload_n hx hb dX4_countLeaving_74 rfl (lv_at hl 2 rfl) ?_
          refine lv_iload_n hx hb dX4_countLeaving_75 rfl (lv_at hl 3 rfl) ?_
          refine lv_iload hx hb dX4_countLeaving_76 (lv_at hl 0 rfl) ?_
          refine lv_isub hx hb dX4_countLeaving_78 ?_
          refine lv_iload_n hx hb dX4_countLeaving_79 rfl (lv_at hl 4 rfl) ?_
          refine lv_iconst (v := 1) hx hb dX4_countLeaving_80 (by decide) ?_
          refine lv_iadd hx hb dX4_countLeaving_81 ?_
          refine lv_iload hx hb dX4_countLeaving_82 (lv_at hl 1 rfl) ?_
          obtain ⟨zr_3, hc_2, hv⟩ := bd_el hv
          refine tg_cRi (va_runV (As := [.int (zx1 - zv), .int (zx2 + 1), .int zr_1]) (rest := [.int zx4]) ⟨hx, hb, hml, hown, hts⟩ (hrec (zx1 - zv) (zx2 + 1) zr_1 zr_3 hc_2) (cwV 3 hts gX4_countLeaving_X4_countLeaving rfl rfl rfl zVX4_countLeaving ⟨show (2 + d) + 1 ≤ 2 + (d + 1) by omega, show 8 + (8 + 11) + (47 + 27 * d) ≤ 47 + 27 * (d + 1) by omega⟩) (tg_preV (r := (RX4, TX4, 7)) (ci := 4) (q0 := 0) hP hK hN rfl rfl) rfl rfl hl.1 rfl (lv_room (Nat.le_of_ble_eq_true rfl)) dX4_countLeaving_84 ⟨Nat.zero_le _, Nat.zero_le _⟩) ?_
          refine lv_iadd hx hb dX4_countLeaving_87 ?_
          obtain ⟨zx4_2, ex4_2, hv⟩ := lT_el hv
          refine tg_top ex4_2 ?_
          refine lv_istore (lv' := [(4, .int zx4_2), (7, .int zv), (6, .int zr_1), (0, .ref (ad 0)), (1, .int zx1), (2, .int zx2), (3, .int zx3), (5, .int zx5)]) hx hb dX4_countLeaving_88 hl (by decide) rfl (fun zls hl => ?_)
          cases hv
          exact hj _ (lv_sub hl [3, 4, 5, 6, 0, 7] rfl)
        refine lv_icmp_ne (tgt := 69) hx hb dX4_countLeaving_62 (by decide) (fun cb_2 => ?_) (fun cb_2 => ?_)
        · rw [if_neg cb_2] at hv_1
          refine lv_iconst (v := 0) hx hb dX4_countLeaving_69 (by decide) ?_
          subst hv_1
          exact hj_1 
        · rw [if_pos cb_2] at hv_1
          refine lv_iconst (v := 1) hx hb dX4_countLeaving_65 (by decide) ?_
          refine lv_goto (tgt := 70) hx hb dX4_countLeaving_66 (by decide) ?_
          subst hv_1
          exact hj_1 
set_option maxRecDepth 100000 in
set_option maxHeartbeats 4000000 in
theorem qX4_countLeaving_r (l : Launch) (D : va_G) (cI : ClassId) (ad : Nat → Nat) (cells : Nat → Int32) (back : Nat → Int32) (reach : Nat → Int32) (filled : Nat → Int32) (fc : Int32) (makers : Nat → Int32) (mc : Int32) (F : Nat) : ∀ (d : Nat) (zx1 : Int32) (zx2 : Int32) (zx3 : Int32) (zr0 : Int32), mX4_countLeaving F cells reach d zx1 zx2 zx3 = some zr0 → Met l yX4_countLeaving wsX4_countLeaving ({ frames := 2 + d, cells := 0, slots := 0, locals := 47 + 27 * d } : Room) (tg_P D [(cI, .int)] [.ref (ad 0), .int zx1, .int zx2, .int zx3] ((wT cI ad cells back reach filled fc makers mc))) (tg_Ri zr0) 0 0 (fun _ => False) := by
  intro d
  induction d with
  | zero => intro _ _ _ _ h; exact absurd (show none = some _ from h) (fun h9 => by cases h9)
  | succ d hrec =>
  intro zx1 zx2 zx3 zr0 h
  refine Met.ofW (cc := cX4_countLeaving) (maxL := 8) (ret := (some .int)) (by decide) rfl ?_
  intro p e s m zargs zbelow zmeth c s₁ B hml hv
  obtain ⟨hargs, hP, hK, hN⟩ := hv
  have hx := B.exec
  have hb := B.bytes
  have hr := B.returns
  have hts := atoms_spec (ws := wsX4_countLeaving) B.pre
  have hown : s.vm.findClass RX4 = some m.cls := findClass_of_methodNamed B.named
  have hlocks := B.notSynchronized
  have hl := lv_entry ([.ref (ad 0), .int zx1, .int zx2, .int zx3]) (n := 8) (Nat.le_of_ble_eq_true rfl)
  refine W.eq (g2 := entryFrame m ([.ref (ad 0), .int zx1, .int zx2, .int zx3] : List Value).toArray 8) (by rw [hargs]) ?_
  rw [lg_entry_eq]
  generalize (lg_sl ([.ref (ad 0), .int zx1, .int zx2, .int zx3]) ++ List.replicate (8 - (lg_sl ([.ref (ad 0), .int zx1, .int zx2, .int zx3])).length) Slot.unset).toArray = zls at hl ⊢
  have hl : lv_has zls 8 [(0, .ref (ad 0)), (1, .int zx1), (2, .int zx2), (3, .int zx3)] := hl
  rw [mX4_countLeaving_s] at h
  refine lv_iload_n hx hb dX4_countLeaving_0 rfl (lv_at hl 1 rfl) ?_
  refine lv_if_lt (tgt := 12) hx hb dX4_countLeaving_1 (by decide) (fun cb => ?_) (fun cb => ?_)
  · rw [if_pos cb] at h
    refine lv_iconst (v := 0) hx hb dX4_countLeaving_12 (by decide) ?_
    cases h
    exact W.iret hx hb hr (fun t ht hW => ⟨rfl, ht⟩) (fun _ h9 => absurd h9 List.not_mem_nil) dX4_countLeaving_13
  · rw [if_neg cb] at h
    refine lv_iload_n hx hb dX4_countLeaving_4 rfl (lv_at hl 1 rfl) ?_
    refine lv_bipush (v := 8) hx hb dX4_countLeaving_5 (by decide) ?_
    refine lv_iload_n hx hb dX4_countLeaving_7 rfl (lv_at hl 2 rfl) ?_
    refine lv_isub hx hb dX4_countLeaving_8 ?_
    refine lv_icmp_le (tgt := 14) hx hb dX4_countLeaving_9 (by decide) (fun cb_1 => ?_) (fun cb_1 => ?_)
    · rw [if_pos cb_1] at h
      refine lv_iload_n hx hb dX4_countLeaving_14 rfl (lv_at hl 2 rfl) ?_
      refine lv_bipush (v := 8) hx hb dX4_countLeaving_15 (by decide) ?_
      refine lv_icmp_lt (tgt := 22) hx hb dX4_countLeaving_17 (by decide) (fun cb_2 => ?_) (fun cb_2 => ?_)
      · rw [if_pos cb_2] at h
        refine lv_iconst (v := 0) hx hb dX4_countLeaving_22 (by decide) ?_
        refine lv_istore (lv' := [(4, .int 0), (0, .ref (ad 0)), (1, .int zx1), (2, .int zx2), (3, .int zx3)]) hx hb dX4_countLeaving_23 hl (by decide) rfl (fun zls hl => ?_)
        refine lv_iload_n hx hb dX4_countLeaving_25 rfl (lv_at hl 3 rfl) ?_
        refine lv_istore (lv' := [(5, .int zx2), (4, .int 0), (0, .ref (ad 0)), (1, .int zx1), (2, .int zx2), (3, .int zx3)]) hx hb dX4_countLeaving_26 hl (by decide) rfl (fun zls hl => ?_)
        obtain ⟨zx4, hv, h⟩ := bd_el h
        refine wX4_countLeaving_L28 ⟨hx, hb, hml, hown, hts, hK, hN⟩ hP hrec hlocks hr F F _ _ _ hv  _ (lv_sub hl [2, 3, 4, 5, 1, 0] rfl) (fun zls hl => ?_)
        refine lv_iload hx hb dX4_countLeaving_96 (lv_at hl 0 rfl) ?_
        cases h
        exact W.iret hx hb hr (fun t ht hW => ⟨rfl, ht⟩) (fun _ h9 => absurd h9 List.not_mem_nil) dX4_countLeaving_98
      · rw [if_neg cb_2] at h
        refine lv_iconst (v := 1) hx hb dX4_countLeaving_20 (by decide) ?_
        cases h
        exact W.iret hx hb hr (fun t ht hW => ⟨rfl, ht⟩) (fun _ h9 => absurd h9 List.not_mem_nil) dX4_countLeaving_21
    · rw [if_neg cb_1] at h
      refine lv_iconst (v := 0) hx hb dX4_countLeaving_12 (by decide) ?_
      cases h
      exact W.iret hx hb hr (fun t ht hW => ⟨rfl, ht⟩) (fun _ h9 => absurd h9 List.not_mem_nil) dX4_countLeaving_13
theorem qX4_countLeaving (l : Launch) (D : va_G) (cI : ClassId) (ad : Nat → Nat) (cells : Nat → Int32) (back : Nat → Int32) (reach : Nat → Int32) (filled : Nat → Int32) (fc : Int32) (makers : Nat → Int32) (mc : Int32) (zx1 : Int32) (zx2 : Int32) (zx3 : Int32) (F d : Nat) (zr0 : Int32) (h : mX4_countLeaving F cells reach d zx1 zx2 zx3 = some zr0) : Met l yX4_countLeaving wsX4_countLeaving ({ frames := 2 + d, cells := 0, slots := 0, locals := 47 + 27 * d } : Room) (tg_P D [(cI, .int)] [.ref (ad 0), .int zx1, .int zx2, .int zx3] ((wT cI ad cells back reach filled fc makers mc))) (tg_Ri zr0) 0 0 (fun _ => False) := qX4_countLeaving_r l D cI ad cells back reach filled fc makers mc F d zx1 zx2 zx3 zr0 h

/-! ===== int turnsThatLeave(int); ===== -/
theorem kX4_turnsThatLeave_1 : Cond.fieldLink RX4 11 "TurnGroups$Tower" "cells" "[I" ∈ wsX4_turnsThatLeave := by decide +kernel
theorem uX4_turnsThatLeave_RX4 : ∀ w ∈ u_ws RX4 TX4 7, w ∈ wsX4_turnsThatLeave := by decide +kernel
def mX4_turnsThatLeave_L28 (F : Nat) (zx1 : Int32) (zx3 : Int32) (cells : Nat → Int32) (reach : Nat → Int32) (filled : Nat → Int32) (fc : Int32) : Nat → Int32 → Int32 → Int32 → Option (Int32)
  | 0, _, _, _ => none
  | f + 1, zx2, zx4, zx5 => if 8 ≤ zx5 then (some zx2) else (bd (mX4_reaches reach zx3 zx5) (fun zr => bd2 (if zr = 0 then (some (zx2, zx4)) else (if ((zx4 >>> (zx5 &&& 31)) &&& 1) = 0 then (bd (mX4_orbitFrom F cells filled fc (zx3 + 1) zx5) (fun zr_1 => gd (inb (mX4_cellOf zx3 zx5) 64) (lT (cells (Int32.toNatClampNeg (mX4_cellOf zx3 zx5))) (fun zx7 => bd (mX4_countLeaving F cells reach 9 (zx1 - zx3) (zx3 + 1) zx7) (fun zr_4 => lT (zx2 + ((mJ6_bitCount_0f7a4 zr_1) * zr_4)) (fun zx2_2 => lT (zx4 ||| zr_1) (fun zx4_2 => some (zx2_2, zx4_2)))))))) else (some (zx2, zx4)))) (fun zx2_1 zx4_1 => mX4_turnsThatLeave_L28 F zx1 zx3 cells reach filled fc f zx2_1 zx4_1 (zx5 + 1))))
theorem mX4_turnsThatLeave_L28_s (F : Nat) (zx1 : Int32) (zx3 : Int32) (cells : Nat → Int32) (reach : Nat → Int32) (filled : Nat → Int32) (fc : Int32) (f : Nat) (zx2 : Int32) (zx4 : Int32) (zx5 : Int32) : mX4_turnsThatLeave_L28 F zx1 zx3 cells reach filled fc (f + 1) zx2 zx4 zx5 = (if 8 ≤ zx5 then (some zx2) else (bd (mX4_reaches reach zx3 zx5) (fun zr => bd2 (if zr = 0 then (some (zx2, zx4)) else (if ((zx4 >>> (zx5 &&& 31)) &&& 1) = 0 then (bd (mX4_orbitFrom F cells filled fc (zx3 + 1) zx5) (fun zr_1 => gd (inb (mX4_cellOf zx3 zx5) 64) (lT (cells (Int32.toNatClampNeg (mX4_cellOf zx3 zx5))) (fun zx7 => bd (mX4_countLeaving F cells reach 9 (zx1 - zx3) (zx3 + 1) zx7) (fun zr_4 => lT (zx2 + ((mJ6_bitCount_0f7a4 zr_1) * zr_4)) (fun zx2_2 => lT (zx4 ||| zr_1) (fun zx4_2 => some (zx2_2, zx4_2)))))))) else (some (zx2, zx4)))) (fun zx2_1 zx4_1 => mX4_turnsThatLeave_L28 F zx1 zx3 cells reach filled fc f zx2_1 zx4_1 (zx5 + 1))))) := rfl
def mX4_turnsThatLeave_L14 (F : Nat) (zx1 : Int32) (cells : Nat → Int32) (reach : Nat → Int32) (filled : Nat → Int32) (fc : Int32) : Nat → Int32 → Int32 → Option (Int32)
  | 0, _, _ => none
  | f + 1, zx2, zx3 => if 8 ≤ zx3 then (some zx2) else (lT (zx3 + 1) (fun zx5 => bd (mX4_turnsThatLeave_L28 F zx1 zx3 cells reach filled fc F zx2 0 zx5) (fun zx2_1 => mX4_turnsThatLeave_L14 F zx1 cells reach filled fc f zx2_1 (zx3 + 1))))
theorem mX4_turnsThatLeave_L14_s (F : Nat) (zx1 : Int32) (cells : Nat → Int32) (reach : Nat → Int32) (filled : Nat → Int32) (fc : Int32) (f : Nat) (zx2 : Int32) (zx3 : Int32) : mX4_turnsThatLeave_L14 F zx1 cells reach filled fc (f + 1) zx2 zx3 = (if 8 ≤ zx3 then (some zx2) else (lT (zx3 + 1) (fun zx5 => bd (mX4_turnsThatLeave_L28 F zx1 zx3 cells reach filled fc F zx2 0 zx5) (fun zx2_1 => mX4_turnsThatLeave_L14 F zx1 cells reach filled fc f zx2_1 (zx3 + 1))))) := rfl
def mX4_turnsThatLeave (F : Nat) (cells : Nat → Int32) (reach : Nat → Int32) (filled : Nat → Int32) (fc : Int32) (zx1 : Int32) : Option (Int32) := lT (if zx1 = 8 then (1 : Int32) else (0 : Int32)) (fun zv => bd (mX4_turnsThatLeave_L14 F zx1 cells reach filled fc F zv 0) (fun zx2 => some zx2))
set_option maxRecDepth 100000 in
set_option maxHeartbeats 4000000 in
theorem wX4_turnsThatLeave_L28 {p : Program} {l : Launch} {e : Env} {s : State} {m : MethodId} {zargs : Array Value} {zbelow : List Frame} {zmeth : Method} {c : Code} {D : va_G} {zQ : State → Prop} {ad : Nat → Nat} {cI : ClassId} {cells : Nat → Int32} {back : Nat → Int32} {reach : Nat → Int32} {filled : Nat → Int32} {fc : Int32} {makers : Nat → Int32} {mc : Int32} {zx1 : Int32} {zx3 : Int32} (C0 : tg_C p s m zmeth c zargs cX4_turnsThatLeave RX4 wsX4_turnsThatLeave 8 D [(cI, .int)]) (hP : va_P D vwCl (wT cI ad cells back reach filled fc makers mc) s.heap) (hlocks : zmeth.locks = false) (hr : zmeth.sig.returnType = (some .int)) (F : Nat) : ∀ (f : Nat) (zx2 : Int32) (zx4 : Int32) (zx5 : Int32) (zo2 : Int32), mX4_turnsThatLeave_L28 F zx1 zx3 cells reach filled fc f zx2 zx4 zx5 = some zo2 → ∀ (zls : Array Slot), lv_has zls 8 [(0, .ref (ad 0)), (1, .int zx1), (2, .int zx2), (3, .int zx3), (4, .int zx4), (5, .int zx5)] → (∀ (zls : Array Slot), lv_has zls 8 [(0, .ref (ad 0)), (1, .int zx1), (2, .int zo2), (3, .int zx3)] → W p l e ({ frames := 12, cells := 0, slots := 0, locals := 317 } : Room) s m zargs zbelow zmeth c s.heap [] 0 0 zQ (F0 m 113 zls [])) → W p l e ({ frames := 12, cells := 0, slots := 0, locals := 317 } : Room) s m zargs zbelow zmeth c s.heap [] 0 0 zQ (F0 m 28 zls []) := by
  obtain ⟨hx, hb, hml, hown, hts, hK, hN⟩ := C0
  intro f
  induction f with
  | zero => intro _ _ _ _ h; exact absurd (show none = some _ from h) (fun h9 => by cases h9)
  | succ f ih =>
    intro zx2 zx4 zx5 zo2 h  zls hl kk
    rw [mX4_turnsThatLeave_L28_s] at h
    refine lv_iload hx hb dX4_turnsThatLeave_28 (lv_at hl 5 rfl) ?_
    refine lv_bipush (v := 8) hx hb dX4_turnsThatLeave_30 (by decide) ?_
    refine lv_icmp_ge (tgt := 113) hx hb dX4_turnsThatLeave_32 (by decide) (fun cb => ?_) (fun cb => ?_)
    · rw [if_pos cb] at h
      cases h
      exact kk  _ (lv_sub hl [0, 1, 2, 3] rfl)
    · rw [if_neg cb] at h
      refine lv_aload_n hx hb dX4_turnsThatLeave_35 rfl (lv_at hl 0 rfl) ?_
      refine lv_iload_n hx hb dX4_turnsThatLeave_36 rfl (lv_at hl 3 rfl) ?_
      refine lv_iload hx hb dX4_turnsThatLeave_37 (lv_at hl 5 rfl) ?_
      obtain ⟨zr, hc, h⟩ := bd_el h
      refine tg_cRi (va_runV (As := [.int zx3, .int zx5]) (rest := []) ⟨hx, hb, hml, hown, hts⟩ (qX4_reaches l D cI ad cells back reach filled fc makers mc zx3 zx5 zr hc) (cwV 2 hts gX4_turnsThatLeave_X4_reaches rfl rfl rfl zVX4_reaches ⟨Nat.le_of_ble_eq_true rfl, Nat.le_of_ble_eq_true rfl⟩) (tg_preV (r := (RX4, TX4, 7)) (ci := 4) (q0 := 0) hP hK hN rfl rfl) rfl rfl hl.1 rfl (lv_room (Nat.le_of_ble_eq_true rfl)) dX4_turnsThatLeave_39 ⟨Nat.zero_le _, Nat.zero_le _⟩) ?_
      obtain ⟨zx2_1, zx4_1, hv, h⟩ := bd2_el h
      have hj : ∀ (zls : Array Slot), lv_has zls 8 [(0, .ref (ad 0)), (1, .int zx1), (2, .int zx2_1), (3, .int zx3), (4, .int zx4_1), (5, .int zx5)] → W p l e ({ frames := 12, cells := 0, slots := 0, locals := 317 } : Room) s m zargs zbelow zmeth c s.heap [] 0 0 zQ (F0 m 107 zls []) := by
        intro zls hl
        refine lv_iinc (v := (zx5 + 1)) (lv' := [(5, .int (zx5 + 1)), (0, .ref (ad 0)), (1, .int zx1), (2, .int zx2_1), (3, .int zx3), (4, .int zx4_1)]) hx hb dX4_turnsThatLeave_107 hl (k := 5) rfl rfl (by decide) rfl (fun zls hl => ?_)
        refine lv_goto (tgt := 28) hx hb dX4_turnsThatLeave_110 (by decide) ?_
        exact ih _ _ _ _ h  _ (lv_sub hl [1, 2, 3, 4, 5, 0] rfl) kk
      refine lv_if_eq (tgt := 107) hx hb dX4_turnsThatLeave_42 (by decide) (fun cb_1 => ?_) (fun cb_1 => ?_)
      · rw [if_pos cb_1] at hv
        cases hv
        exact hj _ (lv_sub hl [0, 1, 2, 3, 4, 5] rfl)
      · rw [if_neg cb_1] at hv
        refine lv_iload hx hb dX4_turnsThatLeave_45 (lv_at hl 4 rfl) ?_
        refine lv_iload hx hb dX4_turnsThatLeave_47 (lv_at hl 5 rfl) ?_
        refine lv_ishr hx hb dX4_turnsThatLeave_49 ?_
        refine lv_iconst (v := 1) hx hb dX4_turnsThatLeave_50 (by decide) ?_
        refine lv_iand hx hb dX4_turnsThatLeave_51 ?_
        refine lv_if_ne (tgt := 107) hx hb dX4_turnsThatLeave_52 (by decide) (fun cb_2 => ?_) (fun cb_2 => ?_)
        · rw [if_neg cb_2] at hv
          cases hv
          exact hj _ (lv_sub hl [0, 1, 2, 3, 4, 5] rfl)
        · rw [if_pos cb_2] at hv
          refine lv_aload_n hx hb dX4_turnsThatLeave_55 rfl (lv_at hl 0 rfl) ?_
          refine lv_iload_n hx hb dX4_turnsThatLeave_56 rfl (lv_at hl 3 rfl) ?_
          refine lv_iconst (v := 1) hx hb dX4_turnsThatLeave_57 (by decide) ?_
          refine lv_iadd hx hb dX4_turnsThatLeave_58 ?_
          refine lv_iload hx hb dX4_turnsThatLeave_59 (lv_at hl 5 rfl) ?_
          obtain ⟨zr_1, hc_1, hv⟩ := bd_el hv
          refine tg_cRi (va_runV (As := [.int (zx3 + 1), .int zx5]) (rest := []) ⟨hx, hb, hml, hown, hts⟩ (qX4_orbitFrom l D cI ad cells back reach filled fc makers mc (zx3 + 1) zx5 F zr_1 hc_1) (cwV 2 hts gX4_turnsThatLeave_X4_orbitFrom rfl rfl rfl zVX4_orbitFrom ⟨Nat.le_of_ble_eq_true rfl, Nat.le_of_ble_eq_true rfl⟩) (tg_preV (r := (RX4, TX4, 7)) (ci := 4) (q0 := 0) hP hK hN rfl rfl) rfl rfl hl.1 rfl (lv_room (Nat.le_of_ble_eq_true rfl)) dX4_turnsThatLeave_61 ⟨Nat.zero_le _, Nat.zero_le _⟩) ?_
          refine lv_istore (lv' := [(6, .int zr_1), (0, .ref (ad 0)), (1, .int zx1), (2, .int zx2), (3, .int zx3), (4, .int zx4), (5, .int zx5)]) hx hb dX4_turnsThatLeave_64 hl (by decide) rfl (fun zls hl => ?_)
          refine lv_aload_n hx hb dX4_turnsThatLeave_66 rfl (lv_at hl 1 rfl) ?_
          refine va_get (D := D) (ci := 4) (v := .ref (ad 1)) (C := RX4) (T := TX4) (N := 7) hx hb hts uX4_turnsThatLeave_RX4 hown hK hP 0 rfl rfl 0 (by decide) (hts _ kX4_turnsThatLeave_1) (fun _ h9 => h9) rfl dX4_turnsThatLeave_67 ?_
          refine lv_iload_n hx hb dX4_turnsThatLeave_70 rfl (lv_at hl 4 rfl) ?_
          refine lv_iload hx hb dX4_turnsThatLeave_71 (lv_at hl 6 rfl) ?_
          refine tg_cRi (va_runS (As := [.int zx3, .int zx5]) (rest := [.ref (ad 1)]) ⟨hx, hb, hml, hown, hts⟩ (qX4_cellOf l D zx3 zx5 _ rfl) (va_cwS 2 hts gX4_turnsThatLeave_X4_cellOf rfl rfl rfl zSX4_cellOf ⟨Nat.le_of_ble_eq_true rfl, Nat.le_of_ble_eq_true rfl⟩) (tg_preS tg_nil (hK.sub (tys' := []) [] rfl) hN) rfl rfl hl.1 rfl (lv_room (Nat.le_of_ble_eq_true rfl)) dX4_turnsThatLeave_73 ⟨Nat.zero_le _, Nat.zero_le _⟩) ?_
          obtain ⟨gg, hv⟩ := gd_el hv
          refine va_iald hx hb hK hP 1 0 rfl rfl (inb_in gg) dX4_turnsThatLeave_76 ?_
          obtain ⟨zx7, ex7, hv⟩ := lT_el hv
          refine tg_top ex7 ?_
          refine lv_istore (lv' := [(7, .int zx7), (6, .int zr_1), (0, .ref (ad 0)), (1, .int zx1), (2, .int zx2), (3, .int zx3), (4, .int zx4), (5, .int zx5)]) hx hb dX4_turnsThatLeave_77 hl (by decide) rfl (fun zls hl => ?_)
          refine lv_iload_n hx hb dX4_turnsThatLeave_79 rfl (lv_at hl 4 rfl) ?_
          refine lv_iload hx hb dX4_turnsThatLeave_80 (lv_at hl 1 rfl) ?_
          refine tg_cRi (va_runS (As := [.int zr_1]) (rest := [.int zx2]) ⟨hx, hb, hml, hown, hts⟩ (qJ6_bitCount_0f7a4 l D zr_1 _ rfl) (va_cwS 1 hts gX4_turnsThatLeave_J6_bitCount_0f7a4 rfl rfl rfl zSJ6_bitCount_0f7a4 ⟨Nat.le_of_ble_eq_true rfl, Nat.le_of_ble_eq_true rfl⟩) (tg_preS tg_nil (hK.sub (tys' := []) [] rfl) hN) rfl rfl hl.1 rfl (lv_room (Nat.le_of_ble_eq_true rfl)) dX4_turnsThatLeave_82 ⟨Nat.zero_le _, Nat.zero_le _⟩) ?_
          refine lv_aload_n hx hb dX4_turnsThatLeave_85 rfl (lv_at hl 2 rfl) ?_
          refine lv_iload_n hx hb dX4_turnsThatLeave_86 rfl (lv_at hl 3 rfl) ?_
          refine lv_iload_n hx hb dX4_turnsThatLeave_87 rfl (lv_at hl 5 rfl) ?_
          refine lv_isub hx hb dX4_turnsThatLeave_88 ?_
          refine lv_iload_n hx hb dX4_turnsThatLeave_89 rfl (lv_at hl 5 rfl) ?_
          refine lv_iconst (v := 1) hx hb dX4_turnsThatLeave_90 (by decide) ?_
          refine lv_iadd hx hb dX4_turnsThatLeave_91 ?_
          refine lv_iload hx hb dX4_turnsThatLeave_92 (lv_at hl 0 rfl) ?_
          obtain ⟨zr_4, hc_2, hv⟩ := bd_el hv
          refine tg_cRi (va_runV (As := [.int (zx1 - zx3), .int (zx3 + 1), .int zx7]) (rest := [.int (mJ6_bitCount_0f7a4 zr_1), .int zx2]) ⟨hx, hb, hml, hown, hts⟩ (qX4_countLeaving l D cI ad cells back reach filled fc makers mc (zx1 - zx3) (zx3 + 1) zx7 F 9 zr_4 hc_2) (cwV 3 hts gX4_turnsThatLeave_X4_countLeaving rfl rfl rfl zVX4_countLeaving ⟨Nat.le_of_ble_eq_true rfl, Nat.le_of_ble_eq_true rfl⟩) (tg_preV (r := (RX4, TX4, 7)) (ci := 4) (q0 := 0) hP hK hN rfl rfl) rfl rfl hl.1 rfl (lv_room (Nat.le_of_ble_eq_true rfl)) dX4_turnsThatLeave_94 ⟨Nat.zero_le _, Nat.zero_le _⟩) ?_
          refine lv_imul hx hb dX4_turnsThatLeave_97 ?_
          refine lv_iadd hx hb dX4_turnsThatLeave_98 ?_
          obtain ⟨zx2_2, ex2_2, hv⟩ := lT_el hv
          refine tg_top ex2_2 ?_
          refine lv_istore_n (lv' := [(2, .int zx2_2), (7, .int zx7), (6, .int zr_1), (0, .ref (ad 0)), (1, .int zx1), (3, .int zx3), (4, .int zx4), (5, .int zx5)]) hx hb dX4_turnsThatLeave_99 rfl hl (by decide) rfl (fun zls hl => ?_)
          refine lv_iload hx hb dX4_turnsThatLeave_100 (lv_at hl 6 rfl) ?_
          refine lv_iload hx hb dX4_turnsThatLeave_102 (lv_at hl 2 rfl) ?_
          refine lv_ior hx hb dX4_turnsThatLeave_104 ?_
          obtain ⟨zx4_2, ex4_2, hv⟩ := lT_el hv
          refine tg_top ex4_2 ?_
          refine lv_istore (lv' := [(4, .int zx4_2), (2, .int zx2_2), (7, .int zx7), (6, .int zr_1), (0, .ref (ad 0)), (1, .int zx1), (3, .int zx3), (5, .int zx5)]) hx hb dX4_turnsThatLeave_105 hl (by decide) rfl (fun zls hl => ?_)
          cases hv
          exact hj _ (lv_sub hl [4, 5, 1, 6, 0, 7] rfl)
set_option maxRecDepth 100000 in
set_option maxHeartbeats 4000000 in
theorem wX4_turnsThatLeave_L14 {p : Program} {l : Launch} {e : Env} {s : State} {m : MethodId} {zargs : Array Value} {zbelow : List Frame} {zmeth : Method} {c : Code} {D : va_G} {zQ : State → Prop} {ad : Nat → Nat} {cI : ClassId} {cells : Nat → Int32} {back : Nat → Int32} {reach : Nat → Int32} {filled : Nat → Int32} {fc : Int32} {makers : Nat → Int32} {mc : Int32} {zx1 : Int32} (C0 : tg_C p s m zmeth c zargs cX4_turnsThatLeave RX4 wsX4_turnsThatLeave 8 D [(cI, .int)]) (hP : va_P D vwCl (wT cI ad cells back reach filled fc makers mc) s.heap) (hlocks : zmeth.locks = false) (hr : zmeth.sig.returnType = (some .int)) (F : Nat) : ∀ (f : Nat) (zx2 : Int32) (zx3 : Int32) (zo2 : Int32), mX4_turnsThatLeave_L14 F zx1 cells reach filled fc f zx2 zx3 = some zo2 → ∀ (zls : Array Slot), lv_has zls 8 [(0, .ref (ad 0)), (1, .int zx1), (2, .int zx2), (3, .int zx3)] → (∀ (zls : Array Slot), lv_has zls 8 [(2, .int zo2)] → W p l e ({ frames := 12, cells := 0, slots := 0, locals := 317 } : Room) s m zargs zbelow zmeth c s.heap [] 0 0 zQ (F0 m 119 zls [])) → W p l e ({ frames := 12, cells := 0, slots := 0, locals := 317 } : Room) s m zargs zbelow zmeth c s.heap [] 0 0 zQ (F0 m 14 zls []) := by
  obtain ⟨hx, hb, hml, hown, hts, hK, hN⟩ := C0
  intro f
  induction f with
  | zero => intro _ _ _ h; exact absurd (show none = some _ from h) (fun h9 => by cases h9)
  | succ f ih =>
    intro zx2 zx3 zo2 h  zls hl kk
    rw [mX4_turnsThatLeave_L14_s] at h
    refine lv_iload_n hx hb dX4_turnsThatLeave_14 rfl (lv_at hl 3 rfl) ?_
    refine lv_bipush (v := 8) hx hb dX4_turnsThatLeave_15 (by decide) ?_
    refine lv_icmp_ge (tgt := 119) hx hb dX4_turnsThatLeave_17 (by decide) (fun cb => ?_) (fun cb => ?_)
    · rw [if_pos cb] at h
      cases h
      exact kk  _ (lv_sub hl [2] rfl)
    · rw [if_neg cb] at h
      refine lv_iconst (v := 0) hx hb dX4_turnsThatLeave_20 (by decide) ?_
      refine lv_istore (lv' := [(4, .int 0), (0, .ref (ad 0)), (1, .int zx1), (2, .int zx2), (3, .int zx3)]) hx hb dX4_turnsThatLeave_21 hl (by decide) rfl (fun zls hl => ?_)
      refine lv_iload_n hx hb dX4_turnsThatLeave_23 rfl (lv_at hl 4 rfl) ?_
      refine lv_iconst (v := 1) hx hb dX4_turnsThatLeave_24 (by decide) ?_
      refine lv_iadd hx hb dX4_turnsThatLeave_25 ?_
      obtain ⟨zx5, ex5, h⟩ := lT_el h
      refine tg_top ex5 ?_
      refine lv_istore (lv' := [(5, .int zx5), (4, .int 0), (0, .ref (ad 0)), (1, .int zx1), (2, .int zx2), (3, .int zx3)]) hx hb dX4_turnsThatLeave_26 hl (by decide) rfl (fun zls hl => ?_)
      obtain ⟨zx2_1, hv, h⟩ := bd_el h
      refine wX4_turnsThatLeave_L28 ⟨hx, hb, hml, hown, hts, hK, hN⟩ hP hlocks hr F F _ _ _ _ hv  _ (lv_sub hl [2, 3, 4, 5, 1, 0] rfl) (fun zls hl => ?_)
      refine lv_iinc (v := (zx3 + 1)) (lv' := [(3, .int (zx3 + 1)), (0, .ref (ad 0)), (1, .int zx1), (2, .int zx2_1)]) hx hb dX4_turnsThatLeave_113 hl (k := 3) rfl rfl (by decide) rfl (fun zls hl => ?_)
      refine lv_goto (tgt := 14) hx hb dX4_turnsThatLeave_116 (by decide) ?_
      exact ih _ _ _ h  _ (lv_sub hl [1, 2, 3, 0] rfl) kk
set_option maxRecDepth 100000 in
set_option maxHeartbeats 4000000 in
theorem qX4_turnsThatLeave (l : Launch) (D : va_G) (cI : ClassId) (ad : Nat → Nat) (cells : Nat → Int32) (back : Nat → Int32) (reach : Nat → Int32) (filled : Nat → Int32) (fc : Int32) (makers : Nat → Int32) (mc : Int32) (zx1 : Int32) (F : Nat) (zr0 : Int32) (h : mX4_turnsThatLeave F cells reach filled fc zx1 = some zr0) : Met l yX4_turnsThatLeave wsX4_turnsThatLeave ({ frames := 12, cells := 0, slots := 0, locals := 317 } : Room) (tg_P D [(cI, .int)] [.ref (ad 0), .int zx1] ((wT cI ad cells back reach filled fc makers mc))) (tg_Ri zr0) 0 0 (fun _ => False) := by
  refine Met.ofW (cc := cX4_turnsThatLeave) (maxL := 8) (ret := (some .int)) (by decide) rfl ?_
  intro p e s m zargs zbelow zmeth c s₁ B hml hv
  obtain ⟨hargs, hP, hK, hN⟩ := hv
  have hx := B.exec
  have hb := B.bytes
  have hr := B.returns
  have hts := atoms_spec (ws := wsX4_turnsThatLeave) B.pre
  have hown : s.vm.findClass RX4 = some m.cls := findClass_of_methodNamed B.named
  have hlocks := B.notSynchronized
  have hl := lv_entry ([.ref (ad 0), .int zx1]) (n := 8) (Nat.le_of_ble_eq_true rfl)
  refine W.eq (g2 := entryFrame m ([.ref (ad 0), .int zx1] : List Value).toArray 8) (by rw [hargs]) ?_
  rw [lg_entry_eq]
  generalize (lg_sl ([.ref (ad 0), .int zx1]) ++ List.replicate (8 - (lg_sl ([.ref (ad 0), .int zx1])).length) Slot.unset).toArray = zls at hl ⊢
  have hl : lv_has zls 8 [(0, .ref (ad 0)), (1, .int zx1)] := hl
  rw [mX4_turnsThatLeave] at h
  refine lv_iload_n hx hb dX4_turnsThatLeave_0 rfl (lv_at hl 1 rfl) ?_
  refine lv_bipush (v := 8) hx hb dX4_turnsThatLeave_1 (by decide) ?_
  obtain ⟨zv, hv, h⟩ := lT_el h
  have hv := hv.symm
  have hj : W p l e ({ frames := 12, cells := 0, slots := 0, locals := 317 } : Room) s m zargs zbelow zmeth c s.heap [] 0 0 (MQ zbelow (tg_Ri zr0) zargs s 0 0 (fun _ => False)) (F0 m 11 zls [.int zv]) := by
    refine lv_istore_n (lv' := [(2, .int zv), (0, .ref (ad 0)), (1, .int zx1)]) hx hb dX4_turnsThatLeave_11 rfl hl (by decide) rfl (fun zls hl => ?_)
    refine lv_iconst (v := 0) hx hb dX4_turnsThatLeave_12 (by decide) ?_
    refine lv_istore_n (lv' := [(3, .int 0), (2, .int zv), (0, .ref (ad 0)), (1, .int zx1)]) hx hb dX4_turnsThatLeave_13 rfl hl (by decide) rfl (fun zls hl => ?_)
    obtain ⟨zx2, hv_1, h⟩ := bd_el h
    refine wX4_turnsThatLeave_L14 ⟨hx, hb, hml, hown, hts, hK, hN⟩ hP hlocks hr F F _ _ _ hv_1  _ (lv_sub hl [2, 3, 1, 0] rfl) (fun zls hl => ?_)
    refine lv_iload_n hx hb dX4_turnsThatLeave_119 rfl (lv_at hl 0 rfl) ?_
    cases h
    exact W.iret hx hb hr (fun t ht hW => ⟨rfl, ht⟩) (fun _ h9 => absurd h9 List.not_mem_nil) dX4_turnsThatLeave_120
  refine lv_icmp_ne (tgt := 10) hx hb dX4_turnsThatLeave_3 (by decide) (fun cb => ?_) (fun cb => ?_)
  · rw [if_neg cb] at hv
    refine lv_iconst (v := 0) hx hb dX4_turnsThatLeave_10 (by decide) ?_
    subst hv
    exact hj 
  · rw [if_pos cb] at hv
    refine lv_iconst (v := 1) hx hb dX4_turnsThatLeave_6 (by decide) ?_
    refine lv_goto (tgt := 11) hx hb dX4_turnsThatLeave_7 (by decide) ?_
    subst hv
    exact hj 
theorem zVX4_turnsThatLeave : yX4_turnsThatLeave.cls = RX4 ∧ yX4_turnsThatLeave.cls ≠ "java/lang/invoke/MethodHandle" ∧ yX4_turnsThatLeave.cls ≠ "java/lang/invoke/VarHandle" ∧ (parseMethodDescriptor yX4_turnsThatLeave.desc).map (fun d => d.parameters.length) = some 1 := by decide +kernel
