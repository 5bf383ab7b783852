/-! ===== private boolean reaches(int, int); ===== -/
theorem kX4_reaches_1 : Cond.fieldLink RX4 18 "TurnGroups$Tower" "reach" "[I" ∈ wsX4_reaches := by decide +kernel
theorem uX4_reaches_RX4 : ∀ w ∈ u_ws RX4 TX4 7, w ∈ wsX4_reaches := by decide +kernel
def mX4_reaches (reach : Nat → Int32) (zx1 : Int32) (zx2 : Int32) : Option (Int32) := gd (inb zx1 8) (if (((reach (Int32.toNatClampNeg zx1)) >>> (zx2 &&& 31)) &&& 1) = 1 then (some (1 : Int32)) else (some (0 : Int32)))
set_option maxRecDepth 100000 in
set_option maxHeartbeats 4000000 in
theorem qX4_reaches (l : Launch) (D : va_G) (cI : ClassId) (ad : Nat → Nat) (cells : Nat → Int32) (back : Nat → Int32) (reach : Nat → Int32) (filled : Nat → Int32) (fc : Int32) (makers : Nat → Int32) (mc : Int32) (zx1 : Int32) (zx2 : Int32) (zr0 : Int32) (h : mX4_reaches reach zx1 zx2 = some zr0) : Met l yX4_reaches wsX4_reaches ({ frames := 0, cells := 0, slots := 0, locals := 0 } : Room) (tg_P D [(cI, .int)] [.ref (ad 0), .int zx1, .int zx2] ((wT cI ad cells back reach filled fc makers mc))) (tg_Ri zr0) 0 0 (fun _ => False) := by
  refine Met.ofW (cc := cX4_reaches) (maxL := 3) (ret := (some .boolean)) (by decide) rfl ?_
  intro p e s m zargs zbelow zmeth c s₁ B hml hv
  obtain ⟨hargs, hP, hK, hN⟩ := hv
  have hx := B.exec
  have hb := B.bytes
  have hr := B.returns
  have hts := atoms_spec (ws := wsX4_reaches) B.pre
  have hown : s.vm.findClass RX4 = some m.cls := findClass_of_methodNamed B.named
  have hlocks := B.notSynchronized
  have hl := lv_entry ([.ref (ad 0), .int zx1, .int zx2]) (n := 3) (Nat.le_of_ble_eq_true rfl)
  refine W.eq (g2 := entryFrame m ([.ref (ad 0), .int zx1, .int zx2] : List Value).toArray 3) (by rw [hargs]) ?_
  rw [lg_entry_eq]
  generalize (lg_sl ([.ref (ad 0), .int zx1, .int zx2]) ++ List.replicate (3 - (lg_sl ([.ref (ad 0), .int zx1, .int zx2])).length) Slot.unset).toArray = zls at hl ⊢
  have hl : lv_has zls 3 [(0, .ref (ad 0)), (1, .int zx1), (2, .int zx2)] := hl
  rw [mX4_reaches] at h
  refine lv_aload_n hx hb dX4_reaches_0 rfl (lv_at hl 0 rfl) ?_
  refine va_get (D := D) (ci := 4) (v := .ref (ad 3)) (C := RX4) (T := TX4) (N := 7) hx hb hts uX4_reaches_RX4 hown hK hP 0 rfl rfl 2 (by decide) (hts _ kX4_reaches_1) (fun _ h9 => h9) rfl dX4_reaches_1 ?_
  refine lv_iload_n hx hb dX4_reaches_4 rfl (lv_at hl 1 rfl) ?_
  obtain ⟨gg, h⟩ := gd_el h
  refine va_iald hx hb hK hP 3 0 rfl rfl (inb_in gg) dX4_reaches_5 ?_
  refine lv_iload_n hx hb dX4_reaches_6 rfl (lv_at hl 2 rfl) ?_
  refine lv_ishr hx hb dX4_reaches_7 ?_
  refine lv_iconst (v := 1) hx hb dX4_reaches_8 (by decide) ?_
  refine lv_iand hx hb dX4_reaches_9 ?_
  refine lv_iconst (v := 1) hx hb dX4_reaches_10 (by decide) ?_
  refine lv_icmp_ne (tgt := 18) hx hb dX4_reaches_11 (by decide) (fun cb => ?_) (fun cb => ?_)
  · rw [if_neg cb] at h
    refine lv_iconst (v := 0) hx hb dX4_reaches_18 (by decide) ?_
    cases h
    exact W.zret hx hb hr rfl (fun t ht hW => ⟨rfl, ht⟩) (fun _ h9 => absurd h9 List.not_mem_nil) dX4_reaches_19
  · rw [if_pos cb] at h
    refine lv_iconst (v := 1) hx hb dX4_reaches_14 (by decide) ?_
    refine lv_goto (tgt := 19) hx hb dX4_reaches_15 (by decide) ?_
    cases h
    exact W.zret hx hb hr rfl (fun t ht hW => ⟨rfl, ht⟩) (fun _ h9 => absurd h9 List.not_mem_nil) dX4_reaches_19
theorem zVX4_reaches : yX4_reaches.cls = RX4 ∧ yX4_reaches.cls ≠ "java/lang/invoke/MethodHandle" ∧ yX4_reaches.cls ≠ "java/lang/invoke/VarHandle" ∧ (parseMethodDescriptor yX4_reaches.desc).map (fun d => d.parameters.length) = some 2 := by decide +kernel

/-! ===== boolean holdsStart(int, int); ===== -/
theorem kX4_holdsStart_1 : Cond.initialized RX6 ∈ wsX4_holdsStart := by decide +kernel
theorem kX4_holdsStart_2 : Cond.static yX6_image ∈ wsX4_holdsStart := by decide +kernel
theorem kX4_holdsStart_3 : Cond.fieldLink RX4 15 "TurnGroups$Tower" "cellsBack" "[I" ∈ wsX4_holdsStart := by decide +kernel
theorem kX4_holdsStart_4 : Cond.static yX6_chain ∈ wsX4_holdsStart := by decide +kernel
theorem uX4_holdsStart_RX4 : ∀ w ∈ u_ws RX4 TX4 7, w ∈ wsX4_holdsStart := by decide +kernel
def mX4_holdsStart_L5 (F : Nat) (zx2 : Int32) (back : Nat → Int32) (reach : Nat → Int32) : Nat → Int32 → Int32 → Option (Int32)
  | 0, _, _ => none
  | f + 1, zx3, zx4 => if zx2 < zx4 then (some (1 : Int32)) else (if 8 ≤ zx4 then (some (1 : Int32)) else (lT (mX6_image zx3 zx4) (fun zx5 => bd (mX4_reaches reach zx4 zx5) (fun zr_1 => if zr_1 = 0 then (some (0 : Int32)) else (bd (if zx5 = zx4 then (some zx3) else (gd (inb (mX4_cellOf zx4 zx5) 64) (bd (mX6_chain F zx3 (back (Int32.toNatClampNeg (mX4_cellOf zx4 zx5)))) (fun zr_3 => some zr_3)))) (fun zx3_1 => mX4_holdsStart_L5 F zx2 back reach f zx3_1 (zx4 + 1)))))))
theorem mX4_holdsStart_L5_s (F : Nat) (zx2 : Int32) (back : Nat → Int32) (reach : Nat → Int32) (f : Nat) (zx3 : Int32) (zx4 : Int32) : mX4_holdsStart_L5 F zx2 back reach (f + 1) zx3 zx4 = (if zx2 < zx4 then (some (1 : Int32)) else (if 8 ≤ zx4 then (some (1 : Int32)) else (lT (mX6_image zx3 zx4) (fun zx5 => bd (mX4_reaches reach zx4 zx5) (fun zr_1 => if zr_1 = 0 then (some (0 : Int32)) else (bd (if zx5 = zx4 then (some zx3) else (gd (inb (mX4_cellOf zx4 zx5) 64) (bd (mX6_chain F zx3 (back (Int32.toNatClampNeg (mX4_cellOf zx4 zx5)))) (fun zr_3 => some zr_3)))) (fun zx3_1 => mX4_holdsStart_L5 F zx2 back reach f zx3_1 (zx4 + 1)))))))) := rfl
def mX4_holdsStart (F : Nat) (back : Nat → Int32) (reach : Nat → Int32) (zx1 : Int32) (zx2 : Int32) : Option (Int32) := mX4_holdsStart_L5 F zx2 back reach F zx1 0
set_option maxRecDepth 100000 in
set_option maxHeartbeats 4000000 in
theorem wX4_holdsStart_L5 {p : Program} {l : Launch} {e : Env} {s : State} {m : MethodId} {zargs : Array Value} {zbelow : List Frame} {zmeth : Method} {c : Code} {D : va_G} {ad : Nat → Nat} {cI : ClassId} {cells : Nat → Int32} {back : Nat → Int32} {reach : Nat → Int32} {filled : Nat → Int32} {fc : Int32} {makers : Nat → Int32} {mc : Int32} {zx2 : Int32} (C0 : tg_C p s m zmeth c zargs cX4_holdsStart RX4 wsX4_holdsStart 6 D [(cI, .int)]) (hP : va_P D vwCl (wT cI ad cells back reach filled fc makers mc) s.heap) (hlocks : zmeth.locks = false) (hr : zmeth.sig.returnType = (some .boolean)) (F : Nat) : ∀ (f : Nat) (zx3 : Int32) (zx4 : Int32) (zr0 : Int32), mX4_holdsStart_L5 F zx2 back reach f zx3 zx4 = some zr0 → ∀ (zls : Array Slot), lv_has zls 6 [(0, .ref (ad 0)), (2, .int zx2), (3, .int zx3), (4, .int zx4)] → W p l e ({ frames := 1, cells := 0, slots := 0, locals := 24 } : Room) s m zargs zbelow zmeth c s.heap [] 0 0 (MQ zbelow (tg_Ri zr0) zargs s 0 0 (fun _ => False)) (F0 m 5 zls []) := by
  obtain ⟨hx, hb, hml, hown, hts, hK, hN⟩ := C0
  intro f
  induction f with
  | zero => intro _ _ _ h; exact absurd (show none = some _ from h) (fun h9 => by cases h9)
  | succ f ih =>
    intro zx3 zx4 zr0 h  zls hl 
    rw [mX4_holdsStart_L5_s] at h
    refine lv_iload hx hb dX4_holdsStart_5 (lv_at hl 3 rfl) ?_
    refine lv_iload_n hx hb dX4_holdsStart_7 rfl (lv_at hl 1 rfl) ?_
    refine lv_icmp_gt (tgt := 69) hx hb dX4_holdsStart_8 (by decide) (fun cb => ?_) (fun cb => ?_)
    · rw [if_pos cb] at h
      refine lv_iconst (v := 1) hx hb dX4_holdsStart_69 (by decide) ?_
      cases h
      exact W.zret hx hb hr rfl (fun t ht hW => ⟨rfl, ht⟩) (fun _ h9 => absurd h9 List.not_mem_nil) dX4_holdsStart_70
    · rw [if_neg cb] at h
      refine lv_iload hx hb dX4_holdsStart_11 (lv_at hl 3 rfl) ?_
      refine lv_bipush (v := 8) hx hb dX4_holdsStart_13 (by decide) ?_
      refine lv_icmp_ge (tgt := 69) hx hb dX4_holdsStart_15 (by decide) (fun cb_1 => ?_) (fun cb_1 => ?_)
      · rw [if_pos cb_1] at h
        refine lv_iconst (v := 1) hx hb dX4_holdsStart_69 (by decide) ?_
        cases h
        exact W.zret hx hb hr rfl (fun t ht hW => ⟨rfl, ht⟩) (fun _ h9 => absurd h9 List.not_mem_nil) dX4_holdsStart_70
      · rw [if_neg cb_1] at h
        refine lv_iload_n hx hb dX4_holdsStart_18 rfl (lv_at hl 2 rfl) ?_
        refine lv_iload hx hb dX4_holdsStart_19 (lv_at hl 3 rfl) ?_
        refine tg_cRi (va_runSN (As := [.int zx3, .int zx4]) (rest := []) ⟨hx, hb, hml, hown, hts⟩ (qX6_image l D zx3 zx4 _ rfl) (⟨va_cnB 2 hts gX4_holdsStart_X6_image_n76 rfl rfl rfl (hN _ nw_X4_76) (hts _ kX4_holdsStart_1) zSX6_image ⟨Nat.le_of_ble_eq_true rfl, Nat.le_of_ble_eq_true rfl⟩, hts _ kX4_holdsStart_2, trivial⟩) (tg_preS tg_nil (hK.sub (tys' := []) [] rfl) hN) rfl rfl hl.1 rfl (lv_room (Nat.le_of_ble_eq_true rfl)) dX4_holdsStart_21 ⟨Nat.zero_le _, Nat.zero_le _⟩) ?_
        obtain ⟨zx5, ex5, h⟩ := lT_el h
        refine tg_top ex5 ?_
        refine lv_istore (lv' := [(5, .int zx5), (0, .ref (ad 0)), (2, .int zx2), (3, .int zx3), (4, .int zx4)]) hx hb dX4_holdsStart_24 hl (by decide) rfl (fun zls hl => ?_)
        refine lv_aload_n hx hb dX4_holdsStart_26 rfl (lv_at hl 1 rfl) ?_
        refine lv_iload hx hb dX4_holdsStart_27 (lv_at hl 4 rfl) ?_
        refine lv_iload hx hb dX4_holdsStart_29 (lv_at hl 0 rfl) ?_
        obtain ⟨zr_1, hc, h⟩ := bd_el h
        refine tg_cRi (va_runV (As := [.int zx4, .int zx5]) (rest := []) ⟨hx, hb, hml, hown, hts⟩ (qX4_reaches l D cI ad cells back reach filled fc makers mc zx4 zx5 zr_1 hc) (cwV 2 hts gX4_holdsStart_X4_reaches rfl rfl rfl zVX4_reaches ⟨Nat.le_of_ble_eq_true rfl, Nat.le_of_ble_eq_true rfl⟩) (tg_preV (r := (RX4, TX4, 7)) (ci := 4) (q0 := 0) hP hK hN rfl rfl) rfl rfl hl.1 rfl (lv_room (Nat.le_of_ble_eq_true rfl)) dX4_holdsStart_31 ⟨Nat.zero_le _, Nat.zero_le _⟩) ?_
        refine lv_if_ne (tgt := 39) hx hb dX4_holdsStart_34 (by decide) (fun cb_2 => ?_) (fun cb_2 => ?_)
        · rw [if_neg cb_2] at h
          refine lv_iload hx hb dX4_holdsStart_39 (lv_at hl 0 rfl) ?_
          refine lv_iload hx hb dX4_holdsStart_41 (lv_at hl 4 rfl) ?_
          obtain ⟨zx3_1, hv, h⟩ := bd_el h
          have hj : ∀ (zls : Array Slot), lv_has zls 6 [(0, .ref (ad 0)), (2, .int zx2), (3, .int zx3_1), (4, .int zx4)] → W p l e ({ frames := 1, cells := 0, slots := 0, locals := 24 } : Room) s m zargs zbelow zmeth c s.heap [] 0 0 (MQ zbelow (tg_Ri zr0) zargs s 0 0 (fun _ => False)) (F0 m 63 zls []) := by
            intro zls hl
            refine lv_iinc (v := (zx4 + 1)) (lv' := [(4, .int (zx4 + 1)), (0, .ref (ad 0)), (2, .int zx2), (3, .int zx3_1)]) hx hb dX4_holdsStart_63 hl (k := 3) rfl rfl (by decide) rfl (fun zls hl => ?_)
            refine lv_goto (tgt := 5) hx hb dX4_holdsStart_66 (by decide) ?_
            exact ih _ _ _ h  _ (lv_sub hl [1, 2, 3, 0] rfl) 
          refine lv_icmp_eq (tgt := 63) hx hb dX4_holdsStart_43 (by decide) (fun cb_3 => ?_) (fun cb_3 => ?_)
          · rw [if_pos cb_3] at hv
            cases hv
            exact hj _ (lv_sub hl [1, 2, 3, 4] rfl)
          · rw [if_neg cb_3] at hv
            refine lv_iload_n hx hb dX4_holdsStart_46 rfl (lv_at hl 3 rfl) ?_
            refine lv_aload_n hx hb dX4_holdsStart_47 rfl (lv_at hl 1 rfl) ?_
            refine va_get (D := D) (ci := 4) (v := .ref (ad 2)) (C := RX4) (T := TX4) (N := 7) hx hb hts uX4_holdsStart_RX4 hown hK hP 0 rfl rfl 1 (by decide) (hts _ kX4_holdsStart_3) (fun _ h9 => h9) rfl dX4_holdsStart_48 ?_
            refine lv_iload hx hb dX4_holdsStart_51 (lv_at hl 4 rfl) ?_
            refine lv_iload hx hb dX4_holdsStart_53 (lv_at hl 0 rfl) ?_
            refine tg_cRi (va_runS (As := [.int zx4, .int zx5]) (rest := [.ref (ad 2), .int zx3]) ⟨hx, hb, hml, hown, hts⟩ (qX4_cellOf l D zx4 zx5 _ rfl) (va_cwS 2 hts gX4_holdsStart_X4_cellOf rfl rfl rfl zSX4_cellOf ⟨Nat.le_of_ble_eq_true rfl, Nat.le_of_ble_eq_true rfl⟩) (tg_preS tg_nil (hK.sub (tys' := []) [] rfl) hN) rfl rfl hl.1 rfl (lv_room (Nat.le_of_ble_eq_true rfl)) dX4_holdsStart_55 ⟨Nat.zero_le _, Nat.zero_le _⟩) ?_
            obtain ⟨gg, hv⟩ := gd_el hv
            refine va_iald hx hb hK hP 2 0 rfl rfl (inb_in gg) dX4_holdsStart_58 ?_
            obtain ⟨zr_3, hc_1, hv⟩ := bd_el hv
            refine tg_cRi (va_runSN (As := [.int zx3, .int (back (Int32.toNatClampNeg (mX4_cellOf zx4 zx5)))]) (rest := []) ⟨hx, hb, hml, hown, hts⟩ (qX6_chain l D zx3 (back (Int32.toNatClampNeg (mX4_cellOf zx4 zx5))) F zr_3 hc_1) (⟨va_cnB 2 hts gX4_holdsStart_X6_chain_n82 rfl rfl rfl (hN _ nw_X4_82) (hts _ kX4_holdsStart_1) zSX6_chain ⟨Nat.le_of_ble_eq_true rfl, Nat.le_of_ble_eq_true rfl⟩, hts _ kX4_holdsStart_4, trivial⟩) (tg_preS tg_nil (hK.sub (tys' := []) [] rfl) hN) rfl rfl hl.1 rfl (lv_room (Nat.le_of_ble_eq_true rfl)) dX4_holdsStart_59 ⟨Nat.zero_le _, Nat.zero_le _⟩) ?_
            refine lv_istore_n (lv' := [(3, .int zr_3), (5, .int zx5), (0, .ref (ad 0)), (2, .int zx2), (4, .int zx4)]) hx hb dX4_holdsStart_62 rfl hl (by decide) rfl (fun zls hl => ?_)
            cases hv
            exact hj _ (lv_sub hl [2, 3, 0, 4] rfl)
        · rw [if_pos cb_2] at h
          refine lv_iconst (v := 0) hx hb dX4_holdsStart_37 (by decide) ?_
          cases h
          exact W.zret hx hb hr rfl (fun t ht hW => ⟨rfl, ht⟩) (fun _ h9 => absurd h9 List.not_mem_nil) dX4_holdsStart_38
set_option maxRecDepth 100000 in
set_option maxHeartbeats 4000000 in
theorem qX4_holdsStart (l : Launch) (D : va_G) (cI : ClassId) (ad : Nat → Nat) (cells : Nat → Int32) (back : Nat → Int32) (reach : Nat → Int32) (filled : Nat → Int32) (fc : Int32) (makers : Nat → Int32) (mc : Int32) (zx1 : Int32) (zx2 : Int32) (F : Nat) (zr0 : Int32) (h : mX4_holdsStart F back reach zx1 zx2 = some zr0) : Met l yX4_holdsStart wsX4_holdsStart ({ frames := 1, cells := 0, slots := 0, locals := 24 } : Room) (tg_P D [(cI, .int)] [.ref (ad 0), .int zx1, .int zx2] ((wT cI ad cells back reach filled fc makers mc))) (tg_Ri zr0) 0 0 (fun _ => False) := by
  refine Met.ofW (cc := cX4_holdsStart) (maxL := 6) (ret := (some .boolean)) (by decide) rfl ?_
  intro p e s m zargs zbelow zmeth c s₁ B hml hv
  obtain ⟨hargs, hP, hK, hN⟩ := hv
  have hx := B.exec
  have hb := B.bytes
  have hr := B.returns
  have hts := atoms_spec (ws := wsX4_holdsStart) B.pre
  have hown : s.vm.findClass RX4 = some m.cls := findClass_of_methodNamed B.named
  have hlocks := B.notSynchronized
  have hl := lv_entry ([.ref (ad 0), .int zx1, .int zx2]) (n := 6) (Nat.le_of_ble_eq_true rfl)
  refine W.eq (g2 := entryFrame m ([.ref (ad 0), .int zx1, .int zx2] : List Value).toArray 6) (by rw [hargs]) ?_
  rw [lg_entry_eq]
  generalize (lg_sl ([.ref (ad 0), .int zx1, .int zx2]) ++ List.replicate (6 - (lg_sl ([.ref (ad 0), .int zx1, .int zx2])).length) Slot.unset).toArray = zls at hl ⊢
  have hl : lv_has zls 6 [(0, .ref (ad 0)), (1, .int zx1), (2, .int zx2)] := hl
  rw [mX4_holdsStart] at h
  refine lv_iload_n hx hb dX4_holdsStart_0 rfl (lv_at hl 1 rfl) ?_
  refine lv_istore_n (lv' := [(3, .int zx1), (0, .ref (ad 0)), (1, .int zx1), (2, .int zx2)]) hx hb dX4_holdsStart_1 rfl hl (by decide) rfl (fun zls hl => ?_)
  refine lv_iconst (v := 0) hx hb dX4_holdsStart_2 (by decide) ?_
  refine lv_istore (lv' := [(4, .int 0), (3, .int zx1), (0, .ref (ad 0)), (1, .int zx1), (2, .int zx2)]) hx hb dX4_holdsStart_3 hl (by decide) rfl (fun zls hl => ?_)
  exact wX4_holdsStart_L5 ⟨hx, hb, hml, hown, hts, hK, hN⟩ hP hlocks hr F F _ _ _ h  _ (lv_sub hl [2, 4, 1, 0] rfl) 
theorem zVX4_holdsStart : yX4_holdsStart.cls = RX4 ∧ yX4_holdsStart.cls ≠ "java/lang/invoke/MethodHandle" ∧ yX4_holdsStart.cls ≠ "java/lang/invoke/VarHandle" ∧ (parseMethodDescriptor yX4_holdsStart.desc).map (fun d => d.parameters.length) = some 2 := by decide +kernel

/-! ===== boolean holds(int); ===== -/
def mX4_holds (F : Nat) (back : Nat → Int32) (reach : Nat → Int32) (zx1 : Int32) : Option (Int32) := bd (mX4_holdsStart F back reach zx1 7) (fun zr => gd (isb zr) (some zr))
set_option maxRecDepth 100000 in
set_option maxHeartbeats 4000000 in
theorem qX4_holds (l : Launch) (D : va_G) (cI : ClassId) (ad : Nat → Nat) (cells : Nat → Int32) (back : Nat → Int32) (reach : Nat → Int32) (filled : Nat → Int32) (fc : Int32) (makers : Nat → Int32) (mc : Int32) (zx1 : Int32) (F : Nat) (zr0 : Int32) (h : mX4_holds F back reach zx1 = some zr0) : Met l yX4_holds wsX4_holds ({ frames := 2, cells := 0, slots := 0, locals := 49 } : Room) (tg_P D [(cI, .int)] [.ref (ad 0), .int zx1] ((wT cI ad cells back reach filled fc makers mc))) (tg_Ri zr0) 0 0 (fun _ => False) := by
  refine Met.ofW (cc := cX4_holds) (maxL := 2) (ret := (some .boolean)) (by decide) rfl ?_
  intro p e s m zargs zbelow zmeth c s₁ B hml hv
  obtain ⟨hargs, hP, hK, hN⟩ := hv
  have hx := B.exec
  have hb := B.bytes
  have hr := B.returns
  have hts := atoms_spec (ws := wsX4_holds) B.pre
  have hown : s.vm.findClass RX4 = some m.cls := findClass_of_methodNamed B.named
  have hlocks := B.notSynchronized
  have hl := lv_entry ([.ref (ad 0), .int zx1]) (n := 2) (Nat.le_of_ble_eq_true rfl)
  refine W.eq (g2 := entryFrame m ([.ref (ad 0), .int zx1] : List Value).toArray 2) (by rw [hargs]) ?_
  rw [lg_entry_eq]
  generalize (lg_sl ([.ref (ad 0), .int zx1]) ++ List.replicate (2 - (lg_sl ([.ref (ad 0), .int zx1])).length) Slot.unset).toArray = zls at hl ⊢
  have hl : lv_has zls 2 [(0, .ref (ad 0)), (1, .int zx1)] := hl
  rw [mX4_holds] at h
  refine lv_aload_n hx hb dX4_holds_0 rfl (lv_at hl 0 rfl) ?_
  refine lv_iload_n hx hb dX4_holds_1 rfl (lv_at hl 1 rfl) ?_
  refine lv_bipush (v := 7) hx hb dX4_holds_2 (by decide) ?_
  obtain ⟨zr, hc, h⟩ := bd_el h
  refine tg_cRi (va_runV (As := [.int zx1, .int 7]) (rest := []) ⟨hx, hb, hml, hown, hts⟩ (qX4_holdsStart l D cI ad cells back reach filled fc makers mc zx1 7 F zr hc) (cwV 2 hts gX4_holds_X4_holdsStart rfl rfl rfl zVX4_holdsStart ⟨Nat.le_of_ble_eq_true rfl, Nat.le_of_ble_eq_true rfl⟩) (tg_preV (r := (RX4, TX4, 7)) (ci := 4) (q0 := 0) hP hK hN rfl rfl) rfl rfl hl.1 rfl (lv_room (Nat.le_of_ble_eq_true rfl)) dX4_holds_4 ⟨Nat.zero_le _, Nat.zero_le _⟩) ?_
  obtain ⟨gz, h⟩ := gd_el h
  cases h
  exact W.zret hx hb hr (isb_n gz) (fun t ht hW => ⟨rfl, ht⟩) (fun _ h9 => absurd h9 List.not_mem_nil) dX4_holds_7
theorem zVX4_holds : yX4_holds.cls = RX4 ∧ yX4_holds.cls ≠ "java/lang/invoke/MethodHandle" ∧ yX4_holds.cls ≠ "java/lang/invoke/VarHandle" ∧ (parseMethodDescriptor yX4_holds.desc).map (fun d => d.parameters.length) = some 1 := by decide +kernel

/-! ===== int turnsFrom(int); ===== -/
theorem kX4_turnsFrom_1 : Cond.fieldLink RX4 18 "TurnGroups$Tower" "reach" "[I" ∈ wsX4_turnsFrom := by decide +kernel
theorem uX4_turnsFrom_RX4 : ∀ w ∈ u_ws RX4 TX4 7, w ∈ wsX4_turnsFrom := by decide +kernel
def mX4_turnsFrom_L4 (reach : Nat → Int32) : Nat → Int32 → Int32 → Option (Int32)
  | 0, _, _ => none
  | f + 1, zx2, zx3 => if 8 ≤ zx3 then (some zx2) else (gd (inb zx3 8) (lT (zx2 * (mJ6_bitCount_0f7a4 (reach (Int32.toNatClampNeg zx3)))) (fun zx2_1 => mX4_turnsFrom_L4 reach f zx2_1 (zx3 + 1))))
theorem mX4_turnsFrom_L4_s (reach : Nat → Int32) (f : Nat) (zx2 : Int32) (zx3 : Int32) : mX4_turnsFrom_L4 reach (f + 1) zx2 zx3 = (if 8 ≤ zx3 then (some zx2) else (gd (inb zx3 8) (lT (zx2 * (mJ6_bitCount_0f7a4 (reach (Int32.toNatClampNeg zx3)))) (fun zx2_1 => mX4_turnsFrom_L4 reach f zx2_1 (zx3 + 1))))) := rfl
def mX4_turnsFrom (F : Nat) (reach : Nat → Int32) (zx1 : Int32) : Option (Int32) := bd (mX4_turnsFrom_L4 reach F 1 zx1) (fun zx2 => some zx2)
set_option maxRecDepth 100000 in
set_option maxHeartbeats 4000000 in
theorem wX4_turnsFrom_L4 {p : Program} {l : Launch} {e : Env} {s : State} {m : MethodId} {zargs : Array Value} {zbelow : List Frame} {zmeth : Method} {c : Code} {D : va_G} {zQ : State → Prop} {ad : Nat → Nat} {cI : ClassId} {cells : Nat → Int32} {back : Nat → Int32} {reach : Nat → Int32} {filled : Nat → Int32} {fc : Int32} {makers : Nat → Int32} {mc : Int32} (C0 : tg_C p s m zmeth c zargs cX4_turnsFrom RX4 wsX4_turnsFrom 4 D [(cI, .int)]) (hP : va_P D vwCl (wT cI ad cells back reach filled fc makers mc) s.heap) (hlocks : zmeth.locks = false) (hr : zmeth.sig.returnType = (some .int)) (F : Nat) : ∀ (f : Nat) (zx2 : Int32) (zx3 : Int32) (zo2 : Int32), mX4_turnsFrom_L4 reach f zx2 zx3 = some zo2 → ∀ (zls : Array Slot), lv_has zls 4 [(0, .ref (ad 0)), (2, .int zx2), (3, .int zx3)] → (∀ (zls : Array Slot), lv_has zls 4 [(2, .int zo2)] → W p l e ({ frames := 1, cells := 0, slots := 0, locals := 20 } : Room) s m zargs zbelow zmeth c s.heap [] 0 0 zQ (F0 m 28 zls [])) → W p l e ({ frames := 1, cells := 0, slots := 0, locals := 20 } : Room) s m zargs zbelow zmeth c s.heap [] 0 0 zQ (F0 m 4 zls []) := by
  obtain ⟨hx, hb, hml, hown, hts, hK, hN⟩ := C0
  intro f
  induction f with
  | zero => intro _ _ _ h; exact absurd (show none = some _ from h) (fun h9 => by cases h9)
  | succ f ih =>
    intro zx2 zx3 zo2 h  zls hl kk
    rw [mX4_turnsFrom_L4_s] at h
    refine lv_iload_n hx hb dX4_turnsFrom_4 rfl (lv_at hl 2 rfl) ?_
    refine lv_bipush (v := 8) hx hb dX4_turnsFrom_5 (by decide) ?_
    refine lv_icmp_ge (tgt := 28) hx hb dX4_turnsFrom_7 (by decide) (fun cb => ?_) (fun cb => ?_)
    · rw [if_pos cb] at h
      cases h
      exact kk  _ (lv_sub hl [1] rfl)
    · rw [if_neg cb] at h
      refine lv_iload_n hx hb dX4_turnsFrom_10 rfl (lv_at hl 1 rfl) ?_
      refine lv_aload_n hx hb dX4_turnsFrom_11 rfl (lv_at hl 0 rfl) ?_
      refine va_get (D := D) (ci := 4) (v := .ref (ad 3)) (C := RX4) (T := TX4) (N := 7) hx hb hts uX4_turnsFrom_RX4 hown hK hP 0 rfl rfl 2 (by decide) (hts _ kX4_turnsFrom_1) (fun _ h9 => h9) rfl dX4_turnsFrom_12 ?_
      refine lv_iload_n hx hb dX4_turnsFrom_15 rfl (lv_at hl 2 rfl) ?_
      obtain ⟨gg, h⟩ := gd_el h
      refine va_iald hx hb hK hP 3 0 rfl rfl (inb_in gg) dX4_turnsFrom_16 ?_
      refine tg_cRi (va_runS (As := [.int (reach (Int32.toNatClampNeg zx3))]) (rest := [.int zx2]) ⟨hx, hb, hml, hown, hts⟩ (qJ6_bitCount_0f7a4 l D (reach (Int32.toNatClampNeg zx3)) _ rfl) (va_cwS 1 hts gX4_turnsFrom_J6_bitCount_0f7a4 rfl rfl rfl zSJ6_bitCount_0f7a4 ⟨Nat.le_of_ble_eq_true rfl, Nat.le_of_ble_eq_true rfl⟩) (tg_preS tg_nil (hK.sub (tys' := []) [] rfl) hN) rfl rfl hl.1 rfl (lv_room (Nat.le_of_ble_eq_true rfl)) dX4_turnsFrom_17 ⟨Nat.zero_le _, Nat.zero_le _⟩) ?_
      refine lv_imul hx hb dX4_turnsFrom_20 ?_
      obtain ⟨zx2_1, ex2_1, h⟩ := lT_el h
      refine tg_top ex2_1 ?_
      refine lv_istore_n (lv' := [(2, .int zx2_1), (0, .ref (ad 0)), (3, .int zx3)]) hx hb dX4_turnsFrom_21 rfl hl (by decide) rfl (fun zls hl => ?_)
      refine lv_iinc (v := (zx3 + 1)) (lv' := [(3, .int (zx3 + 1)), (2, .int zx2_1), (0, .ref (ad 0))]) hx hb dX4_turnsFrom_22 hl (k := 2) rfl rfl (by decide) rfl (fun zls hl => ?_)
      refine lv_goto (tgt := 4) hx hb dX4_turnsFrom_25 (by decide) ?_
      exact ih _ _ _ h  _ (lv_sub hl [2, 1, 0] rfl) kk
set_option maxRecDepth 100000 in
set_option maxHeartbeats 4000000 in
theorem qX4_turnsFrom (l : Launch) (D : va_G) (cI : ClassId) (ad : Nat → Nat) (cells : Nat → Int32) (back : Nat → Int32) (reach : Nat → Int32) (filled : Nat → Int32) (fc : Int32) (makers : Nat → Int32) (mc : Int32) (zx1 : Int32) (F : Nat) (zr0 : Int32) (h : mX4_turnsFrom F reach zx1 = some zr0) : Met l yX4_turnsFrom wsX4_turnsFrom ({ frames := 1, cells := 0, slots := 0, locals := 20 } : Room) (tg_P D [(cI, .int)] [.ref (ad 0), .int zx1] ((wT cI ad cells back reach filled fc makers mc))) (tg_Ri zr0) 0 0 (fun _ => False) := by
  refine Met.ofW (cc := cX4_turnsFrom) (maxL := 4) (ret := (some .int)) (by decide) rfl ?_
  intro p e s m zargs zbelow zmeth c s₁ B hml hv
  obtain ⟨hargs, hP, hK, hN⟩ := hv
  have hx := B.exec
  have hb := B.bytes
  have hr := B.returns
  have hts := atoms_spec (ws := wsX4_turnsFrom) B.pre
  have hown : s.vm.findClass RX4 = some m.cls := findClass_of_methodNamed B.named
  have hlocks := B.notSynchronized
  have hl := lv_entry ([.ref (ad 0), .int zx1]) (n := 4) (Nat.le_of_ble_eq_true rfl)
  refine W.eq (g2 := entryFrame m ([.ref (ad 0), .int zx1] : List Value).toArray 4) (by rw [hargs]) ?_
  rw [lg_entry_eq]
  generalize (lg_sl ([.ref (ad 0), .int zx1]) ++ List.replicate (4 - (lg_sl ([.ref (ad 0), .int zx1])).length) Slot.unset).toArray = zls at hl ⊢
  have hl : lv_has zls 4 [(0, .ref (ad 0)), (1, .int zx1)] := hl
  rw [mX4_turnsFrom] at h
  refine lv_iconst (v := 1) hx hb dX4_turnsFrom_0 (by decide) ?_
  refine lv_istore_n (lv' := [(2, .int 1), (0, .ref (ad 0)), (1, .int zx1)]) hx hb dX4_turnsFrom_1 rfl hl (by decide) rfl (fun zls hl => ?_)
  refine lv_iload_n hx hb dX4_turnsFrom_2 rfl (lv_at hl 2 rfl) ?_
  refine lv_istore_n (lv' := [(3, .int zx1), (2, .int 1), (0, .ref (ad 0)), (1, .int zx1)]) hx hb dX4_turnsFrom_3 rfl hl (by decide) rfl (fun zls hl => ?_)
  obtain ⟨zx2, hv, h⟩ := bd_el h
  refine wX4_turnsFrom_L4 ⟨hx, hb, hml, hown, hts, hK, hN⟩ hP hlocks hr F F _ _ _ hv  _ (lv_sub hl [2, 1, 0] rfl) (fun zls hl => ?_)
  refine lv_iload_n hx hb dX4_turnsFrom_28 rfl (lv_at hl 0 rfl) ?_
  cases h
  exact W.iret hx hb hr (fun t ht hW => ⟨rfl, ht⟩) (fun _ h9 => absurd h9 List.not_mem_nil) dX4_turnsFrom_29
theorem zVX4_turnsFrom : yX4_turnsFrom.cls = RX4 ∧ yX4_turnsFrom.cls ≠ "java/lang/invoke/MethodHandle" ∧ yX4_turnsFrom.cls ≠ "java/lang/invoke/VarHandle" ∧ (parseMethodDescriptor yX4_turnsFrom.desc).map (fun d => d.parameters.length) = some 1 := by decide +kernel

/-! ===== int orbitFrom(int, int); ===== -/
theorem kX4_orbitFrom_1 : Cond.fieldLink RX4 27 "TurnGroups$Tower" "filledCount" "I" ∈ wsX4_orbitFrom := by decide +kernel
theorem kX4_orbitFrom_2 : Cond.fieldLink RX4 21 "TurnGroups$Tower" "filled" "[I" ∈ wsX4_orbitFrom := by decide +kernel
theorem kX4_orbitFrom_3 : Cond.fieldLink RX4 11 "TurnGroups$Tower" "cells" "[I" ∈ wsX4_orbitFrom := by decide +kernel
theorem uX4_orbitFrom_RX4 : ∀ w ∈ u_ws RX4 TX4 7, w ∈ wsX4_orbitFrom := by decide +kernel
def mX4_orbitFrom_L29 (F : Nat) (zx1 : Int32) (cells : Nat → Int32) (filled : Nat → Int32) (fc : Int32) : Nat → Int32 → Int32 → Option (Int32)
  | 0, _, _ => none
  | f + 1, zx3, zx6 => if fc ≤ zx6 then (some zx3) else (gd (inb zx6 28) (bd (if (mX4_levelOf (filled (Int32.toNatClampNeg zx6))) < zx1 then (some zx3) else (gd (inb zx6 28) (gd (inb (filled (Int32.toNatClampNeg zx6)) 64) (bd (mX4_imageOfSet F (cells (Int32.toNatClampNeg (filled (Int32.toNatClampNeg zx6)))) zx3) (fun zr_1 => lT (zx3 ||| zr_1) (fun zx3_2 => some zx3_2)))))) (fun zx3_1 => mX4_orbitFrom_L29 F zx1 cells filled fc f zx3_1 (zx6 + 1))))
theorem mX4_orbitFrom_L29_s (F : Nat) (zx1 : Int32) (cells : Nat → Int32) (filled : Nat → Int32) (fc : Int32) (f : Nat) (zx3 : Int32) (zx6 : Int32) : mX4_orbitFrom_L29 F zx1 cells filled fc (f + 1) zx3 zx6 = (if fc ≤ zx6 then (some zx3) else (gd (inb zx6 28) (bd (if (mX4_levelOf (filled (Int32.toNatClampNeg zx6))) < zx1 then (some zx3) else (gd (inb zx6 28) (gd (inb (filled (Int32.toNatClampNeg zx6)) 64) (bd (mX4_imageOfSet F (cells (Int32.toNatClampNeg (filled (Int32.toNatClampNeg zx6)))) zx3) (fun zr_1 => lT (zx3 ||| zr_1) (fun zx3_2 => some zx3_2)))))) (fun zx3_1 => mX4_orbitFrom_L29 F zx1 cells filled fc f zx3_1 (zx6 + 1))))) := rfl
def mX4_orbitFrom_L10 (F : Nat) (zx1 : Int32) (cells : Nat → Int32) (filled : Nat → Int32) (fc : Int32) : Nat → Int32 → Int32 → Int32 → Option (Int32)
  | 0, _, _, _ => none
  | f + 1, zx3, zx4, zx5 => if 8 ≤ zx5 then (some zx3) else (if zx3 = zx4 then (some zx3) else (bd (mX4_orbitFrom_L29 F zx1 cells filled fc F zx3 0) (fun zx3_1 => mX4_orbitFrom_L10 F zx1 cells filled fc f zx3_1 zx3 (zx5 + 1))))
theorem mX4_orbitFrom_L10_s (F : Nat) (zx1 : Int32) (cells : Nat → Int32) (filled : Nat → Int32) (fc : Int32) (f : Nat) (zx3 : Int32) (zx4 : Int32) (zx5 : Int32) : mX4_orbitFrom_L10 F zx1 cells filled fc (f + 1) zx3 zx4 zx5 = (if 8 ≤ zx5 then (some zx3) else (if zx3 = zx4 then (some zx3) else (bd (mX4_orbitFrom_L29 F zx1 cells filled fc F zx3 0) (fun zx3_1 => mX4_orbitFrom_L10 F zx1 cells filled fc f zx3_1 zx3 (zx5 + 1))))) := rfl
def mX4_orbitFrom (F : Nat) (cells : Nat → Int32) (filled : Nat → Int32) (fc : Int32) (zx1 : Int32) (zx2 : Int32) : Option (Int32) := lT (1 <<< (zx2 &&& 31)) (fun zx3 => bd (mX4_orbitFrom_L10 F zx1 cells filled fc F zx3 0 0) (fun zx3_1 => some zx3_1))
set_option maxRecDepth 100000 in
set_option maxHeartbeats 4000000 in
theorem wX4_orbitFrom_L29 {p : Program} {l : Launch} {e : Env} {s : State} {m : MethodId} {zargs : Array Value} {zbelow : List Frame} {zmeth : Method} {c : Code} {D : va_G} {zQ : State → Prop} {ad : Nat → Nat} {cI : ClassId} {cells : Nat → Int32} {back : Nat → Int32} {reach : Nat → Int32} {filled : Nat → Int32} {fc : Int32} {makers : Nat → Int32} {mc : Int32} {zx1 : Int32} {zx4 : Int32} {zx5 : Int32} (C0 : tg_C p s m zmeth c zargs cX4_orbitFrom RX4 wsX4_orbitFrom 7 D [(cI, .int)]) (hP : va_P D vwCl (wT cI ad cells back reach filled fc makers mc) s.heap) (hlocks : zmeth.locks = false) (hr : zmeth.sig.returnType = (some .int)) (F : Nat) : ∀ (f : Nat) (zx3 : Int32) (zx6 : Int32) (zo3 : Int32), mX4_orbitFrom_L29 F zx1 cells filled fc f zx3 zx6 = some zo3 → ∀ (zls : Array Slot), lv_has zls 7 [(0, .ref (ad 0)), (1, .int zx1), (3, .int zx3), (4, .int zx4), (5, .int zx5), (6, .int zx6)] → (∀ (zls : Array Slot), lv_has zls 7 [(0, .ref (ad 0)), (1, .int zx1), (3, .int zo3), (4, .int zx4), (5, .int zx5)] → W p l e ({ frames := 2, cells := 0, slots := 0, locals := 44 } : Room) s m zargs zbelow zmeth c s.heap [] 0 0 zQ (F0 m 77 zls [])) → W p l e ({ frames := 2, cells := 0, slots := 0, locals := 44 } : Room) s m zargs zbelow zmeth c s.heap [] 0 0 zQ (F0 m 29 zls []) := by
  obtain ⟨hx, hb, hml, hown, hts, hK, hN⟩ := C0
  intro f
  induction f with
  | zero => intro _ _ _ h; exact absurd (show none = some _ from h) (fun h9 => by cases h9)
  | succ f ih =>
    intro zx3 zx6 zo3 h  zls hl kk
    rw [mX4_orbitFrom_L29_s] at h
    refine lv_iload hx hb dX4_orbitFrom_29 (lv_at hl 5 rfl) ?_
    refine lv_aload_n hx hb dX4_orbitFrom_31 rfl (lv_at hl 0 rfl) ?_
    refine va_get (D := D) (ci := 4) (v := .int fc) (C := RX4) (T := TX4) (N := 7) hx hb hts uX4_orbitFrom_RX4 hown hK hP 0 rfl rfl 4 (by decide) (hts _ kX4_orbitFrom_1) (fun _ h9 => h9) rfl dX4_orbitFrom_32 ?_
    refine lv_icmp_ge (tgt := 77) hx hb dX4_orbitFrom_35 (by decide) (fun cb => ?_) (fun cb => ?_)
    · rw [if_pos cb] at h
      cases h
      exact kk  _ (lv_sub hl [0, 1, 2, 3, 4] rfl)
    · rw [if_neg cb] at h
      refine lv_aload_n hx hb dX4_orbitFrom_38 rfl (lv_at hl 0 rfl) ?_
      refine va_get (D := D) (ci := 4) (v := .ref (ad 4)) (C := RX4) (T := TX4) (N := 7) hx hb hts uX4_orbitFrom_RX4 hown hK hP 0 rfl rfl 3 (by decide) (hts _ kX4_orbitFrom_2) (fun _ h9 => h9) rfl dX4_orbitFrom_39 ?_
      refine lv_iload hx hb dX4_orbitFrom_42 (lv_at hl 5 rfl) ?_
      obtain ⟨gg, h⟩ := gd_el h
      refine va_iald hx hb hK hP 4 0 rfl rfl (inb_in gg) dX4_orbitFrom_44 ?_
      refine tg_cRi (va_runS (As := [.int (filled (Int32.toNatClampNeg zx6))]) (rest := []) ⟨hx, hb, hml, hown, hts⟩ (qX4_levelOf l D (filled (Int32.toNatClampNeg zx6)) _ rfl) (va_cwS 1 hts gX4_orbitFrom_X4_levelOf rfl rfl rfl zSX4_levelOf ⟨Nat.le_of_ble_eq_true rfl, Nat.le_of_ble_eq_true rfl⟩) (tg_preS tg_nil (hK.sub (tys' := []) [] rfl) hN) rfl rfl hl.1 rfl (lv_room (Nat.le_of_ble_eq_true rfl)) dX4_orbitFrom_45 ⟨Nat.zero_le _, Nat.zero_le _⟩) ?_
      refine lv_iload_n hx hb dX4_orbitFrom_48 rfl (lv_at hl 1 rfl) ?_
      obtain ⟨zx3_1, hv, h⟩ := bd_el h
      have hj : ∀ (zls : Array Slot), lv_has zls 7 [(0, .ref (ad 0)), (1, .int zx1), (3, .int zx3_1), (4, .int zx4), (5, .int zx5), (6, .int zx6)] → W p l e ({ frames := 2, cells := 0, slots := 0, locals := 44 } : Room) s m zargs zbelow zmeth c s.heap [] 0 0 zQ (F0 m 71 zls []) := by
        intro zls hl
        refine lv_iinc (v := (zx6 + 1)) (lv' := [(6, .int (zx6 + 1)), (0, .ref (ad 0)), (1, .int zx1), (3, .int zx3_1), (4, .int zx4), (5, .int zx5)]) hx hb dX4_orbitFrom_71 hl (k := 5) rfl rfl (by decide) rfl (fun zls hl => ?_)
        refine lv_goto (tgt := 29) hx hb dX4_orbitFrom_74 (by decide) ?_
        exact ih _ _ _ h  _ (lv_sub hl [1, 2, 3, 4, 5, 0] rfl) kk
      refine lv_icmp_lt (tgt := 71) hx hb dX4_orbitFrom_49 (by decide) (fun cb_1 => ?_) (fun cb_1 => ?_)
      · rw [if_pos cb_1] at hv
        cases hv
        exact hj _ (lv_sub hl [0, 1, 2, 3, 4, 5] rfl)
      · rw [if_neg cb_1] at hv
        refine lv_iload_n hx hb dX4_orbitFrom_52 rfl (lv_at hl 2 rfl) ?_
        refine lv_aload_n hx hb dX4_orbitFrom_53 rfl (lv_at hl 0 rfl) ?_
        refine va_get (D := D) (ci := 4) (v := .ref (ad 1)) (C := RX4) (T := TX4) (N := 7) hx hb hts uX4_orbitFrom_RX4 hown hK hP 0 rfl rfl 0 (by decide) (hts _ kX4_orbitFrom_3) (fun _ h9 => h9) rfl dX4_orbitFrom_54 ?_
        refine lv_aload_n hx hb dX4_orbitFrom_57 rfl (lv_at hl 0 rfl) ?_
        refine va_get (D := D) (ci := 4) (v := .ref (ad 4)) (C := RX4) (T := TX4) (N := 7) hx hb hts uX4_orbitFrom_RX4 hown hK hP 0 rfl rfl 3 (by decide) (hts _ kX4_orbitFrom_2) (fun _ h9 => h9) rfl dX4_orbitFrom_58 ?_
        refine lv_iload hx hb dX4_orbitFrom_61 (lv_at hl 5 rfl) ?_
        obtain ⟨gg_1, hv⟩ := gd_el hv
        refine va_iald hx hb hK hP 4 0 rfl rfl (inb_in gg_1) dX4_orbitFrom_63 ?_
        obtain ⟨gg_2, hv⟩ := gd_el hv
        refine va_iald hx hb hK hP 1 0 rfl rfl (inb_in gg_2) dX4_orbitFrom_64 ?_
        refine lv_iload_n hx hb dX4_orbitFrom_65 rfl (lv_at hl 2 rfl) ?_
        obtain ⟨zr_1, hc, hv⟩ := bd_el hv
        refine tg_cRi (va_runS (As := [.int (cells (Int32.toNatClampNeg (filled (Int32.toNatClampNeg zx6)))), .int zx3]) (rest := [.int zx3]) ⟨hx, hb, hml, hown, hts⟩ (qX4_imageOfSet l D (cells (Int32.toNatClampNeg (filled (Int32.toNatClampNeg zx6)))) zx3 F zr_1 hc) (va_cwS 2 hts gX4_orbitFrom_X4_imageOfSet rfl rfl rfl zSX4_imageOfSet ⟨Nat.le_of_ble_eq_true rfl, Nat.le_of_ble_eq_true rfl⟩) (tg_preS tg_nil (hK.sub (tys' := []) [] rfl) hN) rfl rfl hl.1 rfl (lv_room (Nat.le_of_ble_eq_true rfl)) dX4_orbitFrom_66 ⟨Nat.zero_le _, Nat.zero_le _⟩) ?_
        refine lv_ior hx hb dX4_orbitFrom_69 ?_
        obtain ⟨zx3_2, ex3_2, hv⟩ := lT_el hv
        refine tg_top ex3_2 ?_
        refine lv_istore_n (lv' := [(3, .int zx3_2), (0, .ref (ad 0)), (1, .int zx1), (4, .int zx4), (5, .int zx5), (6, .int zx6)]) hx hb dX4_orbitFrom_70 rfl hl (by decide) rfl (fun zls hl => ?_)
        cases hv
        exact hj _ (lv_sub hl [1, 2, 0, 3, 4, 5] rfl)
set_option maxRecDepth 100000 in
set_option maxHeartbeats 4000000 in
theorem wX4_orbitFrom_L10 {p : Program} {l : Launch} {e : Env} {s : State} {m : MethodId} {zargs : Array Value} {zbelow : List Frame} {zmeth : Method} {c : Code} {D : va_G} {zQ : State → Prop} {ad : Nat → Nat} {cI : ClassId} {cells : Nat → Int32} {back : Nat → Int32} {reach : Nat → Int32} {filled : Nat → Int32} {fc : Int32} {makers : Nat → Int32} {mc : Int32} {zx1 : Int32} (C0 : tg_C p s m zmeth c zargs cX4_orbitFrom RX4 wsX4_orbitFrom 7 D [(cI, .int)]) (hP : va_P D vwCl (wT cI ad cells back reach filled fc makers mc) s.heap) (hlocks : zmeth.locks = false) (hr : zmeth.sig.returnType = (some .int)) (F : Nat) : ∀ (f : Nat) (zx3 : Int32) (zx4 : Int32) (zx5 : Int32) (zo3 : Int32), mX4_orbitFrom_L10 F zx1 cells filled fc f zx3 zx4 zx5 = some zo3 → ∀ (zls : Array Slot), lv_has zls 7 [(0, .ref (ad 0)), (1, .int zx1), (3, .int zx3), (4, .int zx4), (5, .int zx5)] → (∀ (zls : Array Slot), lv_has zls 7 [(3, .int zo3)] → W p l e ({ frames := 2, cells := 0, slots := 0, locals := 44 } : Room) s m zargs zbelow zmeth c s.heap [] 0 0 zQ (F0 m 83 zls [])) → W p l e ({ frames := 2, cells := 0, slots := 0, locals := 44 } : Room) s m zargs zbelow zmeth c s.heap [] 0 0 zQ (F0 m 10 zls []) := by
  obtain ⟨hx, hb, hml, hown, hts, hK, hN⟩ := C0
  intro f
  induction f with
  | zero => intro _ _ _ _ h; exact absurd (show none = some _ from h) (fun h9 => by cases h9)
  | succ f ih =>
    intro zx3 zx4 zx5 zo3 h  zls hl kk
    rw [mX4_orbitFrom_L10_s] at h
    refine lv_iload hx hb dX4_orbitFrom_10 (lv_at hl 4 rfl) ?_
    refine lv_bipush (v := 8) hx hb dX4_orbitFrom_12 (by decide) ?_
    refine lv_icmp_ge (tgt := 83) hx hb dX4_orbitFrom_14 (by decide) (fun cb => ?_) (fun cb => ?_)
    · rw [if_pos cb] at h
      cases h
      exact kk  _ (lv_sub hl [2] rfl)
    · rw [if_neg cb] at h
      refine lv_iload_n hx hb dX4_orbitFrom_17 rfl (lv_at hl 2 rfl) ?_
      refine lv_iload hx hb dX4_orbitFrom_18 (lv_at hl 3 rfl) ?_
      refine lv_icmp_eq (tgt := 83) hx hb dX4_orbitFrom_20 (by decide) (fun cb_1 => ?_) (fun cb_1 => ?_)
      · rw [if_pos cb_1] at h
        cases h
        exact kk  _ (lv_sub hl [2] rfl)
      · rw [if_neg cb_1] at h
        refine lv_iload_n hx hb dX4_orbitFrom_23 rfl (lv_at hl 2 rfl) ?_
        refine lv_istore (lv' := [(4, .int zx3), (0, .ref (ad 0)), (1, .int zx1), (3, .int zx3), (5, .int zx5)]) hx hb dX4_orbitFrom_24 hl (by decide) rfl (fun zls hl => ?_)
        refine lv_iconst (v := 0) hx hb dX4_orbitFrom_26 (by decide) ?_
        refine lv_istore (lv' := [(6, .int 0), (4, .int zx3), (0, .ref (ad 0)), (1, .int zx1), (3, .int zx3), (5, .int zx5)]) hx hb dX4_orbitFrom_27 hl (by decide) rfl (fun zls hl => ?_)
        obtain ⟨zx3_1, hv, h⟩ := bd_el h
        refine wX4_orbitFrom_L29 ⟨hx, hb, hml, hown, hts, hK, hN⟩ hP hlocks hr F F _ _ _ hv  _ (lv_sub hl [2, 3, 4, 1, 5, 0] rfl) (fun zls hl => ?_)
        refine lv_iinc (v := (zx5 + 1)) (lv' := [(5, .int (zx5 + 1)), (0, .ref (ad 0)), (1, .int zx1), (3, .int zx3_1), (4, .int zx3)]) hx hb dX4_orbitFrom_77 hl (k := 4) rfl rfl (by decide) rfl (fun zls hl => ?_)
        refine lv_goto (tgt := 10) hx hb dX4_orbitFrom_80 (by decide) ?_
        exact ih _ _ _ _ h  _ (lv_sub hl [1, 2, 3, 4, 0] rfl) kk
set_option maxRecDepth 100000 in
set_option maxHeartbeats 4000000 in
theorem qX4_orbitFrom (l : Launch) (D : va_G) (cI : ClassId) (ad : Nat → Nat) (cells : Nat → Int32) (back : Nat → Int32) (reach : Nat → Int32) (filled : Nat → Int32) (fc : Int32) (makers : Nat → Int32) (mc : Int32) (zx1 : Int32) (zx2 : Int32) (F : Nat) (zr0 : Int32) (h : mX4_orbitFrom F cells filled fc zx1 zx2 = some zr0) : Met l yX4_orbitFrom wsX4_orbitFrom ({ frames := 2, cells := 0, slots := 0, locals := 44 } : Room) (tg_P D [(cI, .int)] [.ref (ad 0), .int zx1, .int zx2] ((wT cI ad cells back reach filled fc makers mc))) (tg_Ri zr0) 0 0 (fun _ => False) := by
  refine Met.ofW (cc := cX4_orbitFrom) (maxL := 7) (ret := (some .int)) (by decide) rfl ?_
  intro p e s m zargs zbelow zmeth c s₁ B hml hv
  obtain ⟨hargs, hP, hK, hN⟩ := hv
  have hx := B.exec
  have hb := B.bytes
  have hr := B.returns
  have hts := atoms_spec (ws := wsX4_orbitFrom) B.pre
  have hown : s.vm.findClass RX4 = some m.cls := findClass_of_methodNamed B.named
  have hlocks := B.notSynchronized
  have hl := lv_entry ([.ref (ad 0), .int zx1, .int zx2]) (n := 7) (Nat.le_of_ble_eq_true rfl)
  refine W.eq (g2 := entryFrame m ([.ref (ad 0), .int zx1, .int zx2] : List Value).toArray 7) (by rw [hargs]) ?_
  rw [lg_entry_eq]
  generalize (lg_sl ([.ref (ad 0), .int zx1, .int zx2]) ++ List.replicate (7 - (lg_sl ([.ref (ad 0), .int zx1, .int zx2])).length) Slot.unset).toArray = zls at hl ⊢
  have hl : lv_has zls 7 [(0, .ref (ad 0)), (1, .int zx1), (2, .int zx2)] := hl
  rw [mX4_orbitFrom] at h
  refine lv_iconst (v := 1) hx hb dX4_orbitFrom_0 (by decide) ?_
  refine lv_iload_n hx hb dX4_orbitFrom_1 rfl (lv_at hl 2 rfl) ?_
  refine lv_ishl hx hb dX4_orbitFrom_2 ?_
  obtain ⟨zx3, ex3, h⟩ := lT_el h
  refine tg_top ex3 ?_
  refine lv_istore_n (lv' := [(3, .int zx3), (0, .ref (ad 0)), (1, .int zx1), (2, .int zx2)]) hx hb dX4_orbitFrom_3 rfl hl (by decide) rfl (fun zls hl => ?_)
  refine lv_iconst (v := 0) hx hb dX4_orbitFrom_4 (by decide) ?_
  refine lv_istore (lv' := [(4, .int 0), (3, .int zx3), (0, .ref (ad 0)), (1, .int zx1), (2, .int zx2)]) hx hb dX4_orbitFrom_5 hl (by decide) rfl (fun zls hl => ?_)
  refine lv_iconst (v := 0) hx hb dX4_orbitFrom_7 (by decide) ?_
  refine lv_istore (lv' := [(5, .int 0), (4, .int 0), (3, .int zx3), (0, .ref (ad 0)), (1, .int zx1), (2, .int zx2)]) hx hb dX4_orbitFrom_8 hl (by decide) rfl (fun zls hl => ?_)
  obtain ⟨zx3_1, hv, h⟩ := bd_el h
  refine wX4_orbitFrom_L10 ⟨hx, hb, hml, hown, hts, hK, hN⟩ hP hlocks hr F F _ _ _ _ hv  _ (lv_sub hl [3, 4, 2, 1, 0] rfl) (fun zls hl => ?_)
  refine lv_iload_n hx hb dX4_orbitFrom_83 rfl (lv_at hl 0 rfl) ?_
  cases h
  exact W.iret hx hb hr (fun t ht hW => ⟨rfl, ht⟩) (fun _ h9 => absurd h9 List.not_mem_nil) dX4_orbitFrom_84
theorem zVX4_orbitFrom : yX4_orbitFrom.cls = RX4 ∧ yX4_orbitFrom.cls ≠ "java/lang/invoke/MethodHandle" ∧ yX4_orbitFrom.cls ≠ "java/lang/invoke/VarHandle" ∧ (parseMethodDescriptor yX4_orbitFrom.desc).map (fun d => d.parameters.length) = some 2 := by decide +kernel

/-! ===== int blockOf(int, int); ===== -/
theorem kX4_blockOf_1 : Cond.constant RX4 100 (1985229328) ∈ wsX4_blockOf := by decide +kernel
theorem kX4_blockOf_2 : Cond.fieldLink RX4 31 "TurnGroups$Tower" "makerCount" "I" ∈ wsX4_blockOf := by decide +kernel
theorem kX4_blockOf_3 : Cond.fieldLink RX4 24 "TurnGroups$Tower" "makers" "[I" ∈ wsX4_blockOf := by decide +kernel
theorem kX4_blockOf_4 : Cond.initialized RX6 ∈ wsX4_blockOf := by decide +kernel
theorem kX4_blockOf_5 : Cond.static yX6_image ∈ wsX4_blockOf := by decide +kernel
theorem uX4_blockOf_RX4 : ∀ w ∈ u_ws RX4 TX4 7, w ∈ wsX4_blockOf := by decide +kernel
def mX4_blockOf_L21 (F : Nat) (makers : Nat → Int32) (mc : Int32) : Nat → Int32 → Int32 → Option (Int32)
  | 0, _, _ => none
  | f + 1, zx3, zx5 => if mc ≤ zx5 then (some zx3) else (gd (inb zx5 16) (bd (mX4_mergeImages F zx3 (makers (Int32.toNatClampNeg zx5))) (fun zr => mX4_blockOf_L21 F makers mc f zr (zx5 + 1))))
theorem mX4_blockOf_L21_s (F : Nat) (makers : Nat → Int32) (mc : Int32) (f : Nat) (zx3 : Int32) (zx5 : Int32) : mX4_blockOf_L21 F makers mc (f + 1) zx3 zx5 = (if mc ≤ zx5 then (some zx3) else (gd (inb zx5 16) (bd (mX4_mergeImages F zx3 (makers (Int32.toNatClampNeg zx5))) (fun zr => mX4_blockOf_L21 F makers mc f zr (zx5 + 1))))) := rfl
def mX4_blockOf_L11 (F : Nat) (makers : Nat → Int32) (mc : Int32) : Nat → Int32 → Int32 → Option (Int32)
  | 0, _, _ => none
  | f + 1, zx3, zx4 => if 8 ≤ zx4 then (some zx3) else (bd (mX4_blockOf_L21 F makers mc F zx3 0) (fun zx3_1 => mX4_blockOf_L11 F makers mc f zx3_1 (zx4 + 1)))
theorem mX4_blockOf_L11_s (F : Nat) (makers : Nat → Int32) (mc : Int32) (f : Nat) (zx3 : Int32) (zx4 : Int32) : mX4_blockOf_L11 F makers mc (f + 1) zx3 zx4 = (if 8 ≤ zx4 then (some zx3) else (bd (mX4_blockOf_L21 F makers mc F zx3 0) (fun zx3_1 => mX4_blockOf_L11 F makers mc f zx3_1 (zx4 + 1)))) := rfl
def mX4_blockOf_L60 (zx1 : Int32) (zx3 : Int32) : Nat → Int32 → Int32 → Option (Int32)
  | 0, _, _ => none
  | f + 1, zx4, zx5 => if 8 ≤ zx5 then (some zx4) else (lT (if (mX6_image zx3 zx5) = (mX6_image zx3 zx1) then (lT (zx4 ||| (1 <<< (zx5 &&& 31))) (fun zx4_2 => zx4_2)) else zx4) (fun zx4_1 => mX4_blockOf_L60 zx1 zx3 f zx4_1 (zx5 + 1)))
theorem mX4_blockOf_L60_s (zx1 : Int32) (zx3 : Int32) (f : Nat) (zx4 : Int32) (zx5 : Int32) : mX4_blockOf_L60 zx1 zx3 (f + 1) zx4 zx5 = (if 8 ≤ zx5 then (some zx4) else (lT (if (mX6_image zx3 zx5) = (mX6_image zx3 zx1) then (lT (zx4 ||| (1 <<< (zx5 &&& 31))) (fun zx4_2 => zx4_2)) else zx4) (fun zx4_1 => mX4_blockOf_L60 zx1 zx3 f zx4_1 (zx5 + 1)))) := rfl
def mX4_blockOf (F : Nat) (makers : Nat → Int32) (mc : Int32) (zx1 : Int32) (zx2 : Int32) : Option (Int32) := bd (mX4_merge F 1985229328 zx1 zx2) (fun zr => bd (mX4_blockOf_L11 F makers mc F zr 0) (fun zx3 => bd (mX4_blockOf_L60 zx1 zx3 F 0 0) (fun zx4 => some zx4)))
set_option maxRecDepth 100000 in
set_option maxHeartbeats 4000000 in
theorem wX4_blockOf_L21 {p : Program} {l : Launch} {e : Env} {s : State} {m : MethodId} {zargs : Array Value} {zbelow : List Frame} {zmeth : Method} {c : Code} {D : va_G} {zQ : State → Prop} {ad : Nat → Nat} {cI : ClassId} {cells : Nat → Int32} {back : Nat → Int32} {reach : Nat → Int32} {filled : Nat → Int32} {fc : Int32} {makers : Nat → Int32} {mc : Int32} {zx1 : Int32} {zx4 : Int32} (C0 : tg_C p s m zmeth c zargs cX4_blockOf RX4 wsX4_blockOf 6 D [(cI, .int)]) (hP : va_P D vwCl (wT cI ad cells back reach filled fc makers mc) s.heap) (hlocks : zmeth.locks = false) (hr : zmeth.sig.returnType = (some .int)) (F : Nat) : ∀ (f : Nat) (zx3 : Int32) (zx5 : Int32) (zo3 : Int32), mX4_blockOf_L21 F makers mc f zx3 zx5 = some zo3 → ∀ (zls : Array Slot), lv_has zls 6 [(0, .ref (ad 0)), (1, .int zx1), (3, .int zx3), (4, .int zx4), (5, .int zx5)] → (∀ (zls : Array Slot), lv_has zls 6 [(0, .ref (ad 0)), (1, .int zx1), (3, .int zo3), (4, .int zx4)] → W p l e ({ frames := 3, cells := 0, slots := 0, locals := 70 } : Room) s m zargs zbelow zmeth c s.heap [] 0 0 zQ (F0 m 48 zls [])) → W p l e ({ frames := 3, cells := 0, slots := 0, locals := 70 } : Room) s m zargs zbelow zmeth c s.heap [] 0 0 zQ (F0 m 21 zls []) := by
  obtain ⟨hx, hb, hml, hown, hts, hK, hN⟩ := C0
  intro f
  induction f with
  | zero => intro _ _ _ h; exact absurd (show none = some _ from h) (fun h9 => by cases h9)
  | succ f ih =>
    intro zx3 zx5 zo3 h  zls hl kk
    rw [mX4_blockOf_L21_s] at h
    refine lv_iload hx hb dX4_blockOf_21 (lv_at hl 4 rfl) ?_
    refine lv_aload_n hx hb dX4_blockOf_23 rfl (lv_at hl 0 rfl) ?_
    refine va_get (D := D) (ci := 4) (v := .int mc) (C := RX4) (T := TX4) (N := 7) hx hb hts uX4_blockOf_RX4 hown hK hP 0 rfl rfl 6 (by decide) (hts _ kX4_blockOf_2) (fun _ h9 => h9) rfl dX4_blockOf_24 ?_
    refine lv_icmp_ge (tgt := 48) hx hb dX4_blockOf_27 (by decide) (fun cb => ?_) (fun cb => ?_)
    · rw [if_pos cb] at h
      cases h
      exact kk  _ (lv_sub hl [0, 1, 2, 3] rfl)
    · rw [if_neg cb] at h
      refine lv_iload_n hx hb dX4_blockOf_30 rfl (lv_at hl 2 rfl) ?_
      refine lv_aload_n hx hb dX4_blockOf_31 rfl (lv_at hl 0 rfl) ?_
      refine va_get (D := D) (ci := 4) (v := .ref (ad 5)) (C := RX4) (T := TX4) (N := 7) hx hb hts uX4_blockOf_RX4 hown hK hP 0 rfl rfl 5 (by decide) (hts _ kX4_blockOf_3) (fun _ h9 => h9) rfl dX4_blockOf_32 ?_
      refine lv_iload hx hb dX4_blockOf_35 (lv_at hl 4 rfl) ?_
      obtain ⟨gg, h⟩ := gd_el h
      refine va_iald hx hb hK hP 5 0 rfl rfl (inb_in gg) dX4_blockOf_37 ?_
      obtain ⟨zr, hc, h⟩ := bd_el h
      refine tg_cRi (va_runS (As := [.int zx3, .int (makers (Int32.toNatClampNeg zx5))]) (rest := []) ⟨hx, hb, hml, hown, hts⟩ (qX4_mergeImages l D zx3 (makers (Int32.toNatClampNeg zx5)) F zr hc) (va_cwS 2 hts gX4_blockOf_X4_mergeImages rfl rfl rfl zSX4_mergeImages ⟨Nat.le_of_ble_eq_true rfl, Nat.le_of_ble_eq_true rfl⟩) (tg_preS tg_nil (hK.sub (tys' := []) [] rfl) hN) rfl rfl hl.1 rfl (lv_room (Nat.le_of_ble_eq_true rfl)) dX4_blockOf_38 ⟨Nat.zero_le _, Nat.zero_le _⟩) ?_
      refine lv_istore_n (lv' := [(3, .int zr), (0, .ref (ad 0)), (1, .int zx1), (4, .int zx4), (5, .int zx5)]) hx hb dX4_blockOf_41 rfl hl (by decide) rfl (fun zls hl => ?_)
      refine lv_iinc (v := (zx5 + 1)) (lv' := [(5, .int (zx5 + 1)), (3, .int zr), (0, .ref (ad 0)), (1, .int zx1), (4, .int zx4)]) hx hb dX4_blockOf_42 hl (k := 4) rfl rfl (by decide) rfl (fun zls hl => ?_)
      refine lv_goto (tgt := 21) hx hb dX4_blockOf_45 (by decide) ?_
      exact ih _ _ _ h  _ (lv_sub hl [2, 3, 1, 4, 0] rfl) kk
set_option maxRecDepth 100000 in
set_option maxHeartbeats 4000000 in
theorem wX4_blockOf_L11 {p : Program} {l : Launch} {e : Env} {s : State} {m : MethodId} {zargs : Array Value} {zbelow : List Frame} {zmeth : Method} {c : Code} {D : va_G} {zQ : State → Prop} {ad : Nat → Nat} {cI : ClassId} {cells : Nat → Int32} {back : Nat → Int32} {reach : Nat → Int32} {filled : Nat → Int32} {fc : Int32} {makers : Nat → Int32} {mc : Int32} {zx1 : Int32} (C0 : tg_C p s m zmeth c zargs cX4_blockOf RX4 wsX4_blockOf 6 D [(cI, .int)]) (hP : va_P D vwCl (wT cI ad cells back reach filled fc makers mc) s.heap) (hlocks : zmeth.locks = false) (hr : zmeth.sig.returnType = (some .int)) (F : Nat) : ∀ (f : Nat) (zx3 : Int32) (zx4 : Int32) (zo3 : Int32), mX4_blockOf_L11 F makers mc f zx3 zx4 = some zo3 → ∀ (zls : Array Slot), lv_has zls 6 [(0, .ref (ad 0)), (1, .int zx1), (3, .int zx3), (4, .int zx4)] → (∀ (zls : Array Slot), lv_has zls 6 [(1, .int zx1), (3, .int zo3)] → W p l e ({ frames := 3, cells := 0, slots := 0, locals := 70 } : Room) s m zargs zbelow zmeth c s.heap [] 0 0 zQ (F0 m 54 zls [])) → W p l e ({ frames := 3, cells := 0, slots := 0, locals := 70 } : Room) s m zargs zbelow zmeth c s.heap [] 0 0 zQ (F0 m 11 zls []) := by
  obtain ⟨hx, hb, hml, hown, hts, hK, hN⟩ := C0
  intro f
  induction f with
  | zero => intro _ _ _ h; exact absurd (show none = some _ from h) (fun h9 => by cases h9)
  | succ f ih =>
    intro zx3 zx4 zo3 h  zls hl kk
    rw [mX4_blockOf_L11_s] at h
    refine lv_iload hx hb dX4_blockOf_11 (lv_at hl 3 rfl) ?_
    refine lv_bipush (v := 8) hx hb dX4_blockOf_13 (by decide) ?_
    refine lv_icmp_ge (tgt := 54) hx hb dX4_blockOf_15 (by decide) (fun cb => ?_) (fun cb => ?_)
    · rw [if_pos cb] at h
      cases h
      exact kk  _ (lv_sub hl [1, 2] rfl)
    · rw [if_neg cb] at h
      refine lv_iconst (v := 0) hx hb dX4_blockOf_18 (by decide) ?_
      refine lv_istore (lv' := [(5, .int 0), (0, .ref (ad 0)), (1, .int zx1), (3, .int zx3), (4, .int zx4)]) hx hb dX4_blockOf_19 hl (by decide) rfl (fun zls hl => ?_)
      obtain ⟨zx3_1, hv, h⟩ := bd_el h
      refine wX4_blockOf_L21 ⟨hx, hb, hml, hown, hts, hK, hN⟩ hP hlocks hr F F _ _ _ hv  _ (lv_sub hl [1, 2, 3, 4, 0] rfl) (fun zls hl => ?_)
      refine lv_iinc (v := (zx4 + 1)) (lv' := [(4, .int (zx4 + 1)), (0, .ref (ad 0)), (1, .int zx1), (3, .int zx3_1)]) hx hb dX4_blockOf_48 hl (k := 3) rfl rfl (by decide) rfl (fun zls hl => ?_)
      refine lv_goto (tgt := 11) hx hb dX4_blockOf_51 (by decide) ?_
      exact ih _ _ _ h  _ (lv_sub hl [1, 2, 3, 0] rfl) kk
set_option maxRecDepth 100000 in
set_option maxHeartbeats 4000000 in
theorem wX4_blockOf_L60 {p : Program} {l : Launch} {e : Env} {s : State} {m : MethodId} {zargs : Array Value} {zbelow : List Frame} {zmeth : Method} {c : Code} {D : va_G} {zQ : State → Prop} {ad : Nat → Nat} {cI : ClassId} {cells : Nat → Int32} {back : Nat → Int32} {reach : Nat → Int32} {filled : Nat → Int32} {fc : Int32} {makers : Nat → Int32} {mc : Int32} {zx1 : Int32} {zx3 : Int32} (C0 : tg_C p s m zmeth c zargs cX4_blockOf RX4 wsX4_blockOf 6 D [(cI, .int)]) (hP : va_P D vwCl (wT cI ad cells back reach filled fc makers mc) s.heap) (hlocks : zmeth.locks = false) (hr : zmeth.sig.returnType = (some .int)) (F : Nat) : ∀ (f : Nat) (zx4 : Int32) (zx5 : Int32) (zo4 : Int32), mX4_blockOf_L60 zx1 zx3 f zx4 zx5 = some zo4 → ∀ (zls : Array Slot), lv_has zls 6 [(1, .int zx1), (3, .int zx3), (4, .int zx4), (5, .int zx5)] → (∀ (zls : Array Slot), lv_has zls 6 [(4, .int zo4)] → W p l e ({ frames := 3, cells := 0, slots := 0, locals := 70 } : Room) s m zargs zbelow zmeth c s.heap [] 0 0 zQ (F0 m 96 zls [])) → W p l e ({ frames := 3, cells := 0, slots := 0, locals := 70 } : Room) s m zargs zbelow zmeth c s.heap [] 0 0 zQ (F0 m 60 zls []) := by
  obtain ⟨hx, hb, hml, hown, hts, hK, hN⟩ := C0
  intro f
  induction f with
  | zero => intro _ _ _ h; exact absurd (show none = some _ from h) (fun h9 => by cases h9)
  | succ f ih =>
    intro zx4 zx5 zo4 h  zls hl kk
    rw [mX4_blockOf_L60_s] at h
    refine lv_iload hx hb dX4_blockOf_60 (lv_at hl 3 rfl) ?_
    refine lv_bipush (v := 8) hx hb dX4_blockOf_62 (by decide) ?_
    refine lv_icmp_ge (tgt := 96) hx hb dX4_blockOf_64 (by decide) (fun cb => ?_) (fun cb => ?_)
    · rw [if_pos cb] at h
      cases h
      exact kk  _ (lv_sub hl [2] rfl)
    · rw [if_neg cb] at h
      refine lv_iload_n hx hb dX4_blockOf_67 rfl (lv_at hl 1 rfl) ?_
      refine lv_iload hx hb dX4_blockOf_68 (lv_at hl 3 rfl) ?_
      refine tg_cRi (va_runSN (As := [.int zx3, .int zx5]) (rest := []) ⟨hx, hb, hml, hown, hts⟩ (qX6_image l D zx3 zx5 _ rfl) (⟨va_cnB 2 hts gX4_blockOf_X6_image_n76 rfl rfl rfl (hN _ nw_X4_76) (hts _ kX4_blockOf_4) zSX6_image ⟨Nat.le_of_ble_eq_true rfl, Nat.le_of_ble_eq_true rfl⟩, hts _ kX4_blockOf_5, trivial⟩) (tg_preS tg_nil (hK.sub (tys' := []) [] rfl) hN) rfl rfl hl.1 rfl (lv_room (Nat.le_of_ble_eq_true rfl)) dX4_blockOf_70 ⟨Nat.zero_le _, Nat.zero_le _⟩) ?_
      refine lv_iload_n hx hb dX4_blockOf_73 rfl (lv_at hl 1 rfl) ?_
      refine lv_iload_n hx hb dX4_blockOf_74 rfl (lv_at hl 0 rfl) ?_
      refine tg_cRi (va_runSN (As := [.int zx3, .int zx1]) (rest := [.int (mX6_image zx3 zx5)]) ⟨hx, hb, hml, hown, hts⟩ (qX6_image l D zx3 zx1 _ rfl) (⟨va_cnB 2 hts gX4_blockOf_X6_image_n76 rfl rfl rfl (hN _ nw_X4_76) (hts _ kX4_blockOf_4) zSX6_image ⟨Nat.le_of_ble_eq_true rfl, Nat.le_of_ble_eq_true rfl⟩, hts _ kX4_blockOf_5, trivial⟩) (tg_preS tg_nil (hK.sub (tys' := []) [] rfl) hN) rfl rfl hl.1 rfl (lv_room (Nat.le_of_ble_eq_true rfl)) dX4_blockOf_75 ⟨Nat.zero_le _, Nat.zero_le _⟩) ?_
      obtain ⟨zx4_1, hv, h⟩ := lT_el h
      have hv := hv.symm
      have hj : ∀ (zls : Array Slot), lv_has zls 6 [(1, .int zx1), (3, .int zx3), (4, .int zx4_1), (5, .int zx5)] → W p l e ({ frames := 3, cells := 0, slots := 0, locals := 70 } : Room) s m zargs zbelow zmeth c s.heap [] 0 0 zQ (F0 m 90 zls []) := by
        intro zls hl
        refine lv_iinc (v := (zx5 + 1)) (lv' := [(5, .int (zx5 + 1)), (1, .int zx1), (3, .int zx3), (4, .int zx4_1)]) hx hb dX4_blockOf_90 hl (k := 3) rfl rfl (by decide) rfl (fun zls hl => ?_)
        refine lv_goto (tgt := 60) hx hb dX4_blockOf_93 (by decide) ?_
        exact ih _ _ _ h  _ (lv_sub hl [1, 2, 3, 0] rfl) kk
      refine lv_icmp_ne (tgt := 90) hx hb dX4_blockOf_78 (by decide) (fun cb_1 => ?_) (fun cb_1 => ?_)
      · rw [if_neg cb_1] at hv
        subst hv
        exact hj _ (lv_sub hl [0, 1, 2, 3] rfl)
      · rw [if_pos cb_1] at hv
        refine lv_iload hx hb dX4_blockOf_81 (lv_at hl 2 rfl) ?_
        refine lv_iconst (v := 1) hx hb dX4_blockOf_83 (by decide) ?_
        refine lv_iload hx hb dX4_blockOf_84 (lv_at hl 3 rfl) ?_
        refine lv_ishl hx hb dX4_blockOf_86 ?_
        refine lv_ior hx hb dX4_blockOf_87 ?_
        obtain ⟨zx4_2, ex4_2, hv⟩ := lT_el hv
        refine tg_top ex4_2 ?_
        refine lv_istore (lv' := [(4, .int zx4_2), (1, .int zx1), (3, .int zx3), (5, .int zx5)]) hx hb dX4_blockOf_88 hl (by decide) rfl (fun zls hl => ?_)
        subst hv
        exact hj _ (lv_sub hl [1, 2, 0, 3] rfl)
set_option maxRecDepth 100000 in
set_option maxHeartbeats 4000000 in
theorem qX4_blockOf (l : Launch) (D : va_G) (cI : ClassId) (ad : Nat → Nat) (cells : Nat → Int32) (back : Nat → Int32) (reach : Nat → Int32) (filled : Nat → Int32) (fc : Int32) (makers : Nat → Int32) (mc : Int32) (zx1 : Int32) (zx2 : Int32) (F : Nat) (zr0 : Int32) (h : mX4_blockOf F makers mc zx1 zx2 = some zr0) : Met l yX4_blockOf wsX4_blockOf ({ frames := 3, cells := 0, slots := 0, locals := 70 } : Room) (tg_P D [(cI, .int)] [.ref (ad 0), .int zx1, .int zx2] ((wT cI ad cells back reach filled fc makers mc))) (tg_Ri zr0) 0 0 (fun _ => False) := by
  refine Met.ofW (cc := cX4_blockOf) (maxL := 6) (ret := (some .int)) (by decide) rfl ?_
  intro p e s m zargs zbelow zmeth c s₁ B hml hv
  obtain ⟨hargs, hP, hK, hN⟩ := hv
  have hx := B.exec
  have hb := B.bytes
  have hr := B.returns
  have hts := atoms_spec (ws := wsX4_blockOf) B.pre
  have hown : s.vm.findClass RX4 = some m.cls := findClass_of_methodNamed B.named
  have hlocks := B.notSynchronized
  have hl := lv_entry ([.ref (ad 0), .int zx1, .int zx2]) (n := 6) (Nat.le_of_ble_eq_true rfl)
  refine W.eq (g2 := entryFrame m ([.ref (ad 0), .int zx1, .int zx2] : List Value).toArray 6) (by rw [hargs]) ?_
  rw [lg_entry_eq]
  generalize (lg_sl ([.ref (ad 0), .int zx1, .int zx2]) ++ List.replicate (6 - (lg_sl ([.ref (ad 0), .int zx1, .int zx2])).length) Slot.unset).toArray = zls at hl ⊢
  have hl : lv_has zls 6 [(0, .ref (ad 0)), (1, .int zx1), (2, .int zx2)] := hl
  rw [mX4_blockOf] at h
  refine lv_ldc hx hb hown (hts _ kX4_blockOf_1) dX4_blockOf_0 ?_
  refine lv_iload_n hx hb dX4_blockOf_2 rfl (lv_at hl 1 rfl) ?_
  refine lv_iload_n hx hb dX4_blockOf_3 rfl (lv_at hl 2 rfl) ?_
  obtain ⟨zr, hc, h⟩ := bd_el h
  refine tg_cRi (va_runS (As := [.int 1985229328, .int zx1, .int zx2]) (rest := []) ⟨hx, hb, hml, hown, hts⟩ (qX4_merge l D 1985229328 zx1 zx2 F zr hc) (va_cwS 3 hts gX4_blockOf_X4_merge rfl rfl rfl zSX4_merge ⟨Nat.le_of_ble_eq_true rfl, Nat.le_of_ble_eq_true rfl⟩) (tg_preS tg_nil (hK.sub (tys' := []) [] rfl) hN) rfl rfl hl.1 rfl (lv_room (Nat.le_of_ble_eq_true rfl)) dX4_blockOf_4 ⟨Nat.zero_le _, Nat.zero_le _⟩) ?_
  refine lv_istore_n (lv' := [(3, .int zr), (0, .ref (ad 0)), (1, .int zx1), (2, .int zx2)]) hx hb dX4_blockOf_7 rfl hl (by decide) rfl (fun zls hl => ?_)
  refine lv_iconst (v := 0) hx hb dX4_blockOf_8 (by decide) ?_
  refine lv_istore (lv' := [(4, .int 0), (3, .int zr), (0, .ref (ad 0)), (1, .int zx1), (2, .int zx2)]) hx hb dX4_blockOf_9 hl (by decide) rfl (fun zls hl => ?_)
  obtain ⟨zx3, hv, h⟩ := bd_el h
  refine wX4_blockOf_L11 ⟨hx, hb, hml, hown, hts, hK, hN⟩ hP hlocks hr F F _ _ _ hv  _ (lv_sub hl [2, 3, 1, 0] rfl) (fun zls hl => ?_)
  refine lv_iconst (v := 0) hx hb dX4_blockOf_54 (by decide) ?_
  refine lv_istore (lv' := [(4, .int 0), (1, .int zx1), (3, .int zx3)]) hx hb dX4_blockOf_55 hl (by decide) rfl (fun zls hl => ?_)
  refine lv_iconst (v := 0) hx hb dX4_blockOf_57 (by decide) ?_
  refine lv_istore (lv' := [(5, .int 0), (4, .int 0), (1, .int zx1), (3, .int zx3)]) hx hb dX4_blockOf_58 hl (by decide) rfl (fun zls hl => ?_)
  obtain ⟨zx4, hv_1, h⟩ := bd_el h
  refine wX4_blockOf_L60 ⟨hx, hb, hml, hown, hts, hK, hN⟩ hP hlocks hr F F _ _ _ hv_1  _ (lv_sub hl [2, 3, 1, 0] rfl) (fun zls hl => ?_)
  refine lv_iload hx hb dX4_blockOf_96 (lv_at hl 0 rfl) ?_
  cases h
  exact W.iret hx hb hr (fun t ht hW => ⟨rfl, ht⟩) (fun _ h9 => absurd h9 List.not_mem_nil) dX4_blockOf_98
theorem zVX4_blockOf : yX4_blockOf.cls = RX4 ∧ yX4_blockOf.cls ≠ "java/lang/invoke/MethodHandle" ∧ yX4_blockOf.cls ≠ "java/lang/invoke/VarHandle" ∧ (parseMethodDescriptor yX4_blockOf.desc).map (fun d => d.parameters.length) = some 2 := by decide +kernel

/-! ===== private int step(int, int, int); ===== -/
theorem kX4_step_1 : Cond.fieldLink RX4 11 "TurnGroups$Tower" "cells" "[I" ∈ wsX4_step := by decide +kernel
theorem kX4_step_2 : Cond.initialized RX6 ∈ wsX4_step := by decide +kernel
theorem kX4_step_3 : Cond.static yX6_chain ∈ wsX4_step := by decide +kernel
theorem uX4_step_RX4 : ∀ w ∈ u_ws RX4 TX4 7, w ∈ wsX4_step := by decide +kernel
def mX4_step (F : Nat) (cells : Nat → Int32) (zx1 : Int32) (zx2 : Int32) (zx3 : Int32) : Option (Int32) := if zx3 = zx1 then (some zx2) else (gd (inb (mX4_cellOf zx1 zx3) 64) (bd (mX6_chain F (cells (Int32.toNatClampNeg (mX4_cellOf zx1 zx3))) zx2) (fun zr_1 => some zr_1)))
set_option maxRecDepth 100000 in
set_option maxHeartbeats 4000000 in
theorem qX4_step (l : Launch) (D : va_G) (cI : ClassId) (ad : Nat → Nat) (cells : Nat → Int32) (back : Nat → Int32) (reach : Nat → Int32) (filled : Nat → Int32) (fc : Int32) (makers : Nat → Int32) (mc : Int32) (zx1 : Int32) (zx2 : Int32) (zx3 : Int32) (F : Nat) (zr0 : Int32) (h : mX4_step F cells zx1 zx2 zx3 = some zr0) : Met l yX4_step wsX4_step ({ frames := 1, cells := 0, slots := 0, locals := 24 } : Room) (tg_P D [(cI, .int)] [.ref (ad 0), .int zx1, .int zx2, .int zx3] ((wT cI ad cells back reach filled fc makers mc))) (tg_Ri zr0) 0 0 (fun _ => False) := by
  refine Met.ofW (cc := cX4_step) (maxL := 4) (ret := (some .int)) (by decide) rfl ?_
  intro p e s m zargs zbelow zmeth c s₁ B hml hv
  obtain ⟨hargs, hP, hK, hN⟩ := hv
  have hx := B.exec
  have hb := B.bytes
  have hr := B.returns
  have hts := atoms_spec (ws := wsX4_step) B.pre
  have hown : s.vm.findClass RX4 = some m.cls := findClass_of_methodNamed B.named
  have hlocks := B.notSynchronized
  have hl := lv_entry ([.ref (ad 0), .int zx1, .int zx2, .int zx3]) (n := 4) (Nat.le_of_ble_eq_true rfl)
  refine W.eq (g2 := entryFrame m ([.ref (ad 0), .int zx1, .int zx2, .int zx3] : List Value).toArray 4) (by rw [hargs]) ?_
  rw [lg_entry_eq]
  generalize (lg_sl ([.ref (ad 0), .int zx1, .int zx2, .int zx3]) ++ List.replicate (4 - (lg_sl ([.ref (ad 0), .int zx1, .int zx2, .int zx3])).length) Slot.unset).toArray = zls at hl ⊢
  have hl : lv_has zls 4 [(0, .ref (ad 0)), (1, .int zx1), (2, .int zx2), (3, .int zx3)] := hl
  rw [mX4_step] at h
  refine lv_iload_n hx hb dX4_step_0 rfl (lv_at hl 3 rfl) ?_
  refine lv_iload_n hx hb dX4_step_1 rfl (lv_at hl 1 rfl) ?_
  refine lv_icmp_ne (tgt := 9) hx hb dX4_step_2 (by decide) (fun cb => ?_) (fun cb => ?_)
  · rw [if_neg cb] at h
    refine lv_aload_n hx hb dX4_step_9 rfl (lv_at hl 0 rfl) ?_
    refine va_get (D := D) (ci := 4) (v := .ref (ad 1)) (C := RX4) (T := TX4) (N := 7) hx hb hts uX4_step_RX4 hown hK hP 0 rfl rfl 0 (by decide) (hts _ kX4_step_1) (fun _ h9 => h9) rfl dX4_step_10 ?_
    refine lv_iload_n hx hb dX4_step_13 rfl (lv_at hl 1 rfl) ?_
    refine lv_iload_n hx hb dX4_step_14 rfl (lv_at hl 3 rfl) ?_
    refine tg_cRi (va_runS (As := [.int zx1, .int zx3]) (rest := [.ref (ad 1)]) ⟨hx, hb, hml, hown, hts⟩ (qX4_cellOf l D zx1 zx3 _ rfl) (va_cwS 2 hts gX4_step_X4_cellOf rfl rfl rfl zSX4_cellOf ⟨Nat.le_of_ble_eq_true rfl, Nat.le_of_ble_eq_true rfl⟩) (tg_preS tg_nil (hK.sub (tys' := []) [] rfl) hN) rfl rfl hl.1 rfl (lv_room (Nat.le_of_ble_eq_true rfl)) dX4_step_15 ⟨Nat.zero_le _, Nat.zero_le _⟩) ?_
    obtain ⟨gg, h⟩ := gd_el h
    refine va_iald hx hb hK hP 1 0 rfl rfl (inb_in gg) dX4_step_18 ?_
    refine lv_iload_n hx hb dX4_step_19 rfl (lv_at hl 2 rfl) ?_
    obtain ⟨zr_1, hc, h⟩ := bd_el h
    refine tg_cRi (va_runSN (As := [.int (cells (Int32.toNatClampNeg (mX4_cellOf zx1 zx3))), .int zx2]) (rest := []) ⟨hx, hb, hml, hown, hts⟩ (qX6_chain l D (cells (Int32.toNatClampNeg (mX4_cellOf zx1 zx3))) zx2 F zr_1 hc) (⟨va_cnB 2 hts gX4_step_X6_chain_n82 rfl rfl rfl (hN _ nw_X4_82) (hts _ kX4_step_2) zSX6_chain ⟨Nat.le_of_ble_eq_true rfl, Nat.le_of_ble_eq_true rfl⟩, hts _ kX4_step_3, trivial⟩) (tg_preS tg_nil (hK.sub (tys' := []) [] rfl) hN) rfl rfl hl.1 rfl (lv_room (Nat.le_of_ble_eq_true rfl)) dX4_step_20 ⟨Nat.zero_le _, Nat.zero_le _⟩) ?_
    cases h
    exact W.iret hx hb hr (fun t ht hW => ⟨rfl, ht⟩) (fun _ h9 => absurd h9 List.not_mem_nil) dX4_step_23
  · rw [if_pos cb] at h
    refine lv_iload_n hx hb dX4_step_5 rfl (lv_at hl 2 rfl) ?_
    refine lv_goto (tgt := 23) hx hb dX4_step_6 (by decide) ?_
    cases h
    exact W.iret hx hb hr (fun t ht hW => ⟨rfl, ht⟩) (fun _ h9 => absurd h9 List.not_mem_nil) dX4_step_23
theorem zVX4_step : yX4_step.cls = RX4 ∧ yX4_step.cls ≠ "java/lang/invoke/MethodHandle" ∧ yX4_step.cls ≠ "java/lang/invoke/VarHandle" ∧ (parseMethodDescriptor yX4_step.desc).map (fun d => d.parameters.length) = some 3 := by decide +kernel

/-! ===== private int descend(int, int, int); ===== -/
theorem kX4_descend_1 : Cond.initialized RX6 ∈ wsX4_descend := by decide +kernel
theorem kX4_descend_2 : Cond.static yX6_reverse ∈ wsX4_descend := by decide +kernel
theorem kX4_descend_3 : Cond.static yX6_image ∈ wsX4_descend := by decide +kernel
def mX4_descend (F : Nat) (cells : Nat → Int32) (zx1 : Int32) (zx2 : Int32) (zx3 : Int32) : Option (Int32) := bd (mX6_reverse F zx2) (fun zr => bd (mX4_step F cells zx1 zx2 (mX6_image zr zx3)) (fun zr_2 => some zr_2))
set_option maxRecDepth 100000 in
set_option maxHeartbeats 4000000 in
theorem qX4_descend (l : Launch) (D : va_G) (cI : ClassId) (ad : Nat → Nat) (cells : Nat → Int32) (back : Nat → Int32) (reach : Nat → Int32) (filled : Nat → Int32) (fc : Int32) (makers : Nat → Int32) (mc : Int32) (zx1 : Int32) (zx2 : Int32) (zx3 : Int32) (F : Nat) (zr0 : Int32) (h : mX4_descend F cells zx1 zx2 zx3 = some zr0) : Met l yX4_descend wsX4_descend ({ frames := 2, cells := 0, slots := 0, locals := 47 } : Room) (tg_P D [(cI, .int)] [.ref (ad 0), .int zx1, .int zx2, .int zx3] ((wT cI ad cells back reach filled fc makers mc))) (tg_Ri zr0) 0 0 (fun _ => False) := by
  refine Met.ofW (cc := cX4_descend) (maxL := 4) (ret := (some .int)) (by decide) rfl ?_
  intro p e s m zargs zbelow zmeth c s₁ B hml hv
  obtain ⟨hargs, hP, hK, hN⟩ := hv
  have hx := B.exec
  have hb := B.bytes
  have hr := B.returns
  have hts := atoms_spec (ws := wsX4_descend) B.pre
  have hown : s.vm.findClass RX4 = some m.cls := findClass_of_methodNamed B.named
  have hlocks := B.notSynchronized
  have hl := lv_entry ([.ref (ad 0), .int zx1, .int zx2, .int zx3]) (n := 4) (Nat.le_of_ble_eq_true rfl)
  refine W.eq (g2 := entryFrame m ([.ref (ad 0), .int zx1, .int zx2, .int zx3] : List Value).toArray 4) (by rw [hargs]) ?_
  rw [lg_entry_eq]
  generalize (lg_sl ([.ref (ad 0), .int zx1, .int zx2, .int zx3]) ++ List.replicate (4 - (lg_sl ([.ref (ad 0), .int zx1, .int zx2, .int zx3])).length) Slot.unset).toArray = zls at hl ⊢
  have hl : lv_has zls 4 [(0, .ref (ad 0)), (1, .int zx1), (2, .int zx2), (3, .int zx3)] := hl
  rw [mX4_descend] at h
  refine lv_aload_n hx hb dX4_descend_0 rfl (lv_at hl 0 rfl) ?_
  refine lv_iload_n hx hb dX4_descend_1 rfl (lv_at hl 1 rfl) ?_
  refine lv_iload_n hx hb dX4_descend_2 rfl (lv_at hl 2 rfl) ?_
  refine lv_iload_n hx hb dX4_descend_3 rfl (lv_at hl 2 rfl) ?_
  obtain ⟨zr, hc, h⟩ := bd_el h
  refine tg_cRi (va_runSN (As := [.int zx2]) (rest := [.int zx2, .int zx1, .ref (ad 0)]) ⟨hx, hb, hml, hown, hts⟩ (qX6_reverse l D zx2 F zr hc) (⟨va_cnB 1 hts gX4_descend_X6_reverse_n123 rfl rfl rfl (hN _ nw_X4_123) (hts _ kX4_descend_1) zSX6_reverse ⟨Nat.le_of_ble_eq_true rfl, Nat.le_of_ble_eq_true rfl⟩, hts _ kX4_descend_2, trivial⟩) (tg_preS tg_nil (hK.sub (tys' := []) [] rfl) hN) rfl rfl hl.1 rfl (lv_room (Nat.le_of_ble_eq_true rfl)) dX4_descend_4 ⟨Nat.zero_le _, Nat.zero_le _⟩) ?_
  refine lv_iload_n hx hb dX4_descend_7 rfl (lv_at hl 3 rfl) ?_
  refine tg_cRi (va_runSN (As := [.int zr, .int zx3]) (rest := [.int zx2, .int zx1, .ref (ad 0)]) ⟨hx, hb, hml, hown, hts⟩ (qX6_image l D zr zx3 _ rfl) (⟨va_cnB 2 hts gX4_descend_X6_image_n76 rfl rfl rfl (hN _ nw_X4_76) (hts _ kX4_descend_1) zSX6_image ⟨Nat.le_of_ble_eq_true rfl, Nat.le_of_ble_eq_true rfl⟩, hts _ kX4_descend_3, trivial⟩) (tg_preS tg_nil (hK.sub (tys' := []) [] rfl) hN) rfl rfl hl.1 rfl (lv_room (Nat.le_of_ble_eq_true rfl)) dX4_descend_8 ⟨Nat.zero_le _, Nat.zero_le _⟩) ?_
  obtain ⟨zr_2, hc_1, h⟩ := bd_el h
  refine tg_cRi (va_runV (As := [.int zx1, .int zx2, .int (mX6_image zr zx3)]) (rest := []) ⟨hx, hb, hml, hown, hts⟩ (qX4_step l D cI ad cells back reach filled fc makers mc zx1 zx2 (mX6_image zr zx3) F zr_2 hc_1) (cwV 3 hts gX4_descend_X4_step rfl rfl rfl zVX4_step ⟨Nat.le_of_ble_eq_true rfl, Nat.le_of_ble_eq_true rfl⟩) (tg_preV (r := (RX4, TX4, 7)) (ci := 4) (q0 := 0) hP hK hN rfl rfl) rfl rfl hl.1 rfl (lv_room (Nat.le_of_ble_eq_true rfl)) dX4_descend_11 ⟨Nat.zero_le _, Nat.zero_le _⟩) ?_
  cases h
  exact W.iret hx hb hr (fun t ht hW => ⟨rfl, ht⟩) (fun _ h9 => absurd h9 List.not_mem_nil) dX4_descend_14
theorem zVX4_descend : yX4_descend.cls = RX4 ∧ yX4_descend.cls ≠ "java/lang/invoke/MethodHandle" ∧ yX4_descend.cls ≠ "java/lang/invoke/VarHandle" ∧ (parseMethodDescriptor yX4_descend.desc).map (fun d => d.parameters.length) = some 3 := by decide +kernel

/-! ===== int turnAt(int); ===== -/
theorem kX4_turnAt_1 : Cond.constant RX4 100 (1985229328) ∈ wsX4_turnAt := by decide +kernel
theorem kX4_turnAt_2 : Cond.fieldLink RX4 18 "TurnGroups$Tower" "reach" "[I" ∈ wsX4_turnAt := by decide +kernel
theorem uX4_turnAt_RX4 : ∀ w ∈ u_ws RX4 TX4 7, w ∈ wsX4_turnAt := by decide +kernel
def mX4_turnAt_L41 (F : Nat) (zx4 : Int32) (zx5 : Int32) (zx6 : Int32) (cells : Nat → Int32) : Nat → Int32 → Int32 → Int32 → Option (Int32 × Int32)
  | 0, _, _, _ => none
  | f + 1, zx2, zx3, zx7 => if 8 ≤ zx7 then (some (zx2, zx3)) else (if ((zx6 >>> (zx7 &&& 31)) &&& 1) = 1 then (if zx5 ≤ zx2 then (lT (zx2 - zx5) (fun zx2_1 => mX4_turnAt_L41 F zx4 zx5 zx6 cells f zx2_1 zx3 (zx7 + 1))) else (bd (mX4_descend F cells zx4 zx3 zx7) (fun zr => some (zx2, zr)))) else (mX4_turnAt_L41 F zx4 zx5 zx6 cells f zx2 zx3 (zx7 + 1)))
theorem mX4_turnAt_L41_s (F : Nat) (zx4 : Int32) (zx5 : Int32) (zx6 : Int32) (cells : Nat → Int32) (f : Nat) (zx2 : Int32) (zx3 : Int32) (zx7 : Int32) : mX4_turnAt_L41 F zx4 zx5 zx6 cells (f + 1) zx2 zx3 zx7 = (if 8 ≤ zx7 then (some (zx2, zx3)) else (if ((zx6 >>> (zx7 &&& 31)) &&& 1) = 1 then (if zx5 ≤ zx2 then (lT (zx2 - zx5) (fun zx2_1 => mX4_turnAt_L41 F zx4 zx5 zx6 cells f zx2_1 zx3 (zx7 + 1))) else (bd (mX4_descend F cells zx4 zx3 zx7) (fun zr => some (zx2, zr)))) else (mX4_turnAt_L41 F zx4 zx5 zx6 cells f zx2 zx3 (zx7 + 1)))) := rfl
def mX4_turnAt_L8 (F : Nat) (cells : Nat → Int32) (reach : Nat → Int32) : Nat → Int32 → Int32 → Int32 → Option (Int32)
  | 0, _, _, _ => none
  | f + 1, zx2, zx3, zx4 => if 8 ≤ zx4 then (some zx3) else (bd (mX4_turnsFrom F reach (zx4 + 1)) (fun zr => gd (inb zx4 8) (bd (mX4_imageOfSet F zx3 (reach (Int32.toNatClampNeg zx4))) (fun zr_1 => bd2 (mX4_turnAt_L41 F zx4 zr zr_1 cells F zx2 zx3 0) (fun zx2_1 zx3_1 => mX4_turnAt_L8 F cells reach f zx2_1 zx3_1 (zx4 + 1))))))
theorem mX4_turnAt_L8_s (F : Nat) (cells : Nat → Int32) (reach : Nat → Int32) (f : Nat) (zx2 : Int32) (zx3 : Int32) (zx4 : Int32) : mX4_turnAt_L8 F cells reach (f + 1) zx2 zx3 zx4 = (if 8 ≤ zx4 then (some zx3) else (bd (mX4_turnsFrom F reach (zx4 + 1)) (fun zr => gd (inb zx4 8) (bd (mX4_imageOfSet F zx3 (reach (Int32.toNatClampNeg zx4))) (fun zr_1 => bd2 (mX4_turnAt_L41 F zx4 zr zr_1 cells F zx2 zx3 0) (fun zx2_1 zx3_1 => mX4_turnAt_L8 F cells reach f zx2_1 zx3_1 (zx4 + 1))))))) := rfl
def mX4_turnAt (F : Nat) (cells : Nat → Int32) (reach : Nat → Int32) (zx1 : Int32) : Option (Int32) := bd (mX4_turnAt_L8 F cells reach F zx1 1985229328 0) (fun zx3 => some zx3)
set_option maxRecDepth 100000 in
set_option maxHeartbeats 4000000 in
theorem wX4_turnAt_L41 {p : Program} {l : Launch} {e : Env} {s : State} {m : MethodId} {zargs : Array Value} {zbelow : List Frame} {zmeth : Method} {c : Code} {D : va_G} {zQ : State → Prop} {ad : Nat → Nat} {cI : ClassId} {cells : Nat → Int32} {back : Nat → Int32} {reach : Nat → Int32} {filled : Nat → Int32} {fc : Int32} {makers : Nat → Int32} {mc : Int32} {zx4 : Int32} {zx5 : Int32} {zx6 : Int32} (C0 : tg_C p s m zmeth c zargs cX4_turnAt RX4 wsX4_turnAt 8 D [(cI, .int)]) (hP : va_P D vwCl (wT cI ad cells back reach filled fc makers mc) s.heap) (hlocks : zmeth.locks = false) (hr : zmeth.sig.returnType = (some .int)) (F : Nat) : ∀ (f : Nat) (zx2 : Int32) (zx3 : Int32) (zx7 : Int32) (zo2 : Int32) (zo3 : Int32), mX4_turnAt_L41 F zx4 zx5 zx6 cells f zx2 zx3 zx7 = some (zo2, zo3) → ∀ (zls : Array Slot), lv_has zls 8 [(0, .ref (ad 0)), (2, .int zx2), (3, .int zx3), (4, .int zx4), (5, .int zx5), (6, .int zx6), (7, .int zx7)] → (∀ (zls : Array Slot), lv_has zls 8 [(0, .ref (ad 0)), (2, .int zo2), (3, .int zo3), (4, .int zx4)] → W p l e ({ frames := 3, cells := 0, slots := 0, locals := 70 } : Room) s m zargs zbelow zmeth c s.heap [] 0 0 zQ (F0 m 89 zls [])) → W p l e ({ frames := 3, cells := 0, slots := 0, locals := 70 } : Room) s m zargs zbelow zmeth c s.heap [] 0 0 zQ (F0 m 41 zls []) := by
  obtain ⟨hx, hb, hml, hown, hts, hK, hN⟩ := C0
  intro f
  induction f with
  | zero => intro _ _ _ _ _ h; exact absurd (show none = some _ from h) (fun h9 => by cases h9)
  | succ f ih =>
    intro zx2 zx3 zx7 zo2 zo3 h  zls hl kk
    rw [mX4_turnAt_L41_s] at h
    refine lv_iload hx hb dX4_turnAt_41 (lv_at hl 6 rfl) ?_
    refine lv_bipush (v := 8) hx hb dX4_turnAt_43 (by decide) ?_
    refine lv_icmp_ge (tgt := 89) hx hb dX4_turnAt_45 (by decide) (fun cb => ?_) (fun cb => ?_)
    · rw [if_pos cb] at h
      cases h
      exact kk  _ (lv_sub hl [0, 1, 2, 3] rfl)
    · rw [if_neg cb] at h
      refine lv_iload hx hb dX4_turnAt_48 (lv_at hl 5 rfl) ?_
      refine lv_iload hx hb dX4_turnAt_50 (lv_at hl 6 rfl) ?_
      refine lv_ishr hx hb dX4_turnAt_52 ?_
      refine lv_iconst (v := 1) hx hb dX4_turnAt_53 (by decide) ?_
      refine lv_iand hx hb dX4_turnAt_54 ?_
      refine lv_iconst (v := 1) hx hb dX4_turnAt_55 (by decide) ?_
      refine lv_icmp_ne (tgt := 83) hx hb dX4_turnAt_56 (by decide) (fun cb_1 => ?_) (fun cb_1 => ?_)
      · rw [if_neg cb_1] at h
        refine lv_iinc (v := (zx7 + 1)) (lv' := [(7, .int (zx7 + 1)), (0, .ref (ad 0)), (2, .int zx2), (3, .int zx3), (4, .int zx4), (5, .int zx5), (6, .int zx6)]) hx hb dX4_turnAt_83 hl (k := 6) rfl rfl (by decide) rfl (fun zls hl => ?_)
        refine lv_goto (tgt := 41) hx hb dX4_turnAt_86 (by decide) ?_
        exact ih _ _ _ _ _ h  _ (lv_sub hl [1, 2, 3, 4, 5, 6, 0] rfl) kk
      · rw [if_pos cb_1] at h
        refine lv_iload_n hx hb dX4_turnAt_59 rfl (lv_at hl 1 rfl) ?_
        refine lv_iload hx hb dX4_turnAt_60 (lv_at hl 4 rfl) ?_
        refine lv_icmp_ge (tgt := 78) hx hb dX4_turnAt_62 (by decide) (fun cb_2 => ?_) (fun cb_2 => ?_)
        · rw [if_pos cb_2] at h
          refine lv_iload_n hx hb dX4_turnAt_78 rfl (lv_at hl 1 rfl) ?_
          refine lv_iload hx hb dX4_turnAt_79 (lv_at hl 4 rfl) ?_
          refine lv_isub hx hb dX4_turnAt_81 ?_
          obtain ⟨zx2_1, ex2_1, h⟩ := lT_el h
          refine tg_top ex2_1 ?_
          refine lv_istore_n (lv' := [(2, .int zx2_1), (0, .ref (ad 0)), (3, .int zx3), (4, .int zx4), (5, .int zx5), (6, .int zx6), (7, .int zx7)]) hx hb dX4_turnAt_82 rfl hl (by decide) rfl (fun zls hl => ?_)
          refine lv_iinc (v := (zx7 + 1)) (lv' := [(7, .int (zx7 + 1)), (2, .int zx2_1), (0, .ref (ad 0)), (3, .int zx3), (4, .int zx4), (5, .int zx5), (6, .int zx6)]) hx hb dX4_turnAt_83 hl (k := 6) rfl rfl (by decide) rfl (fun zls hl => ?_)
          refine lv_goto (tgt := 41) hx hb dX4_turnAt_86 (by decide) ?_
          exact ih _ _ _ _ _ h  _ (lv_sub hl [2, 1, 3, 4, 5, 6, 0] rfl) kk
        · rw [if_neg cb_2] at h
          refine lv_aload_n hx hb dX4_turnAt_65 rfl (lv_at hl 0 rfl) ?_
          refine lv_iload hx hb dX4_turnAt_66 (lv_at hl 3 rfl) ?_
          refine lv_iload_n hx hb dX4_turnAt_68 rfl (lv_at hl 2 rfl) ?_
          refine lv_iload hx hb dX4_turnAt_69 (lv_at hl 6 rfl) ?_
          obtain ⟨zr, hc, h⟩ := bd_el h
          refine tg_cRi (va_runV (As := [.int zx4, .int zx3, .int zx7]) (rest := []) ⟨hx, hb, hml, hown, hts⟩ (qX4_descend l D cI ad cells back reach filled fc makers mc zx4 zx3 zx7 F zr hc) (cwV 3 hts gX4_turnAt_X4_descend rfl rfl rfl zVX4_descend ⟨Nat.le_of_ble_eq_true rfl, Nat.le_of_ble_eq_true rfl⟩) (tg_preV (r := (RX4, TX4, 7)) (ci := 4) (q0 := 0) hP hK hN rfl rfl) rfl rfl hl.1 rfl (lv_room (Nat.le_of_ble_eq_true rfl)) dX4_turnAt_71 ⟨Nat.zero_le _, Nat.zero_le _⟩) ?_
          refine lv_istore_n (lv' := [(3, .int zr), (0, .ref (ad 0)), (2, .int zx2), (4, .int zx4), (5, .int zx5), (6, .int zx6), (7, .int zx7)]) hx hb dX4_turnAt_74 rfl hl (by decide) rfl (fun zls hl => ?_)
          refine lv_goto (tgt := 89) hx hb dX4_turnAt_75 (by decide) ?_
          cases h
          exact kk  _ (lv_sub hl [1, 2, 0, 3] rfl)
set_option maxRecDepth 100000 in
set_option maxHeartbeats 4000000 in
theorem wX4_turnAt_L8 {p : Program} {l : Launch} {e : Env} {s : State} {m : MethodId} {zargs : Array Value} {zbelow : List Frame} {zmeth : Method} {c : Code} {D : va_G} {zQ : State → Prop} {ad : Nat → Nat} {cI : ClassId} {cells : Nat → Int32} {back : Nat → Int32} {reach : Nat → Int32} {filled : Nat → Int32} {fc : Int32} {makers : Nat → Int32} {mc : Int32} (C0 : tg_C p s m zmeth c zargs cX4_turnAt RX4 wsX4_turnAt 8 D [(cI, .int)]) (hP : va_P D vwCl (wT cI ad cells back reach filled fc makers mc) s.heap) (hlocks : zmeth.locks = false) (hr : zmeth.sig.returnType = (some .int)) (F : Nat) : ∀ (f : Nat) (zx2 : Int32) (zx3 : Int32) (zx4 : Int32) (zo3 : Int32), mX4_turnAt_L8 F cells reach f zx2 zx3 zx4 = some zo3 → ∀ (zls : Array Slot), lv_has zls 8 [(0, .ref (ad 0)), (2, .int zx2), (3, .int zx3), (4, .int zx4)] → (∀ (zls : Array Slot), lv_has zls 8 [(3, .int zo3)] → W p l e ({ frames := 3, cells := 0, slots := 0, locals := 70 } : Room) s m zargs zbelow zmeth c s.heap [] 0 0 zQ (F0 m 95 zls [])) → W p l e ({ frames := 3, cells := 0, slots := 0, locals := 70 } : Room) s m zargs zbelow zmeth c s.heap [] 0 0 zQ (F0 m 8 zls []) := by
  obtain ⟨hx, hb, hml, hown, hts, hK, hN⟩ := C0
  intro f
  induction f with
  | zero => intro _ _ _ _ h; exact absurd (show none = some _ from h) (fun h9 => by cases h9)
  | succ f ih =>
    intro zx2 zx3 zx4 zo3 h  zls hl kk
    rw [mX4_turnAt_L8_s] at h
    refine lv_iload hx hb dX4_turnAt_8 (lv_at hl 3 rfl) ?_
    refine lv_bipush (v := 8) hx hb dX4_turnAt_10 (by decide) ?_
    refine lv_icmp_ge (tgt := 95) hx hb dX4_turnAt_12 (by decide) (fun cb => ?_) (fun cb => ?_)
    · rw [if_pos cb] at h
      cases h
      exact kk  _ (lv_sub hl [2] rfl)
    · rw [if_neg cb] at h
      refine lv_aload_n hx hb dX4_turnAt_15 rfl (lv_at hl 0 rfl) ?_
      refine lv_iload hx hb dX4_turnAt_16 (lv_at hl 3 rfl) ?_
      refine lv_iconst (v := 1) hx hb dX4_turnAt_18 (by decide) ?_
      refine lv_iadd hx hb dX4_turnAt_19 ?_
      obtain ⟨zr, hc, h⟩ := bd_el h
      refine tg_cRi (va_runV (As := [.int (zx4 + 1)]) (rest := []) ⟨hx, hb, hml, hown, hts⟩ (qX4_turnsFrom l D cI ad cells back reach filled fc makers mc (zx4 + 1) F zr hc) (cwV 1 hts gX4_turnAt_X4_turnsFrom rfl rfl rfl zVX4_turnsFrom ⟨Nat.le_of_ble_eq_true rfl, Nat.le_of_ble_eq_true rfl⟩) (tg_preV (r := (RX4, TX4, 7)) (ci := 4) (q0 := 0) hP hK hN rfl rfl) rfl rfl hl.1 rfl (lv_room (Nat.le_of_ble_eq_true rfl)) dX4_turnAt_20 ⟨Nat.zero_le _, Nat.zero_le _⟩) ?_
      refine lv_istore (lv' := [(5, .int zr), (0, .ref (ad 0)), (2, .int zx2), (3, .int zx3), (4, .int zx4)]) hx hb dX4_turnAt_23 hl (by decide) rfl (fun zls hl => ?_)
      refine lv_iload_n hx hb dX4_turnAt_25 rfl (lv_at hl 3 rfl) ?_
      refine lv_aload_n hx hb dX4_turnAt_26 rfl (lv_at hl 1 rfl) ?_
      refine va_get (D := D) (ci := 4) (v := .ref (ad 3)) (C := RX4) (T := TX4) (N := 7) hx hb hts uX4_turnAt_RX4 hown hK hP 0 rfl rfl 2 (by decide) (hts _ kX4_turnAt_2) (fun _ h9 => h9) rfl dX4_turnAt_27 ?_
      refine lv_iload hx hb dX4_turnAt_30 (lv_at hl 4 rfl) ?_
      obtain ⟨gg, h⟩ := gd_el h
      refine va_iald hx hb hK hP 3 0 rfl rfl (inb_in gg) dX4_turnAt_32 ?_
      obtain ⟨zr_1, hc_1, h⟩ := bd_el h
      refine tg_cRi (va_runS (As := [.int zx3, .int (reach (Int32.toNatClampNeg zx4))]) (rest := []) ⟨hx, hb, hml, hown, hts⟩ (qX4_imageOfSet l D zx3 (reach (Int32.toNatClampNeg zx4)) F zr_1 hc_1) (va_cwS 2 hts gX4_turnAt_X4_imageOfSet rfl rfl rfl zSX4_imageOfSet ⟨Nat.le_of_ble_eq_true rfl, Nat.le_of_ble_eq_true rfl⟩) (tg_preS tg_nil (hK.sub (tys' := []) [] rfl) hN) rfl rfl hl.1 rfl (lv_room (Nat.le_of_ble_eq_true rfl)) dX4_turnAt_33 ⟨Nat.zero_le _, Nat.zero_le _⟩) ?_
      refine lv_istore (lv' := [(6, .int zr_1), (5, .int zr), (0, .ref (ad 0)), (2, .int zx2), (3, .int zx3), (4, .int zx4)]) hx hb dX4_turnAt_36 hl (by decide) rfl (fun zls hl => ?_)
      refine lv_iconst (v := 0) hx hb dX4_turnAt_38 (by decide) ?_
      refine lv_istore (lv' := [(7, .int 0), (6, .int zr_1), (5, .int zr), (0, .ref (ad 0)), (2, .int zx2), (3, .int zx3), (4, .int zx4)]) hx hb dX4_turnAt_39 hl (by decide) rfl (fun zls hl => ?_)
      obtain ⟨zx2_1, zx3_1, hv, h⟩ := bd2_el h
      refine wX4_turnAt_L41 ⟨hx, hb, hml, hown, hts, hK, hN⟩ hP hlocks hr F F _ _ _ _ _ hv  _ (lv_sub hl [3, 4, 5, 6, 2, 1, 0] rfl) (fun zls hl => ?_)
      refine lv_iinc (v := (zx4 + 1)) (lv' := [(4, .int (zx4 + 1)), (0, .ref (ad 0)), (2, .int zx2_1), (3, .int zx3_1)]) hx hb dX4_turnAt_89 hl (k := 3) rfl rfl (by decide) rfl (fun zls hl => ?_)
      refine lv_goto (tgt := 8) hx hb dX4_turnAt_92 (by decide) ?_
      exact ih _ _ _ _ h  _ (lv_sub hl [1, 2, 3, 0] rfl) kk
set_option maxRecDepth 100000 in
set_option maxHeartbeats 4000000 in
theorem qX4_turnAt (l : Launch) (D : va_G) (cI : ClassId) (ad : Nat → Nat) (cells : Nat → Int32) (back : Nat → Int32) (reach : Nat → Int32) (filled : Nat → Int32) (fc : Int32) (makers : Nat → Int32) (mc : Int32) (zx1 : Int32) (F : Nat) (zr0 : Int32) (h : mX4_turnAt F cells reach zx1 = some zr0) : Met l yX4_turnAt wsX4_turnAt ({ frames := 3, cells := 0, slots := 0, locals := 70 } : Room) (tg_P D [(cI, .int)] [.ref (ad 0), .int zx1] ((wT cI ad cells back reach filled fc makers mc))) (tg_Ri zr0) 0 0 (fun _ => False) := by
  refine Met.ofW (cc := cX4_turnAt) (maxL := 8) (ret := (some .int)) (by decide) rfl ?_
  intro p e s m zargs zbelow zmeth c s₁ B hml hv
  obtain ⟨hargs, hP, hK, hN⟩ := hv
  have hx := B.exec
  have hb := B.bytes
  have hr := B.returns
  have hts := atoms_spec (ws := wsX4_turnAt) B.pre
  have hown : s.vm.findClass RX4 = some m.cls := findClass_of_methodNamed B.named
  have hlocks := B.notSynchronized
  have hl := lv_entry ([.ref (ad 0), .int zx1]) (n := 8) (Nat.le_of_ble_eq_true rfl)
  refine W.eq (g2 := entryFrame m ([.ref (ad 0), .int zx1] : List Value).toArray 8) (by rw [hargs]) ?_
  rw [lg_entry_eq]
  generalize (lg_sl ([.ref (ad 0), .int zx1]) ++ List.replicate (8 - (lg_sl ([.ref (ad 0), .int zx1])).length) Slot.unset).toArray = zls at hl ⊢
  have hl : lv_has zls 8 [(0, .ref (ad 0)), (1, .int zx1)] := hl
  rw [mX4_turnAt] at h
  refine lv_iload_n hx hb dX4_turnAt_0 rfl (lv_at hl 1 rfl) ?_
  refine lv_istore_n (lv' := [(2, .int zx1), (0, .ref (ad 0)), (1, .int zx1)]) hx hb dX4_turnAt_1 rfl hl (by decide) rfl (fun zls hl => ?_)
  refine lv_ldc hx hb hown (hts _ kX4_turnAt_1) dX4_turnAt_2 ?_
  refine lv_istore_n (lv' := [(3, .int 1985229328), (2, .int zx1), (0, .ref (ad 0)), (1, .int zx1)]) hx hb dX4_turnAt_4 rfl hl (by decide) rfl (fun zls hl => ?_)
  refine lv_iconst (v := 0) hx hb dX4_turnAt_5 (by decide) ?_
  refine lv_istore (lv' := [(4, .int 0), (3, .int 1985229328), (2, .int zx1), (0, .ref (ad 0)), (1, .int zx1)]) hx hb dX4_turnAt_6 hl (by decide) rfl (fun zls hl => ?_)
  obtain ⟨zx3, hv, h⟩ := bd_el h
  refine wX4_turnAt_L8 ⟨hx, hb, hml, hown, hts, hK, hN⟩ hP hlocks hr F F _ _ _ _ hv  _ (lv_sub hl [3, 2, 1, 0] rfl) (fun zls hl => ?_)
  refine lv_iload_n hx hb dX4_turnAt_95 rfl (lv_at hl 0 rfl) ?_
  cases h
  exact W.iret hx hb hr (fun t ht hW => ⟨rfl, ht⟩) (fun _ h9 => absurd h9 List.not_mem_nil) dX4_turnAt_96
theorem zVX4_turnAt : yX4_turnAt.cls = RX4 ∧ yX4_turnAt.cls ≠ "java/lang/invoke/MethodHandle" ∧ yX4_turnAt.cls ≠ "java/lang/invoke/VarHandle" ∧ (parseMethodDescriptor yX4_turnAt.desc).map (fun d => d.parameters.length) = some 1 := by decide +kernel

/-! ===== int turnsAheadOf(int); ===== -/
theorem kX4_turnsAheadOf_1 : Cond.constant RX4 100 (1985229328) ∈ wsX4_turnsAheadOf := by decide +kernel
theorem kX4_turnsAheadOf_2 : Cond.initialized RX6 ∈ wsX4_turnsAheadOf := by decide +kernel
theorem kX4_turnsAheadOf_3 : Cond.static yX6_image ∈ wsX4_turnsAheadOf := by decide +kernel
theorem kX4_turnsAheadOf_4 : Cond.fieldLink RX4 18 "TurnGroups$Tower" "reach" "[I" ∈ wsX4_turnsAheadOf := by decide +kernel
theorem uX4_turnsAheadOf_RX4 : ∀ w ∈ u_ws RX4 TX4 7, w ∈ wsX4_turnsAheadOf := by decide +kernel
def mX4_turnsAheadOf_L8 (F : Nat) (zx1 : Int32) (cells : Nat → Int32) (reach : Nat → Int32) : Nat → Int32 → Int32 → Int32 → Option (Int32)
  | 0, _, _, _ => none
  | f + 1, zx2, zx3, zx4 => if 8 ≤ zx4 then (some zx2) else (lT (mX6_image zx1 zx4) (fun zx5 => gd (inb zx4 8) (bd (mX4_imageOfSet F zx3 (reach (Int32.toNatClampNeg zx4))) (fun zr_1 => lT (zr_1 &&& ((1 <<< (zx5 &&& 31)) - 1)) (fun zx7 => bd (mX4_turnsFrom F reach (zx4 + 1)) (fun zr_3 => lT (zx2 + ((mJ6_bitCount_0f7a4 zx7) * zr_3)) (fun zx2_1 => if ((zr_1 >>> (zx5 &&& 31)) &&& 1) = 0 then (some zx2_1) else (bd (mX4_descend F cells zx4 zx3 zx5) (fun zr_4 => mX4_turnsAheadOf_L8 F zx1 cells reach f zx2_1 zr_4 (zx4 + 1))))))))))
theorem mX4_turnsAheadOf_L8_s (F : Nat) (zx1 : Int32) (cells : Nat → Int32) (reach : Nat → Int32) (f : Nat) (zx2 : Int32) (zx3 : Int32) (zx4 : Int32) : mX4_turnsAheadOf_L8 F zx1 cells reach (f + 1) zx2 zx3 zx4 = (if 8 ≤ zx4 then (some zx2) else (lT (mX6_image zx1 zx4) (fun zx5 => gd (inb zx4 8) (bd (mX4_imageOfSet F zx3 (reach (Int32.toNatClampNeg zx4))) (fun zr_1 => lT (zr_1 &&& ((1 <<< (zx5 &&& 31)) - 1)) (fun zx7 => bd (mX4_turnsFrom F reach (zx4 + 1)) (fun zr_3 => lT (zx2 + ((mJ6_bitCount_0f7a4 zx7) * zr_3)) (fun zx2_1 => if ((zr_1 >>> (zx5 &&& 31)) &&& 1) = 0 then (some zx2_1) else (bd (mX4_descend F cells zx4 zx3 zx5) (fun zr_4 => mX4_turnsAheadOf_L8 F zx1 cells reach f zx2_1 zr_4 (zx4 + 1))))))))))) := rfl
def mX4_turnsAheadOf (F : Nat) (cells : Nat → Int32) (reach : Nat → Int32) (zx1 : Int32) : Option (Int32) := mX4_turnsAheadOf_L8 F zx1 cells reach F 0 1985229328 0
set_option maxRecDepth 100000 in
set_option maxHeartbeats 4000000 in
theorem wX4_turnsAheadOf_L8 {p : Program} {l : Launch} {e : Env} {s : State} {m : MethodId} {zargs : Array Value} {zbelow : List Frame} {zmeth : Method} {c : Code} {D : va_G} {ad : Nat → Nat} {cI : ClassId} {cells : Nat → Int32} {back : Nat → Int32} {reach : Nat → Int32} {filled : Nat → Int32} {fc : Int32} {makers : Nat → Int32} {mc : Int32} {zx1 : Int32} (C0 : tg_C p s m zmeth c zargs cX4_turnsAheadOf RX4 wsX4_turnsAheadOf 8 D [(cI, .int)]) (hP : va_P D vwCl (wT cI ad cells back reach filled fc makers mc) s.heap) (hlocks : zmeth.locks = false) (hr : zmeth.sig.returnType = (some .int)) (F : Nat) : ∀ (f : Nat) (zx2 : Int32) (zx3 : Int32) (zx4 : Int32) (zr0 : Int32), mX4_turnsAheadOf_L8 F zx1 cells reach f zx2 zx3 zx4 = some zr0 → ∀ (zls : Array Slot), lv_has zls 8 [(0, .ref (ad 0)), (1, .int zx1), (2, .int zx2), (3, .int zx3), (4, .int zx4)] → W p l e ({ frames := 3, cells := 0, slots := 0, locals := 70 } : Room) s m zargs zbelow zmeth c s.heap [] 0 0 (MQ zbelow (tg_Ri zr0) zargs s 0 0 (fun _ => False)) (F0 m 8 zls []) := by
  obtain ⟨hx, hb, hml, hown, hts, hK, hN⟩ := C0
  intro f
  induction f with
  | zero => intro _ _ _ _ h; exact absurd (show none = some _ from h) (fun h9 => by cases h9)
  | succ f ih =>
    intro zx2 zx3 zx4 zr0 h  zls hl 
    rw [mX4_turnsAheadOf_L8_s] at h
    refine lv_iload hx hb dX4_turnsAheadOf_8 (lv_at hl 4 rfl) ?_
    refine lv_bipush (v := 8) hx hb dX4_turnsAheadOf_10 (by decide) ?_
    refine lv_icmp_ge (tgt := 92) hx hb dX4_turnsAheadOf_12 (by decide) (fun cb => ?_) (fun cb => ?_)
    · rw [if_pos cb] at h
      refine lv_iload_n hx hb dX4_turnsAheadOf_92 rfl (lv_at hl 2 rfl) ?_
      cases h
      exact W.iret hx hb hr (fun t ht hW => ⟨rfl, ht⟩) (fun _ h9 => absurd h9 List.not_mem_nil) dX4_turnsAheadOf_93
    · rw [if_neg cb] at h
      refine lv_iload_n hx hb dX4_turnsAheadOf_15 rfl (lv_at hl 1 rfl) ?_
      refine lv_iload hx hb dX4_turnsAheadOf_16 (lv_at hl 4 rfl) ?_
      refine tg_cRi (va_runSN (As := [.int zx1, .int zx4]) (rest := []) ⟨hx, hb, hml, hown, hts⟩ (qX6_image l D zx1 zx4 _ rfl) (⟨va_cnB 2 hts gX4_turnsAheadOf_X6_image_n76 rfl rfl rfl (hN _ nw_X4_76) (hts _ kX4_turnsAheadOf_2) zSX6_image ⟨Nat.le_of_ble_eq_true rfl, Nat.le_of_ble_eq_true rfl⟩, hts _ kX4_turnsAheadOf_3, trivial⟩) (tg_preS tg_nil (hK.sub (tys' := []) [] rfl) hN) rfl rfl hl.1 rfl (lv_room (Nat.le_of_ble_eq_true rfl)) dX4_turnsAheadOf_18 ⟨Nat.zero_le _, Nat.zero_le _⟩) ?_
      obtain ⟨zx5, ex5, h⟩ := lT_el h
      refine tg_top ex5 ?_
      refine lv_istore (lv' := [(5, .int zx5), (0, .ref (ad 0)), (1, .int zx1), (2, .int zx2), (3, .int zx3), (4, .int zx4)]) hx hb dX4_turnsAheadOf_21 hl (by decide) rfl (fun zls hl => ?_)
      refine lv_iload_n hx hb dX4_turnsAheadOf_23 rfl (lv_at hl 4 rfl) ?_
      refine lv_aload_n hx hb dX4_turnsAheadOf_24 rfl (lv_at hl 1 rfl) ?_
      refine va_get (D := D) (ci := 4) (v := .ref (ad 3)) (C := RX4) (T := TX4) (N := 7) hx hb hts uX4_turnsAheadOf_RX4 hown hK hP 0 rfl rfl 2 (by decide) (hts _ kX4_turnsAheadOf_4) (fun _ h9 => h9) rfl dX4_turnsAheadOf_25 ?_
      refine lv_iload hx hb dX4_turnsAheadOf_28 (lv_at hl 5 rfl) ?_
      obtain ⟨gg, h⟩ := gd_el h
      refine va_iald hx hb hK hP 3 0 rfl rfl (inb_in gg) dX4_turnsAheadOf_30 ?_
      obtain ⟨zr_1, hc, h⟩ := bd_el h
      refine tg_cRi (va_runS (As := [.int zx3, .int (reach (Int32.toNatClampNeg zx4))]) (rest := []) ⟨hx, hb, hml, hown, hts⟩ (qX4_imageOfSet l D zx3 (reach (Int32.toNatClampNeg zx4)) F zr_1 hc) (va_cwS 2 hts gX4_turnsAheadOf_X4_imageOfSet rfl rfl rfl zSX4_imageOfSet ⟨Nat.le_of_ble_eq_true rfl, Nat.le_of_ble_eq_true rfl⟩) (tg_preS tg_nil (hK.sub (tys' := []) [] rfl) hN) rfl rfl hl.1 rfl (lv_room (Nat.le_of_ble_eq_true rfl)) dX4_turnsAheadOf_31 ⟨Nat.zero_le _, Nat.zero_le _⟩) ?_
      refine lv_istore (lv' := [(6, .int zr_1), (5, .int zx5), (0, .ref (ad 0)), (1, .int zx1), (2, .int zx2), (3, .int zx3), (4, .int zx4)]) hx hb dX4_turnsAheadOf_34 hl (by decide) rfl (fun zls hl => ?_)
      refine lv_iload hx hb dX4_turnsAheadOf_36 (lv_at hl 0 rfl) ?_
      refine lv_iconst (v := 1) hx hb dX4_turnsAheadOf_38 (by decide) ?_
      refine lv_iload hx hb dX4_turnsAheadOf_39 (lv_at hl 1 rfl) ?_
      refine lv_ishl hx hb dX4_turnsAheadOf_41 ?_
      refine lv_iconst (v := 1) hx hb dX4_turnsAheadOf_42 (by decide) ?_
      refine lv_isub hx hb dX4_turnsAheadOf_43 ?_
      refine lv_iand hx hb dX4_turnsAheadOf_44 ?_
      obtain ⟨zx7, ex7, h⟩ := lT_el h
      refine tg_top ex7 ?_
      refine lv_istore (lv' := [(7, .int zx7), (6, .int zr_1), (5, .int zx5), (0, .ref (ad 0)), (1, .int zx1), (2, .int zx2), (3, .int zx3), (4, .int zx4)]) hx hb dX4_turnsAheadOf_45 hl (by decide) rfl (fun zls hl => ?_)
      refine lv_iload_n hx hb dX4_turnsAheadOf_47 rfl (lv_at hl 5 rfl) ?_
      refine lv_iload hx hb dX4_turnsAheadOf_48 (lv_at hl 0 rfl) ?_
      refine tg_cRi (va_runS (As := [.int zx7]) (rest := [.int zx2]) ⟨hx, hb, hml, hown, hts⟩ (qJ6_bitCount_0f7a4 l D zx7 _ rfl) (va_cwS 1 hts gX4_turnsAheadOf_J6_bitCount_0f7a4 rfl rfl rfl zSJ6_bitCount_0f7a4 ⟨Nat.le_of_ble_eq_true rfl, Nat.le_of_ble_eq_true rfl⟩) (tg_preS tg_nil (hK.sub (tys' := []) [] rfl) hN) rfl rfl hl.1 rfl (lv_room (Nat.le_of_ble_eq_true rfl)) dX4_turnsAheadOf_50 ⟨Nat.zero_le _, Nat.zero_le _⟩) ?_
      refine lv_aload_n hx hb dX4_turnsAheadOf_53 rfl (lv_at hl 3 rfl) ?_
      refine lv_iload hx hb dX4_turnsAheadOf_54 (lv_at hl 7 rfl) ?_
      refine lv_iconst (v := 1) hx hb dX4_turnsAheadOf_56 (by decide) ?_
      refine lv_iadd hx hb dX4_turnsAheadOf_57 ?_
      obtain ⟨zr_3, hc_1, h⟩ := bd_el h
      refine tg_cRi (va_runV (As := [.int (zx4 + 1)]) (rest := [.int (mJ6_bitCount_0f7a4 zx7), .int zx2]) ⟨hx, hb, hml, hown, hts⟩ (qX4_turnsFrom l D cI ad cells back reach filled fc makers mc (zx4 + 1) F zr_3 hc_1) (cwV 1 hts gX4_turnsAheadOf_X4_turnsFrom rfl rfl rfl zVX4_turnsFrom ⟨Nat.le_of_ble_eq_true rfl, Nat.le_of_ble_eq_true rfl⟩) (tg_preV (r := (RX4, TX4, 7)) (ci := 4) (q0 := 0) hP hK hN rfl rfl) rfl rfl hl.1 rfl (lv_room (Nat.le_of_ble_eq_true rfl)) dX4_turnsAheadOf_58 ⟨Nat.zero_le _, Nat.zero_le _⟩) ?_
      refine lv_imul hx hb dX4_turnsAheadOf_61 ?_
      refine lv_iadd hx hb dX4_turnsAheadOf_62 ?_
      obtain ⟨zx2_1, ex2_1, h⟩ := lT_el h
      refine tg_top ex2_1 ?_
      refine lv_istore_n (lv' := [(2, .int zx2_1), (7, .int zx7), (6, .int zr_1), (5, .int zx5), (0, .ref (ad 0)), (1, .int zx1), (3, .int zx3), (4, .int zx4)]) hx hb dX4_turnsAheadOf_63 rfl hl (by decide) rfl (fun zls hl => ?_)
      refine lv_iload hx hb dX4_turnsAheadOf_64 (lv_at hl 2 rfl) ?_
      refine lv_iload hx hb dX4_turnsAheadOf_66 (lv_at hl 3 rfl) ?_
      refine lv_ishr hx hb dX4_turnsAheadOf_68 ?_
      refine lv_iconst (v := 1) hx hb dX4_turnsAheadOf_69 (by decide) ?_
      refine lv_iand hx hb dX4_turnsAheadOf_70 ?_
      refine lv_if_ne (tgt := 76) hx hb dX4_turnsAheadOf_71 (by decide) (fun cb_1 => ?_) (fun cb_1 => ?_)
      · rw [if_neg cb_1] at h
        refine lv_aload_n hx hb dX4_turnsAheadOf_76 rfl (lv_at hl 4 rfl) ?_
        refine lv_iload hx hb dX4_turnsAheadOf_77 (lv_at hl 7 rfl) ?_
        refine lv_iload_n hx hb dX4_turnsAheadOf_79 rfl (lv_at hl 6 rfl) ?_
        refine lv_iload hx hb dX4_turnsAheadOf_80 (lv_at hl 3 rfl) ?_
        obtain ⟨zr_4, hc_2, h⟩ := bd_el h
        refine tg_cRi (va_runV (As := [.int zx4, .int zx3, .int zx5]) (rest := []) ⟨hx, hb, hml, hown, hts⟩ (qX4_descend l D cI ad cells back reach filled fc makers mc zx4 zx3 zx5 F zr_4 hc_2) (cwV 3 hts gX4_turnsAheadOf_X4_descend rfl rfl rfl zVX4_descend ⟨Nat.le_of_ble_eq_true rfl, Nat.le_of_ble_eq_true rfl⟩) (tg_preV (r := (RX4, TX4, 7)) (ci := 4) (q0 := 0) hP hK hN rfl rfl) rfl rfl hl.1 rfl (lv_room (Nat.le_of_ble_eq_true rfl)) dX4_turnsAheadOf_82 ⟨Nat.zero_le _, Nat.zero_le _⟩) ?_
        refine lv_istore_n (lv' := [(3, .int zr_4), (2, .int zx2_1), (7, .int zx7), (6, .int zr_1), (5, .int zx5), (0, .ref (ad 0)), (1, .int zx1), (4, .int zx4)]) hx hb dX4_turnsAheadOf_85 rfl hl (by decide) rfl (fun zls hl => ?_)
        refine lv_iinc (v := (zx4 + 1)) (lv' := [(4, .int (zx4 + 1)), (3, .int zr_4), (2, .int zx2_1), (7, .int zx7), (6, .int zr_1), (5, .int zx5), (0, .ref (ad 0)), (1, .int zx1)]) hx hb dX4_turnsAheadOf_86 hl (k := 7) rfl rfl (by decide) rfl (fun zls hl => ?_)
        refine lv_goto (tgt := 8) hx hb dX4_turnsAheadOf_89 (by decide) ?_
        exact ih _ _ _ _ h  _ (lv_sub hl [6, 7, 2, 1, 0] rfl) 
      · rw [if_pos cb_1] at h
        refine lv_iload_n hx hb dX4_turnsAheadOf_74 rfl (lv_at hl 0 rfl) ?_
        cases h
        exact W.iret hx hb hr (fun t ht hW => ⟨rfl, ht⟩) (fun _ h9 => absurd h9 List.not_mem_nil) dX4_turnsAheadOf_75
set_option maxRecDepth 100000 in
set_option maxHeartbeats 4000000 in
theorem qX4_turnsAheadOf (l : Launch) (D : va_G) (cI : ClassId) (ad : Nat → Nat) (cells : Nat → Int32) (back : Nat → Int32) (reach : Nat → Int32) (filled : Nat → Int32) (fc : Int32) (makers : Nat → Int32) (mc : Int32) (zx1 : Int32) (F : Nat) (zr0 : Int32) (h : mX4_turnsAheadOf F cells reach zx1 = some zr0) : Met l yX4_turnsAheadOf wsX4_turnsAheadOf ({ frames := 3, cells := 0, slots := 0, locals := 70 } : Room) (tg_P D [(cI, .int)] [.ref (ad 0), .int zx1] ((wT cI ad cells back reach filled fc makers mc))) (tg_Ri zr0) 0 0 (fun _ => False) := by
  refine Met.ofW (cc := cX4_turnsAheadOf) (maxL := 8) (ret := (some .int)) (by decide) rfl ?_
  intro p e s m zargs zbelow zmeth c s₁ B hml hv
  obtain ⟨hargs, hP, hK, hN⟩ := hv
  have hx := B.exec
  have hb := B.bytes
  have hr := B.returns
  have hts := atoms_spec (ws := wsX4_turnsAheadOf) B.pre
  have hown : s.vm.findClass RX4 = some m.cls := findClass_of_methodNamed B.named
  have hlocks := B.notSynchronized
  have hl := lv_entry ([.ref (ad 0), .int zx1]) (n := 8) (Nat.le_of_ble_eq_true rfl)
  refine W.eq (g2 := entryFrame m ([.ref (ad 0), .int zx1] : List Value).toArray 8) (by rw [hargs]) ?_
  rw [lg_entry_eq]
  generalize (lg_sl ([.ref (ad 0), .int zx1]) ++ List.replicate (8 - (lg_sl ([.ref (ad 0), .int zx1])).length) Slot.unset).toArray = zls at hl ⊢
  have hl : lv_has zls 8 [(0, .ref (ad 0)), (1, .int zx1)] := hl
  rw [mX4_turnsAheadOf] at h
  refine lv_iconst (v := 0) hx hb dX4_turnsAheadOf_0 (by decide) ?_
  refine lv_istore_n (lv' := [(2, .int 0), (0, .ref (ad 0)), (1, .int zx1)]) hx hb dX4_turnsAheadOf_1 rfl hl (by decide) rfl (fun zls hl => ?_)
  refine lv_ldc hx hb hown (hts _ kX4_turnsAheadOf_1) dX4_turnsAheadOf_2 ?_
  refine lv_istore_n (lv' := [(3, .int 1985229328), (2, .int 0), (0, .ref (ad 0)), (1, .int zx1)]) hx hb dX4_turnsAheadOf_4 rfl hl (by decide) rfl (fun zls hl => ?_)
  refine lv_iconst (v := 0) hx hb dX4_turnsAheadOf_5 (by decide) ?_
  refine lv_istore (lv' := [(4, .int 0), (3, .int 1985229328), (2, .int 0), (0, .ref (ad 0)), (1, .int zx1)]) hx hb dX4_turnsAheadOf_6 hl (by decide) rfl (fun zls hl => ?_)
  exact wX4_turnsAheadOf_L8 ⟨hx, hb, hml, hown, hts, hK, hN⟩ hP hlocks hr F F _ _ _ _ h  _ (lv_sub hl [3, 4, 2, 1, 0] rfl) 
theorem zVX4_turnsAheadOf : yX4_turnsAheadOf.cls = RX4 ∧ yX4_turnsAheadOf.cls ≠ "java/lang/invoke/MethodHandle" ∧ yX4_turnsAheadOf.cls ≠ "java/lang/invoke/VarHandle" ∧ (parseMethodDescriptor yX4_turnsAheadOf.desc).map (fun d => d.parameters.length) = some 1 := by decide +kernel

/-! ===== void clear(); ===== -/
theorem kX4_clear_1 : Cond.fieldLink RX4 18 "TurnGroups$Tower" "reach" "[I" ∈ wsX4_clear := by decide +kernel
theorem kX4_clear_2 : Cond.fieldLink RX4 27 "TurnGroups$Tower" "filledCount" "I" ∈ wsX4_clear := by decide +kernel
theorem kX4_clear_3 : Cond.fieldLink RX4 31 "TurnGroups$Tower" "makerCount" "I" ∈ wsX4_clear := by decide +kernel
theorem uX4_clear_RX4 : ∀ w ∈ u_ws RX4 TX4 7, w ∈ wsX4_clear := by decide +kernel
def mX4_clear_L2  : Nat → Int32 → (Nat → Int32) → Option ((Nat → Int32))
  | 0, _, _ => none
  | f + 1, zx1, reach => if 8 ≤ zx1 then (some reach) else (gd (inb zx1 8) (lT (upd reach (Int32.toNatClampNeg zx1) (1 <<< (zx1 &&& 31))) (fun reach_1 => mX4_clear_L2 f (zx1 + 1) reach_1)))
theorem mX4_clear_L2_s  (f : Nat) (zx1 : Int32) (reach : Nat → Int32) : mX4_clear_L2  (f + 1) zx1 reach = (if 8 ≤ zx1 then (some reach) else (gd (inb zx1 8) (lT (upd reach (Int32.toNatClampNeg zx1) (1 <<< (zx1 &&& 31))) (fun reach_1 => mX4_clear_L2 f (zx1 + 1) reach_1)))) := rfl
def mX4_clear (F : Nat) (reach : Nat → Int32) (fc : Int32) (mc : Int32) : Option ((Nat → Int32) × Int32 × Int32) := bd (mX4_clear_L2 F 0 reach) (fun reach_1 => some (reach_1, 0, 0))
set_option maxRecDepth 100000 in
set_option maxHeartbeats 4000000 in
theorem wX4_clear_L2 {p : Program} {l : Launch} {e : Env} {s : State} {m : MethodId} {zargs : Array Value} {zbelow : List Frame} {zmeth : Method} {c : Code} {D : va_G} {zQ : State → Prop} {zA : Nat → Prop} {ad : Nat → Nat} {cI : ClassId} {cells : Nat → Int32} {back : Nat → Int32} {filled : Nat → Int32} {fc : Int32} {makers : Nat → Int32} {mc : Int32} (C0 : tg_C p s m zmeth c zargs cX4_clear RX4 wsX4_clear 2 D [(cI, .int)]) (hDD : tg_DD zA [ad 0, ad 1, ad 2, ad 3, ad 4, ad 5]) (hlocks : zmeth.locks = false) (hr : zmeth.sig.returnType = none) (F : Nat) : ∀ (f : Nat) (zx1 : Int32) (reach : Nat → Int32) (oreach : Nat → Int32), mX4_clear_L2  f zx1 reach = some oreach → ∀ (zH : Heap) (zlocs : List Loc), va_P D vwCl (wT cI ad cells back reach filled fc makers mc) zH → va_S zA s.heap zH zlocs → ∀ (zls : Array Slot), lv_has zls 2 [(0, .ref (ad 0)), (1, .int zx1)] → (∀ (zH : Heap) (zlocs : List Loc), va_P D vwCl (wT cI ad cells back oreach filled fc makers mc) zH → va_S zA s.heap zH zlocs → ∀ (zls : Array Slot), lv_has zls 2 [(0, .ref (ad 0))] → W p l e ({ frames := 0, cells := 0, slots := 0, locals := 0 } : Room) s m zargs zbelow zmeth c zH zlocs 0 0 zQ (F0 m 23 zls [])) → W p l e ({ frames := 0, cells := 0, slots := 0, locals := 0 } : Room) s m zargs zbelow zmeth c zH zlocs 0 0 zQ (F0 m 2 zls []) := by
  obtain ⟨hx, hb, hml, hown, hts, hK, hN⟩ := C0
  intro f
  induction f with
  | zero => intro _ _ _ h; exact absurd (show none = some _ from h) (fun h9 => by cases h9)
  | succ f ih =>
    intro zx1 reach oreach h zH zlocs hP hS zls hl kk
    rw [mX4_clear_L2_s] at h
    refine lv_iload_n hx hb dX4_clear_2 rfl (lv_at hl 1 rfl) ?_
    refine lv_bipush (v := 8) hx hb dX4_clear_3 (by decide) ?_
    refine lv_icmp_ge (tgt := 23) hx hb dX4_clear_5 (by decide) (fun cb => ?_) (fun cb => ?_)
    · rw [if_pos cb] at h
      cases h
      exact kk _ _ hP hS _ (lv_sub hl [0] rfl)
    · rw [if_neg cb] at h
      refine lv_aload_n hx hb dX4_clear_8 rfl (lv_at hl 0 rfl) ?_
      refine va_get (D := D) (ci := 4) (v := .ref (ad 3)) (C := RX4) (T := TX4) (N := 7) hx hb hts uX4_clear_RX4 hown hK hP 0 rfl rfl 2 (by decide) (hts _ kX4_clear_1) (fun _ h9 => h9) rfl dX4_clear_9 ?_
      refine lv_iload_n hx hb dX4_clear_12 rfl (lv_at hl 1 rfl) ?_
      refine lv_iconst (v := 1) hx hb dX4_clear_13 (by decide) ?_
      refine lv_iload_n hx hb dX4_clear_14 rfl (lv_at hl 1 rfl) ?_
      refine lv_ishl hx hb dX4_clear_15 ?_
      obtain ⟨gg, h⟩ := gd_el h
      obtain ⟨reach_1, ereach_1, h⟩ := lT_el h
      refine va_iast hx hb hK hP (hDD _ rfl) hS 3 0 rfl rfl (inb_in gg) dX4_clear_16 (fun zH zlocs hP _ hS => ?_)
      have hP : va_P D vwCl (wT cI ad cells back (upd reach (Int32.toNatClampNeg zx1) (1 <<< (zx1 &&& 31))) filled fc makers mc) zH := hP
      rw [← ereach_1] at hP
      refine lv_iinc (v := (zx1 + 1)) (lv' := [(1, .int (zx1 + 1)), (0, .ref (ad 0))]) hx hb dX4_clear_17 hl (k := 1) rfl rfl (by decide) rfl (fun zls hl => ?_)
      refine lv_goto (tgt := 2) hx hb dX4_clear_20 (by decide) ?_
      exact ih _ _ _ h _ _ hP hS _ (lv_sub hl [1, 0] rfl) kk
set_option maxRecDepth 100000 in
set_option maxHeartbeats 4000000 in
theorem qX4_clear (l : Launch) (D : va_G) (cI : ClassId) (ad : Nat → Nat) (cells : Nat → Int32) (back : Nat → Int32) (reach : Nat → Int32) (filled : Nat → Int32) (fc : Int32) (makers : Nat → Int32) (mc : Int32) (F : Nat) (oreach : Nat → Int32) (ofc : Int32) (omc : Int32) (h : mX4_clear F reach fc mc = some (oreach, ofc, omc)) : Met l yX4_clear wsX4_clear ({ frames := 0, cells := 0, slots := 0, locals := 0 } : Room) (tg_PM D [(cI, .int)] [.ref (ad 0)] (wT cI ad cells back reach filled fc makers mc)) (tg_Mv D (wT cI ad cells back reach filled fc makers mc) (wT cI ad cells back oreach filled ofc makers omc)) 0 0 (tg_in (wT cI ad cells back reach filled fc makers mc)) := by
  refine Met.ofW (cc := cX4_clear) (maxL := 2) (ret := none) (by decide) rfl ?_
  intro p e s m zargs zbelow zmeth c s₁ B hml hv
  obtain ⟨hargs, hP, hK, hN, hD0⟩ := hv
  have hx := B.exec
  have hb := B.bytes
  have hr := B.returns
  have hts := atoms_spec (ws := wsX4_clear) B.pre
  have hown : s.vm.findClass RX4 = some m.cls := findClass_of_methodNamed B.named
  have hlocks := B.notSynchronized
  have hDD : tg_DD (tg_in (wT cI ad cells back reach filled fc makers mc)) [ad 0, ad 1, ad 2, ad 3, ad 4, ad 5] := tg_DD.of (tg_D hD0) rfl
  have hS : va_S (tg_in (wT cI ad cells back reach filled fc makers mc)) s.heap s.heap [] := va_S.rf
  have hl := lv_entry ([.ref (ad 0)]) (n := 2) (Nat.le_of_ble_eq_true rfl)
  refine W.eq (g2 := entryFrame m ([.ref (ad 0)] : List Value).toArray 2) (by rw [hargs]) ?_
  rw [lg_entry_eq]
  generalize (lg_sl ([.ref (ad 0)]) ++ List.replicate (2 - (lg_sl ([.ref (ad 0)])).length) Slot.unset).toArray = zls at hl ⊢
  have hl : lv_has zls 2 [(0, .ref (ad 0))] := hl
  rw [mX4_clear] at h
  refine lv_iconst (v := 0) hx hb dX4_clear_0 (by decide) ?_
  refine lv_istore_n (lv' := [(1, .int 0), (0, .ref (ad 0))]) hx hb dX4_clear_1 rfl hl (by decide) rfl (fun zls hl => ?_)
  obtain ⟨reach_1, hv, h⟩ := bd_el h
  refine wX4_clear_L2 ⟨hx, hb, hml, hown, hts, hK, hN⟩ hDD hlocks hr F F _ _ _ hv _ _ hP hS _ (lv_sub hl [1, 0] rfl) (fun zH zlocs hP hS zls hl => ?_)
  refine lv_aload_n hx hb dX4_clear_23 rfl (lv_at hl 0 rfl) ?_
  refine lv_iconst (v := 0) hx hb dX4_clear_24 (by decide) ?_
  refine va_put (D := D) (ci := 4) (v := .int 0) (ty := .int) (C := RX4) (T := TX4) (N := 7) hx hb hts uX4_clear_RX4 tyX4 tyX4_ok nmX4 hown hK hP (hDD _ rfl) hS 0 rfl rfl 4 (by decide) (hts _ kX4_clear_2) (fun _ h9 => h9) rfl (by decide +kernel) rfl rfl (Nat.le_of_ble_eq_true rfl) dX4_clear_25 (fun zH zlocs hP _ hS => ?_)
  have hP : va_P D vwCl (wT cI ad cells back reach_1 filled 0 makers mc) zH := hP
  refine lv_aload_n hx hb dX4_clear_28 rfl (lv_at hl 0 rfl) ?_
  refine lv_iconst (v := 0) hx hb dX4_clear_29 (by decide) ?_
  refine va_put (D := D) (ci := 4) (v := .int 0) (ty := .int) (C := RX4) (T := TX4) (N := 7) hx hb hts uX4_clear_RX4 tyX4 tyX4_ok nmX4 hown hK hP (hDD _ rfl) hS 0 rfl rfl 6 (by decide) (hts _ kX4_clear_3) (fun _ h9 => h9) rfl (by decide +kernel) rfl rfl (Nat.le_of_ble_eq_true rfl) dX4_clear_30 (fun zH zlocs hP _ hS => ?_)
  have hP : va_P D vwCl (wT cI ad cells back reach_1 filled 0 makers 0) zH := hP
  cases h
  exact W.vret hx hb hr (fun t ht hW => ⟨rfl, by rw [ht]; exact hP, hS.F ht⟩) hS.2.2 dX4_clear_33
theorem zVX4_clear : yX4_clear.cls = RX4 ∧ yX4_clear.cls ≠ "java/lang/invoke/MethodHandle" ∧ yX4_clear.cls ≠ "java/lang/invoke/VarHandle" ∧ (parseMethodDescriptor yX4_clear.desc).map (fun d => d.parameters.length) = some 0 := by decide +kernel

/-! ===== private void settle(int); ===== -/
theorem kX4_settle_1 : Cond.constant RX4 100 (1985229328) ∈ wsX4_settle := by decide +kernel
theorem kX4_settle_2 : Cond.initialized RX6 ∈ wsX4_settle := by decide +kernel
theorem kX4_settle_3 : Cond.static yX6_image ∈ wsX4_settle := by decide +kernel
theorem kX4_settle_4 : Cond.fieldLink RX4 15 "TurnGroups$Tower" "cellsBack" "[I" ∈ wsX4_settle := by decide +kernel
theorem kX4_settle_5 : Cond.static yX6_chain ∈ wsX4_settle := by decide +kernel
theorem kX4_settle_6 : Cond.fieldLink RX4 11 "TurnGroups$Tower" "cells" "[I" ∈ wsX4_settle := by decide +kernel
theorem kX4_settle_7 : Cond.static yX6_reverse ∈ wsX4_settle := by decide +kernel
theorem kX4_settle_8 : Cond.fieldLink RX4 18 "TurnGroups$Tower" "reach" "[I" ∈ wsX4_settle := by decide +kernel
theorem kX4_settle_9 : Cond.fieldLink RX4 27 "TurnGroups$Tower" "filledCount" "I" ∈ wsX4_settle := by decide +kernel
theorem kX4_settle_10 : Cond.fieldLink RX4 21 "TurnGroups$Tower" "filled" "[I" ∈ wsX4_settle := by decide +kernel
theorem uX4_settle_RX4 : ∀ w ∈ u_ws RX4 TX4 7, w ∈ wsX4_settle := by decide +kernel
def mX4_settle_L4 (F : Nat) (cells : Nat → Int32) (back : Nat → Int32) (reach : Nat → Int32) (filled : Nat → Int32) (fc : Int32) : Nat → Int32 → Int32 → Option ((Nat → Int32) × (Nat → Int32) × (Nat → Int32) × (Nat → Int32) × Int32)
  | 0, _, _ => none
  | f + 1, zx2, zx3 => if 8 ≤ zx3 then (some (cells, back, reach, filled, fc)) else (if zx2 = 1985229328 then (some (cells, back, reach, filled, fc)) else (lT (mX6_image zx2 zx3) (fun zx4 => lT (mX4_cellOf zx3 zx4) (fun zx5 => bd (mX4_reaches reach zx3 zx4) (fun zr_2 => if zr_2 = 0 then (gd (inb zx5 64) (lT (upd cells (Int32.toNatClampNeg zx5) zx2) (fun cells_1 => bd (mX6_reverse F zx2) (fun zr_4 => gd (inb zx5 64) (lT (upd back (Int32.toNatClampNeg zx5) zr_4) (fun back_1 => gd (inb zx3 8) (gd (inb zx3 8) (lT (upd reach (Int32.toNatClampNeg zx3) ((reach (Int32.toNatClampNeg zx3)) ||| (1 <<< (zx4 &&& 31)))) (fun reach_1 => if 28 ≤ fc then (some (cells_1, back_1, reach_1, filled, fc)) else (gd (inb fc 28) (lT (upd filled (Int32.toNatClampNeg fc) zx5) (fun filled_1 => lT (fc + 1) (fun fc_1 => some (cells_1, back_1, reach_1, filled_1, fc_1)))))))))))))) else (bd (if zx4 = zx3 then (some zx2) else (gd (inb zx5 64) (bd (mX6_chain F zx2 (back (Int32.toNatClampNeg zx5))) (fun zr_3 => some zr_3)))) (fun zx2_1 => mX4_settle_L4 F cells back reach filled fc f zx2_1 (zx3 + 1))))))))
theorem mX4_settle_L4_s (F : Nat) (cells : Nat → Int32) (back : Nat → Int32) (reach : Nat → Int32) (filled : Nat → Int32) (fc : Int32) (f : Nat) (zx2 : Int32) (zx3 : Int32) : mX4_settle_L4 F cells back reach filled fc (f + 1) zx2 zx3 = (if 8 ≤ zx3 then (some (cells, back, reach, filled, fc)) else (if zx2 = 1985229328 then (some (cells, back, reach, filled, fc)) else (lT (mX6_image zx2 zx3) (fun zx4 => lT (mX4_cellOf zx3 zx4) (fun zx5 => bd (mX4_reaches reach zx3 zx4) (fun zr_2 => if zr_2 = 0 then (gd (inb zx5 64) (lT (upd cells (Int32.toNatClampNeg zx5) zx2) (fun cells_1 => bd (mX6_reverse F zx2) (fun zr_4 => gd (inb zx5 64) (lT (upd back (Int32.toNatClampNeg zx5) zr_4) (fun back_1 => gd (inb zx3 8) (gd (inb zx3 8) (lT (upd reach (Int32.toNatClampNeg zx3) ((reach (Int32.toNatClampNeg zx3)) ||| (1 <<< (zx4 &&& 31)))) (fun reach_1 => if 28 ≤ fc then (some (cells_1, back_1, reach_1, filled, fc)) else (gd (inb fc 28) (lT (upd filled (Int32.toNatClampNeg fc) zx5) (fun filled_1 => lT (fc + 1) (fun fc_1 => some (cells_1, back_1, reach_1, filled_1, fc_1)))))))))))))) else (bd (if zx4 = zx3 then (some zx2) else (gd (inb zx5 64) (bd (mX6_chain F zx2 (back (Int32.toNatClampNeg zx5))) (fun zr_3 => some zr_3)))) (fun zx2_1 => mX4_settle_L4 F cells back reach filled fc f zx2_1 (zx3 + 1))))))))) := rfl
def mX4_settle (F : Nat) (cells : Nat → Int32) (back : Nat → Int32) (reach : Nat → Int32) (filled : Nat → Int32) (fc : Int32) (zx1 : Int32) : Option ((Nat → Int32) × (Nat → Int32) × (Nat → Int32) × (Nat → Int32) × Int32) := mX4_settle_L4 F cells back reach filled fc F zx1 0
set_option maxRecDepth 100000 in
set_option maxHeartbeats 4000000 in
theorem wX4_settle_L4 {p : Program} {l : Launch} {e : Env} {s : State} {m : MethodId} {zargs : Array Value} {zbelow : List Frame} {zmeth : Method} {c : Code} {D : va_G} {zA : Nat → Prop} {zQc : Array Value → State → Outcome → State → Prop} {ad : Nat → Nat} {cI : ClassId} {cells : Nat → Int32} {back : Nat → Int32} {reach : Nat → Int32} {filled : Nat → Int32} {fc : Int32} {makers : Nat → Int32} {mc : Int32} (C0 : tg_C p s m zmeth c zargs cX4_settle RX4 wsX4_settle 6 D [(cI, .int)]) (hDD : tg_DD zA [ad 0, ad 1, ad 2, ad 3, ad 4, ad 5]) (hlocks : zmeth.locks = false) (hr : zmeth.sig.returnType = none) (F : Nat) : ∀ (f : Nat) (zx2 : Int32) (zx3 : Int32) (ocells : Nat → Int32) (oback : Nat → Int32) (oreach : Nat → Int32) (ofilled : Nat → Int32) (ofc : Int32), mX4_settle_L4 F cells back reach filled fc f zx2 zx3 = some (ocells, oback, oreach, ofilled, ofc) → ∀ (zH : Heap) (zlocs : List Loc), va_P D vwCl (wT cI ad cells back reach filled fc makers mc) zH → va_S zA s.heap zH zlocs → ∀ (zls : Array Slot), lv_has zls 6 [(0, .ref (ad 0)), (2, .int zx2), (3, .int zx3)] → (∀ (zH : Heap) (zlocs : List Loc), va_P D vwCl (wT cI ad ocells oback oreach ofilled ofc makers mc) zH → va_S zA s.heap zH zlocs → ∀ t : State, t.heap = zH → s.WarmedH t.vm → zQc zargs s (.returned none) t) → W p l e ({ frames := 1, cells := 0, slots := 0, locals := 24 } : Room) s m zargs zbelow zmeth c zH zlocs 0 0 (MQ zbelow zQc zargs s 0 0 zA) (F0 m 4 zls []) := by
  obtain ⟨hx, hb, hml, hown, hts, hK, hN⟩ := C0
  intro f
  induction f with
  | zero => intro _ _ _ _ _ _ _ h; exact absurd (show none = some _ from h) (fun h9 => by cases h9)
  | succ f ih =>
    intro zx2 zx3 ocells oback oreach ofilled ofc h zH zlocs hP hS zls hl hq
    rw [mX4_settle_L4_s] at h
    refine lv_iload_n hx hb dX4_settle_4 rfl (lv_at hl 2 rfl) ?_
    refine lv_bipush (v := 8) hx hb dX4_settle_5 (by decide) ?_
    refine lv_icmp_ge (tgt := 128) hx hb dX4_settle_7 (by decide) (fun cb => ?_) (fun cb => ?_)
    · rw [if_pos cb] at h
      cases h
      exact W.vret hx hb hr (hq _ _ hP hS) hS.2.2 dX4_settle_128
    · rw [if_neg cb] at h
      refine lv_iload_n hx hb dX4_settle_10 rfl (lv_at hl 1 rfl) ?_
      refine lv_ldc hx hb hown (hts _ kX4_settle_1) dX4_settle_11 ?_
      refine lv_icmp_eq (tgt := 128) hx hb dX4_settle_13 (by decide) (fun cb_1 => ?_) (fun cb_1 => ?_)
      · rw [if_pos cb_1] at h
        cases h
        exact W.vret hx hb hr (hq _ _ hP hS) hS.2.2 dX4_settle_128
      · rw [if_neg cb_1] at h
        refine lv_iload_n hx hb dX4_settle_16 rfl (lv_at hl 1 rfl) ?_
        refine lv_iload_n hx hb dX4_settle_17 rfl (lv_at hl 2 rfl) ?_
        refine tg_cRi (va_runSN (As := [.int zx2, .int zx3]) (rest := []) ⟨hx, hb, hml, hown, hts⟩ (qX6_image l D zx2 zx3 _ rfl) (⟨va_cnB 2 hts gX4_settle_X6_image_n76 rfl rfl rfl (hN _ nw_X4_76) (hts _ kX4_settle_2) zSX6_image ⟨Nat.le_of_ble_eq_true rfl, Nat.le_of_ble_eq_true rfl⟩, hts _ kX4_settle_3, trivial⟩) (tg_preS tg_nil (hK.sub (tys' := []) [] rfl) hN) rfl rfl hl.1 rfl (lv_room (Nat.le_of_ble_eq_true rfl)) dX4_settle_18 ⟨Nat.zero_le _, Nat.zero_le _⟩) ?_
        obtain ⟨zx4, ex4, h⟩ := lT_el h
        refine tg_top ex4 ?_
        refine lv_istore (lv' := [(4, .int zx4), (0, .ref (ad 0)), (2, .int zx2), (3, .int zx3)]) hx hb dX4_settle_21 hl (by decide) rfl (fun zls hl => ?_)
        refine lv_iload_n hx hb dX4_settle_23 rfl (lv_at hl 3 rfl) ?_
        refine lv_iload hx hb dX4_settle_24 (lv_at hl 0 rfl) ?_
        refine tg_cRi (va_runS (As := [.int zx3, .int zx4]) (rest := []) ⟨hx, hb, hml, hown, hts⟩ (qX4_cellOf l D zx3 zx4 _ rfl) (va_cwS 2 hts gX4_settle_X4_cellOf rfl rfl rfl zSX4_cellOf ⟨Nat.le_of_ble_eq_true rfl, Nat.le_of_ble_eq_true rfl⟩) (tg_preS tg_nil (hK.sub (tys' := []) [] rfl) hN) rfl rfl hl.1 rfl (lv_room (Nat.le_of_ble_eq_true rfl)) dX4_settle_26 ⟨Nat.zero_le _, Nat.zero_le _⟩) ?_
        obtain ⟨zx5, ex5, h⟩ := lT_el h
        refine tg_top ex5 ?_
        refine lv_istore (lv' := [(5, .int zx5), (4, .int zx4), (0, .ref (ad 0)), (2, .int zx2), (3, .int zx3)]) hx hb dX4_settle_29 hl (by decide) rfl (fun zls hl => ?_)
        refine lv_aload_n hx hb dX4_settle_31 rfl (lv_at hl 2 rfl) ?_
        refine lv_iload_n hx hb dX4_settle_32 rfl (lv_at hl 4 rfl) ?_
        refine lv_iload hx hb dX4_settle_33 (lv_at hl 1 rfl) ?_
        obtain ⟨zr_2, hc, h⟩ := bd_el h
        refine tg_cRi (va_runV (As := [.int zx3, .int zx4]) (rest := []) ⟨hx, hb, hml, hown, hts⟩ (qX4_reaches l D cI ad cells back reach filled fc makers mc zx3 zx4 zr_2 hc) (cwV 2 hts gX4_settle_X4_reaches rfl rfl rfl zVX4_reaches ⟨Nat.le_of_ble_eq_true rfl, Nat.le_of_ble_eq_true rfl⟩) (tg_preV (r := (RX4, TX4, 7)) (ci := 4) (q0 := 0) hP hK hN rfl rfl) rfl rfl hl.1 rfl (lv_room (Nat.le_of_ble_eq_true rfl)) dX4_settle_35 ⟨Nat.zero_le _, Nat.zero_le _⟩) ?_
        refine lv_if_ne (tgt := 104) hx hb dX4_settle_38 (by decide) (fun cb_2 => ?_) (fun cb_2 => ?_)
        · rw [if_neg cb_2] at h
          refine lv_iload hx hb dX4_settle_104 (lv_at hl 1 rfl) ?_
          refine lv_iload_n hx hb dX4_settle_106 rfl (lv_at hl 4 rfl) ?_
          obtain ⟨zx2_1, hv, h⟩ := bd_el h
          have hj : ∀ (zls : Array Slot), lv_has zls 6 [(0, .ref (ad 0)), (2, .int zx2_1), (3, .int zx3)] → W p l e ({ frames := 1, cells := 0, slots := 0, locals := 24 } : Room) s m zargs zbelow zmeth c zH zlocs 0 0 (MQ zbelow zQc zargs s 0 0 zA) (F0 m 122 zls []) := by
            intro zls hl
            refine lv_iinc (v := (zx3 + 1)) (lv' := [(3, .int (zx3 + 1)), (0, .ref (ad 0)), (2, .int zx2_1)]) hx hb dX4_settle_122 hl (k := 2) rfl rfl (by decide) rfl (fun zls hl => ?_)
            refine lv_goto (tgt := 4) hx hb dX4_settle_125 (by decide) ?_
            exact ih _ _ _ _ _ _ _ h _ _ hP hS _ (lv_sub hl [1, 2, 0] rfl) hq
          refine lv_icmp_eq (tgt := 122) hx hb dX4_settle_107 (by decide) (fun cb_3 => ?_) (fun cb_3 => ?_)
          · rw [if_pos cb_3] at hv
            cases hv
            exact hj _ (lv_sub hl [2, 3, 4] rfl)
          · rw [if_neg cb_3] at hv
            refine lv_iload_n hx hb dX4_settle_110 rfl (lv_at hl 3 rfl) ?_
            refine lv_aload_n hx hb dX4_settle_111 rfl (lv_at hl 2 rfl) ?_
            refine va_get (D := D) (ci := 4) (v := .ref (ad 2)) (C := RX4) (T := TX4) (N := 7) hx hb hts uX4_settle_RX4 hown hK hP 0 rfl rfl 1 (by decide) (hts _ kX4_settle_4) (fun _ h9 => h9) rfl dX4_settle_112 ?_
            refine lv_iload hx hb dX4_settle_115 (lv_at hl 0 rfl) ?_
            obtain ⟨gg, hv⟩ := gd_el hv
            refine va_iald hx hb hK hP 2 0 rfl rfl (inb_in gg) dX4_settle_117 ?_
            obtain ⟨zr_3, hc_1, hv⟩ := bd_el hv
            refine tg_cRi (va_runSN (As := [.int zx2, .int (back (Int32.toNatClampNeg zx5))]) (rest := []) ⟨hx, hb, hml, hown, hts⟩ (qX6_chain l D zx2 (back (Int32.toNatClampNeg zx5)) F zr_3 hc_1) (⟨va_cnB 2 hts gX4_settle_X6_chain_n82 rfl rfl rfl (hN _ nw_X4_82) (hts _ kX4_settle_2) zSX6_chain ⟨Nat.le_of_ble_eq_true rfl, Nat.le_of_ble_eq_true rfl⟩, hts _ kX4_settle_5, trivial⟩) (tg_preS tg_nil (hK.sub (tys' := []) [] rfl) hN) rfl rfl hl.1 rfl (lv_room (Nat.le_of_ble_eq_true rfl)) dX4_settle_118 ⟨Nat.zero_le _, Nat.zero_le _⟩) ?_
            refine lv_istore_n (lv' := [(2, .int zr_3), (5, .int zx5), (4, .int zx4), (0, .ref (ad 0)), (3, .int zx3)]) hx hb dX4_settle_121 rfl hl (by decide) rfl (fun zls hl => ?_)
            cases hv
            exact hj _ (lv_sub hl [3, 0, 4] rfl)
        · rw [if_pos cb_2] at h
          refine lv_aload_n hx hb dX4_settle_41 rfl (lv_at hl 2 rfl) ?_
          refine va_get (D := D) (ci := 4) (v := .ref (ad 1)) (C := RX4) (T := TX4) (N := 7) hx hb hts uX4_settle_RX4 hown hK hP 0 rfl rfl 0 (by decide) (hts _ kX4_settle_6) (fun _ h9 => h9) rfl dX4_settle_42 ?_
          refine lv_iload hx hb dX4_settle_45 (lv_at hl 0 rfl) ?_
          refine lv_iload_n hx hb dX4_settle_47 rfl (lv_at hl 3 rfl) ?_
          obtain ⟨gg_1, h⟩ := gd_el h
          obtain ⟨cells_1, ecells_1, h⟩ := lT_el h
          refine va_iast hx hb hK hP (hDD _ rfl) hS 1 0 rfl rfl (inb_in gg_1) dX4_settle_48 (fun zH zlocs hP _ hS => ?_)
          have hP : va_P D vwCl (wT cI ad (upd cells (Int32.toNatClampNeg zx5) zx2) back reach filled fc makers mc) zH := hP
          rw [← ecells_1] at hP
          refine lv_aload_n hx hb dX4_settle_49 rfl (lv_at hl 2 rfl) ?_
          refine va_get (D := D) (ci := 4) (v := .ref (ad 2)) (C := RX4) (T := TX4) (N := 7) hx hb hts uX4_settle_RX4 hown hK hP 0 rfl rfl 1 (by decide) (hts _ kX4_settle_4) (fun _ h9 => h9) rfl dX4_settle_50 ?_
          refine lv_iload hx hb dX4_settle_53 (lv_at hl 0 rfl) ?_
          refine lv_iload_n hx hb dX4_settle_55 rfl (lv_at hl 3 rfl) ?_
          obtain ⟨zr_4, hc_2, h⟩ := bd_el h
          refine tg_cRi (va_runSN (As := [.int zx2]) (rest := [.int zx5, .ref (ad 2)]) ⟨hx, hb, hml, hown, hts⟩ (qX6_reverse l D zx2 F zr_4 hc_2) (⟨va_cnB 1 hts gX4_settle_X6_reverse_n123 rfl rfl rfl (hN _ nw_X4_123) (hts _ kX4_settle_2) zSX6_reverse ⟨Nat.le_of_ble_eq_true rfl, Nat.le_of_ble_eq_true rfl⟩, hts _ kX4_settle_7, trivial⟩) (tg_preS tg_nil (hK.sub (tys' := []) [] rfl) hN) rfl rfl hl.1 rfl (lv_room (Nat.le_of_ble_eq_true rfl)) dX4_settle_56 ⟨Nat.zero_le _, Nat.zero_le _⟩) ?_
          obtain ⟨gg_2, h⟩ := gd_el h
          obtain ⟨back_1, eback_1, h⟩ := lT_el h
          refine va_iast hx hb hK hP (hDD _ rfl) hS 2 0 rfl rfl (inb_in gg_2) dX4_settle_59 (fun zH zlocs hP _ hS => ?_)
          have hP : va_P D vwCl (wT cI ad cells_1 (upd back (Int32.toNatClampNeg zx5) zr_4) reach filled fc makers mc) zH := hP
          rw [← eback_1] at hP
          refine lv_aload_n hx hb dX4_settle_60 rfl (lv_at hl 2 rfl) ?_
          refine va_get (D := D) (ci := 4) (v := .ref (ad 3)) (C := RX4) (T := TX4) (N := 7) hx hb hts uX4_settle_RX4 hown hK hP 0 rfl rfl 2 (by decide) (hts _ kX4_settle_8) (fun _ h9 => h9) rfl dX4_settle_61 ?_
          refine lv_iload_n hx hb dX4_settle_64 rfl (lv_at hl 4 rfl) ?_
          refine lv_dup2_11 hx hb dX4_settle_65 rfl rfl ?_
          obtain ⟨gg_3, h⟩ := gd_el h
          refine va_iald hx hb hK hP 3 0 rfl rfl (inb_in gg_3) dX4_settle_66 ?_
          refine lv_iconst (v := 1) hx hb dX4_settle_67 (by decide) ?_
          refine lv_iload hx hb dX4_settle_68 (lv_at hl 1 rfl) ?_
          refine lv_ishl hx hb dX4_settle_70 ?_
          refine lv_ior hx hb dX4_settle_71 ?_
          obtain ⟨gg_4, h⟩ := gd_el h
          obtain ⟨reach_1, ereach_1, h⟩ := lT_el h
          refine va_iast hx hb hK hP (hDD _ rfl) hS 3 0 rfl rfl (inb_in gg_4) dX4_settle_72 (fun zH zlocs hP _ hS => ?_)
          have hP : va_P D vwCl (wT cI ad cells_1 back_1 (upd reach (Int32.toNatClampNeg zx3) ((reach (Int32.toNatClampNeg zx3)) ||| (1 <<< (zx4 &&& 31)))) filled fc makers mc) zH := hP
          rw [← ereach_1] at hP
          refine lv_aload_n hx hb dX4_settle_73 rfl (lv_at hl 2 rfl) ?_
          refine va_get (D := D) (ci := 4) (v := .int fc) (C := RX4) (T := TX4) (N := 7) hx hb hts uX4_settle_RX4 hown hK hP 0 rfl rfl 4 (by decide) (hts _ kX4_settle_9) (fun _ h9 => h9) rfl dX4_settle_74 ?_
          refine lv_bipush (v := 28) hx hb dX4_settle_77 (by decide) ?_
          refine lv_icmp_ge (tgt := 103) hx hb dX4_settle_79 (by decide) (fun cb_4 => ?_) (fun cb_4 => ?_)
          · rw [if_pos cb_4] at h
            cases h
            exact W.vret hx hb hr (hq _ _ hP hS) hS.2.2 dX4_settle_103
          · rw [if_neg cb_4] at h
            refine lv_aload_n hx hb dX4_settle_82 rfl (lv_at hl 2 rfl) ?_
            refine va_get (D := D) (ci := 4) (v := .ref (ad 4)) (C := RX4) (T := TX4) (N := 7) hx hb hts uX4_settle_RX4 hown hK hP 0 rfl rfl 3 (by decide) (hts _ kX4_settle_10) (fun _ h9 => h9) rfl dX4_settle_83 ?_
            refine lv_aload_n hx hb dX4_settle_86 rfl (lv_at hl 2 rfl) ?_
            refine va_get (D := D) (ci := 4) (v := .int fc) (C := RX4) (T := TX4) (N := 7) hx hb hts uX4_settle_RX4 hown hK hP 0 rfl rfl 4 (by decide) (hts _ kX4_settle_9) (fun _ h9 => h9) rfl dX4_settle_87 ?_
            refine lv_iload hx hb dX4_settle_90 (lv_at hl 0 rfl) ?_
            obtain ⟨gg_5, h⟩ := gd_el h
            obtain ⟨filled_1, efilled_1, h⟩ := lT_el h
            refine va_iast hx hb hK hP (hDD _ rfl) hS 4 0 rfl rfl (inb_in gg_5) dX4_settle_92 (fun zH zlocs hP _ hS => ?_)
            have hP : va_P D vwCl (wT cI ad cells_1 back_1 reach_1 (upd filled (Int32.toNatClampNeg fc) zx5) fc makers mc) zH := hP
            rw [← efilled_1] at hP
            refine lv_aload_n hx hb dX4_settle_93 rfl (lv_at hl 2 rfl) ?_
            refine lv_dup hx hb dX4_settle_94 rfl ?_
            refine va_get (D := D) (ci := 4) (v := .int fc) (C := RX4) (T := TX4) (N := 7) hx hb hts uX4_settle_RX4 hown hK hP 0 rfl rfl 4 (by decide) (hts _ kX4_settle_9) (fun _ h9 => h9) rfl dX4_settle_95 ?_
            refine lv_iconst (v := 1) hx hb dX4_settle_98 (by decide) ?_
            refine lv_iadd hx hb dX4_settle_99 ?_
            obtain ⟨fc_1, efc_1, h⟩ := lT_el h
            refine tg_top efc_1 ?_
            refine va_put (D := D) (ci := 4) (v := .int fc_1) (ty := .int) (C := RX4) (T := TX4) (N := 7) hx hb hts uX4_settle_RX4 tyX4 tyX4_ok nmX4 hown hK hP (hDD _ rfl) hS 0 rfl rfl 4 (by decide) (hts _ kX4_settle_9) (fun _ h9 => h9) rfl (by decide +kernel) rfl rfl (Nat.le_of_ble_eq_true rfl) dX4_settle_100 (fun zH zlocs hP _ hS => ?_)
            have hP : va_P D vwCl (wT cI ad cells_1 back_1 reach_1 filled_1 fc_1 makers mc) zH := hP
            cases h
            exact W.vret hx hb hr (hq _ _ hP hS) hS.2.2 dX4_settle_103
set_option maxRecDepth 100000 in
set_option maxHeartbeats 4000000 in
theorem qX4_settle (l : Launch) (D : va_G) (cI : ClassId) (ad : Nat → Nat) (cells : Nat → Int32) (back : Nat → Int32) (reach : Nat → Int32) (filled : Nat → Int32) (fc : Int32) (makers : Nat → Int32) (mc : Int32) (zx1 : Int32) (F : Nat) (ocells : Nat → Int32) (oback : Nat → Int32) (oreach : Nat → Int32) (ofilled : Nat → Int32) (ofc : Int32) (h : mX4_settle F cells back reach filled fc zx1 = some (ocells, oback, oreach, ofilled, ofc)) : Met l yX4_settle wsX4_settle ({ frames := 1, cells := 0, slots := 0, locals := 24 } : Room) (tg_PM D [(cI, .int)] [.ref (ad 0), .int zx1] (wT cI ad cells back reach filled fc makers mc)) (tg_Mv D (wT cI ad cells back reach filled fc makers mc) (wT cI ad ocells oback oreach ofilled ofc makers mc)) 0 0 (tg_in (wT cI ad cells back reach filled fc makers mc)) := by
  refine Met.ofW (cc := cX4_settle) (maxL := 6) (ret := none) (by decide) rfl ?_
  intro p e s m zargs zbelow zmeth c s₁ B hml hv
  obtain ⟨hargs, hP, hK, hN, hD0⟩ := hv
  have hx := B.exec
  have hb := B.bytes
  have hr := B.returns
  have hts := atoms_spec (ws := wsX4_settle) B.pre
  have hown : s.vm.findClass RX4 = some m.cls := findClass_of_methodNamed B.named
  have hlocks := B.notSynchronized
  have hDD : tg_DD (tg_in (wT cI ad cells back reach filled fc makers mc)) [ad 0, ad 1, ad 2, ad 3, ad 4, ad 5] := tg_DD.of (tg_D hD0) rfl
  have hS : va_S (tg_in (wT cI ad cells back reach filled fc makers mc)) s.heap s.heap [] := va_S.rf
  have hl := lv_entry ([.ref (ad 0), .int zx1]) (n := 6) (Nat.le_of_ble_eq_true rfl)
  refine W.eq (g2 := entryFrame m ([.ref (ad 0), .int zx1] : List Value).toArray 6) (by rw [hargs]) ?_
  rw [lg_entry_eq]
  generalize (lg_sl ([.ref (ad 0), .int zx1]) ++ List.replicate (6 - (lg_sl ([.ref (ad 0), .int zx1])).length) Slot.unset).toArray = zls at hl ⊢
  have hl : lv_has zls 6 [(0, .ref (ad 0)), (1, .int zx1)] := hl
  rw [mX4_settle] at h
  refine lv_iload_n hx hb dX4_settle_0 rfl (lv_at hl 1 rfl) ?_
  refine lv_istore_n (lv' := [(2, .int zx1), (0, .ref (ad 0)), (1, .int zx1)]) hx hb dX4_settle_1 rfl hl (by decide) rfl (fun zls hl => ?_)
  refine lv_iconst (v := 0) hx hb dX4_settle_2 (by decide) ?_
  refine lv_istore_n (lv' := [(3, .int 0), (2, .int zx1), (0, .ref (ad 0)), (1, .int zx1)]) hx hb dX4_settle_3 rfl hl (by decide) rfl (fun zls hl => ?_)
  exact wX4_settle_L4 ⟨hx, hb, hml, hown, hts, hK, hN⟩ hDD hlocks hr F F _ _ _ _ _ _ _ h _ _ hP hS _ (lv_sub hl [2, 1, 0] rfl) (fun zH zlocs hP hS t ht hW => ⟨rfl, by rw [ht]; exact hP, hS.F ht⟩)
theorem zVX4_settle : yX4_settle.cls = RX4 ∧ yX4_settle.cls ≠ "java/lang/invoke/MethodHandle" ∧ yX4_settle.cls ≠ "java/lang/invoke/VarHandle" ∧ (parseMethodDescriptor yX4_settle.desc).map (fun d => d.parameters.length) = some 1 := by decide +kernel

/-! ===== private void spreadFrom(int); ===== -/
theorem kX4_spreadFrom_1 : Cond.fieldLink RX4 27 "TurnGroups$Tower" "filledCount" "I" ∈ wsX4_spreadFrom := by decide +kernel
theorem kX4_spreadFrom_2 : Cond.fieldLink RX4 21 "TurnGroups$Tower" "filled" "[I" ∈ wsX4_spreadFrom := by decide +kernel
theorem kX4_spreadFrom_3 : Cond.fieldLink RX4 11 "TurnGroups$Tower" "cells" "[I" ∈ wsX4_spreadFrom := by decide +kernel
theorem kX4_spreadFrom_4 : Cond.initialized RX6 ∈ wsX4_spreadFrom := by decide +kernel
theorem kX4_spreadFrom_5 : Cond.static yX6_chain ∈ wsX4_spreadFrom := by decide +kernel
theorem uX4_spreadFrom_RX4 : ∀ w ∈ u_ws RX4 TX4 7, w ∈ wsX4_spreadFrom := by decide +kernel
def mX4_spreadFrom_L29 (F : Nat) (zx2 : Int32) (zx3 : Int32) : Nat → Int32 → (Nat → Int32) → (Nat → Int32) → (Nat → Int32) → (Nat → Int32) → Int32 → Option ((Nat → Int32) × (Nat → Int32) × (Nat → Int32) × (Nat → Int32) × Int32)
  | 0, _, _, _, _, _, _ => none
  | f + 1, zx4, cells, back, reach, filled, fc => if zx2 < zx4 then (some (cells, back, reach, filled, fc)) else (gd (inb zx4 28) (lT (filled (Int32.toNatClampNeg zx4)) (fun zx5 => bd5 (if (mX4_levelOf zx5) < (mX4_levelOf zx3) then (some (cells, back, reach, filled, fc)) else (gd (inb zx3 64) (gd (inb zx5 64) (bd (mX6_chain F (cells (Int32.toNatClampNeg zx3)) (cells (Int32.toNatClampNeg zx5))) (fun zr_5 => bd5 (mX4_settle F cells back reach filled fc zr_5) (fun cells_4 back_4 reach_4 filled_4 fc_4 => some (cells_4, back_4, reach_4, filled_4, fc_4))))))) (fun cells_1 back_1 reach_1 filled_1 fc_1 => bd5 (if (mX4_levelOf zx3) < (mX4_levelOf zx5) then (some (cells_1, back_1, reach_1, filled_1, fc_1)) else (gd (inb zx5 64) (gd (inb zx3 64) (bd (mX6_chain F (cells_1 (Int32.toNatClampNeg zx5)) (cells_1 (Int32.toNatClampNeg zx3))) (fun zr_4 => bd5 (mX4_settle F cells_1 back_1 reach_1 filled_1 fc_1 zr_4) (fun cells_3 back_3 reach_3 filled_3 fc_3 => some (cells_3, back_3, reach_3, filled_3, fc_3))))))) (fun cells_2 back_2 reach_2 filled_2 fc_2 => mX4_spreadFrom_L29 F zx2 zx3 f (zx4 + 1) cells_2 back_2 reach_2 filled_2 fc_2)))))
theorem mX4_spreadFrom_L29_s (F : Nat) (zx2 : Int32) (zx3 : Int32) (f : Nat) (zx4 : Int32) (cells : Nat → Int32) (back : Nat → Int32) (reach : Nat → Int32) (filled : Nat → Int32) (fc : Int32) : mX4_spreadFrom_L29 F zx2 zx3 (f + 1) zx4 cells back reach filled fc = (if zx2 < zx4 then (some (cells, back, reach, filled, fc)) else (gd (inb zx4 28) (lT (filled (Int32.toNatClampNeg zx4)) (fun zx5 => bd5 (if (mX4_levelOf zx5) < (mX4_levelOf zx3) then (some (cells, back, reach, filled, fc)) else (gd (inb zx3 64) (gd (inb zx5 64) (bd (mX6_chain F (cells (Int32.toNatClampNeg zx3)) (cells (Int32.toNatClampNeg zx5))) (fun zr_5 => bd5 (mX4_settle F cells back reach filled fc zr_5) (fun cells_4 back_4 reach_4 filled_4 fc_4 => some (cells_4, back_4, reach_4, filled_4, fc_4))))))) (fun cells_1 back_1 reach_1 filled_1 fc_1 => bd5 (if (mX4_levelOf zx3) < (mX4_levelOf zx5) then (some (cells_1, back_1, reach_1, filled_1, fc_1)) else (gd (inb zx5 64) (gd (inb zx3 64) (bd (mX6_chain F (cells_1 (Int32.toNatClampNeg zx5)) (cells_1 (Int32.toNatClampNeg zx3))) (fun zr_4 => bd5 (mX4_settle F cells_1 back_1 reach_1 filled_1 fc_1 zr_4) (fun cells_3 back_3 reach_3 filled_3 fc_3 => some (cells_3, back_3, reach_3, filled_3, fc_3))))))) (fun cells_2 back_2 reach_2 filled_2 fc_2 => mX4_spreadFrom_L29 F zx2 zx3 f (zx4 + 1) cells_2 back_2 reach_2 filled_2 fc_2)))))) := rfl
def mX4_spreadFrom_L2 (F : Nat) : Nat → Int32 → (Nat → Int32) → (Nat → Int32) → (Nat → Int32) → (Nat → Int32) → Int32 → Option ((Nat → Int32) × (Nat → Int32) × (Nat → Int32) × (Nat → Int32) × Int32)
  | 0, _, _, _, _, _, _ => none
  | f + 1, zx2, cells, back, reach, filled, fc => if fc ≤ zx2 then (some (cells, back, reach, filled, fc)) else (if 28 ≤ fc then (some (cells, back, reach, filled, fc)) else (gd (inb zx2 28) (lT (filled (Int32.toNatClampNeg zx2)) (fun zx3 => bd5 (mX4_spreadFrom_L29 F zx2 zx3 F 0 cells back reach filled fc) (fun cells_1 back_1 reach_1 filled_1 fc_1 => mX4_spreadFrom_L2 F f (zx2 + 1) cells_1 back_1 reach_1 filled_1 fc_1)))))
theorem mX4_spreadFrom_L2_s (F : Nat) (f : Nat) (zx2 : Int32) (cells : Nat → Int32) (back : Nat → Int32) (reach : Nat → Int32) (filled : Nat → Int32) (fc : Int32) : mX4_spreadFrom_L2 F (f + 1) zx2 cells back reach filled fc = (if fc ≤ zx2 then (some (cells, back, reach, filled, fc)) else (if 28 ≤ fc then (some (cells, back, reach, filled, fc)) else (gd (inb zx2 28) (lT (filled (Int32.toNatClampNeg zx2)) (fun zx3 => bd5 (mX4_spreadFrom_L29 F zx2 zx3 F 0 cells back reach filled fc) (fun cells_1 back_1 reach_1 filled_1 fc_1 => mX4_spreadFrom_L2 F f (zx2 + 1) cells_1 back_1 reach_1 filled_1 fc_1)))))) := rfl
def mX4_spreadFrom (F : Nat) (cells : Nat → Int32) (back : Nat → Int32) (reach : Nat → Int32) (filled : Nat → Int32) (fc : Int32) (zx1 : Int32) : Option ((Nat → Int32) × (Nat → Int32) × (Nat → Int32) × (Nat → Int32) × Int32) := bd5 (mX4_spreadFrom_L2 F F zx1 cells back reach filled fc) (fun cells_1 back_1 reach_1 filled_1 fc_1 => some (cells_1, back_1, reach_1, filled_1, fc_1))
set_option maxRecDepth 100000 in
set_option maxHeartbeats 4000000 in
theorem wX4_spreadFrom_L29 {p : Program} {l : Launch} {e : Env} {s : State} {m : MethodId} {zargs : Array Value} {zbelow : List Frame} {zmeth : Method} {c : Code} {D : va_G} {zQ : State → Prop} {zA : Nat → Prop} {ad : Nat → Nat} {cI : ClassId} {makers : Nat → Int32} {mc : Int32} {zx2 : Int32} {zx3 : Int32} (C0 : tg_C p s m zmeth c zargs cX4_spreadFrom RX4 wsX4_spreadFrom 6 D [(cI, .int)]) (hDD : tg_DD zA [ad 0, ad 1, ad 2, ad 3, ad 4, ad 5]) (hlocks : zmeth.locks = false) (hr : zmeth.sig.returnType = none) (F : Nat) : ∀ (f : Nat) (zx4 : Int32) (cells : Nat → Int32) (back : Nat → Int32) (reach : Nat → Int32) (filled : Nat → Int32) (fc : Int32) (ocells : Nat → Int32) (oback : Nat → Int32) (oreach : Nat → Int32) (ofilled : Nat → Int32) (ofc : Int32), mX4_spreadFrom_L29 F zx2 zx3 f zx4 cells back reach filled fc = some (ocells, oback, oreach, ofilled, ofc) → ∀ (zH : Heap) (zlocs : List Loc), va_P D vwCl (wT cI ad cells back reach filled fc makers mc) zH → va_S zA s.heap zH zlocs → ∀ (zls : Array Slot), lv_has zls 6 [(0, .ref (ad 0)), (2, .int zx2), (3, .int zx3), (4, .int zx4)] → (∀ (zH : Heap) (zlocs : List Loc), va_P D vwCl (wT cI ad ocells oback oreach ofilled ofc makers mc) zH → va_S zA s.heap zH zlocs → ∀ (zls : Array Slot), lv_has zls 6 [(0, .ref (ad 0)), (2, .int zx2)] → W p l e ({ frames := 2, cells := 0, slots := 0, locals := 49 } : Room) s m zargs zbelow zmeth c zH zlocs 0 0 zQ (F0 m 114 zls [])) → W p l e ({ frames := 2, cells := 0, slots := 0, locals := 49 } : Room) s m zargs zbelow zmeth c zH zlocs 0 0 zQ (F0 m 29 zls []) := by
  obtain ⟨hx, hb, hml, hown, hts, hK, hN⟩ := C0
  intro f
  induction f with
  | zero => intro _ _ _ _ _ _ _ _ _ _ _ h; exact absurd (show none = some _ from h) (fun h9 => by cases h9)
  | succ f ih =>
    intro zx4 cells back reach filled fc ocells oback oreach ofilled ofc h zH zlocs hP hS zls hl kk
    rw [mX4_spreadFrom_L29_s] at h
    refine lv_iload hx hb dX4_spreadFrom_29 (lv_at hl 3 rfl) ?_
    refine lv_iload_n hx hb dX4_spreadFrom_31 rfl (lv_at hl 1 rfl) ?_
    refine lv_icmp_gt (tgt := 114) hx hb dX4_spreadFrom_32 (by decide) (fun cb => ?_) (fun cb => ?_)
    · rw [if_pos cb] at h
      cases h
      exact kk _ _ hP hS _ (lv_sub hl [0, 1] rfl)
    · rw [if_neg cb] at h
      refine lv_aload_n hx hb dX4_spreadFrom_35 rfl (lv_at hl 0 rfl) ?_
      refine va_get (D := D) (ci := 4) (v := .ref (ad 4)) (C := RX4) (T := TX4) (N := 7) hx hb hts uX4_spreadFrom_RX4 hown hK hP 0 rfl rfl 3 (by decide) (hts _ kX4_spreadFrom_2) (fun _ h9 => h9) rfl dX4_spreadFrom_36 ?_
      refine lv_iload hx hb dX4_spreadFrom_39 (lv_at hl 3 rfl) ?_
      obtain ⟨gg, h⟩ := gd_el h
      refine va_iald hx hb hK hP 4 0 rfl rfl (inb_in gg) dX4_spreadFrom_41 ?_
      obtain ⟨zx5, ex5, h⟩ := lT_el h
      refine tg_top ex5 ?_
      refine lv_istore (lv' := [(5, .int zx5), (0, .ref (ad 0)), (2, .int zx2), (3, .int zx3), (4, .int zx4)]) hx hb dX4_spreadFrom_42 hl (by decide) rfl (fun zls hl => ?_)
      refine lv_iload_n hx hb dX4_spreadFrom_44 rfl (lv_at hl 3 rfl) ?_
      refine tg_cRi (va_runS (As := [.int zx3]) (rest := []) ⟨hx, hb, hml, hown, hts⟩ (qX4_levelOf l D zx3 _ rfl) (va_cwS 1 hts gX4_spreadFrom_X4_levelOf rfl rfl rfl zSX4_levelOf ⟨Nat.le_of_ble_eq_true rfl, Nat.le_of_ble_eq_true rfl⟩) (tg_preS tg_nil (hK.sub (tys' := []) [] rfl) hN) rfl rfl hl.1 rfl (lv_room (Nat.le_of_ble_eq_true rfl)) dX4_spreadFrom_45 ⟨Nat.zero_le _, Nat.zero_le _⟩) ?_
      refine lv_iload hx hb dX4_spreadFrom_48 (lv_at hl 0 rfl) ?_
      refine tg_cRi (va_runS (As := [.int zx5]) (rest := [.int (mX4_levelOf zx3)]) ⟨hx, hb, hml, hown, hts⟩ (qX4_levelOf l D zx5 _ rfl) (va_cwS 1 hts gX4_spreadFrom_X4_levelOf rfl rfl rfl zSX4_levelOf ⟨Nat.le_of_ble_eq_true rfl, Nat.le_of_ble_eq_true rfl⟩) (tg_preS tg_nil (hK.sub (tys' := []) [] rfl) hN) rfl rfl hl.1 rfl (lv_room (Nat.le_of_ble_eq_true rfl)) dX4_spreadFrom_50 ⟨Nat.zero_le _, Nat.zero_le _⟩) ?_
      obtain ⟨cells_1, back_1, reach_1, filled_1, fc_1, hv, h⟩ := bd5_el h
      have hj : ∀ (zH : Heap) (zlocs : List Loc), va_P D vwCl (wT cI ad cells_1 back_1 reach_1 filled_1 fc_1 makers mc) zH → va_S zA s.heap zH zlocs → W p l e ({ frames := 2, cells := 0, slots := 0, locals := 49 } : Room) s m zargs zbelow zmeth c zH zlocs 0 0 zQ (F0 m 76 zls []) := by
        intro zH zlocs hP hS
        refine lv_iload hx hb dX4_spreadFrom_76 (lv_at hl 0 rfl) ?_
        refine tg_cRi (va_runS (As := [.int zx5]) (rest := []) ⟨hx, hb, hml, hown, hts⟩ (qX4_levelOf l D zx5 _ rfl) (va_cwS 1 hts gX4_spreadFrom_X4_levelOf rfl rfl rfl zSX4_levelOf ⟨Nat.le_of_ble_eq_true rfl, Nat.le_of_ble_eq_true rfl⟩) (tg_preS tg_nil (hK.sub (tys' := []) [] rfl) hN) rfl rfl hl.1 rfl (lv_room (Nat.le_of_ble_eq_true rfl)) dX4_spreadFrom_78 ⟨Nat.zero_le _, Nat.zero_le _⟩) ?_
        refine lv_iload_n hx hb dX4_spreadFrom_81 rfl (lv_at hl 3 rfl) ?_
        refine tg_cRi (va_runS (As := [.int zx3]) (rest := [.int (mX4_levelOf zx5)]) ⟨hx, hb, hml, hown, hts⟩ (qX4_levelOf l D zx3 _ rfl) (va_cwS 1 hts gX4_spreadFrom_X4_levelOf rfl rfl rfl zSX4_levelOf ⟨Nat.le_of_ble_eq_true rfl, Nat.le_of_ble_eq_true rfl⟩) (tg_preS tg_nil (hK.sub (tys' := []) [] rfl) hN) rfl rfl hl.1 rfl (lv_room (Nat.le_of_ble_eq_true rfl)) dX4_spreadFrom_82 ⟨Nat.zero_le _, Nat.zero_le _⟩) ?_
        obtain ⟨cells_2, back_2, reach_2, filled_2, fc_2, hv_1, h⟩ := bd5_el h
        have hj_1 : ∀ (zH : Heap) (zlocs : List Loc), va_P D vwCl (wT cI ad cells_2 back_2 reach_2 filled_2 fc_2 makers mc) zH → va_S zA s.heap zH zlocs → W p l e ({ frames := 2, cells := 0, slots := 0, locals := 49 } : Room) s m zargs zbelow zmeth c zH zlocs 0 0 zQ (F0 m 108 zls []) := by
          intro zH zlocs hP hS
          refine lv_iinc (v := (zx4 + 1)) (lv' := [(4, .int (zx4 + 1)), (5, .int zx5), (0, .ref (ad 0)), (2, .int zx2), (3, .int zx3)]) hx hb dX4_spreadFrom_108 hl (k := 4) rfl rfl (by decide) rfl (fun zls hl => ?_)
          refine lv_goto (tgt := 29) hx hb dX4_spreadFrom_111 (by decide) ?_
          exact ih _ _ _ _ _ _ _ _ _ _ _ h _ _ hP hS _ (lv_sub hl [2, 3, 4, 0] rfl) kk
        refine lv_icmp_gt (tgt := 108) hx hb dX4_spreadFrom_85 (by decide) (fun cb_1 => ?_) (fun cb_1 => ?_)
        · rw [if_pos cb_1] at hv_1
          cases hv_1
          exact hj_1 _ _ hP hS
        · rw [if_neg cb_1] at hv_1
          refine lv_aload_n hx hb dX4_spreadFrom_88 rfl (lv_at hl 1 rfl) ?_
          refine lv_aload_n hx hb dX4_spreadFrom_89 rfl (lv_at hl 1 rfl) ?_
          refine va_get (D := D) (ci := 4) (v := .ref (ad 1)) (C := RX4) (T := TX4) (N := 7) hx hb hts uX4_spreadFrom_RX4 hown hK hP 0 rfl rfl 0 (by decide) (hts _ kX4_spreadFrom_3) (fun _ h9 => h9) rfl dX4_spreadFrom_90 ?_
          refine lv_iload hx hb dX4_spreadFrom_93 (lv_at hl 0 rfl) ?_
          obtain ⟨gg_1, hv_1⟩ := gd_el hv_1
          refine va_iald hx hb hK hP 1 0 rfl rfl (inb_in gg_1) dX4_spreadFrom_95 ?_
          refine lv_aload_n hx hb dX4_spreadFrom_96 rfl (lv_at hl 1 rfl) ?_
          refine va_get (D := D) (ci := 4) (v := .ref (ad 1)) (C := RX4) (T := TX4) (N := 7) hx hb hts uX4_spreadFrom_RX4 hown hK hP 0 rfl rfl 0 (by decide) (hts _ kX4_spreadFrom_3) (fun _ h9 => h9) rfl dX4_spreadFrom_97 ?_
          refine lv_iload_n hx hb dX4_spreadFrom_100 rfl (lv_at hl 3 rfl) ?_
          obtain ⟨gg_2, hv_1⟩ := gd_el hv_1
          refine va_iald hx hb hK hP 1 0 rfl rfl (inb_in gg_2) dX4_spreadFrom_101 ?_
          obtain ⟨zr_4, hc, hv_1⟩ := bd_el hv_1
          refine tg_cRi (va_runSN (As := [.int (cells_1 (Int32.toNatClampNeg zx5)), .int (cells_1 (Int32.toNatClampNeg zx3))]) (rest := [.ref (ad 0)]) ⟨hx, hb, hml, hown, hts⟩ (qX6_chain l D (cells_1 (Int32.toNatClampNeg zx5)) (cells_1 (Int32.toNatClampNeg zx3)) F zr_4 hc) (⟨va_cnB 2 hts gX4_spreadFrom_X6_chain_n82 rfl rfl rfl (hN _ nw_X4_82) (hts _ kX4_spreadFrom_4) zSX6_chain ⟨Nat.le_of_ble_eq_true rfl, Nat.le_of_ble_eq_true rfl⟩, hts _ kX4_spreadFrom_5, trivial⟩) (tg_preS tg_nil (hK.sub (tys' := []) [] rfl) hN) rfl rfl hl.1 rfl (lv_room (Nat.le_of_ble_eq_true rfl)) dX4_spreadFrom_102 ⟨Nat.zero_le _, Nat.zero_le _⟩) ?_
          obtain ⟨cells_3, back_3, reach_3, filled_3, fc_3, hc_1, hv_1⟩ := bd5_el hv_1
          refine tg_cMv (va_runV (As := [.int zr_4]) (rest := []) ⟨hx, hb, hml, hown, hts⟩ (qX4_settle l D cI ad cells_1 back_1 reach_1 filled_1 fc_1 makers mc zr_4 F cells_3 back_3 reach_3 filled_3 fc_3 hc_1) (cwV 1 hts gX4_spreadFrom_X4_settle rfl rfl rfl zVX4_settle ⟨Nat.le_of_ble_eq_true rfl, Nat.le_of_ble_eq_true rfl⟩) (tg_preVM (r := (RX4, TX4, 7)) (ci := 4) (q0 := 0) hP (hDD _ rfl) hK hN rfl rfl) rfl rfl hl.1 rfl (lv_room (Nat.le_of_ble_eq_true rfl)) dX4_spreadFrom_105 ⟨Nat.zero_le _, Nat.zero_le _⟩) hS (tg_inA (hDD _ rfl)) (fun zH zlocs _ hP hS => ?_)
          cases hv_1
          exact hj_1 _ _ hP hS
      refine lv_icmp_gt (tgt := 76) hx hb dX4_spreadFrom_53 (by decide) (fun cb_2 => ?_) (fun cb_2 => ?_)
      · rw [if_pos cb_2] at hv
        cases hv
        exact hj _ _ hP hS
      · rw [if_neg cb_2] at hv
        refine lv_aload_n hx hb dX4_spreadFrom_56 rfl (lv_at hl 1 rfl) ?_
        refine lv_aload_n hx hb dX4_spreadFrom_57 rfl (lv_at hl 1 rfl) ?_
        refine va_get (D := D) (ci := 4) (v := .ref (ad 1)) (C := RX4) (T := TX4) (N := 7) hx hb hts uX4_spreadFrom_RX4 hown hK hP 0 rfl rfl 0 (by decide) (hts _ kX4_spreadFrom_3) (fun _ h9 => h9) rfl dX4_spreadFrom_58 ?_
        refine lv_iload_n hx hb dX4_spreadFrom_61 rfl (lv_at hl 3 rfl) ?_
        obtain ⟨gg_3, hv⟩ := gd_el hv
        refine va_iald hx hb hK hP 1 0 rfl rfl (inb_in gg_3) dX4_spreadFrom_62 ?_
        refine lv_aload_n hx hb dX4_spreadFrom_63 rfl (lv_at hl 1 rfl) ?_
        refine va_get (D := D) (ci := 4) (v := .ref (ad 1)) (C := RX4) (T := TX4) (N := 7) hx hb hts uX4_spreadFrom_RX4 hown hK hP 0 rfl rfl 0 (by decide) (hts _ kX4_spreadFrom_3) (fun _ h9 => h9) rfl dX4_spreadFrom_64 ?_
        refine lv_iload hx hb dX4_spreadFrom_67 (lv_at hl 0 rfl) ?_
        obtain ⟨gg_4, hv⟩ := gd_el hv
        refine va_iald hx hb hK hP 1 0 rfl rfl (inb_in gg_4) dX4_spreadFrom_69 ?_
        obtain ⟨zr_5, hc_2, hv⟩ := bd_el hv
        refine tg_cRi (va_runSN (As := [.int (cells (Int32.toNatClampNeg zx3)), .int (cells (Int32.toNatClampNeg zx5))]) (rest := [.ref (ad 0)]) ⟨hx, hb, hml, hown, hts⟩ (qX6_chain l D (cells (Int32.toNatClampNeg zx3)) (cells (Int32.toNatClampNeg zx5)) F zr_5 hc_2) (⟨va_cnB 2 hts gX4_spreadFrom_X6_chain_n82 rfl rfl rfl (hN _ nw_X4_82) (hts _ kX4_spreadFrom_4) zSX6_chain ⟨Nat.le_of_ble_eq_true rfl, Nat.le_of_ble_eq_true rfl⟩, hts _ kX4_spreadFrom_5, trivial⟩) (tg_preS tg_nil (hK.sub (tys' := []) [] rfl) hN) rfl rfl hl.1 rfl (lv_room (Nat.le_of_ble_eq_true rfl)) dX4_spreadFrom_70 ⟨Nat.zero_le _, Nat.zero_le _⟩) ?_
        obtain ⟨cells_4, back_4, reach_4, filled_4, fc_4, hc_3, hv⟩ := bd5_el hv
        refine tg_cMv (va_runV (As := [.int zr_5]) (rest := []) ⟨hx, hb, hml, hown, hts⟩ (qX4_settle l D cI ad cells back reach filled fc makers mc zr_5 F cells_4 back_4 reach_4 filled_4 fc_4 hc_3) (cwV 1 hts gX4_spreadFrom_X4_settle rfl rfl rfl zVX4_settle ⟨Nat.le_of_ble_eq_true rfl, Nat.le_of_ble_eq_true rfl⟩) (tg_preVM (r := (RX4, TX4, 7)) (ci := 4) (q0 := 0) hP (hDD _ rfl) hK hN rfl rfl) rfl rfl hl.1 rfl (lv_room (Nat.le_of_ble_eq_true rfl)) dX4_spreadFrom_73 ⟨Nat.zero_le _, Nat.zero_le _⟩) hS (tg_inA (hDD _ rfl)) (fun zH zlocs _ hP hS => ?_)
        cases hv
        exact hj _ _ hP hS
set_option maxRecDepth 100000 in
set_option maxHeartbeats 4000000 in
theorem wX4_spreadFrom_L2 {p : Program} {l : Launch} {e : Env} {s : State} {m : MethodId} {zargs : Array Value} {zbelow : List Frame} {zmeth : Method} {c : Code} {D : va_G} {zQ : State → Prop} {zA : Nat → Prop} {ad : Nat → Nat} {cI : ClassId} {makers : Nat → Int32} {mc : Int32} (C0 : tg_C p s m zmeth c zargs cX4_spreadFrom RX4 wsX4_spreadFrom 6 D [(cI, .int)]) (hDD : tg_DD zA [ad 0, ad 1, ad 2, ad 3, ad 4, ad 5]) (hlocks : zmeth.locks = false) (hr : zmeth.sig.returnType = none) (F : Nat) : ∀ (f : Nat) (zx2 : Int32) (cells : Nat → Int32) (back : Nat → Int32) (reach : Nat → Int32) (filled : Nat → Int32) (fc : Int32) (ocells : Nat → Int32) (oback : Nat → Int32) (oreach : Nat → Int32) (ofilled : Nat → Int32) (ofc : Int32), mX4_spreadFrom_L2 F f zx2 cells back reach filled fc = some (ocells, oback, oreach, ofilled, ofc) → ∀ (zH : Heap) (zlocs : List Loc), va_P D vwCl (wT cI ad cells back reach filled fc makers mc) zH → va_S zA s.heap zH zlocs → ∀ (zls : Array Slot), lv_has zls 6 [(0, .ref (ad 0)), (2, .int zx2)] → (∀ (zH : Heap) (zlocs : List Loc), va_P D vwCl (wT cI ad ocells oback oreach ofilled ofc makers mc) zH → va_S zA s.heap zH zlocs → ∀ (zls : Array Slot), lv_has zls 6 [] → W p l e ({ frames := 2, cells := 0, slots := 0, locals := 49 } : Room) s m zargs zbelow zmeth c zH zlocs 0 0 zQ (F0 m 120 zls [])) → W p l e ({ frames := 2, cells := 0, slots := 0, locals := 49 } : Room) s m zargs zbelow zmeth c zH zlocs 0 0 zQ (F0 m 2 zls []) := by
  obtain ⟨hx, hb, hml, hown, hts, hK, hN⟩ := C0
  intro f
  induction f with
  | zero => intro _ _ _ _ _ _ _ _ _ _ _ h; exact absurd (show none = some _ from h) (fun h9 => by cases h9)
  | succ f ih =>
    intro zx2 cells back reach filled fc ocells oback oreach ofilled ofc h zH zlocs hP hS zls hl kk
    rw [mX4_spreadFrom_L2_s] at h
    refine lv_iload_n hx hb dX4_spreadFrom_2 rfl (lv_at hl 1 rfl) ?_
    refine lv_aload_n hx hb dX4_spreadFrom_3 rfl (lv_at hl 0 rfl) ?_
    refine va_get (D := D) (ci := 4) (v := .int fc) (C := RX4) (T := TX4) (N := 7) hx hb hts uX4_spreadFrom_RX4 hown hK hP 0 rfl rfl 4 (by decide) (hts _ kX4_spreadFrom_1) (fun _ h9 => h9) rfl dX4_spreadFrom_4 ?_
    refine lv_icmp_ge (tgt := 120) hx hb dX4_spreadFrom_7 (by decide) (fun cb => ?_) (fun cb => ?_)
    · rw [if_pos cb] at h
      cases h
      exact kk _ _ hP hS _ (lv_sub hl [] rfl)
    · rw [if_neg cb] at h
      refine lv_aload_n hx hb dX4_spreadFrom_10 rfl (lv_at hl 0 rfl) ?_
      refine va_get (D := D) (ci := 4) (v := .int fc) (C := RX4) (T := TX4) (N := 7) hx hb hts uX4_spreadFrom_RX4 hown hK hP 0 rfl rfl 4 (by decide) (hts _ kX4_spreadFrom_1) (fun _ h9 => h9) rfl dX4_spreadFrom_11 ?_
      refine lv_bipush (v := 28) hx hb dX4_spreadFrom_14 (by decide) ?_
      refine lv_icmp_ge (tgt := 120) hx hb dX4_spreadFrom_16 (by decide) (fun cb_1 => ?_) (fun cb_1 => ?_)
      · rw [if_pos cb_1] at h
        cases h
        exact kk _ _ hP hS _ (lv_sub hl [] rfl)
      · rw [if_neg cb_1] at h
        refine lv_aload_n hx hb dX4_spreadFrom_19 rfl (lv_at hl 0 rfl) ?_
        refine va_get (D := D) (ci := 4) (v := .ref (ad 4)) (C := RX4) (T := TX4) (N := 7) hx hb hts uX4_spreadFrom_RX4 hown hK hP 0 rfl rfl 3 (by decide) (hts _ kX4_spreadFrom_2) (fun _ h9 => h9) rfl dX4_spreadFrom_20 ?_
        refine lv_iload_n hx hb dX4_spreadFrom_23 rfl (lv_at hl 1 rfl) ?_
        obtain ⟨gg, h⟩ := gd_el h
        refine va_iald hx hb hK hP 4 0 rfl rfl (inb_in gg) dX4_spreadFrom_24 ?_
        obtain ⟨zx3, ex3, h⟩ := lT_el h
        refine tg_top ex3 ?_
        refine lv_istore_n (lv' := [(3, .int zx3), (0, .ref (ad 0)), (2, .int zx2)]) hx hb dX4_spreadFrom_25 rfl hl (by decide) rfl (fun zls hl => ?_)
        refine lv_iconst (v := 0) hx hb dX4_spreadFrom_26 (by decide) ?_
        refine lv_istore (lv' := [(4, .int 0), (3, .int zx3), (0, .ref (ad 0)), (2, .int zx2)]) hx hb dX4_spreadFrom_27 hl (by decide) rfl (fun zls hl => ?_)
        obtain ⟨cells_1, back_1, reach_1, filled_1, fc_1, hv, h⟩ := bd5_el h
        refine wX4_spreadFrom_L29 ⟨hx, hb, hml, hown, hts, hK, hN⟩ hDD hlocks hr F F _ _ _ _ _ _ _ _ _ _ _ hv _ _ hP hS _ (lv_sub hl [2, 3, 1, 0] rfl) (fun zH zlocs hP hS zls hl => ?_)
        refine lv_iinc (v := (zx2 + 1)) (lv' := [(2, .int (zx2 + 1)), (0, .ref (ad 0))]) hx hb dX4_spreadFrom_114 hl (k := 1) rfl rfl (by decide) rfl (fun zls hl => ?_)
        refine lv_goto (tgt := 2) hx hb dX4_spreadFrom_117 (by decide) ?_
        exact ih _ _ _ _ _ _ _ _ _ _ _ h _ _ hP hS _ (lv_sub hl [1, 0] rfl) kk
set_option maxRecDepth 100000 in
set_option maxHeartbeats 4000000 in
theorem qX4_spreadFrom (l : Launch) (D : va_G) (cI : ClassId) (ad : Nat → Nat) (cells : Nat → Int32) (back : Nat → Int32) (reach : Nat → Int32) (filled : Nat → Int32) (fc : Int32) (makers : Nat → Int32) (mc : Int32) (zx1 : Int32) (F : Nat) (ocells : Nat → Int32) (oback : Nat → Int32) (oreach : Nat → Int32) (ofilled : Nat → Int32) (ofc : Int32) (h : mX4_spreadFrom F cells back reach filled fc zx1 = some (ocells, oback, oreach, ofilled, ofc)) : Met l yX4_spreadFrom wsX4_spreadFrom ({ frames := 2, cells := 0, slots := 0, locals := 49 } : Room) (tg_PM D [(cI, .int)] [.ref (ad 0), .int zx1] (wT cI ad cells back reach filled fc makers mc)) (tg_Mv D (wT cI ad cells back reach filled fc makers mc) (wT cI ad ocells oback oreach ofilled ofc makers mc)) 0 0 (tg_in (wT cI ad cells back reach filled fc makers mc)) := by
  refine Met.ofW (cc := cX4_spreadFrom) (maxL := 6) (ret := none) (by decide) rfl ?_
  intro p e s m zargs zbelow zmeth c s₁ B hml hv
  obtain ⟨hargs, hP, hK, hN, hD0⟩ := hv
  have hx := B.exec
  have hb := B.bytes
  have hr := B.returns
  have hts := atoms_spec (ws := wsX4_spreadFrom) B.pre
  have hown : s.vm.findClass RX4 = some m.cls := findClass_of_methodNamed B.named
  have hlocks := B.notSynchronized
  have hDD : tg_DD (tg_in (wT cI ad cells back reach filled fc makers mc)) [ad 0, ad 1, ad 2, ad 3, ad 4, ad 5] := tg_DD.of (tg_D hD0) rfl
  have hS : va_S (tg_in (wT cI ad cells back reach filled fc makers mc)) s.heap s.heap [] := va_S.rf
  have hl := lv_entry ([.ref (ad 0), .int zx1]) (n := 6) (Nat.le_of_ble_eq_true rfl)
  refine W.eq (g2 := entryFrame m ([.ref (ad 0), .int zx1] : List Value).toArray 6) (by rw [hargs]) ?_
  rw [lg_entry_eq]
  generalize (lg_sl ([.ref (ad 0), .int zx1]) ++ List.replicate (6 - (lg_sl ([.ref (ad 0), .int zx1])).length) Slot.unset).toArray = zls at hl ⊢
  have hl : lv_has zls 6 [(0, .ref (ad 0)), (1, .int zx1)] := hl
  rw [mX4_spreadFrom] at h
  refine lv_iload_n hx hb dX4_spreadFrom_0 rfl (lv_at hl 1 rfl) ?_
  refine lv_istore_n (lv' := [(2, .int zx1), (0, .ref (ad 0)), (1, .int zx1)]) hx hb dX4_spreadFrom_1 rfl hl (by decide) rfl (fun zls hl => ?_)
  obtain ⟨cells_1, back_1, reach_1, filled_1, fc_1, hv, h⟩ := bd5_el h
  refine wX4_spreadFrom_L2 ⟨hx, hb, hml, hown, hts, hK, hN⟩ hDD hlocks hr F F _ _ _ _ _ _ _ _ _ _ _ hv _ _ hP hS _ (lv_sub hl [1, 0] rfl) (fun zH zlocs hP hS zls hl => ?_)
  cases h
  exact W.vret hx hb hr (fun t ht hW => ⟨rfl, by rw [ht]; exact hP, hS.F ht⟩) hS.2.2 dX4_spreadFrom_120
theorem zVX4_spreadFrom : yX4_spreadFrom.cls = RX4 ∧ yX4_spreadFrom.cls ≠ "java/lang/invoke/MethodHandle" ∧ yX4_spreadFrom.cls ≠ "java/lang/invoke/VarHandle" ∧ (parseMethodDescriptor yX4_spreadFrom.desc).map (fun d => d.parameters.length) = some 1 := by decide +kernel

/-! ===== boolean join(int); ===== -/
theorem kX4_join_1 : Cond.fieldLink RX4 27 "TurnGroups$Tower" "filledCount" "I" ∈ wsX4_join := by decide +kernel
theorem kX4_join_2 : Cond.fieldLink RX4 31 "TurnGroups$Tower" "makerCount" "I" ∈ wsX4_join := by decide +kernel
theorem kX4_join_3 : Cond.fieldLink RX4 24 "TurnGroups$Tower" "makers" "[I" ∈ wsX4_join := by decide +kernel
theorem uX4_join_RX4 : ∀ w ∈ u_ws RX4 TX4 7, w ∈ wsX4_join := by decide +kernel
def mX4_join (F : Nat) (cells : Nat → Int32) (back : Nat → Int32) (reach : Nat → Int32) (filled : Nat → Int32) (fc : Int32) (makers : Nat → Int32) (mc : Int32) (zx1 : Int32) : Option (Int32 × (Nat → Int32) × (Nat → Int32) × (Nat → Int32) × (Nat → Int32) × Int32 × (Nat → Int32) × Int32) := bd5 (mX4_settle F cells back reach filled fc zx1) (fun cells_1 back_1 reach_1 filled_1 fc_1 => if fc_1 = fc then (some ((0 : Int32), cells_1, back_1, reach_1, filled_1, fc_1, makers, mc)) else (bd2 (if 16 ≤ mc then (some (makers, mc)) else (gd (inb mc 16) (lT (upd makers (Int32.toNatClampNeg mc) zx1) (fun makers_2 => lT (mc + 1) (fun mc_2 => some (makers_2, mc_2)))))) (fun makers_1 mc_1 => bd5 (mX4_spreadFrom F cells_1 back_1 reach_1 filled_1 fc_1 fc) (fun cells_2 back_2 reach_2 filled_2 fc_2 => some ((1 : Int32), cells_2, back_2, reach_2, filled_2, fc_2, makers_1, mc_1)))))
set_option maxRecDepth 100000 in
set_option maxHeartbeats 4000000 in
theorem qX4_join (l : Launch) (D : va_G) (cI : ClassId) (ad : Nat → Nat) (cells : Nat → Int32) (back : Nat → Int32) (reach : Nat → Int32) (filled : Nat → Int32) (fc : Int32) (makers : Nat → Int32) (mc : Int32) (zx1 : Int32) (F : Nat) (zr0 : Int32) (ocells : Nat → Int32) (oback : Nat → Int32) (oreach : Nat → Int32) (ofilled : Nat → Int32) (ofc : Int32) (omakers : Nat → Int32) (omc : Int32) (h : mX4_join F cells back reach filled fc makers mc zx1 = some (zr0, ocells, oback, oreach, ofilled, ofc, omakers, omc)) : Met l yX4_join wsX4_join ({ frames := 3, cells := 0, slots := 0, locals := 74 } : Room) (tg_PM D [(cI, .int)] [.ref (ad 0), .int zx1] (wT cI ad cells back reach filled fc makers mc)) (tg_Mi D (wT cI ad cells back reach filled fc makers mc) (wT cI ad ocells oback oreach ofilled ofc omakers omc) zr0) 0 0 (tg_in (wT cI ad cells back reach filled fc makers mc)) := by
  refine Met.ofW (cc := cX4_join) (maxL := 3) (ret := (some .boolean)) (by decide) rfl ?_
  intro p e s m zargs zbelow zmeth c s₁ B hml hv
  obtain ⟨hargs, hP, hK, hN, hD0⟩ := hv
  have hx := B.exec
  have hb := B.bytes
  have hr := B.returns
  have hts := atoms_spec (ws := wsX4_join) B.pre
  have hown : s.vm.findClass RX4 = some m.cls := findClass_of_methodNamed B.named
  have hlocks := B.notSynchronized
  have hDD : tg_DD (tg_in (wT cI ad cells back reach filled fc makers mc)) [ad 0, ad 1, ad 2, ad 3, ad 4, ad 5] := tg_DD.of (tg_D hD0) rfl
  have hS : va_S (tg_in (wT cI ad cells back reach filled fc makers mc)) s.heap s.heap [] := va_S.rf
  have hl := lv_entry ([.ref (ad 0), .int zx1]) (n := 3) (Nat.le_of_ble_eq_true rfl)
  refine W.eq (g2 := entryFrame m ([.ref (ad 0), .int zx1] : List Value).toArray 3) (by rw [hargs]) ?_
  rw [lg_entry_eq]
  generalize (lg_sl ([.ref (ad 0), .int zx1]) ++ List.replicate (3 - (lg_sl ([.ref (ad 0), .int zx1])).length) Slot.unset).toArray = zls at hl ⊢
  have hl : lv_has zls 3 [(0, .ref (ad 0)), (1, .int zx1)] := hl
  rw [mX4_join] at h
  refine lv_aload_n hx hb dX4_join_0 rfl (lv_at hl 0 rfl) ?_
  refine va_get (D := D) (ci := 4) (v := .int fc) (C := RX4) (T := TX4) (N := 7) hx hb hts uX4_join_RX4 hown hK hP 0 rfl rfl 4 (by decide) (hts _ kX4_join_1) (fun _ h9 => h9) rfl dX4_join_1 ?_
  refine lv_istore_n (lv' := [(2, .int fc), (0, .ref (ad 0)), (1, .int zx1)]) hx hb dX4_join_4 rfl hl (by decide) rfl (fun zls hl => ?_)
  refine lv_aload_n hx hb dX4_join_5 rfl (lv_at hl 1 rfl) ?_
  refine lv_iload_n hx hb dX4_join_6 rfl (lv_at hl 2 rfl) ?_
  obtain ⟨cells_1, back_1, reach_1, filled_1, fc_1, hc, h⟩ := bd5_el h
  refine tg_cMv (va_runV (As := [.int zx1]) (rest := []) ⟨hx, hb, hml, hown, hts⟩ (qX4_settle l D cI ad cells back reach filled fc makers mc zx1 F cells_1 back_1 reach_1 filled_1 fc_1 hc) (cwV 1 hts gX4_join_X4_settle rfl rfl rfl zVX4_settle ⟨Nat.le_of_ble_eq_true rfl, Nat.le_of_ble_eq_true rfl⟩) (tg_preVM (r := (RX4, TX4, 7)) (ci := 4) (q0 := 0) hP (hDD _ rfl) hK hN rfl rfl) rfl rfl hl.1 rfl (lv_room (Nat.le_of_ble_eq_true rfl)) dX4_join_7 ⟨Nat.zero_le _, Nat.zero_le _⟩) hS (tg_inA (hDD _ rfl)) (fun zH zlocs _ hP hS => ?_)
  refine lv_aload_n hx hb dX4_join_10 rfl (lv_at hl 1 rfl) ?_
  refine va_get (D := D) (ci := 4) (v := .int fc_1) (C := RX4) (T := TX4) (N := 7) hx hb hts uX4_join_RX4 hown hK hP 0 rfl rfl 4 (by decide) (hts _ kX4_join_1) (fun _ h9 => h9) rfl dX4_join_11 ?_
  refine lv_iload_n hx hb dX4_join_14 rfl (lv_at hl 0 rfl) ?_
  refine lv_icmp_ne (tgt := 20) hx hb dX4_join_15 (by decide) (fun cb => ?_) (fun cb => ?_)
  · rw [if_neg cb] at h
    refine lv_aload_n hx hb dX4_join_20 rfl (lv_at hl 1 rfl) ?_
    refine va_get (D := D) (ci := 4) (v := .int mc) (C := RX4) (T := TX4) (N := 7) hx hb hts uX4_join_RX4 hown hK hP 0 rfl rfl 6 (by decide) (hts _ kX4_join_2) (fun _ h9 => h9) rfl dX4_join_21 ?_
    refine lv_bipush (v := 16) hx hb dX4_join_24 (by decide) ?_
    obtain ⟨makers_1, mc_1, hv, h⟩ := bd2_el h
    have hj : ∀ (zH : Heap) (zlocs : List Loc), va_P D vwCl (wT cI ad cells_1 back_1 reach_1 filled_1 fc_1 makers_1 mc_1) zH → va_S (tg_in (wT cI ad cells back reach filled fc makers mc)) s.heap zH zlocs → W p l e ({ frames := 3, cells := 0, slots := 0, locals := 74 } : Room) s m zargs zbelow zmeth c zH zlocs 0 0 (MQ zbelow (tg_Mi D (wT cI ad cells back reach filled fc makers mc) (wT cI ad ocells oback oreach ofilled ofc omakers omc) zr0) zargs s 0 0 (tg_in (wT cI ad cells back reach filled fc makers mc))) (F0 m 49 zls []) := by
      intro zH zlocs hP hS
      refine lv_aload_n hx hb dX4_join_49 rfl (lv_at hl 1 rfl) ?_
      refine lv_iload_n hx hb dX4_join_50 rfl (lv_at hl 0 rfl) ?_
      obtain ⟨cells_2, back_2, reach_2, filled_2, fc_2, hc_1, h⟩ := bd5_el h
      refine tg_cMv (va_runV (As := [.int fc]) (rest := []) ⟨hx, hb, hml, hown, hts⟩ (qX4_spreadFrom l D cI ad cells_1 back_1 reach_1 filled_1 fc_1 makers_1 mc_1 fc F cells_2 back_2 reach_2 filled_2 fc_2 hc_1) (cwV 1 hts gX4_join_X4_spreadFrom rfl rfl rfl zVX4_spreadFrom ⟨Nat.le_of_ble_eq_true rfl, Nat.le_of_ble_eq_true rfl⟩) (tg_preVM (r := (RX4, TX4, 7)) (ci := 4) (q0 := 0) hP (hDD _ rfl) hK hN rfl rfl) rfl rfl hl.1 rfl (lv_room (Nat.le_of_ble_eq_true rfl)) dX4_join_51 ⟨Nat.zero_le _, Nat.zero_le _⟩) hS (tg_inA (hDD _ rfl)) (fun zH zlocs _ hP hS => ?_)
      refine lv_iconst (v := 1) hx hb dX4_join_54 (by decide) ?_
      cases h
      exact W.zret hx hb hr rfl (fun t ht hW => ⟨rfl, by rw [ht]; exact hP, hS.F ht⟩) hS.2.2 dX4_join_55
    refine lv_icmp_ge (tgt := 49) hx hb dX4_join_26 (by decide) (fun cb_1 => ?_) (fun cb_1 => ?_)
    · rw [if_pos cb_1] at hv
      cases hv
      exact hj _ _ hP hS
    · rw [if_neg cb_1] at hv
      refine lv_aload_n hx hb dX4_join_29 rfl (lv_at hl 1 rfl) ?_
      refine va_get (D := D) (ci := 4) (v := .ref (ad 5)) (C := RX4) (T := TX4) (N := 7) hx hb hts uX4_join_RX4 hown hK hP 0 rfl rfl 5 (by decide) (hts _ kX4_join_3) (fun _ h9 => h9) rfl dX4_join_30 ?_
      refine lv_aload_n hx hb dX4_join_33 rfl (lv_at hl 1 rfl) ?_
      refine va_get (D := D) (ci := 4) (v := .int mc) (C := RX4) (T := TX4) (N := 7) hx hb hts uX4_join_RX4 hown hK hP 0 rfl rfl 6 (by decide) (hts _ kX4_join_2) (fun _ h9 => h9) rfl dX4_join_34 ?_
      refine lv_iload_n hx hb dX4_join_37 rfl (lv_at hl 2 rfl) ?_
      obtain ⟨gg, hv⟩ := gd_el hv
      obtain ⟨makers_2, emakers_2, hv⟩ := lT_el hv
      refine va_iast hx hb hK hP (hDD _ rfl) hS 5 0 rfl rfl (inb_in gg) dX4_join_38 (fun zH zlocs hP _ hS => ?_)
      have hP : va_P D vwCl (wT cI ad cells_1 back_1 reach_1 filled_1 fc_1 (upd makers (Int32.toNatClampNeg mc) zx1) mc) zH := hP
      rw [← emakers_2] at hP
      refine lv_aload_n hx hb dX4_join_39 rfl (lv_at hl 1 rfl) ?_
      refine lv_dup hx hb dX4_join_40 rfl ?_
      refine va_get (D := D) (ci := 4) (v := .int mc) (C := RX4) (T := TX4) (N := 7) hx hb hts uX4_join_RX4 hown hK hP 0 rfl rfl 6 (by decide) (hts _ kX4_join_2) (fun _ h9 => h9) rfl dX4_join_41 ?_
      refine lv_iconst (v := 1) hx hb dX4_join_44 (by decide) ?_
      refine lv_iadd hx hb dX4_join_45 ?_
      obtain ⟨mc_2, emc_2, hv⟩ := lT_el hv
      refine tg_top emc_2 ?_
      refine va_put (D := D) (ci := 4) (v := .int mc_2) (ty := .int) (C := RX4) (T := TX4) (N := 7) hx hb hts uX4_join_RX4 tyX4 tyX4_ok nmX4 hown hK hP (hDD _ rfl) hS 0 rfl rfl 6 (by decide) (hts _ kX4_join_2) (fun _ h9 => h9) rfl (by decide +kernel) rfl rfl (Nat.le_of_ble_eq_true rfl) dX4_join_46 (fun zH zlocs hP _ hS => ?_)
      have hP : va_P D vwCl (wT cI ad cells_1 back_1 reach_1 filled_1 fc_1 makers_2 mc_2) zH := hP
      cases hv
      exact hj _ _ hP hS
  · rw [if_pos cb] at h
    refine lv_iconst (v := 0) hx hb dX4_join_18 (by decide) ?_
    cases h
    exact W.zret hx hb hr rfl (fun t ht hW => ⟨rfl, by rw [ht]; exact hP, hS.F ht⟩) hS.2.2 dX4_join_19
theorem zVX4_join : yX4_join.cls = RX4 ∧ yX4_join.cls ≠ "java/lang/invoke/MethodHandle" ∧ yX4_join.cls ≠ "java/lang/invoke/VarHandle" ∧ (parseMethodDescriptor yX4_join.desc).map (fun d => d.parameters.length) = some 1 := by decide +kernel
