/-! ===== boolean fits(int, int); ===== -/
theorem kX0_fits_1 : Cond.fieldLink RX0 7 "TurnGroups$CarriesSet" "from" "I" ∈ wsX0_fits := by decide +kernel
theorem kX0_fits_2 : Cond.fieldLink RX0 13 "TurnGroups$CarriesSet" "onto" "I" ∈ wsX0_fits := by decide +kernel
theorem kX0_fits_3 : Cond.initialized RX6 ∈ wsX0_fits := by decide +kernel
theorem kX0_fits_4 : Cond.static yX6_image ∈ wsX0_fits := by decide +kernel
theorem uX0_fits_RX0 : ∀ w ∈ u_ws RX0 TX0 2, w ∈ wsX0_fits := by decide +kernel
def mX0_fits (wa : Int32) (wb : Int32) (zx1 : Int32) (zx2 : Int32) : Int32 := if ((wa >>> (zx2 &&& 31)) &&& 1) = ((wb >>> ((mX6_image zx1 zx2) &&& 31)) &&& 1) then (1 : Int32) else (0 : Int32)
set_option maxRecDepth 100000 in
set_option maxHeartbeats 4000000 in
theorem qX0_fits (l : Launch) (D : va_G) (ad : Nat → Nat) (wa : Int32) (wb : Int32) (zx1 : Int32) (zx2 : Int32) (zr0 : Int32) (h : mX0_fits wa wb zx1 zx2 = zr0) : Met l yX0_fits wsX0_fits ({ frames := 1, cells := 0, slots := 0, locals := 21 } : Room) (tg_P D [] [.ref (ad 0), .int zx1, .int zx2] ((wC0  ad wa wb))) (tg_Ri zr0) 0 0 (fun _ => False) := by
  refine Met.ofW (cc := cX0_fits) (maxL := 3) (ret := (some .boolean)) (by decide) rfl ?_
  intro p e s m zargs zbelow zmeth c s₁ B hml hv
  obtain ⟨hargs, hP, hK, hN⟩ := hv
  have hx := B.exec
  have hb := B.bytes
  have hr := B.returns
  have hts := atoms_spec (ws := wsX0_fits) B.pre
  have hown : s.vm.findClass RX0 = some m.cls := findClass_of_methodNamed B.named
  have hlocks := B.notSynchronized
  have hl := lv_entry ([.ref (ad 0), .int zx1, .int zx2]) (n := 3) (Nat.le_of_ble_eq_true rfl)
  refine W.eq (g2 := entryFrame m ([.ref (ad 0), .int zx1, .int zx2] : List Value).toArray 3) (by rw [hargs]) ?_
  rw [lg_entry_eq]
  generalize (lg_sl ([.ref (ad 0), .int zx1, .int zx2]) ++ List.replicate (3 - (lg_sl ([.ref (ad 0), .int zx1, .int zx2])).length) Slot.unset).toArray = zls at hl ⊢
  have hl : lv_has zls 3 [(0, .ref (ad 0)), (1, .int zx1), (2, .int zx2)] := hl
  rw [mX0_fits] at h
  refine lv_aload_n hx hb dX0_fits_0 rfl (lv_at hl 0 rfl) ?_
  refine va_get (D := D) (ci := 0) (v := .int wa) (C := RX0) (T := TX0) (N := 2) hx hb hts uX0_fits_RX0 hown hK hP 0 rfl rfl 0 (by decide) (hts _ kX0_fits_1) (fun _ h9 => h9) rfl dX0_fits_1 ?_
  refine lv_iload_n hx hb dX0_fits_4 rfl (lv_at hl 2 rfl) ?_
  refine lv_ishr hx hb dX0_fits_5 ?_
  refine lv_iconst (v := 1) hx hb dX0_fits_6 (by decide) ?_
  refine lv_iand hx hb dX0_fits_7 ?_
  refine lv_aload_n hx hb dX0_fits_8 rfl (lv_at hl 0 rfl) ?_
  refine va_get (D := D) (ci := 0) (v := .int wb) (C := RX0) (T := TX0) (N := 2) hx hb hts uX0_fits_RX0 hown hK hP 0 rfl rfl 1 (by decide) (hts _ kX0_fits_2) (fun _ h9 => h9) rfl dX0_fits_9 ?_
  refine lv_iload_n hx hb dX0_fits_12 rfl (lv_at hl 1 rfl) ?_
  refine lv_iload_n hx hb dX0_fits_13 rfl (lv_at hl 2 rfl) ?_
  refine tg_cRi (va_runSN (As := [.int zx1, .int zx2]) (rest := [.int wb, .int ((wa >>> (zx2 &&& 31)) &&& 1)]) ⟨hx, hb, hml, hown, hts⟩ (qX6_image l D zx1 zx2 _ rfl) (⟨va_cnB 2 hts gX0_fits_X6_image_n16 rfl rfl rfl (hN _ nw_X0_16) (hts _ kX0_fits_3) zSX6_image ⟨Nat.le_of_ble_eq_true rfl, Nat.le_of_ble_eq_true rfl⟩, hts _ kX0_fits_4, trivial⟩) (tg_preS tg_nil (hK.sub (tys' := []) [] rfl) hN) rfl rfl hl.1 rfl (lv_room (Nat.le_of_ble_eq_true rfl)) dX0_fits_14 ⟨Nat.zero_le _, Nat.zero_le _⟩) ?_
  refine lv_ishr hx hb dX0_fits_17 ?_
  refine lv_iconst (v := 1) hx hb dX0_fits_18 (by decide) ?_
  refine lv_iand hx hb dX0_fits_19 ?_
  refine lv_icmp_ne (tgt := 27) hx hb dX0_fits_20 (by decide) (fun cb => ?_) (fun cb => ?_)
  · rw [if_neg cb] at h
    refine lv_iconst (v := 0) hx hb dX0_fits_27 (by decide) ?_
    subst h
    exact W.zret hx hb hr rfl (fun t ht hW => ⟨rfl, ht⟩) (fun _ h9 => absurd h9 List.not_mem_nil) dX0_fits_28
  · rw [if_pos cb] at h
    refine lv_iconst (v := 1) hx hb dX0_fits_23 (by decide) ?_
    refine lv_goto (tgt := 28) hx hb dX0_fits_24 (by decide) ?_
    subst h
    exact W.zret hx hb hr rfl (fun t ht hW => ⟨rfl, ht⟩) (fun _ h9 => absurd h9 List.not_mem_nil) dX0_fits_28
theorem zVX0_fits : yX0_fits.cls = RX0 ∧ yX0_fits.cls ≠ "java/lang/invoke/MethodHandle" ∧ yX0_fits.cls ≠ "java/lang/invoke/VarHandle" ∧ (parseMethodDescriptor yX0_fits.desc).map (fun d => d.parameters.length) = some 2 := by decide +kernel

/-! ===== boolean fits(int, int); ===== -/
theorem kX2_fits_1 : Cond.initialized RX6 ∈ wsX2_fits := by decide +kernel
theorem kX2_fits_2 : Cond.static yX6_image ∈ wsX2_fits := by decide +kernel
theorem kX2_fits_3 : Cond.fieldLink RX2 7 "TurnGroups$FixesSet" "set" "I" ∈ wsX2_fits := by decide +kernel
theorem uX2_fits_RX2 : ∀ w ∈ u_ws RX2 TX2 1, w ∈ wsX2_fits := by decide +kernel
def mX2_fits (wa : Int32) (zx1 : Int32) (zx2 : Int32) : Int32 := lT (mX6_image zx1 zx2) (fun zx3 => if zx3 = zx2 then (1 : Int32) else (if (((wa >>> (zx2 &&& 31)) ||| (wa >>> (zx3 &&& 31))) &&& 1) = 0 then (1 : Int32) else (0 : Int32)))
set_option maxRecDepth 100000 in
set_option maxHeartbeats 4000000 in
theorem qX2_fits (l : Launch) (D : va_G) (ad : Nat → Nat) (wa : Int32) (zx1 : Int32) (zx2 : Int32) (zr0 : Int32) (h : mX2_fits wa zx1 zx2 = zr0) : Met l yX2_fits wsX2_fits ({ frames := 1, cells := 0, slots := 0, locals := 21 } : Room) (tg_P D [] [.ref (ad 0), .int zx1, .int zx2] ((wC2  ad wa))) (tg_Ri zr0) 0 0 (fun _ => False) := by
  refine Met.ofW (cc := cX2_fits) (maxL := 4) (ret := (some .boolean)) (by decide) rfl ?_
  intro p e s m zargs zbelow zmeth c s₁ B hml hv
  obtain ⟨hargs, hP, hK, hN⟩ := hv
  have hx := B.exec
  have hb := B.bytes
  have hr := B.returns
  have hts := atoms_spec (ws := wsX2_fits) B.pre
  have hown : s.vm.findClass RX2 = some m.cls := findClass_of_methodNamed B.named
  have hlocks := B.notSynchronized
  have hl := lv_entry ([.ref (ad 0), .int zx1, .int zx2]) (n := 4) (Nat.le_of_ble_eq_true rfl)
  refine W.eq (g2 := entryFrame m ([.ref (ad 0), .int zx1, .int zx2] : List Value).toArray 4) (by rw [hargs]) ?_
  rw [lg_entry_eq]
  generalize (lg_sl ([.ref (ad 0), .int zx1, .int zx2]) ++ List.replicate (4 - (lg_sl ([.ref (ad 0), .int zx1, .int zx2])).length) Slot.unset).toArray = zls at hl ⊢
  have hl : lv_has zls 4 [(0, .ref (ad 0)), (1, .int zx1), (2, .int zx2)] := hl
  rw [mX2_fits] at h
  refine lv_iload_n hx hb dX2_fits_0 rfl (lv_at hl 1 rfl) ?_
  refine lv_iload_n hx hb dX2_fits_1 rfl (lv_at hl 2 rfl) ?_
  refine tg_cRi (va_runSN (As := [.int zx1, .int zx2]) (rest := []) ⟨hx, hb, hml, hown, hts⟩ (qX6_image l D zx1 zx2 _ rfl) (⟨va_cnB 2 hts gX2_fits_X6_image_n13 rfl rfl rfl (hN _ nw_X2_13) (hts _ kX2_fits_1) zSX6_image ⟨Nat.le_of_ble_eq_true rfl, Nat.le_of_ble_eq_true rfl⟩, hts _ kX2_fits_2, trivial⟩) (tg_preS tg_nil (hK.sub (tys' := []) [] rfl) hN) rfl rfl hl.1 rfl (lv_room (Nat.le_of_ble_eq_true rfl)) dX2_fits_2 ⟨Nat.zero_le _, Nat.zero_le _⟩) ?_
  obtain ⟨zx3, ex3, h⟩ := lT_el h
  refine tg_top ex3 ?_
  refine lv_istore_n (lv' := [(3, .int zx3), (0, .ref (ad 0)), (1, .int zx1), (2, .int zx2)]) hx hb dX2_fits_5 rfl hl (by decide) rfl (fun zls hl => ?_)
  refine lv_iload_n hx hb dX2_fits_6 rfl (lv_at hl 0 rfl) ?_
  refine lv_iload_n hx hb dX2_fits_7 rfl (lv_at hl 3 rfl) ?_
  refine lv_icmp_eq (tgt := 29) hx hb dX2_fits_8 (by decide) (fun cb => ?_) (fun cb => ?_)
  · rw [if_pos cb] at h
    refine lv_iconst (v := 1) hx hb dX2_fits_29 (by decide) ?_
    refine lv_goto (tgt := 34) hx hb dX2_fits_30 (by decide) ?_
    subst h
    exact W.zret hx hb hr rfl (fun t ht hW => ⟨rfl, ht⟩) (fun _ h9 => absurd h9 List.not_mem_nil) dX2_fits_34
  · rw [if_neg cb] at h
    refine lv_aload_n hx hb dX2_fits_11 rfl (lv_at hl 1 rfl) ?_
    refine va_get (D := D) (ci := 2) (v := .int wa) (C := RX2) (T := TX2) (N := 1) hx hb hts uX2_fits_RX2 hown hK hP 0 rfl rfl 0 (by decide) (hts _ kX2_fits_3) (fun _ h9 => h9) rfl dX2_fits_12 ?_
    refine lv_iload_n hx hb dX2_fits_15 rfl (lv_at hl 3 rfl) ?_
    refine lv_ishr hx hb dX2_fits_16 ?_
    refine lv_aload_n hx hb dX2_fits_17 rfl (lv_at hl 1 rfl) ?_
    refine va_get (D := D) (ci := 2) (v := .int wa) (C := RX2) (T := TX2) (N := 1) hx hb hts uX2_fits_RX2 hown hK hP 0 rfl rfl 0 (by decide) (hts _ kX2_fits_3) (fun _ h9 => h9) rfl dX2_fits_18 ?_
    refine lv_iload_n hx hb dX2_fits_21 rfl (lv_at hl 0 rfl) ?_
    refine lv_ishr hx hb dX2_fits_22 ?_
    refine lv_ior hx hb dX2_fits_23 ?_
    refine lv_iconst (v := 1) hx hb dX2_fits_24 (by decide) ?_
    refine lv_iand hx hb dX2_fits_25 ?_
    refine lv_if_ne (tgt := 33) hx hb dX2_fits_26 (by decide) (fun cb_1 => ?_) (fun cb_1 => ?_)
    · rw [if_neg cb_1] at h
      refine lv_iconst (v := 0) hx hb dX2_fits_33 (by decide) ?_
      subst h
      exact W.zret hx hb hr rfl (fun t ht hW => ⟨rfl, ht⟩) (fun _ h9 => absurd h9 List.not_mem_nil) dX2_fits_34
    · rw [if_pos cb_1] at h
      refine lv_iconst (v := 1) hx hb dX2_fits_29 (by decide) ?_
      refine lv_goto (tgt := 34) hx hb dX2_fits_30 (by decide) ?_
      subst h
      exact W.zret hx hb hr rfl (fun t ht hW => ⟨rfl, ht⟩) (fun _ h9 => absurd h9 List.not_mem_nil) dX2_fits_34
theorem zVX2_fits : yX2_fits.cls = RX2 ∧ yX2_fits.cls ≠ "java/lang/invoke/MethodHandle" ∧ yX2_fits.cls ≠ "java/lang/invoke/VarHandle" ∧ (parseMethodDescriptor yX2_fits.desc).map (fun d => d.parameters.length) = some 2 := by decide +kernel

/-! ===== boolean fits(int, int); ===== -/
theorem kX1_fits_1 : Cond.fieldLink RX1 7 "TurnGroups$Commutes" "tower" "LTurnGroups$Tower;" ∈ wsX1_fits := by decide +kernel
theorem uX1_fits_RX1 : ∀ w ∈ u_ws RX1 TX1 1, w ∈ wsX1_fits := by decide +kernel
theorem uX1_fits_RX4 : ∀ w ∈ u_ws RX4 TX4 7, w ∈ wsX1_fits := by decide +kernel
def mX1_fits_L2 (F : Nat) (zx1 : Int32) (zx2 : Int32) (umakers : Nat → Int32) (umc : Int32) : Nat → Int32 → Option (Int32)
  | 0, _ => none
  | f + 1, zx3 => if umc ≤ zx3 then (some (1 : Int32)) else (gd (inb zx3 16) (bd (mX1_agree F zx1 (umakers (Int32.toNatClampNeg zx3)) zx2) (fun zr => if zr = 0 then (some (0 : Int32)) else (mX1_fits_L2 F zx1 zx2 umakers umc f (zx3 + 1)))))
theorem mX1_fits_L2_s (F : Nat) (zx1 : Int32) (zx2 : Int32) (umakers : Nat → Int32) (umc : Int32) (f : Nat) (zx3 : Int32) : mX1_fits_L2 F zx1 zx2 umakers umc (f + 1) zx3 = (if umc ≤ zx3 then (some (1 : Int32)) else (gd (inb zx3 16) (bd (mX1_agree F zx1 (umakers (Int32.toNatClampNeg zx3)) zx2) (fun zr => if zr = 0 then (some (0 : Int32)) else (mX1_fits_L2 F zx1 zx2 umakers umc f (zx3 + 1)))))) := rfl
def mX1_fits (F : Nat) (umakers : Nat → Int32) (umc : Int32) (zx1 : Int32) (zx2 : Int32) : Option (Int32) := mX1_fits_L2 F zx1 zx2 umakers umc F 0
set_option maxRecDepth 100000 in
set_option maxHeartbeats 4000000 in
theorem wX1_fits_L2 {p : Program} {l : Launch} {e : Env} {s : State} {m : MethodId} {zargs : Array Value} {zbelow : List Frame} {zmeth : Method} {c : Code} {D : va_G} {ad : Nat → Nat} {od : Nat → Nat} {cI : ClassId} {ucells : Nat → Int32} {uback : Nat → Int32} {ureach : Nat → Int32} {ufilled : Nat → Int32} {ufc : Int32} {umakers : Nat → Int32} {umc : Int32} {zx1 : Int32} {zx2 : Int32} (C0 : tg_C p s m zmeth c zargs cX1_fits RX1 wsX1_fits 4 D [(cI, .int)]) (hP : va_P D vwCl (wC1 od  ad ) s.heap) (hPo : va_P D vwCl (wT cI od ucells uback ureach ufilled ufc umakers umc) s.heap) (hlocks : zmeth.locks = false) (hr : zmeth.sig.returnType = (some .boolean)) (F : Nat) : ∀ (f : Nat) (zx3 : Int32) (zr0 : Int32), mX1_fits_L2 F zx1 zx2 umakers umc f zx3 = some zr0 → ∀ (zls : Array Slot), lv_has zls 4 [(0, .ref (ad 0)), (1, .int zx1), (2, .int zx2), (3, .int zx3)] → W p l e ({ frames := 2, cells := 0, slots := 0, locals := 45 } : Room) s m zargs zbelow zmeth c s.heap [] 0 0 (MQ zbelow (tg_Ri zr0) zargs s 0 0 (fun _ => False)) (F0 m 2 zls []) := by
  obtain ⟨hx, hb, hml, hown, hts, hK, hN⟩ := C0
  intro f
  induction f with
  | zero => intro _ _ h; exact absurd (show none = some _ from h) (fun h9 => by cases h9)
  | succ f ih =>
    intro zx3 zr0 h  zls hl 
    rw [mX1_fits_L2_s] at h
    refine lv_iload_n hx hb dX1_fits_2 rfl (lv_at hl 3 rfl) ?_
    refine lv_aload_n hx hb dX1_fits_3 rfl (lv_at hl 0 rfl) ?_
    refine va_get (D := D) (ci := 1) (v := .ref (od 0)) (C := RX1) (T := TX1) (N := 1) hx hb hts uX1_fits_RX1 hown hK hP 0 rfl rfl 0 (by decide) (hts _ kX1_fits_1) (fun _ h9 => h9) rfl dX1_fits_4 ?_
    refine va_getN (D := D) (ci := 4) (v := .int umc) (C := RX4) (T := TX4) (N := 7) hx hb hts uX1_fits_RX4 hown hK hPo 0 rfl rfl 6 (by decide) (va_Nw.use rfl (hN _ nw_X1_13)) (fun _ h9 => h9) rfl dX1_fits_7 ?_
    refine lv_icmp_ge (tgt := 38) hx hb dX1_fits_10 (by decide) (fun cb => ?_) (fun cb => ?_)
    · rw [if_pos cb] at h
      refine lv_iconst (v := 1) hx hb dX1_fits_38 (by decide) ?_
      cases h
      exact W.zret hx hb hr rfl (fun t ht hW => ⟨rfl, ht⟩) (fun _ h9 => absurd h9 List.not_mem_nil) dX1_fits_39
    · rw [if_neg cb] at h
      refine lv_iload_n hx hb dX1_fits_13 rfl (lv_at hl 1 rfl) ?_
      refine lv_aload_n hx hb dX1_fits_14 rfl (lv_at hl 0 rfl) ?_
      refine va_get (D := D) (ci := 1) (v := .ref (od 0)) (C := RX1) (T := TX1) (N := 1) hx hb hts uX1_fits_RX1 hown hK hP 0 rfl rfl 0 (by decide) (hts _ kX1_fits_1) (fun _ h9 => h9) rfl dX1_fits_15 ?_
      refine va_getN (D := D) (ci := 4) (v := .ref (od 5)) (C := RX4) (T := TX4) (N := 7) hx hb hts uX1_fits_RX4 hown hK hPo 0 rfl rfl 5 (by decide) (va_Nw.use rfl (hN _ nw_X1_19)) (fun _ h9 => h9) rfl dX1_fits_18 ?_
      refine lv_iload_n hx hb dX1_fits_21 rfl (lv_at hl 3 rfl) ?_
      obtain ⟨gg, h⟩ := gd_el h
      refine va_iald hx hb hK hPo 5 0 rfl rfl (inb_in gg) dX1_fits_22 ?_
      refine lv_iload_n hx hb dX1_fits_23 rfl (lv_at hl 2 rfl) ?_
      obtain ⟨zr, hc, h⟩ := bd_el h
      refine tg_cRi (va_runS (As := [.int zx1, .int (umakers (Int32.toNatClampNeg zx3)), .int zx2]) (rest := []) ⟨hx, hb, hml, hown, hts⟩ (qX1_agree l D zx1 (umakers (Int32.toNatClampNeg zx3)) zx2 F zr hc) (va_cwS 3 hts gX1_fits_X1_agree rfl rfl rfl zSX1_agree ⟨Nat.le_of_ble_eq_true rfl, Nat.le_of_ble_eq_true rfl⟩) (tg_preS tg_nil (hK.sub (tys' := []) [] rfl) hN) rfl rfl hl.1 rfl (lv_room (Nat.le_of_ble_eq_true rfl)) dX1_fits_24 ⟨Nat.zero_le _, Nat.zero_le _⟩) ?_
      refine lv_if_ne (tgt := 32) hx hb dX1_fits_27 (by decide) (fun cb_1 => ?_) (fun cb_1 => ?_)
      · rw [if_neg cb_1] at h
        refine lv_iinc (v := (zx3 + 1)) (lv' := [(3, .int (zx3 + 1)), (0, .ref (ad 0)), (1, .int zx1), (2, .int zx2)]) hx hb dX1_fits_32 hl (k := 3) rfl rfl (by decide) rfl (fun zls hl => ?_)
        refine lv_goto (tgt := 2) hx hb dX1_fits_35 (by decide) ?_
        exact ih _ _ h  _ (lv_sub hl [1, 2, 3, 0] rfl) 
      · rw [if_pos cb_1] at h
        refine lv_iconst (v := 0) hx hb dX1_fits_30 (by decide) ?_
        cases h
        exact W.zret hx hb hr rfl (fun t ht hW => ⟨rfl, ht⟩) (fun _ h9 => absurd h9 List.not_mem_nil) dX1_fits_31
set_option maxRecDepth 100000 in
set_option maxHeartbeats 4000000 in
theorem qX1_fits (l : Launch) (D : va_G) (cI : ClassId) (ad : Nat → Nat) (od : Nat → Nat) (ucells : Nat → Int32) (uback : Nat → Int32) (ureach : Nat → Int32) (ufilled : Nat → Int32) (ufc : Int32) (umakers : Nat → Int32) (umc : Int32) (zx1 : Int32) (zx2 : Int32) (F : Nat) (zr0 : Int32) (h : mX1_fits F umakers umc zx1 zx2 = some zr0) : Met l yX1_fits wsX1_fits ({ frames := 2, cells := 0, slots := 0, locals := 45 } : Room) (tg_P D [(cI, .int)] [.ref (ad 0), .int zx1, .int zx2] ((wC1 od  ad ) ++ (wT cI od ucells uback ureach ufilled ufc umakers umc))) (tg_Ri zr0) 0 0 (fun _ => False) := by
  refine Met.ofW (cc := cX1_fits) (maxL := 4) (ret := (some .boolean)) (by decide) rfl ?_
  intro p e s m zargs zbelow zmeth c s₁ B hml hv
  obtain ⟨hargs, hP, hK, hN⟩ := hv
  have hPo := tg_appR hP
  have hP := tg_appL hP
  have hx := B.exec
  have hb := B.bytes
  have hr := B.returns
  have hts := atoms_spec (ws := wsX1_fits) B.pre
  have hown : s.vm.findClass RX1 = some m.cls := findClass_of_methodNamed B.named
  have hlocks := B.notSynchronized
  have hl := lv_entry ([.ref (ad 0), .int zx1, .int zx2]) (n := 4) (Nat.le_of_ble_eq_true rfl)
  refine W.eq (g2 := entryFrame m ([.ref (ad 0), .int zx1, .int zx2] : List Value).toArray 4) (by rw [hargs]) ?_
  rw [lg_entry_eq]
  generalize (lg_sl ([.ref (ad 0), .int zx1, .int zx2]) ++ List.replicate (4 - (lg_sl ([.ref (ad 0), .int zx1, .int zx2])).length) Slot.unset).toArray = zls at hl ⊢
  have hl : lv_has zls 4 [(0, .ref (ad 0)), (1, .int zx1), (2, .int zx2)] := hl
  rw [mX1_fits] at h
  refine lv_iconst (v := 0) hx hb dX1_fits_0 (by decide) ?_
  refine lv_istore_n (lv' := [(3, .int 0), (0, .ref (ad 0)), (1, .int zx1), (2, .int zx2)]) hx hb dX1_fits_1 rfl hl (by decide) rfl (fun zls hl => ?_)
  exact wX1_fits_L2 ⟨hx, hb, hml, hown, hts, hK, hN⟩ hP hPo hlocks hr F F _ _ h  _ (lv_sub hl [1, 2, 3, 0] rfl) 
theorem zVX1_fits : yX1_fits.cls = RX1 ∧ yX1_fits.cls ≠ "java/lang/invoke/MethodHandle" ∧ yX1_fits.cls ≠ "java/lang/invoke/VarHandle" ∧ (parseMethodDescriptor yX1_fits.desc).map (fun d => d.parameters.length) = some 2 := by decide +kernel

/-! ===== boolean fits(int, int); ===== -/
theorem kX3_fits_1 : Cond.fieldLink RX3 7 "TurnGroups$InTower" "tower" "LTurnGroups$Tower;" ∈ wsX3_fits := by decide +kernel
theorem uX3_fits_RX3 : ∀ w ∈ u_ws RX3 TX3 1, w ∈ wsX3_fits := by decide +kernel
def mX3_fits (F : Nat) (uback : Nat → Int32) (ureach : Nat → Int32) (zx1 : Int32) (zx2 : Int32) : Option (Int32) := bd (mX4_holdsStart F uback ureach zx1 zx2) (fun zr => gd (isb zr) (some zr))
set_option maxRecDepth 100000 in
set_option maxHeartbeats 4000000 in
theorem qX3_fits (l : Launch) (D : va_G) (cI : ClassId) (ad : Nat → Nat) (od : Nat → Nat) (ucells : Nat → Int32) (uback : Nat → Int32) (ureach : Nat → Int32) (ufilled : Nat → Int32) (ufc : Int32) (umakers : Nat → Int32) (umc : Int32) (zx1 : Int32) (zx2 : Int32) (F : Nat) (zr0 : Int32) (h : mX3_fits F uback ureach zx1 zx2 = some zr0) : Met l yX3_fits wsX3_fits ({ frames := 2, cells := 0, slots := 0, locals := 49 } : Room) (tg_P D [(cI, .int)] [.ref (ad 0), .int zx1, .int zx2] ((wC3 od  ad ) ++ (wT cI od ucells uback ureach ufilled ufc umakers umc))) (tg_Ri zr0) 0 0 (fun _ => False) := by
  refine Met.ofW (cc := cX3_fits) (maxL := 3) (ret := (some .boolean)) (by decide) rfl ?_
  intro p e s m zargs zbelow zmeth c s₁ B hml hv
  obtain ⟨hargs, hP, hK, hN⟩ := hv
  have hPo := tg_appR hP
  have hP := tg_appL hP
  have hx := B.exec
  have hb := B.bytes
  have hr := B.returns
  have hts := atoms_spec (ws := wsX3_fits) B.pre
  have hown : s.vm.findClass RX3 = some m.cls := findClass_of_methodNamed B.named
  have hlocks := B.notSynchronized
  have hl := lv_entry ([.ref (ad 0), .int zx1, .int zx2]) (n := 3) (Nat.le_of_ble_eq_true rfl)
  refine W.eq (g2 := entryFrame m ([.ref (ad 0), .int zx1, .int zx2] : List Value).toArray 3) (by rw [hargs]) ?_
  rw [lg_entry_eq]
  generalize (lg_sl ([.ref (ad 0), .int zx1, .int zx2]) ++ List.replicate (3 - (lg_sl ([.ref (ad 0), .int zx1, .int zx2])).length) Slot.unset).toArray = zls at hl ⊢
  have hl : lv_has zls 3 [(0, .ref (ad 0)), (1, .int zx1), (2, .int zx2)] := hl
  rw [mX3_fits] at h
  refine lv_aload_n hx hb dX3_fits_0 rfl (lv_at hl 0 rfl) ?_
  refine va_get (D := D) (ci := 3) (v := .ref (od 0)) (C := RX3) (T := TX3) (N := 1) hx hb hts uX3_fits_RX3 hown hK hP 0 rfl rfl 0 (by decide) (hts _ kX3_fits_1) (fun _ h9 => h9) rfl dX3_fits_1 ?_
  refine lv_iload_n hx hb dX3_fits_4 rfl (lv_at hl 1 rfl) ?_
  refine lv_iload_n hx hb dX3_fits_5 rfl (lv_at hl 2 rfl) ?_
  obtain ⟨zr, hc, h⟩ := bd_el h
  refine tg_cRi (va_runV (As := [.int zx1, .int zx2]) (rest := []) ⟨hx, hb, hml, hown, hts⟩ (qX4_holdsStart l D cI od ucells uback ureach ufilled ufc umakers umc zx1 zx2 F zr hc) (cwV 2 hts gX3_fits_X4_holdsStart rfl rfl rfl zVX4_holdsStart ⟨Nat.le_of_ble_eq_true rfl, Nat.le_of_ble_eq_true rfl⟩) (tg_preV (r := (RX4, TX4, 7)) (ci := 4) (q0 := 0) hPo hK hN rfl rfl) rfl rfl hl.1 rfl (lv_room (Nat.le_of_ble_eq_true rfl)) dX3_fits_6 ⟨Nat.zero_le _, Nat.zero_le _⟩) ?_
  obtain ⟨gz, h⟩ := gd_el h
  cases h
  exact W.zret hx hb hr (isb_n gz) (fun t ht hW => ⟨rfl, ht⟩) (fun _ h9 => absurd h9 List.not_mem_nil) dX3_fits_9
theorem zVX3_fits : yX3_fits.cls = RX3 ∧ yX3_fits.cls ≠ "java/lang/invoke/MethodHandle" ∧ yX3_fits.cls ≠ "java/lang/invoke/VarHandle" ∧ (parseMethodDescriptor yX3_fits.desc).map (fun d => d.parameters.length) = some 2 := by decide +kernel
