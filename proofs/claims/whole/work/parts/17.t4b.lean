/-! ===== boolean isWithin(TurnGroups$Tower); ===== -/
theorem kX4_isWithin_1 : Cond.fieldLink RX4 31 "TurnGroups$Tower" "makerCount" "I" ∈ wsX4_isWithin := by decide +kernel
theorem kX4_isWithin_2 : Cond.fieldLink RX4 24 "TurnGroups$Tower" "makers" "[I" ∈ wsX4_isWithin := by decide +kernel
theorem uX4_isWithin_RX4 : ∀ w ∈ u_ws RX4 TX4 7, w ∈ wsX4_isWithin := by decide +kernel
def mX4_isWithin_L2 (F : Nat) (makers : Nat → Int32) (mc : Int32) (uback : Nat → Int32) (ureach : Nat → Int32) : Nat → Int32 → Option (Int32)
  | 0, _ => none
  | f + 1, zx2 => if mc ≤ zx2 then (some (1 : Int32)) else (gd (inb zx2 16) (bd (mX4_holds F uback ureach (makers (Int32.toNatClampNeg zx2))) (fun zr => if zr = 0 then (some (0 : Int32)) else (mX4_isWithin_L2 F makers mc uback ureach f (zx2 + 1)))))
theorem mX4_isWithin_L2_s (F : Nat) (makers : Nat → Int32) (mc : Int32) (uback : Nat → Int32) (ureach : Nat → Int32) (f : Nat) (zx2 : Int32) : mX4_isWithin_L2 F makers mc uback ureach (f + 1) zx2 = (if mc ≤ zx2 then (some (1 : Int32)) else (gd (inb zx2 16) (bd (mX4_holds F uback ureach (makers (Int32.toNatClampNeg zx2))) (fun zr => if zr = 0 then (some (0 : Int32)) else (mX4_isWithin_L2 F makers mc uback ureach f (zx2 + 1)))))) := rfl
def mX4_isWithin (F : Nat) (makers : Nat → Int32) (mc : Int32) (uback : Nat → Int32) (ureach : Nat → Int32) : Option (Int32) := mX4_isWithin_L2 F makers mc uback ureach F 0
set_option maxRecDepth 100000 in
set_option maxHeartbeats 4000000 in
theorem wX4_isWithin_L2 {p : Program} {l : Launch} {e : Env} {s : State} {m : MethodId} {zargs : Array Value} {zbelow : List Frame} {zmeth : Method} {c : Code} {D : va_G} {ad : Nat → Nat} {od : Nat → Nat} {cI : ClassId} {cells : Nat → Int32} {back : Nat → Int32} {reach : Nat → Int32} {filled : Nat → Int32} {fc : Int32} {makers : Nat → Int32} {mc : Int32} {ucells : Nat → Int32} {uback : Nat → Int32} {ureach : Nat → Int32} {ufilled : Nat → Int32} {ufc : Int32} {umakers : Nat → Int32} {umc : Int32} (C0 : tg_C p s m zmeth c zargs cX4_isWithin RX4 wsX4_isWithin 3 D [(cI, .int)]) (hP : va_P D vwCl (wT cI ad cells back reach filled fc makers mc) s.heap) (hPo : va_P D vwCl (wT cI od ucells uback ureach ufilled ufc umakers umc) s.heap) (hlocks : zmeth.locks = false) (hr : zmeth.sig.returnType = (some .boolean)) (F : Nat) : ∀ (f : Nat) (zx2 : Int32) (zr0 : Int32), mX4_isWithin_L2 F makers mc uback ureach f zx2 = some zr0 → ∀ (zls : Array Slot), lv_has zls 3 [(0, .ref (ad 0)), (1, .ref (od 0)), (2, .int zx2)] → W p l e ({ frames := 3, cells := 0, slots := 0, locals := 70 } : Room) s m zargs zbelow zmeth c s.heap [] 0 0 (MQ zbelow (tg_Ri zr0) zargs s 0 0 (fun _ => False)) (F0 m 2 zls []) := by
  obtain ⟨hx, hb, hml, hown, hts, hK, hN⟩ := C0
  intro f
  induction f with
  | zero => intro _ _ h; exact absurd (show none = some _ from h) (fun h9 => by cases h9)
  | succ f ih =>
    intro zx2 zr0 h  zls hl 
    rw [mX4_isWithin_L2_s] at h
    refine lv_iload_n hx hb dX4_isWithin_2 rfl (lv_at hl 2 rfl) ?_
    refine lv_aload_n hx hb dX4_isWithin_3 rfl (lv_at hl 0 rfl) ?_
    refine va_get (D := D) (ci := 4) (v := .int mc) (C := RX4) (T := TX4) (N := 7) hx hb hts uX4_isWithin_RX4 hown hK hP 0 rfl rfl 6 (by decide) (hts _ kX4_isWithin_1) (fun _ h9 => h9) rfl dX4_isWithin_4 ?_
    refine lv_icmp_ge (tgt := 31) hx hb dX4_isWithin_7 (by decide) (fun cb => ?_) (fun cb => ?_)
    · rw [if_pos cb] at h
      refine lv_iconst (v := 1) hx hb dX4_isWithin_31 (by decide) ?_
      cases h
      exact W.zret hx hb hr rfl (fun t ht hW => ⟨rfl, ht⟩) (fun _ h9 => absurd h9 List.not_mem_nil) dX4_isWithin_32
    · rw [if_neg cb] at h
      refine lv_aload_n hx hb dX4_isWithin_10 rfl (lv_at hl 1 rfl) ?_
      refine lv_aload_n hx hb dX4_isWithin_11 rfl (lv_at hl 0 rfl) ?_
      refine va_get (D := D) (ci := 4) (v := .ref (ad 5)) (C := RX4) (T := TX4) (N := 7) hx hb hts uX4_isWithin_RX4 hown hK hP 0 rfl rfl 5 (by decide) (hts _ kX4_isWithin_2) (fun _ h9 => h9) rfl dX4_isWithin_12 ?_
      refine lv_iload_n hx hb dX4_isWithin_15 rfl (lv_at hl 2 rfl) ?_
      obtain ⟨gg, h⟩ := gd_el h
      refine va_iald hx hb hK hP 5 0 rfl rfl (inb_in gg) dX4_isWithin_16 ?_
      obtain ⟨zr, hc, h⟩ := bd_el h
      refine tg_cRi (va_runV (As := [.int (makers (Int32.toNatClampNeg zx2))]) (rest := []) ⟨hx, hb, hml, hown, hts⟩ (qX4_holds l D cI od ucells uback ureach ufilled ufc umakers umc (makers (Int32.toNatClampNeg zx2)) F zr hc) (cwV 1 hts gX4_isWithin_X4_holds rfl rfl rfl zVX4_holds ⟨Nat.le_of_ble_eq_true rfl, Nat.le_of_ble_eq_true rfl⟩) (tg_preV (r := (RX4, TX4, 7)) (ci := 4) (q0 := 0) hPo hK hN rfl rfl) rfl rfl hl.1 rfl (lv_room (Nat.le_of_ble_eq_true rfl)) dX4_isWithin_17 ⟨Nat.zero_le _, Nat.zero_le _⟩) ?_
      refine lv_if_ne (tgt := 25) hx hb dX4_isWithin_20 (by decide) (fun cb_1 => ?_) (fun cb_1 => ?_)
      · rw [if_neg cb_1] at h
        refine lv_iinc (v := (zx2 + 1)) (lv' := [(2, .int (zx2 + 1)), (0, .ref (ad 0)), (1, .ref (od 0))]) hx hb dX4_isWithin_25 hl (k := 2) rfl rfl (by decide) rfl (fun zls hl => ?_)
        refine lv_goto (tgt := 2) hx hb dX4_isWithin_28 (by decide) ?_
        exact ih _ _ h  _ (lv_sub hl [1, 2, 0] rfl) 
      · rw [if_pos cb_1] at h
        refine lv_iconst (v := 0) hx hb dX4_isWithin_23 (by decide) ?_
        cases h
        exact W.zret hx hb hr rfl (fun t ht hW => ⟨rfl, ht⟩) (fun _ h9 => absurd h9 List.not_mem_nil) dX4_isWithin_24
set_option maxRecDepth 100000 in
set_option maxHeartbeats 4000000 in
theorem qX4_isWithin (l : Launch) (D : va_G) (cI : ClassId) (ad : Nat → Nat) (cells : Nat → Int32) (back : Nat → Int32) (reach : Nat → Int32) (filled : Nat → Int32) (fc : Int32) (makers : Nat → Int32) (mc : Int32) (od : Nat → Nat) (ucells : Nat → Int32) (uback : Nat → Int32) (ureach : Nat → Int32) (ufilled : Nat → Int32) (ufc : Int32) (umakers : Nat → Int32) (umc : Int32) (F : Nat) (zr0 : Int32) (h : mX4_isWithin F makers mc uback ureach = some zr0) : Met l yX4_isWithin wsX4_isWithin ({ frames := 3, cells := 0, slots := 0, locals := 70 } : Room) (tg_P D [(cI, .int)] [.ref (ad 0), .ref (od 0)] ((wT cI ad cells back reach filled fc makers mc) ++ (wT cI od ucells uback ureach ufilled ufc umakers umc))) (tg_Ri zr0) 0 0 (fun _ => False) := by
  refine Met.ofW (cc := cX4_isWithin) (maxL := 3) (ret := (some .boolean)) (by decide) rfl ?_
  intro p e s m zargs zbelow zmeth c s₁ B hml hv
  obtain ⟨hargs, hP, hK, hN⟩ := hv
  have hPo := tg_appR hP
  have hP := tg_appL hP
  have hx := B.exec
  have hb := B.bytes
  have hr := B.returns
  have hts := atoms_spec (ws := wsX4_isWithin) B.pre
  have hown : s.vm.findClass RX4 = some m.cls := findClass_of_methodNamed B.named
  have hlocks := B.notSynchronized
  have hl := lv_entry ([.ref (ad 0), .ref (od 0)]) (n := 3) (Nat.le_of_ble_eq_true rfl)
  refine W.eq (g2 := entryFrame m ([.ref (ad 0), .ref (od 0)] : List Value).toArray 3) (by rw [hargs]) ?_
  rw [lg_entry_eq]
  generalize (lg_sl ([.ref (ad 0), .ref (od 0)]) ++ List.replicate (3 - (lg_sl ([.ref (ad 0), .ref (od 0)])).length) Slot.unset).toArray = zls at hl ⊢
  have hl : lv_has zls 3 [(0, .ref (ad 0)), (1, .ref (od 0))] := hl
  rw [mX4_isWithin] at h
  refine lv_iconst (v := 0) hx hb dX4_isWithin_0 (by decide) ?_
  refine lv_istore_n (lv' := [(2, .int 0), (0, .ref (ad 0)), (1, .ref (od 0))]) hx hb dX4_isWithin_1 rfl hl (by decide) rfl (fun zls hl => ?_)
  exact wX4_isWithin_L2 ⟨hx, hb, hml, hown, hts, hK, hN⟩ hP hPo hlocks hr F F _ _ h  _ (lv_sub hl [1, 2, 0] rfl) 
theorem zVX4_isWithin : yX4_isWithin.cls = RX4 ∧ yX4_isWithin.cls ≠ "java/lang/invoke/MethodHandle" ∧ yX4_isWithin.cls ≠ "java/lang/invoke/VarHandle" ∧ (parseMethodDescriptor yX4_isWithin.desc).map (fun d => d.parameters.length) = some 1 := by decide +kernel

/-! ===== boolean staysUnder(TurnGroups$Tower); ===== -/
theorem kX4_staysUnder_1 : Cond.fieldLink RX4 31 "TurnGroups$Tower" "makerCount" "I" ∈ wsX4_staysUnder := by decide +kernel
theorem kX4_staysUnder_2 : Cond.fieldLink RX4 24 "TurnGroups$Tower" "makers" "[I" ∈ wsX4_staysUnder := by decide +kernel
theorem kX4_staysUnder_3 : Cond.initialized RX6 ∈ wsX4_staysUnder := by decide +kernel
theorem kX4_staysUnder_4 : Cond.static yX6_carried ∈ wsX4_staysUnder := by decide +kernel
theorem uX4_staysUnder_RX4 : ∀ w ∈ u_ws RX4 TX4 7, w ∈ wsX4_staysUnder := by decide +kernel
def mX4_staysUnder_L12 (F : Nat) (zx2 : Int32) (back : Nat → Int32) (reach : Nat → Int32) (makers : Nat → Int32) (umakers : Nat → Int32) (umc : Int32) : Nat → Int32 → Option (Option Int32)
  | 0, _ => none
  | f + 1, zx3 => if umc ≤ zx3 then (some none) else (gd (inb zx2 16) (gd (inb zx3 16) (bd (mX6_carried F (makers (Int32.toNatClampNeg zx2)) (umakers (Int32.toNatClampNeg zx3))) (fun zr => bd (mX4_holds F back reach zr) (fun zr_1 => if zr_1 = 0 then (some (some (0 : Int32))) else (mX4_staysUnder_L12 F zx2 back reach makers umakers umc f (zx3 + 1)))))))
theorem mX4_staysUnder_L12_s (F : Nat) (zx2 : Int32) (back : Nat → Int32) (reach : Nat → Int32) (makers : Nat → Int32) (umakers : Nat → Int32) (umc : Int32) (f : Nat) (zx3 : Int32) : mX4_staysUnder_L12 F zx2 back reach makers umakers umc (f + 1) zx3 = (if umc ≤ zx3 then (some none) else (gd (inb zx2 16) (gd (inb zx3 16) (bd (mX6_carried F (makers (Int32.toNatClampNeg zx2)) (umakers (Int32.toNatClampNeg zx3))) (fun zr => bd (mX4_holds F back reach zr) (fun zr_1 => if zr_1 = 0 then (some (some (0 : Int32))) else (mX4_staysUnder_L12 F zx2 back reach makers umakers umc f (zx3 + 1)))))))) := rfl
def mX4_staysUnder_L2 (F : Nat) (back : Nat → Int32) (reach : Nat → Int32) (makers : Nat → Int32) (mc : Int32) (umakers : Nat → Int32) (umc : Int32) : Nat → Int32 → Option (Int32)
  | 0, _ => none
  | f + 1, zx2 => if mc ≤ zx2 then (some (1 : Int32)) else (bd (mX4_staysUnder_L12 F zx2 back reach makers umakers umc F 0) (fun osum => oc osum (mX4_staysUnder_L2 F back reach makers mc umakers umc f (zx2 + 1))))
theorem mX4_staysUnder_L2_s (F : Nat) (back : Nat → Int32) (reach : Nat → Int32) (makers : Nat → Int32) (mc : Int32) (umakers : Nat → Int32) (umc : Int32) (f : Nat) (zx2 : Int32) : mX4_staysUnder_L2 F back reach makers mc umakers umc (f + 1) zx2 = (if mc ≤ zx2 then (some (1 : Int32)) else (bd (mX4_staysUnder_L12 F zx2 back reach makers umakers umc F 0) (fun osum => oc osum (mX4_staysUnder_L2 F back reach makers mc umakers umc f (zx2 + 1))))) := rfl
def mX4_staysUnder (F : Nat) (back : Nat → Int32) (reach : Nat → Int32) (makers : Nat → Int32) (mc : Int32) (umakers : Nat → Int32) (umc : Int32) : Option (Int32) := mX4_staysUnder_L2 F back reach makers mc umakers umc F 0
set_option maxRecDepth 100000 in
set_option maxHeartbeats 4000000 in
theorem wX4_staysUnder_L12 {p : Program} {l : Launch} {e : Env} {s : State} {m : MethodId} {zargs : Array Value} {zbelow : List Frame} {zmeth : Method} {c : Code} {D : va_G} {ad : Nat → Nat} {od : Nat → Nat} {cI : ClassId} {cells : Nat → Int32} {back : Nat → Int32} {reach : Nat → Int32} {filled : Nat → Int32} {fc : Int32} {makers : Nat → Int32} {mc : Int32} {ucells : Nat → Int32} {uback : Nat → Int32} {ureach : Nat → Int32} {ufilled : Nat → Int32} {ufc : Int32} {umakers : Nat → Int32} {umc : Int32} {zx2 : Int32} {zr0 : Int32} (C0 : tg_C p s m zmeth c zargs cX4_staysUnder RX4 wsX4_staysUnder 4 D [(cI, .int)]) (hP : va_P D vwCl (wT cI ad cells back reach filled fc makers mc) s.heap) (hPo : va_P D vwCl (wT cI od ucells uback ureach ufilled ufc umakers umc) s.heap) (hlocks : zmeth.locks = false) (hr : zmeth.sig.returnType = (some .boolean)) (F : Nat) : ∀ (f : Nat) (zx3 : Int32) (osum : Option Int32), mX4_staysUnder_L12 F zx2 back reach makers umakers umc f zx3 = some osum → ∀ (zls : Array Slot), lv_has zls 4 [(0, .ref (ad 0)), (1, .ref (od 0)), (2, .int zx2), (3, .int zx3)] → (∀ zr9 : Int32, osum = some zr9 → zr9 = zr0) → (osum = none → ∀ (zls : Array Slot), lv_has zls 4 [(0, .ref (ad 0)), (1, .ref (od 0)), (2, .int zx2)] → W p l e ({ frames := 3, cells := 0, slots := 0, locals := 70 } : Room) s m zargs zbelow zmeth c s.heap [] 0 0 (MQ zbelow (tg_Ri zr0) zargs s 0 0 (fun _ => False)) (F0 m 50 zls [])) → W p l e ({ frames := 3, cells := 0, slots := 0, locals := 70 } : Room) s m zargs zbelow zmeth c s.heap [] 0 0 (MQ zbelow (tg_Ri zr0) zargs s 0 0 (fun _ => False)) (F0 m 12 zls []) := by
  obtain ⟨hx, hb, hml, hown, hts, hK, hN⟩ := C0
  intro f
  induction f with
  | zero => intro _ _ h; exact absurd (show none = some _ from h) (fun h9 => by cases h9)
  | succ f ih =>
    intro zx3 osum h  zls hl hret kk
    rw [mX4_staysUnder_L12_s] at h
    refine lv_iload_n hx hb dX4_staysUnder_12 rfl (lv_at hl 3 rfl) ?_
    refine lv_aload_n hx hb dX4_staysUnder_13 rfl (lv_at hl 1 rfl) ?_
    refine va_get (D := D) (ci := 4) (v := .int umc) (C := RX4) (T := TX4) (N := 7) hx hb hts uX4_staysUnder_RX4 hown hK hPo 0 rfl rfl 6 (by decide) (hts _ kX4_staysUnder_1) (fun _ h9 => h9) rfl dX4_staysUnder_14 ?_
    refine lv_icmp_ge (tgt := 50) hx hb dX4_staysUnder_17 (by decide) (fun cb => ?_) (fun cb => ?_)
    · rw [if_pos cb] at h
      cases h
      exact kk rfl _ (lv_sub hl [0, 1, 2] rfl)
    · rw [if_neg cb] at h
      refine lv_aload_n hx hb dX4_staysUnder_20 rfl (lv_at hl 0 rfl) ?_
      refine lv_aload_n hx hb dX4_staysUnder_21 rfl (lv_at hl 0 rfl) ?_
      refine va_get (D := D) (ci := 4) (v := .ref (ad 5)) (C := RX4) (T := TX4) (N := 7) hx hb hts uX4_staysUnder_RX4 hown hK hP 0 rfl rfl 5 (by decide) (hts _ kX4_staysUnder_2) (fun _ h9 => h9) rfl dX4_staysUnder_22 ?_
      refine lv_iload_n hx hb dX4_staysUnder_25 rfl (lv_at hl 2 rfl) ?_
      obtain ⟨gg, h⟩ := gd_el h
      refine va_iald hx hb hK hP 5 0 rfl rfl (inb_in gg) dX4_staysUnder_26 ?_
      refine lv_aload_n hx hb dX4_staysUnder_27 rfl (lv_at hl 1 rfl) ?_
      refine va_get (D := D) (ci := 4) (v := .ref (od 5)) (C := RX4) (T := TX4) (N := 7) hx hb hts uX4_staysUnder_RX4 hown hK hPo 0 rfl rfl 5 (by decide) (hts _ kX4_staysUnder_2) (fun _ h9 => h9) rfl dX4_staysUnder_28 ?_
      refine lv_iload_n hx hb dX4_staysUnder_31 rfl (lv_at hl 3 rfl) ?_
      obtain ⟨gg_1, h⟩ := gd_el h
      refine va_iald hx hb hK hPo 5 0 rfl rfl (inb_in gg_1) dX4_staysUnder_32 ?_
      obtain ⟨zr, hc, h⟩ := bd_el h
      refine tg_cRi (va_runSN (As := [.int (makers (Int32.toNatClampNeg zx2)), .int (umakers (Int32.toNatClampNeg zx3))]) (rest := [.ref (ad 0)]) ⟨hx, hb, hml, hown, hts⟩ (qX6_carried l D (makers (Int32.toNatClampNeg zx2)) (umakers (Int32.toNatClampNeg zx3)) F zr hc) (⟨va_cnB 2 hts gX4_staysUnder_X6_carried_n51 rfl rfl rfl (hN _ nw_X4_51) (hts _ kX4_staysUnder_3) zSX6_carried ⟨Nat.le_of_ble_eq_true rfl, Nat.le_of_ble_eq_true rfl⟩, hts _ kX4_staysUnder_4, trivial⟩) (tg_preS tg_nil (hK.sub (tys' := []) [] rfl) hN) rfl rfl hl.1 rfl (lv_room (Nat.le_of_ble_eq_true rfl)) dX4_staysUnder_33 ⟨Nat.zero_le _, Nat.zero_le _⟩) ?_
      obtain ⟨zr_1, hc_1, h⟩ := bd_el h
      refine tg_cRi (va_runV (As := [.int zr]) (rest := []) ⟨hx, hb, hml, hown, hts⟩ (qX4_holds l D cI ad cells back reach filled fc makers mc zr F zr_1 hc_1) (cwV 1 hts gX4_staysUnder_X4_holds rfl rfl rfl zVX4_holds ⟨Nat.le_of_ble_eq_true rfl, Nat.le_of_ble_eq_true rfl⟩) (tg_preV (r := (RX4, TX4, 7)) (ci := 4) (q0 := 0) hP hK hN rfl rfl) rfl rfl hl.1 rfl (lv_room (Nat.le_of_ble_eq_true rfl)) dX4_staysUnder_36 ⟨Nat.zero_le _, Nat.zero_le _⟩) ?_
      refine lv_if_ne (tgt := 44) hx hb dX4_staysUnder_39 (by decide) (fun cb_1 => ?_) (fun cb_1 => ?_)
      · rw [if_neg cb_1] at h
        refine lv_iinc (v := (zx3 + 1)) (lv' := [(3, .int (zx3 + 1)), (0, .ref (ad 0)), (1, .ref (od 0)), (2, .int zx2)]) hx hb dX4_staysUnder_44 hl (k := 3) rfl rfl (by decide) rfl (fun zls hl => ?_)
        refine lv_goto (tgt := 12) hx hb dX4_staysUnder_47 (by decide) ?_
        exact ih _ _ h  _ (lv_sub hl [1, 2, 3, 0] rfl) hret kk
      · rw [if_pos cb_1] at h
        refine lv_iconst (v := 0) hx hb dX4_staysUnder_42 (by decide) ?_
        cases h
        have hz9 := hret _ rfl
        subst hz9
        exact W.zret hx hb hr rfl (fun t ht hW => ⟨rfl, ht⟩) (fun _ h9 => absurd h9 List.not_mem_nil) dX4_staysUnder_43
set_option maxRecDepth 100000 in
set_option maxHeartbeats 4000000 in
theorem wX4_staysUnder_L2 {p : Program} {l : Launch} {e : Env} {s : State} {m : MethodId} {zargs : Array Value} {zbelow : List Frame} {zmeth : Method} {c : Code} {D : va_G} {ad : Nat → Nat} {od : Nat → Nat} {cI : ClassId} {cells : Nat → Int32} {back : Nat → Int32} {reach : Nat → Int32} {filled : Nat → Int32} {fc : Int32} {makers : Nat → Int32} {mc : Int32} {ucells : Nat → Int32} {uback : Nat → Int32} {ureach : Nat → Int32} {ufilled : Nat → Int32} {ufc : Int32} {umakers : Nat → Int32} {umc : Int32} (C0 : tg_C p s m zmeth c zargs cX4_staysUnder RX4 wsX4_staysUnder 4 D [(cI, .int)]) (hP : va_P D vwCl (wT cI ad cells back reach filled fc makers mc) s.heap) (hPo : va_P D vwCl (wT cI od ucells uback ureach ufilled ufc umakers umc) s.heap) (hlocks : zmeth.locks = false) (hr : zmeth.sig.returnType = (some .boolean)) (F : Nat) : ∀ (f : Nat) (zx2 : Int32) (zr0 : Int32), mX4_staysUnder_L2 F back reach makers mc umakers umc f zx2 = some zr0 → ∀ (zls : Array Slot), lv_has zls 4 [(0, .ref (ad 0)), (1, .ref (od 0)), (2, .int zx2)] → W p l e ({ frames := 3, cells := 0, slots := 0, locals := 70 } : Room) s m zargs zbelow zmeth c s.heap [] 0 0 (MQ zbelow (tg_Ri zr0) zargs s 0 0 (fun _ => False)) (F0 m 2 zls []) := by
  obtain ⟨hx, hb, hml, hown, hts, hK, hN⟩ := C0
  intro f
  induction f with
  | zero => intro _ _ h; exact absurd (show none = some _ from h) (fun h9 => by cases h9)
  | succ f ih =>
    intro zx2 zr0 h  zls hl 
    rw [mX4_staysUnder_L2_s] at h
    refine lv_iload_n hx hb dX4_staysUnder_2 rfl (lv_at hl 2 rfl) ?_
    refine lv_aload_n hx hb dX4_staysUnder_3 rfl (lv_at hl 0 rfl) ?_
    refine va_get (D := D) (ci := 4) (v := .int mc) (C := RX4) (T := TX4) (N := 7) hx hb hts uX4_staysUnder_RX4 hown hK hP 0 rfl rfl 6 (by decide) (hts _ kX4_staysUnder_1) (fun _ h9 => h9) rfl dX4_staysUnder_4 ?_
    refine lv_icmp_ge (tgt := 56) hx hb dX4_staysUnder_7 (by decide) (fun cb => ?_) (fun cb => ?_)
    · rw [if_pos cb] at h
      refine lv_iconst (v := 1) hx hb dX4_staysUnder_56 (by decide) ?_
      cases h
      exact W.zret hx hb hr rfl (fun t ht hW => ⟨rfl, ht⟩) (fun _ h9 => absurd h9 List.not_mem_nil) dX4_staysUnder_57
    · rw [if_neg cb] at h
      refine lv_iconst (v := 0) hx hb dX4_staysUnder_10 (by decide) ?_
      refine lv_istore_n (lv' := [(3, .int 0), (0, .ref (ad 0)), (1, .ref (od 0)), (2, .int zx2)]) hx hb dX4_staysUnder_11 rfl hl (by decide) rfl (fun zls hl => ?_)
      obtain ⟨osum, hv, h⟩ := bd_el h
      cases osum with
      | some zr9 =>
        rw [oc_some] at h
        cases h
        exact wX4_staysUnder_L12 ⟨hx, hb, hml, hown, hts, hK, hN⟩ hP hPo hlocks hr F F _ _ hv _ (lv_sub hl [1, 2, 3, 0] rfl) (fun zr8 hr8 => by cases hr8; rfl) (fun h9 => by cases h9)
      | none =>
        rw [oc_none] at h
        refine wX4_staysUnder_L12 ⟨hx, hb, hml, hown, hts, hK, hN⟩ hP hPo hlocks hr F F _ _ hv _ (lv_sub hl [1, 2, 3, 0] rfl) (fun _ h9 => by cases h9) (fun _ zls hl => ?_)
        refine lv_iinc (v := (zx2 + 1)) (lv' := [(2, .int (zx2 + 1)), (0, .ref (ad 0)), (1, .ref (od 0))]) hx hb dX4_staysUnder_50 hl (k := 2) rfl rfl (by decide) rfl (fun zls hl => ?_)
        refine lv_goto (tgt := 2) hx hb dX4_staysUnder_53 (by decide) ?_
        exact ih _ _ h  _ (lv_sub hl [1, 2, 0] rfl) 
set_option maxRecDepth 100000 in
set_option maxHeartbeats 4000000 in
theorem qX4_staysUnder (l : Launch) (D : va_G) (cI : ClassId) (ad : Nat → Nat) (cells : Nat → Int32) (back : Nat → Int32) (reach : Nat → Int32) (filled : Nat → Int32) (fc : Int32) (makers : Nat → Int32) (mc : Int32) (od : Nat → Nat) (ucells : Nat → Int32) (uback : Nat → Int32) (ureach : Nat → Int32) (ufilled : Nat → Int32) (ufc : Int32) (umakers : Nat → Int32) (umc : Int32) (F : Nat) (zr0 : Int32) (h : mX4_staysUnder F back reach makers mc umakers umc = some zr0) : Met l yX4_staysUnder wsX4_staysUnder ({ frames := 3, cells := 0, slots := 0, locals := 70 } : Room) (tg_P D [(cI, .int)] [.ref (ad 0), .ref (od 0)] ((wT cI ad cells back reach filled fc makers mc) ++ (wT cI od ucells uback ureach ufilled ufc umakers umc))) (tg_Ri zr0) 0 0 (fun _ => False) := by
  refine Met.ofW (cc := cX4_staysUnder) (maxL := 4) (ret := (some .boolean)) (by decide) rfl ?_
  intro p e s m zargs zbelow zmeth c s₁ B hml hv
  obtain ⟨hargs, hP, hK, hN⟩ := hv
  have hPo := tg_appR hP
  have hP := tg_appL hP
  have hx := B.exec
  have hb := B.bytes
  have hr := B.returns
  have hts := atoms_spec (ws := wsX4_staysUnder) B.pre
  have hown : s.vm.findClass RX4 = some m.cls := findClass_of_methodNamed B.named
  have hlocks := B.notSynchronized
  have hl := lv_entry ([.ref (ad 0), .ref (od 0)]) (n := 4) (Nat.le_of_ble_eq_true rfl)
  refine W.eq (g2 := entryFrame m ([.ref (ad 0), .ref (od 0)] : List Value).toArray 4) (by rw [hargs]) ?_
  rw [lg_entry_eq]
  generalize (lg_sl ([.ref (ad 0), .ref (od 0)]) ++ List.replicate (4 - (lg_sl ([.ref (ad 0), .ref (od 0)])).length) Slot.unset).toArray = zls at hl ⊢
  have hl : lv_has zls 4 [(0, .ref (ad 0)), (1, .ref (od 0))] := hl
  rw [mX4_staysUnder] at h
  refine lv_iconst (v := 0) hx hb dX4_staysUnder_0 (by decide) ?_
  refine lv_istore_n (lv' := [(2, .int 0), (0, .ref (ad 0)), (1, .ref (od 0))]) hx hb dX4_staysUnder_1 rfl hl (by decide) rfl (fun zls hl => ?_)
  exact wX4_staysUnder_L2 ⟨hx, hb, hml, hown, hts, hK, hN⟩ hP hPo hlocks hr F F _ _ h  _ (lv_sub hl [1, 2, 0] rfl) 
theorem zVX4_staysUnder : yX4_staysUnder.cls = RX4 ∧ yX4_staysUnder.cls ≠ "java/lang/invoke/MethodHandle" ∧ yX4_staysUnder.cls ≠ "java/lang/invoke/VarHandle" ∧ (parseMethodDescriptor yX4_staysUnder.desc).map (fun d => d.parameters.length) = some 1 := by decide +kernel

/-! ===== void joinAll(TurnGroups$Tower); ===== -/
theorem kX4_joinAll_1 : Cond.fieldLink RX4 31 "TurnGroups$Tower" "makerCount" "I" ∈ wsX4_joinAll := by decide +kernel
theorem kX4_joinAll_2 : Cond.fieldLink RX4 24 "TurnGroups$Tower" "makers" "[I" ∈ wsX4_joinAll := by decide +kernel
theorem uX4_joinAll_RX4 : ∀ w ∈ u_ws RX4 TX4 7, w ∈ wsX4_joinAll := by decide +kernel
def mX4_joinAll_L2 (F : Nat) (umakers : Nat → Int32) (umc : Int32) : Nat → Int32 → (Nat → Int32) → (Nat → Int32) → (Nat → Int32) → (Nat → Int32) → Int32 → (Nat → Int32) → Int32 → Option ((Nat → Int32) × (Nat → Int32) × (Nat → Int32) × (Nat → Int32) × Int32 × (Nat → Int32) × Int32)
  | 0, _, _, _, _, _, _, _, _ => none
  | f + 1, zx2, cells, back, reach, filled, fc, makers, mc => if umc ≤ zx2 then (some (cells, back, reach, filled, fc, makers, mc)) else (gd (inb zx2 16) (bd8 (mX4_join F cells back reach filled fc makers mc (umakers (Int32.toNatClampNeg zx2))) (fun zr cells_1 back_1 reach_1 filled_1 fc_1 makers_1 mc_1 => mX4_joinAll_L2 F umakers umc f (zx2 + 1) cells_1 back_1 reach_1 filled_1 fc_1 makers_1 mc_1)))
theorem mX4_joinAll_L2_s (F : Nat) (umakers : Nat → Int32) (umc : Int32) (f : Nat) (zx2 : Int32) (cells : Nat → Int32) (back : Nat → Int32) (reach : Nat → Int32) (filled : Nat → Int32) (fc : Int32) (makers : Nat → Int32) (mc : Int32) : mX4_joinAll_L2 F umakers umc (f + 1) zx2 cells back reach filled fc makers mc = (if umc ≤ zx2 then (some (cells, back, reach, filled, fc, makers, mc)) else (gd (inb zx2 16) (bd8 (mX4_join F cells back reach filled fc makers mc (umakers (Int32.toNatClampNeg zx2))) (fun zr cells_1 back_1 reach_1 filled_1 fc_1 makers_1 mc_1 => mX4_joinAll_L2 F umakers umc f (zx2 + 1) cells_1 back_1 reach_1 filled_1 fc_1 makers_1 mc_1)))) := rfl
def mX4_joinAll (F : Nat) (cells : Nat → Int32) (back : Nat → Int32) (reach : Nat → Int32) (filled : Nat → Int32) (fc : Int32) (makers : Nat → Int32) (mc : Int32) (umakers : Nat → Int32) (umc : Int32) : Option ((Nat → Int32) × (Nat → Int32) × (Nat → Int32) × (Nat → Int32) × Int32 × (Nat → Int32) × Int32) := bd7 (mX4_joinAll_L2 F umakers umc F 0 cells back reach filled fc makers mc) (fun cells_1 back_1 reach_1 filled_1 fc_1 makers_1 mc_1 => some (cells_1, back_1, reach_1, filled_1, fc_1, makers_1, mc_1))
set_option maxRecDepth 100000 in
set_option maxHeartbeats 4000000 in
theorem wX4_joinAll_L2 {p : Program} {l : Launch} {e : Env} {s : State} {m : MethodId} {zargs : Array Value} {zbelow : List Frame} {zmeth : Method} {c : Code} {D : va_G} {zQ : State → Prop} {zA : Nat → Prop} {ad : Nat → Nat} {od : Nat → Nat} {cI : ClassId} {ucells : Nat → Int32} {uback : Nat → Int32} {ureach : Nat → Int32} {ufilled : Nat → Int32} {ufc : Int32} {umakers : Nat → Int32} {umc : Int32} (C0 : tg_C p s m zmeth c zargs cX4_joinAll RX4 wsX4_joinAll 3 D [(cI, .int)]) (hDD : tg_DD zA [ad 0, ad 1, ad 2, ad 3, ad 4, ad 5]) (hPo : va_P D vwCl (wT cI od ucells uback ureach ufilled ufc umakers umc) s.heap) (hoA : ∀ q : Nat, tg_in (wT cI od ucells uback ureach ufilled ufc umakers umc) q → ¬ zA q) (hlocks : zmeth.locks = false) (hr : zmeth.sig.returnType = none) (F : Nat) : ∀ (f : Nat) (zx2 : Int32) (cells : Nat → Int32) (back : Nat → Int32) (reach : Nat → Int32) (filled : Nat → Int32) (fc : Int32) (makers : Nat → Int32) (mc : Int32) (ocells : Nat → Int32) (oback : Nat → Int32) (oreach : Nat → Int32) (ofilled : Nat → Int32) (ofc : Int32) (omakers : Nat → Int32) (omc : Int32), mX4_joinAll_L2 F umakers umc f zx2 cells back reach filled fc makers mc = some (ocells, oback, oreach, ofilled, ofc, omakers, omc) → ∀ (zH : Heap) (zlocs : List Loc), va_P D vwCl (wT cI ad cells back reach filled fc makers mc) zH → va_S zA s.heap zH zlocs → ∀ (zls : Array Slot), lv_has zls 3 [(0, .ref (ad 0)), (1, .ref (od 0)), (2, .int zx2)] → (∀ (zH : Heap) (zlocs : List Loc), va_P D vwCl (wT cI ad ocells oback oreach ofilled ofc omakers omc) zH → va_S zA s.heap zH zlocs → ∀ (zls : Array Slot), lv_has zls 3 [] → W p l e ({ frames := 4, cells := 0, slots := 0, locals := 96 } : Room) s m zargs zbelow zmeth c zH zlocs 0 0 zQ (F0 m 27 zls [])) → W p l e ({ frames := 4, cells := 0, slots := 0, locals := 96 } : Room) s m zargs zbelow zmeth c zH zlocs 0 0 zQ (F0 m 2 zls []) := by
  obtain ⟨hx, hb, hml, hown, hts, hK, hN⟩ := C0
  intro f
  induction f with
  | zero => intro _ _ _ _ _ _ _ _ _ _ _ _ _ _ _ h; exact absurd (show none = some _ from h) (fun h9 => by cases h9)
  | succ f ih =>
    intro zx2 cells back reach filled fc makers mc ocells oback oreach ofilled ofc omakers omc h zH zlocs hP hS zls hl kk
    rw [mX4_joinAll_L2_s] at h
    refine lv_iload_n hx hb dX4_joinAll_2 rfl (lv_at hl 2 rfl) ?_
    refine lv_aload_n hx hb dX4_joinAll_3 rfl (lv_at hl 1 rfl) ?_
    refine va_get (D := D) (ci := 4) (v := .int umc) (C := RX4) (T := TX4) (N := 7) hx hb hts uX4_joinAll_RX4 hown hK (tg_ro hPo hoA hS) 0 rfl rfl 6 (by decide) (hts _ kX4_joinAll_1) (fun _ h9 => h9) rfl dX4_joinAll_4 ?_
    refine lv_icmp_ge (tgt := 27) hx hb dX4_joinAll_7 (by decide) (fun cb => ?_) (fun cb => ?_)
    · rw [if_pos cb] at h
      cases h
      exact kk _ _ hP hS _ (lv_sub hl [] rfl)
    · rw [if_neg cb] at h
      refine lv_aload_n hx hb dX4_joinAll_10 rfl (lv_at hl 0 rfl) ?_
      refine lv_aload_n hx hb dX4_joinAll_11 rfl (lv_at hl 1 rfl) ?_
      refine va_get (D := D) (ci := 4) (v := .ref (od 5)) (C := RX4) (T := TX4) (N := 7) hx hb hts uX4_joinAll_RX4 hown hK (tg_ro hPo hoA hS) 0 rfl rfl 5 (by decide) (hts _ kX4_joinAll_2) (fun _ h9 => h9) rfl dX4_joinAll_12 ?_
      refine lv_iload_n hx hb dX4_joinAll_15 rfl (lv_at hl 2 rfl) ?_
      obtain ⟨gg, h⟩ := gd_el h
      refine va_iald hx hb hK (tg_ro hPo hoA hS) 5 0 rfl rfl (inb_in gg) dX4_joinAll_16 ?_
      obtain ⟨zr, cells_1, back_1, reach_1, filled_1, fc_1, makers_1, mc_1, hc, h⟩ := bd8_el h
      refine tg_cMi (va_runV (As := [.int (umakers (Int32.toNatClampNeg zx2))]) (rest := []) ⟨hx, hb, hml, hown, hts⟩ (qX4_join l D cI ad cells back reach filled fc makers mc (umakers (Int32.toNatClampNeg zx2)) F zr cells_1 back_1 reach_1 filled_1 fc_1 makers_1 mc_1 hc) (cwV 1 hts gX4_joinAll_X4_join rfl rfl rfl zVX4_join ⟨Nat.le_of_ble_eq_true rfl, Nat.le_of_ble_eq_true rfl⟩) (tg_preVM (r := (RX4, TX4, 7)) (ci := 4) (q0 := 0) hP (hDD _ rfl) hK hN rfl rfl) rfl rfl hl.1 rfl (lv_room (Nat.le_of_ble_eq_true rfl)) dX4_joinAll_17 ⟨Nat.zero_le _, Nat.zero_le _⟩) hS (tg_inA (hDD _ rfl)) (fun zH zlocs _ hP hS => ?_)
      refine lv_pop hx hb dX4_joinAll_20 rfl ?_
      refine lv_iinc (v := (zx2 + 1)) (lv' := [(2, .int (zx2 + 1)), (0, .ref (ad 0)), (1, .ref (od 0))]) hx hb dX4_joinAll_21 hl (k := 2) rfl rfl (by decide) rfl (fun zls hl => ?_)
      refine lv_goto (tgt := 2) hx hb dX4_joinAll_24 (by decide) ?_
      exact ih _ _ _ _ _ _ _ _ _ _ _ _ _ _ _ h _ _ hP hS _ (lv_sub hl [1, 2, 0] rfl) kk
set_option maxRecDepth 100000 in
set_option maxHeartbeats 4000000 in
theorem qX4_joinAll (l : Launch) (D : va_G) (cI : ClassId) (ad : Nat → Nat) (cells : Nat → Int32) (back : Nat → Int32) (reach : Nat → Int32) (filled : Nat → Int32) (fc : Int32) (makers : Nat → Int32) (mc : Int32) (od : Nat → Nat) (ucells : Nat → Int32) (uback : Nat → Int32) (ureach : Nat → Int32) (ufilled : Nat → Int32) (ufc : Int32) (umakers : Nat → Int32) (umc : Int32) (F : Nat) (ocells : Nat → Int32) (oback : Nat → Int32) (oreach : Nat → Int32) (ofilled : Nat → Int32) (ofc : Int32) (omakers : Nat → Int32) (omc : Int32) (h : mX4_joinAll F cells back reach filled fc makers mc umakers umc = some (ocells, oback, oreach, ofilled, ofc, omakers, omc)) : Met l yX4_joinAll wsX4_joinAll ({ frames := 4, cells := 0, slots := 0, locals := 96 } : Room) (tg_PMo D [(cI, .int)] [.ref (ad 0), .ref (od 0)] (wT cI ad cells back reach filled fc makers mc) (wT cI od ucells uback ureach ufilled ufc umakers umc)) (tg_Mv D (wT cI ad cells back reach filled fc makers mc) (wT cI ad ocells oback oreach ofilled ofc omakers omc)) 0 0 (tg_in (wT cI ad cells back reach filled fc makers mc)) := by
  refine Met.ofW (cc := cX4_joinAll) (maxL := 3) (ret := none) (by decide) rfl ?_
  intro p e s m zargs zbelow zmeth c s₁ B hml hv
  obtain ⟨hargs, hP, hPo, hK, hN, hD0, hoA⟩ := hv
  have hx := B.exec
  have hb := B.bytes
  have hr := B.returns
  have hts := atoms_spec (ws := wsX4_joinAll) B.pre
  have hown : s.vm.findClass RX4 = some m.cls := findClass_of_methodNamed B.named
  have hlocks := B.notSynchronized
  have hDD : tg_DD (tg_in (wT cI ad cells back reach filled fc makers mc)) [ad 0, ad 1, ad 2, ad 3, ad 4, ad 5] := tg_DD.of (tg_D hD0) rfl
  have hS : va_S (tg_in (wT cI ad cells back reach filled fc makers mc)) s.heap s.heap [] := va_S.rf
  have hl := lv_entry ([.ref (ad 0), .ref (od 0)]) (n := 3) (Nat.le_of_ble_eq_true rfl)
  refine W.eq (g2 := entryFrame m ([.ref (ad 0), .ref (od 0)] : List Value).toArray 3) (by rw [hargs]) ?_
  rw [lg_entry_eq]
  generalize (lg_sl ([.ref (ad 0), .ref (od 0)]) ++ List.replicate (3 - (lg_sl ([.ref (ad 0), .ref (od 0)])).length) Slot.unset).toArray = zls at hl ⊢
  have hl : lv_has zls 3 [(0, .ref (ad 0)), (1, .ref (od 0))] := hl
  rw [mX4_joinAll] at h
  refine lv_iconst (v := 0) hx hb dX4_joinAll_0 (by decide) ?_
  refine lv_istore_n (lv' := [(2, .int 0), (0, .ref (ad 0)), (1, .ref (od 0))]) hx hb dX4_joinAll_1 rfl hl (by decide) rfl (fun zls hl => ?_)
  obtain ⟨cells_1, back_1, reach_1, filled_1, fc_1, makers_1, mc_1, hv, h⟩ := bd7_el h
  refine wX4_joinAll_L2 ⟨hx, hb, hml, hown, hts, hK, hN⟩ hDD hPo hoA hlocks hr F F _ _ _ _ _ _ _ _ _ _ _ _ _ _ _ hv _ _ hP hS _ (lv_sub hl [1, 2, 0] rfl) (fun zH zlocs hP hS zls hl => ?_)
  cases h
  exact W.vret hx hb hr (fun t ht hW => ⟨rfl, by rw [ht]; exact hP, hS.F ht⟩) hS.2.2 dX4_joinAll_27
theorem zVX4_joinAll : yX4_joinAll.cls = RX4 ∧ yX4_joinAll.cls ≠ "java/lang/invoke/MethodHandle" ∧ yX4_joinAll.cls ≠ "java/lang/invoke/VarHandle" ∧ (parseMethodDescriptor yX4_joinAll.desc).map (fun d => d.parameters.length) = some 1 := by decide +kernel

/-! ===== void closeUnder(TurnGroups$Tower); ===== -/
theorem kX4_closeUnder_1 : Cond.fieldLink RX4 31 "TurnGroups$Tower" "makerCount" "I" ∈ wsX4_closeUnder := by decide +kernel
theorem kX4_closeUnder_2 : Cond.fieldLink RX4 24 "TurnGroups$Tower" "makers" "[I" ∈ wsX4_closeUnder := by decide +kernel
theorem kX4_closeUnder_3 : Cond.initialized RX6 ∈ wsX4_closeUnder := by decide +kernel
theorem kX4_closeUnder_4 : Cond.static yX6_carried ∈ wsX4_closeUnder := by decide +kernel
theorem uX4_closeUnder_RX4 : ∀ w ∈ u_ws RX4 TX4 7, w ∈ wsX4_closeUnder := by decide +kernel
def mX4_closeUnder_L18 (F : Nat) (zx2 : Int32) (umakers : Nat → Int32) (umc : Int32) : Nat → Int32 → (Nat → Int32) → (Nat → Int32) → (Nat → Int32) → (Nat → Int32) → Int32 → (Nat → Int32) → Int32 → Option ((Nat → Int32) × (Nat → Int32) × (Nat → Int32) × (Nat → Int32) × Int32 × (Nat → Int32) × Int32)
  | 0, _, _, _, _, _, _, _, _ => none
  | f + 1, zx3, cells, back, reach, filled, fc, makers, mc => if umc ≤ zx3 then (some (cells, back, reach, filled, fc, makers, mc)) else (gd (inb zx2 16) (gd (inb zx3 16) (bd (mX6_carried F (makers (Int32.toNatClampNeg zx2)) (umakers (Int32.toNatClampNeg zx3))) (fun zr => bd8 (mX4_join F cells back reach filled fc makers mc zr) (fun zr_1 cells_1 back_1 reach_1 filled_1 fc_1 makers_1 mc_1 => mX4_closeUnder_L18 F zx2 umakers umc f (zx3 + 1) cells_1 back_1 reach_1 filled_1 fc_1 makers_1 mc_1)))))
theorem mX4_closeUnder_L18_s (F : Nat) (zx2 : Int32) (umakers : Nat → Int32) (umc : Int32) (f : Nat) (zx3 : Int32) (cells : Nat → Int32) (back : Nat → Int32) (reach : Nat → Int32) (filled : Nat → Int32) (fc : Int32) (makers : Nat → Int32) (mc : Int32) : mX4_closeUnder_L18 F zx2 umakers umc (f + 1) zx3 cells back reach filled fc makers mc = (if umc ≤ zx3 then (some (cells, back, reach, filled, fc, makers, mc)) else (gd (inb zx2 16) (gd (inb zx3 16) (bd (mX6_carried F (makers (Int32.toNatClampNeg zx2)) (umakers (Int32.toNatClampNeg zx3))) (fun zr => bd8 (mX4_join F cells back reach filled fc makers mc zr) (fun zr_1 cells_1 back_1 reach_1 filled_1 fc_1 makers_1 mc_1 => mX4_closeUnder_L18 F zx2 umakers umc f (zx3 + 1) cells_1 back_1 reach_1 filled_1 fc_1 makers_1 mc_1)))))) := rfl
def mX4_closeUnder_L2 (F : Nat) (umakers : Nat → Int32) (umc : Int32) : Nat → Int32 → (Nat → Int32) → (Nat → Int32) → (Nat → Int32) → (Nat → Int32) → Int32 → (Nat → Int32) → Int32 → Option ((Nat → Int32) × (Nat → Int32) × (Nat → Int32) × (Nat → Int32) × Int32 × (Nat → Int32) × Int32)
  | 0, _, _, _, _, _, _, _, _ => none
  | f + 1, zx2, cells, back, reach, filled, fc, makers, mc => if mc ≤ zx2 then (some (cells, back, reach, filled, fc, makers, mc)) else (if 16 ≤ zx2 then (some (cells, back, reach, filled, fc, makers, mc)) else (bd7 (mX4_closeUnder_L18 F zx2 umakers umc F 0 cells back reach filled fc makers mc) (fun cells_1 back_1 reach_1 filled_1 fc_1 makers_1 mc_1 => mX4_closeUnder_L2 F umakers umc f (zx2 + 1) cells_1 back_1 reach_1 filled_1 fc_1 makers_1 mc_1)))
theorem mX4_closeUnder_L2_s (F : Nat) (umakers : Nat → Int32) (umc : Int32) (f : Nat) (zx2 : Int32) (cells : Nat → Int32) (back : Nat → Int32) (reach : Nat → Int32) (filled : Nat → Int32) (fc : Int32) (makers : Nat → Int32) (mc : Int32) : mX4_closeUnder_L2 F umakers umc (f + 1) zx2 cells back reach filled fc makers mc = (if mc ≤ zx2 then (some (cells, back, reach, filled, fc, makers, mc)) else (if 16 ≤ zx2 then (some (cells, back, reach, filled, fc, makers, mc)) else (bd7 (mX4_closeUnder_L18 F zx2 umakers umc F 0 cells back reach filled fc makers mc) (fun cells_1 back_1 reach_1 filled_1 fc_1 makers_1 mc_1 => mX4_closeUnder_L2 F umakers umc f (zx2 + 1) cells_1 back_1 reach_1 filled_1 fc_1 makers_1 mc_1)))) := rfl
def mX4_closeUnder (F : Nat) (cells : Nat → Int32) (back : Nat → Int32) (reach : Nat → Int32) (filled : Nat → Int32) (fc : Int32) (makers : Nat → Int32) (mc : Int32) (umakers : Nat → Int32) (umc : Int32) : Option ((Nat → Int32) × (Nat → Int32) × (Nat → Int32) × (Nat → Int32) × Int32 × (Nat → Int32) × Int32) := bd7 (mX4_closeUnder_L2 F umakers umc F 0 cells back reach filled fc makers mc) (fun cells_1 back_1 reach_1 filled_1 fc_1 makers_1 mc_1 => some (cells_1, back_1, reach_1, filled_1, fc_1, makers_1, mc_1))
set_option maxRecDepth 100000 in
set_option maxHeartbeats 4000000 in
theorem wX4_closeUnder_L18 {p : Program} {l : Launch} {e : Env} {s : State} {m : MethodId} {zargs : Array Value} {zbelow : List Frame} {zmeth : Method} {c : Code} {D : va_G} {zQ : State → Prop} {zA : Nat → Prop} {ad : Nat → Nat} {od : Nat → Nat} {cI : ClassId} {ucells : Nat → Int32} {uback : Nat → Int32} {ureach : Nat → Int32} {ufilled : Nat → Int32} {ufc : Int32} {umakers : Nat → Int32} {umc : Int32} {zx2 : Int32} (C0 : tg_C p s m zmeth c zargs cX4_closeUnder RX4 wsX4_closeUnder 4 D [(cI, .int)]) (hDD : tg_DD zA [ad 0, ad 1, ad 2, ad 3, ad 4, ad 5]) (hPo : va_P D vwCl (wT cI od ucells uback ureach ufilled ufc umakers umc) s.heap) (hoA : ∀ q : Nat, tg_in (wT cI od ucells uback ureach ufilled ufc umakers umc) q → ¬ zA q) (hlocks : zmeth.locks = false) (hr : zmeth.sig.returnType = none) (F : Nat) : ∀ (f : Nat) (zx3 : Int32) (cells : Nat → Int32) (back : Nat → Int32) (reach : Nat → Int32) (filled : Nat → Int32) (fc : Int32) (makers : Nat → Int32) (mc : Int32) (ocells : Nat → Int32) (oback : Nat → Int32) (oreach : Nat → Int32) (ofilled : Nat → Int32) (ofc : Int32) (omakers : Nat → Int32) (omc : Int32), mX4_closeUnder_L18 F zx2 umakers umc f zx3 cells back reach filled fc makers mc = some (ocells, oback, oreach, ofilled, ofc, omakers, omc) → ∀ (zH : Heap) (zlocs : List Loc), va_P D vwCl (wT cI ad cells back reach filled fc makers mc) zH → va_S zA s.heap zH zlocs → ∀ (zls : Array Slot), lv_has zls 4 [(0, .ref (ad 0)), (1, .ref (od 0)), (2, .int zx2), (3, .int zx3)] → (∀ (zH : Heap) (zlocs : List Loc), va_P D vwCl (wT cI ad ocells oback oreach ofilled ofc omakers omc) zH → va_S zA s.heap zH zlocs → ∀ (zls : Array Slot), lv_has zls 4 [(0, .ref (ad 0)), (1, .ref (od 0)), (2, .int zx2)] → W p l e ({ frames := 4, cells := 0, slots := 0, locals := 96 } : Room) s m zargs zbelow zmeth c zH zlocs 0 0 zQ (F0 m 52 zls [])) → W p l e ({ frames := 4, cells := 0, slots := 0, locals := 96 } : Room) s m zargs zbelow zmeth c zH zlocs 0 0 zQ (F0 m 18 zls []) := by
  obtain ⟨hx, hb, hml, hown, hts, hK, hN⟩ := C0
  intro f
  induction f with
  | zero => intro _ _ _ _ _ _ _ _ _ _ _ _ _ _ _ h; exact absurd (show none = some _ from h) (fun h9 => by cases h9)
  | succ f ih =>
    intro zx3 cells back reach filled fc makers mc ocells oback oreach ofilled ofc omakers omc h zH zlocs hP hS zls hl kk
    rw [mX4_closeUnder_L18_s] at h
    refine lv_iload_n hx hb dX4_closeUnder_18 rfl (lv_at hl 3 rfl) ?_
    refine lv_aload_n hx hb dX4_closeUnder_19 rfl (lv_at hl 1 rfl) ?_
    refine va_get (D := D) (ci := 4) (v := .int umc) (C := RX4) (T := TX4) (N := 7) hx hb hts uX4_closeUnder_RX4 hown hK (tg_ro hPo hoA hS) 0 rfl rfl 6 (by decide) (hts _ kX4_closeUnder_1) (fun _ h9 => h9) rfl dX4_closeUnder_20 ?_
    refine lv_icmp_ge (tgt := 52) hx hb dX4_closeUnder_23 (by decide) (fun cb => ?_) (fun cb => ?_)
    · rw [if_pos cb] at h
      cases h
      exact kk _ _ hP hS _ (lv_sub hl [0, 1, 2] rfl)
    · rw [if_neg cb] at h
      refine lv_aload_n hx hb dX4_closeUnder_26 rfl (lv_at hl 0 rfl) ?_
      refine lv_aload_n hx hb dX4_closeUnder_27 rfl (lv_at hl 0 rfl) ?_
      refine va_get (D := D) (ci := 4) (v := .ref (ad 5)) (C := RX4) (T := TX4) (N := 7) hx hb hts uX4_closeUnder_RX4 hown hK hP 0 rfl rfl 5 (by decide) (hts _ kX4_closeUnder_2) (fun _ h9 => h9) rfl dX4_closeUnder_28 ?_
      refine lv_iload_n hx hb dX4_closeUnder_31 rfl (lv_at hl 2 rfl) ?_
      obtain ⟨gg, h⟩ := gd_el h
      refine va_iald hx hb hK hP 5 0 rfl rfl (inb_in gg) dX4_closeUnder_32 ?_
      refine lv_aload_n hx hb dX4_closeUnder_33 rfl (lv_at hl 1 rfl) ?_
      refine va_get (D := D) (ci := 4) (v := .ref (od 5)) (C := RX4) (T := TX4) (N := 7) hx hb hts uX4_closeUnder_RX4 hown hK (tg_ro hPo hoA hS) 0 rfl rfl 5 (by decide) (hts _ kX4_closeUnder_2) (fun _ h9 => h9) rfl dX4_closeUnder_34 ?_
      refine lv_iload_n hx hb dX4_closeUnder_37 rfl (lv_at hl 3 rfl) ?_
      obtain ⟨gg_1, h⟩ := gd_el h
      refine va_iald hx hb hK (tg_ro hPo hoA hS) 5 0 rfl rfl (inb_in gg_1) dX4_closeUnder_38 ?_
      obtain ⟨zr, hc, h⟩ := bd_el h
      refine tg_cRi (va_runSN (As := [.int (makers (Int32.toNatClampNeg zx2)), .int (umakers (Int32.toNatClampNeg zx3))]) (rest := [.ref (ad 0)]) ⟨hx, hb, hml, hown, hts⟩ (qX6_carried l D (makers (Int32.toNatClampNeg zx2)) (umakers (Int32.toNatClampNeg zx3)) F zr hc) (⟨va_cnB 2 hts gX4_closeUnder_X6_carried_n51 rfl rfl rfl (hN _ nw_X4_51) (hts _ kX4_closeUnder_3) zSX6_carried ⟨Nat.le_of_ble_eq_true rfl, Nat.le_of_ble_eq_true rfl⟩, hts _ kX4_closeUnder_4, trivial⟩) (tg_preS tg_nil (hK.sub (tys' := []) [] rfl) hN) rfl rfl hl.1 rfl (lv_room (Nat.le_of_ble_eq_true rfl)) dX4_closeUnder_39 ⟨Nat.zero_le _, Nat.zero_le _⟩) ?_
      obtain ⟨zr_1, cells_1, back_1, reach_1, filled_1, fc_1, makers_1, mc_1, hc_1, h⟩ := bd8_el h
      refine tg_cMi (va_runV (As := [.int zr]) (rest := []) ⟨hx, hb, hml, hown, hts⟩ (qX4_join l D cI ad cells back reach filled fc makers mc zr F zr_1 cells_1 back_1 reach_1 filled_1 fc_1 makers_1 mc_1 hc_1) (cwV 1 hts gX4_closeUnder_X4_join rfl rfl rfl zVX4_join ⟨Nat.le_of_ble_eq_true rfl, Nat.le_of_ble_eq_true rfl⟩) (tg_preVM (r := (RX4, TX4, 7)) (ci := 4) (q0 := 0) hP (hDD _ rfl) hK hN rfl rfl) rfl rfl hl.1 rfl (lv_room (Nat.le_of_ble_eq_true rfl)) dX4_closeUnder_42 ⟨Nat.zero_le _, Nat.zero_le _⟩) hS (tg_inA (hDD _ rfl)) (fun zH zlocs _ hP hS => ?_)
      refine lv_pop hx hb dX4_closeUnder_45 rfl ?_
      refine lv_iinc (v := (zx3 + 1)) (lv' := [(3, .int (zx3 + 1)), (0, .ref (ad 0)), (1, .ref (od 0)), (2, .int zx2)]) hx hb dX4_closeUnder_46 hl (k := 3) rfl rfl (by decide) rfl (fun zls hl => ?_)
      refine lv_goto (tgt := 18) hx hb dX4_closeUnder_49 (by decide) ?_
      exact ih _ _ _ _ _ _ _ _ _ _ _ _ _ _ _ h _ _ hP hS _ (lv_sub hl [1, 2, 3, 0] rfl) kk
set_option maxRecDepth 100000 in
set_option maxHeartbeats 4000000 in
theorem wX4_closeUnder_L2 {p : Program} {l : Launch} {e : Env} {s : State} {m : MethodId} {zargs : Array Value} {zbelow : List Frame} {zmeth : Method} {c : Code} {D : va_G} {zQ : State → Prop} {zA : Nat → Prop} {ad : Nat → Nat} {od : Nat → Nat} {cI : ClassId} {ucells : Nat → Int32} {uback : Nat → Int32} {ureach : Nat → Int32} {ufilled : Nat → Int32} {ufc : Int32} {umakers : Nat → Int32} {umc : Int32} (C0 : tg_C p s m zmeth c zargs cX4_closeUnder RX4 wsX4_closeUnder 4 D [(cI, .int)]) (hDD : tg_DD zA [ad 0, ad 1, ad 2, ad 3, ad 4, ad 5]) (hPo : va_P D vwCl (wT cI od ucells uback ureach ufilled ufc umakers umc) s.heap) (hoA : ∀ q : Nat, tg_in (wT cI od ucells uback ureach ufilled ufc umakers umc) q → ¬ zA q) (hlocks : zmeth.locks = false) (hr : zmeth.sig.returnType = none) (F : Nat) : ∀ (f : Nat) (zx2 : Int32) (cells : Nat → Int32) (back : Nat → Int32) (reach : Nat → Int32) (filled : Nat → Int32) (fc : Int32) (makers : Nat → Int32) (mc : Int32) (ocells : Nat → Int32) (oback : Nat → Int32) (oreach : Nat → Int32) (ofilled : Nat → Int32) (ofc : Int32) (omakers : Nat → Int32) (omc : Int32), mX4_closeUnder_L2 F umakers umc f zx2 cells back reach filled fc makers mc = some (ocells, oback, oreach, ofilled, ofc, omakers, omc) → ∀ (zH : Heap) (zlocs : List Loc), va_P D vwCl (wT cI ad cells back reach filled fc makers mc) zH → va_S zA s.heap zH zlocs → ∀ (zls : Array Slot), lv_has zls 4 [(0, .ref (ad 0)), (1, .ref (od 0)), (2, .int zx2)] → (∀ (zH : Heap) (zlocs : List Loc), va_P D vwCl (wT cI ad ocells oback oreach ofilled ofc omakers omc) zH → va_S zA s.heap zH zlocs → ∀ (zls : Array Slot), lv_has zls 4 [] → W p l e ({ frames := 4, cells := 0, slots := 0, locals := 96 } : Room) s m zargs zbelow zmeth c zH zlocs 0 0 zQ (F0 m 58 zls [])) → W p l e ({ frames := 4, cells := 0, slots := 0, locals := 96 } : Room) s m zargs zbelow zmeth c zH zlocs 0 0 zQ (F0 m 2 zls []) := by
  obtain ⟨hx, hb, hml, hown, hts, hK, hN⟩ := C0
  intro f
  induction f with
  | zero => intro _ _ _ _ _ _ _ _ _ _ _ _ _ _ _ h; exact absurd (show none = some _ from h) (fun h9 => by cases h9)
  | succ f ih =>
    intro zx2 cells back reach filled fc makers mc ocells oback oreach ofilled ofc omakers omc h zH zlocs hP hS zls hl kk
    rw [mX4_closeUnder_L2_s] at h
    refine lv_iload_n hx hb dX4_closeUnder_2 rfl (lv_at hl 2 rfl) ?_
    refine lv_aload_n hx hb dX4_closeUnder_3 rfl (lv_at hl 0 rfl) ?_
    refine va_get (D := D) (ci := 4) (v := .int mc) (C := RX4) (T := TX4) (N := 7) hx hb hts uX4_closeUnder_RX4 hown hK hP 0 rfl rfl 6 (by decide) (hts _ kX4_closeUnder_1) (fun _ h9 => h9) rfl dX4_closeUnder_4 ?_
    refine lv_icmp_ge (tgt := 58) hx hb dX4_closeUnder_7 (by decide) (fun cb => ?_) (fun cb => ?_)
    · rw [if_pos cb] at h
      cases h
      exact kk _ _ hP hS _ (lv_sub hl [] rfl)
    · rw [if_neg cb] at h
      refine lv_iload_n hx hb dX4_closeUnder_10 rfl (lv_at hl 2 rfl) ?_
      refine lv_bipush (v := 16) hx hb dX4_closeUnder_11 (by decide) ?_
      refine lv_icmp_ge (tgt := 58) hx hb dX4_closeUnder_13 (by decide) (fun cb_1 => ?_) (fun cb_1 => ?_)
      · rw [if_pos cb_1] at h
        cases h
        exact kk _ _ hP hS _ (lv_sub hl [] rfl)
      · rw [if_neg cb_1] at h
        refine lv_iconst (v := 0) hx hb dX4_closeUnder_16 (by decide) ?_
        refine lv_istore_n (lv' := [(3, .int 0), (0, .ref (ad 0)), (1, .ref (od 0)), (2, .int zx2)]) hx hb dX4_closeUnder_17 rfl hl (by decide) rfl (fun zls hl => ?_)
        obtain ⟨cells_1, back_1, reach_1, filled_1, fc_1, makers_1, mc_1, hv, h⟩ := bd7_el h
        refine wX4_closeUnder_L18 ⟨hx, hb, hml, hown, hts, hK, hN⟩ hDD hPo hoA hlocks hr F F _ _ _ _ _ _ _ _ _ _ _ _ _ _ _ hv _ _ hP hS _ (lv_sub hl [1, 2, 3, 0] rfl) (fun zH zlocs hP hS zls hl => ?_)
        refine lv_iinc (v := (zx2 + 1)) (lv' := [(2, .int (zx2 + 1)), (0, .ref (ad 0)), (1, .ref (od 0))]) hx hb dX4_closeUnder_52 hl (k := 2) rfl rfl (by decide) rfl (fun zls hl => ?_)
        refine lv_goto (tgt := 2) hx hb dX4_closeUnder_55 (by decide) ?_
        exact ih _ _ _ _ _ _ _ _ _ _ _ _ _ _ _ h _ _ hP hS _ (lv_sub hl [1, 2, 0] rfl) kk
set_option maxRecDepth 100000 in
set_option maxHeartbeats 4000000 in
theorem qX4_closeUnder (l : Launch) (D : va_G) (cI : ClassId) (ad : Nat → Nat) (cells : Nat → Int32) (back : Nat → Int32) (reach : Nat → Int32) (filled : Nat → Int32) (fc : Int32) (makers : Nat → Int32) (mc : Int32) (od : Nat → Nat) (ucells : Nat → Int32) (uback : Nat → Int32) (ureach : Nat → Int32) (ufilled : Nat → Int32) (ufc : Int32) (umakers : Nat → Int32) (umc : Int32) (F : Nat) (ocells : Nat → Int32) (oback : Nat → Int32) (oreach : Nat → Int32) (ofilled : Nat → Int32) (ofc : Int32) (omakers : Nat → Int32) (omc : Int32) (h : mX4_closeUnder F cells back reach filled fc makers mc umakers umc = some (ocells, oback, oreach, ofilled, ofc, omakers, omc)) : Met l yX4_closeUnder wsX4_closeUnder ({ frames := 4, cells := 0, slots := 0, locals := 96 } : Room) (tg_PMo D [(cI, .int)] [.ref (ad 0), .ref (od 0)] (wT cI ad cells back reach filled fc makers mc) (wT cI od ucells uback ureach ufilled ufc umakers umc)) (tg_Mv D (wT cI ad cells back reach filled fc makers mc) (wT cI ad ocells oback oreach ofilled ofc omakers omc)) 0 0 (tg_in (wT cI ad cells back reach filled fc makers mc)) := by
  refine Met.ofW (cc := cX4_closeUnder) (maxL := 4) (ret := none) (by decide) rfl ?_
  intro p e s m zargs zbelow zmeth c s₁ B hml hv
  obtain ⟨hargs, hP, hPo, hK, hN, hD0, hoA⟩ := hv
  have hx := B.exec
  have hb := B.bytes
  have hr := B.returns
  have hts := atoms_spec (ws := wsX4_closeUnder) B.pre
  have hown : s.vm.findClass RX4 = some m.cls := findClass_of_methodNamed B.named
  have hlocks := B.notSynchronized
  have hDD : tg_DD (tg_in (wT cI ad cells back reach filled fc makers mc)) [ad 0, ad 1, ad 2, ad 3, ad 4, ad 5] := tg_DD.of (tg_D hD0) rfl
  have hS : va_S (tg_in (wT cI ad cells back reach filled fc makers mc)) s.heap s.heap [] := va_S.rf
  have hl := lv_entry ([.ref (ad 0), .ref (od 0)]) (n := 4) (Nat.le_of_ble_eq_true rfl)
  refine W.eq (g2 := entryFrame m ([.ref (ad 0), .ref (od 0)] : List Value).toArray 4) (by rw [hargs]) ?_
  rw [lg_entry_eq]
  generalize (lg_sl ([.ref (ad 0), .ref (od 0)]) ++ List.replicate (4 - (lg_sl ([.ref (ad 0), .ref (od 0)])).length) Slot.unset).toArray = zls at hl ⊢
  have hl : lv_has zls 4 [(0, .ref (ad 0)), (1, .ref (od 0))] := hl
  rw [mX4_closeUnder] at h
  refine lv_iconst (v := 0) hx hb dX4_closeUnder_0 (by decide) ?_
  refine lv_istore_n (lv' := [(2, .int 0), (0, .ref (ad 0)), (1, .ref (od 0))]) hx hb dX4_closeUnder_1 rfl hl (by decide) rfl (fun zls hl => ?_)
  obtain ⟨cells_1, back_1, reach_1, filled_1, fc_1, makers_1, mc_1, hv, h⟩ := bd7_el h
  refine wX4_closeUnder_L2 ⟨hx, hb, hml, hown, hts, hK, hN⟩ hDD hPo hoA hlocks hr F F _ _ _ _ _ _ _ _ _ _ _ _ _ _ _ hv _ _ hP hS _ (lv_sub hl [1, 2, 0] rfl) (fun zH zlocs hP hS zls hl => ?_)
  cases h
  exact W.vret hx hb hr (fun t ht hW => ⟨rfl, by rw [ht]; exact hP, hS.F ht⟩) hS.2.2 dX4_closeUnder_58
theorem zVX4_closeUnder : yX4_closeUnder.cls = RX4 ∧ yX4_closeUnder.cls ≠ "java/lang/invoke/MethodHandle" ∧ yX4_closeUnder.cls ≠ "java/lang/invoke/VarHandle" ∧ (parseMethodDescriptor yX4_closeUnder.desc).map (fun d => d.parameters.length) = some 1 := by decide +kernel

/-! ===== void becomeCarried(TurnGroups$Tower, int); ===== -/
theorem kX4_becomeCarried_1 : Cond.fieldLink RX4 31 "TurnGroups$Tower" "makerCount" "I" ∈ wsX4_becomeCarried := by decide +kernel
theorem kX4_becomeCarried_2 : Cond.fieldLink RX4 24 "TurnGroups$Tower" "makers" "[I" ∈ wsX4_becomeCarried := by decide +kernel
theorem kX4_becomeCarried_3 : Cond.initialized RX6 ∈ wsX4_becomeCarried := by decide +kernel
theorem kX4_becomeCarried_4 : Cond.static yX6_carried ∈ wsX4_becomeCarried := by decide +kernel
theorem uX4_becomeCarried_RX4 : ∀ w ∈ u_ws RX4 TX4 7, w ∈ wsX4_becomeCarried := by decide +kernel
def mX4_becomeCarried_L6 (F : Nat) (zx2 : Int32) (umakers : Nat → Int32) (umc : Int32) : Nat → Int32 → (Nat → Int32) → (Nat → Int32) → (Nat → Int32) → (Nat → Int32) → Int32 → (Nat → Int32) → Int32 → Option ((Nat → Int32) × (Nat → Int32) × (Nat → Int32) × (Nat → Int32) × Int32 × (Nat → Int32) × Int32)
  | 0, _, _, _, _, _, _, _, _ => none
  | f + 1, zx3, cells, back, reach, filled, fc, makers, mc => if umc ≤ zx3 then (some (cells, back, reach, filled, fc, makers, mc)) else (gd (inb zx3 16) (bd (mX6_carried F (umakers (Int32.toNatClampNeg zx3)) zx2) (fun zr => bd8 (mX4_join F cells back reach filled fc makers mc zr) (fun zr_1 cells_1 back_1 reach_1 filled_1 fc_1 makers_1 mc_1 => mX4_becomeCarried_L6 F zx2 umakers umc f (zx3 + 1) cells_1 back_1 reach_1 filled_1 fc_1 makers_1 mc_1))))
theorem mX4_becomeCarried_L6_s (F : Nat) (zx2 : Int32) (umakers : Nat → Int32) (umc : Int32) (f : Nat) (zx3 : Int32) (cells : Nat → Int32) (back : Nat → Int32) (reach : Nat → Int32) (filled : Nat → Int32) (fc : Int32) (makers : Nat → Int32) (mc : Int32) : mX4_becomeCarried_L6 F zx2 umakers umc (f + 1) zx3 cells back reach filled fc makers mc = (if umc ≤ zx3 then (some (cells, back, reach, filled, fc, makers, mc)) else (gd (inb zx3 16) (bd (mX6_carried F (umakers (Int32.toNatClampNeg zx3)) zx2) (fun zr => bd8 (mX4_join F cells back reach filled fc makers mc zr) (fun zr_1 cells_1 back_1 reach_1 filled_1 fc_1 makers_1 mc_1 => mX4_becomeCarried_L6 F zx2 umakers umc f (zx3 + 1) cells_1 back_1 reach_1 filled_1 fc_1 makers_1 mc_1))))) := rfl
def mX4_becomeCarried (F : Nat) (cells : Nat → Int32) (back : Nat → Int32) (reach : Nat → Int32) (filled : Nat → Int32) (fc : Int32) (makers : Nat → Int32) (mc : Int32) (umakers : Nat → Int32) (umc : Int32) (zx2 : Int32) : Option ((Nat → Int32) × (Nat → Int32) × (Nat → Int32) × (Nat → Int32) × Int32 × (Nat → Int32) × Int32) := bd3 (mX4_clear F reach fc mc) (fun reach_1 fc_1 mc_1 => bd7 (mX4_becomeCarried_L6 F zx2 umakers umc F 0 cells back reach_1 filled fc_1 makers mc_1) (fun cells_1 back_1 reach_2 filled_1 fc_2 makers_1 mc_2 => some (cells_1, back_1, reach_2, filled_1, fc_2, makers_1, mc_2)))
set_option maxRecDepth 100000 in
set_option maxHeartbeats 4000000 in
theorem wX4_becomeCarried_L6 {p : Program} {l : Launch} {e : Env} {s : State} {m : MethodId} {zargs : Array Value} {zbelow : List Frame} {zmeth : Method} {c : Code} {D : va_G} {zQ : State → Prop} {zA : Nat → Prop} {ad : Nat → Nat} {od : Nat → Nat} {cI : ClassId} {ucells : Nat → Int32} {uback : Nat → Int32} {ureach : Nat → Int32} {ufilled : Nat → Int32} {ufc : Int32} {umakers : Nat → Int32} {umc : Int32} {zx2 : Int32} (C0 : tg_C p s m zmeth c zargs cX4_becomeCarried RX4 wsX4_becomeCarried 4 D [(cI, .int)]) (hDD : tg_DD zA [ad 0, ad 1, ad 2, ad 3, ad 4, ad 5]) (hPo : va_P D vwCl (wT cI od ucells uback ureach ufilled ufc umakers umc) s.heap) (hoA : ∀ q : Nat, tg_in (wT cI od ucells uback ureach ufilled ufc umakers umc) q → ¬ zA q) (hlocks : zmeth.locks = false) (hr : zmeth.sig.returnType = none) (F : Nat) : ∀ (f : Nat) (zx3 : Int32) (cells : Nat → Int32) (back : Nat → Int32) (reach : Nat → Int32) (filled : Nat → Int32) (fc : Int32) (makers : Nat → Int32) (mc : Int32) (ocells : Nat → Int32) (oback : Nat → Int32) (oreach : Nat → Int32) (ofilled : Nat → Int32) (ofc : Int32) (omakers : Nat → Int32) (omc : Int32), mX4_becomeCarried_L6 F zx2 umakers umc f zx3 cells back reach filled fc makers mc = some (ocells, oback, oreach, ofilled, ofc, omakers, omc) → ∀ (zH : Heap) (zlocs : List Loc), va_P D vwCl (wT cI ad cells back reach filled fc makers mc) zH → va_S zA s.heap zH zlocs → ∀ (zls : Array Slot), lv_has zls 4 [(0, .ref (ad 0)), (1, .ref (od 0)), (2, .int zx2), (3, .int zx3)] → (∀ (zH : Heap) (zlocs : List Loc), va_P D vwCl (wT cI ad ocells oback oreach ofilled ofc omakers omc) zH → va_S zA s.heap zH zlocs → ∀ (zls : Array Slot), lv_has zls 4 [] → W p l e ({ frames := 4, cells := 0, slots := 0, locals := 96 } : Room) s m zargs zbelow zmeth c zH zlocs 0 0 zQ (F0 m 35 zls [])) → W p l e ({ frames := 4, cells := 0, slots := 0, locals := 96 } : Room) s m zargs zbelow zmeth c zH zlocs 0 0 zQ (F0 m 6 zls []) := by
  obtain ⟨hx, hb, hml, hown, hts, hK, hN⟩ := C0
  intro f
  induction f with
  | zero => intro _ _ _ _ _ _ _ _ _ _ _ _ _ _ _ h; exact absurd (show none = some _ from h) (fun h9 => by cases h9)
  | succ f ih =>
    intro zx3 cells back reach filled fc makers mc ocells oback oreach ofilled ofc omakers omc h zH zlocs hP hS zls hl kk
    rw [mX4_becomeCarried_L6_s] at h
    refine lv_iload_n hx hb dX4_becomeCarried_6 rfl (lv_at hl 3 rfl) ?_
    refine lv_aload_n hx hb dX4_becomeCarried_7 rfl (lv_at hl 1 rfl) ?_
    refine va_get (D := D) (ci := 4) (v := .int umc) (C := RX4) (T := TX4) (N := 7) hx hb hts uX4_becomeCarried_RX4 hown hK (tg_ro hPo hoA hS) 0 rfl rfl 6 (by decide) (hts _ kX4_becomeCarried_1) (fun _ h9 => h9) rfl dX4_becomeCarried_8 ?_
    refine lv_icmp_ge (tgt := 35) hx hb dX4_becomeCarried_11 (by decide) (fun cb => ?_) (fun cb => ?_)
    · rw [if_pos cb] at h
      cases h
      exact kk _ _ hP hS _ (lv_sub hl [] rfl)
    · rw [if_neg cb] at h
      refine lv_aload_n hx hb dX4_becomeCarried_14 rfl (lv_at hl 0 rfl) ?_
      refine lv_aload_n hx hb dX4_becomeCarried_15 rfl (lv_at hl 1 rfl) ?_
      refine va_get (D := D) (ci := 4) (v := .ref (od 5)) (C := RX4) (T := TX4) (N := 7) hx hb hts uX4_becomeCarried_RX4 hown hK (tg_ro hPo hoA hS) 0 rfl rfl 5 (by decide) (hts _ kX4_becomeCarried_2) (fun _ h9 => h9) rfl dX4_becomeCarried_16 ?_
      refine lv_iload_n hx hb dX4_becomeCarried_19 rfl (lv_at hl 3 rfl) ?_
      obtain ⟨gg, h⟩ := gd_el h
      refine va_iald hx hb hK (tg_ro hPo hoA hS) 5 0 rfl rfl (inb_in gg) dX4_becomeCarried_20 ?_
      refine lv_iload_n hx hb dX4_becomeCarried_21 rfl (lv_at hl 2 rfl) ?_
      obtain ⟨zr, hc, h⟩ := bd_el h
      refine tg_cRi (va_runSN (As := [.int (umakers (Int32.toNatClampNeg zx3)), .int zx2]) (rest := [.ref (ad 0)]) ⟨hx, hb, hml, hown, hts⟩ (qX6_carried l D (umakers (Int32.toNatClampNeg zx3)) zx2 F zr hc) (⟨va_cnB 2 hts gX4_becomeCarried_X6_carried_n51 rfl rfl rfl (hN _ nw_X4_51) (hts _ kX4_becomeCarried_3) zSX6_carried ⟨Nat.le_of_ble_eq_true rfl, Nat.le_of_ble_eq_true rfl⟩, hts _ kX4_becomeCarried_4, trivial⟩) (tg_preS tg_nil (hK.sub (tys' := []) [] rfl) hN) rfl rfl hl.1 rfl (lv_room (Nat.le_of_ble_eq_true rfl)) dX4_becomeCarried_22 ⟨Nat.zero_le _, Nat.zero_le _⟩) ?_
      obtain ⟨zr_1, cells_1, back_1, reach_1, filled_1, fc_1, makers_1, mc_1, hc_1, h⟩ := bd8_el h
      refine tg_cMi (va_runV (As := [.int zr]) (rest := []) ⟨hx, hb, hml, hown, hts⟩ (qX4_join l D cI ad cells back reach filled fc makers mc zr F zr_1 cells_1 back_1 reach_1 filled_1 fc_1 makers_1 mc_1 hc_1) (cwV 1 hts gX4_becomeCarried_X4_join rfl rfl rfl zVX4_join ⟨Nat.le_of_ble_eq_true rfl, Nat.le_of_ble_eq_true rfl⟩) (tg_preVM (r := (RX4, TX4, 7)) (ci := 4) (q0 := 0) hP (hDD _ rfl) hK hN rfl rfl) rfl rfl hl.1 rfl (lv_room (Nat.le_of_ble_eq_true rfl)) dX4_becomeCarried_25 ⟨Nat.zero_le _, Nat.zero_le _⟩) hS (tg_inA (hDD _ rfl)) (fun zH zlocs _ hP hS => ?_)
      refine lv_pop hx hb dX4_becomeCarried_28 rfl ?_
      refine lv_iinc (v := (zx3 + 1)) (lv' := [(3, .int (zx3 + 1)), (0, .ref (ad 0)), (1, .ref (od 0)), (2, .int zx2)]) hx hb dX4_becomeCarried_29 hl (k := 3) rfl rfl (by decide) rfl (fun zls hl => ?_)
      refine lv_goto (tgt := 6) hx hb dX4_becomeCarried_32 (by decide) ?_
      exact ih _ _ _ _ _ _ _ _ _ _ _ _ _ _ _ h _ _ hP hS _ (lv_sub hl [1, 2, 3, 0] rfl) kk
set_option maxRecDepth 100000 in
set_option maxHeartbeats 4000000 in
theorem qX4_becomeCarried (l : Launch) (D : va_G) (cI : ClassId) (ad : Nat → Nat) (cells : Nat → Int32) (back : Nat → Int32) (reach : Nat → Int32) (filled : Nat → Int32) (fc : Int32) (makers : Nat → Int32) (mc : Int32) (od : Nat → Nat) (ucells : Nat → Int32) (uback : Nat → Int32) (ureach : Nat → Int32) (ufilled : Nat → Int32) (ufc : Int32) (umakers : Nat → Int32) (umc : Int32) (zx2 : Int32) (F : Nat) (ocells : Nat → Int32) (oback : Nat → Int32) (oreach : Nat → Int32) (ofilled : Nat → Int32) (ofc : Int32) (omakers : Nat → Int32) (omc : Int32) (h : mX4_becomeCarried F cells back reach filled fc makers mc umakers umc zx2 = some (ocells, oback, oreach, ofilled, ofc, omakers, omc)) : Met l yX4_becomeCarried wsX4_becomeCarried ({ frames := 4, cells := 0, slots := 0, locals := 96 } : Room) (tg_PMo D [(cI, .int)] [.ref (ad 0), .ref (od 0), .int zx2] (wT cI ad cells back reach filled fc makers mc) (wT cI od ucells uback ureach ufilled ufc umakers umc)) (tg_Mv D (wT cI ad cells back reach filled fc makers mc) (wT cI ad ocells oback oreach ofilled ofc omakers omc)) 0 0 (tg_in (wT cI ad cells back reach filled fc makers mc)) := by
  refine Met.ofW (cc := cX4_becomeCarried) (maxL := 4) (ret := none) (by decide) rfl ?_
  intro p e s m zargs zbelow zmeth c s₁ B hml hv
  obtain ⟨hargs, hP, hPo, hK, hN, hD0, hoA⟩ := hv
  have hx := B.exec
  have hb := B.bytes
  have hr := B.returns
  have hts := atoms_spec (ws := wsX4_becomeCarried) B.pre
  have hown : s.vm.findClass RX4 = some m.cls := findClass_of_methodNamed B.named
  have hlocks := B.notSynchronized
  have hDD : tg_DD (tg_in (wT cI ad cells back reach filled fc makers mc)) [ad 0, ad 1, ad 2, ad 3, ad 4, ad 5] := tg_DD.of (tg_D hD0) rfl
  have hS : va_S (tg_in (wT cI ad cells back reach filled fc makers mc)) s.heap s.heap [] := va_S.rf
  have hl := lv_entry ([.ref (ad 0), .ref (od 0), .int zx2]) (n := 4) (Nat.le_of_ble_eq_true rfl)
  refine W.eq (g2 := entryFrame m ([.ref (ad 0), .ref (od 0), .int zx2] : List Value).toArray 4) (by rw [hargs]) ?_
  rw [lg_entry_eq]
  generalize (lg_sl ([.ref (ad 0), .ref (od 0), .int zx2]) ++ List.replicate (4 - (lg_sl ([.ref (ad 0), .ref (od 0), .int zx2])).length) Slot.unset).toArray = zls at hl ⊢
  have hl : lv_has zls 4 [(0, .ref (ad 0)), (1, .ref (od 0)), (2, .int zx2)] := hl
  rw [mX4_becomeCarried] at h
  refine lv_aload_n hx hb dX4_becomeCarried_0 rfl (lv_at hl 0 rfl) ?_
  obtain ⟨reach_1, fc_1, mc_1, hc, h⟩ := bd3_el h
  refine tg_cMv (va_runV (As := []) (rest := []) ⟨hx, hb, hml, hown, hts⟩ (qX4_clear l D cI ad cells back reach filled fc makers mc F reach_1 fc_1 mc_1 hc) (cwV 0 hts gX4_becomeCarried_X4_clear rfl rfl rfl zVX4_clear ⟨Nat.le_of_ble_eq_true rfl, Nat.le_of_ble_eq_true rfl⟩) (tg_preVM (r := (RX4, TX4, 7)) (ci := 4) (q0 := 0) hP (hDD _ rfl) hK hN rfl rfl) rfl rfl hl.1 rfl (lv_room (Nat.le_of_ble_eq_true rfl)) dX4_becomeCarried_1 ⟨Nat.zero_le _, Nat.zero_le _⟩) hS (tg_inA (hDD _ rfl)) (fun zH zlocs _ hP hS => ?_)
  refine lv_iconst (v := 0) hx hb dX4_becomeCarried_4 (by decide) ?_
  refine lv_istore_n (lv' := [(3, .int 0), (0, .ref (ad 0)), (1, .ref (od 0)), (2, .int zx2)]) hx hb dX4_becomeCarried_5 rfl hl (by decide) rfl (fun zls hl => ?_)
  obtain ⟨cells_1, back_1, reach_2, filled_1, fc_2, makers_1, mc_2, hv, h⟩ := bd7_el h
  refine wX4_becomeCarried_L6 ⟨hx, hb, hml, hown, hts, hK, hN⟩ hDD hPo hoA hlocks hr F F _ _ _ _ _ _ _ _ _ _ _ _ _ _ _ hv _ _ hP hS _ (lv_sub hl [1, 2, 3, 0] rfl) (fun zH zlocs hP hS zls hl => ?_)
  cases h
  exact W.vret hx hb hr (fun t ht hW => ⟨rfl, by rw [ht]; exact hP, hS.F ht⟩) hS.2.2 dX4_becomeCarried_35
theorem zVX4_becomeCarried : yX4_becomeCarried.cls = RX4 ∧ yX4_becomeCarried.cls ≠ "java/lang/invoke/MethodHandle" ∧ yX4_becomeCarried.cls ≠ "java/lang/invoke/VarHandle" ∧ (parseMethodDescriptor yX4_becomeCarried.desc).map (fun d => d.parameters.length) = some 2 := by decide +kernel

/-! ===== void becomeDown(TurnGroups$Tower); ===== -/
theorem kX4_becomeDown_1 : Cond.fieldLink RX4 31 "TurnGroups$Tower" "makerCount" "I" ∈ wsX4_becomeDown := by decide +kernel
theorem kX4_becomeDown_2 : Cond.fieldLink RX4 24 "TurnGroups$Tower" "makers" "[I" ∈ wsX4_becomeDown := by decide +kernel
theorem kX4_becomeDown_3 : Cond.initialized RX6 ∈ wsX4_becomeDown := by decide +kernel
theorem kX4_becomeDown_4 : Cond.static yX6_commutator ∈ wsX4_becomeDown := by decide +kernel
theorem uX4_becomeDown_RX4 : ∀ w ∈ u_ws RX4 TX4 7, w ∈ wsX4_becomeDown := by decide +kernel
def mX4_becomeDown_L16 (F : Nat) (zx2 : Int32) (umakers : Nat → Int32) : Nat → Int32 → (Nat → Int32) → (Nat → Int32) → (Nat → Int32) → (Nat → Int32) → Int32 → (Nat → Int32) → Int32 → Option ((Nat → Int32) × (Nat → Int32) × (Nat → Int32) × (Nat → Int32) × Int32 × (Nat → Int32) × Int32)
  | 0, _, _, _, _, _, _, _, _ => none
  | f + 1, zx3, cells, back, reach, filled, fc, makers, mc => if zx2 ≤ zx3 then (some (cells, back, reach, filled, fc, makers, mc)) else (gd (inb zx2 16) (gd (inb zx3 16) (bd (mX6_commutator F (umakers (Int32.toNatClampNeg zx2)) (umakers (Int32.toNatClampNeg zx3))) (fun zr => bd8 (mX4_join F cells back reach filled fc makers mc zr) (fun zr_1 cells_1 back_1 reach_1 filled_1 fc_1 makers_1 mc_1 => mX4_becomeDown_L16 F zx2 umakers f (zx3 + 1) cells_1 back_1 reach_1 filled_1 fc_1 makers_1 mc_1)))))
theorem mX4_becomeDown_L16_s (F : Nat) (zx2 : Int32) (umakers : Nat → Int32) (f : Nat) (zx3 : Int32) (cells : Nat → Int32) (back : Nat → Int32) (reach : Nat → Int32) (filled : Nat → Int32) (fc : Int32) (makers : Nat → Int32) (mc : Int32) : mX4_becomeDown_L16 F zx2 umakers (f + 1) zx3 cells back reach filled fc makers mc = (if zx2 ≤ zx3 then (some (cells, back, reach, filled, fc, makers, mc)) else (gd (inb zx2 16) (gd (inb zx3 16) (bd (mX6_commutator F (umakers (Int32.toNatClampNeg zx2)) (umakers (Int32.toNatClampNeg zx3))) (fun zr => bd8 (mX4_join F cells back reach filled fc makers mc zr) (fun zr_1 cells_1 back_1 reach_1 filled_1 fc_1 makers_1 mc_1 => mX4_becomeDown_L16 F zx2 umakers f (zx3 + 1) cells_1 back_1 reach_1 filled_1 fc_1 makers_1 mc_1)))))) := rfl
def mX4_becomeDown_L6 (F : Nat) (umakers : Nat → Int32) (umc : Int32) : Nat → Int32 → (Nat → Int32) → (Nat → Int32) → (Nat → Int32) → (Nat → Int32) → Int32 → (Nat → Int32) → Int32 → Option ((Nat → Int32) × (Nat → Int32) × (Nat → Int32) × (Nat → Int32) × Int32 × (Nat → Int32) × Int32)
  | 0, _, _, _, _, _, _, _, _ => none
  | f + 1, zx2, cells, back, reach, filled, fc, makers, mc => if umc ≤ zx2 then (some (cells, back, reach, filled, fc, makers, mc)) else (bd7 (mX4_becomeDown_L16 F zx2 umakers F 0 cells back reach filled fc makers mc) (fun cells_1 back_1 reach_1 filled_1 fc_1 makers_1 mc_1 => mX4_becomeDown_L6 F umakers umc f (zx2 + 1) cells_1 back_1 reach_1 filled_1 fc_1 makers_1 mc_1))
theorem mX4_becomeDown_L6_s (F : Nat) (umakers : Nat → Int32) (umc : Int32) (f : Nat) (zx2 : Int32) (cells : Nat → Int32) (back : Nat → Int32) (reach : Nat → Int32) (filled : Nat → Int32) (fc : Int32) (makers : Nat → Int32) (mc : Int32) : mX4_becomeDown_L6 F umakers umc (f + 1) zx2 cells back reach filled fc makers mc = (if umc ≤ zx2 then (some (cells, back, reach, filled, fc, makers, mc)) else (bd7 (mX4_becomeDown_L16 F zx2 umakers F 0 cells back reach filled fc makers mc) (fun cells_1 back_1 reach_1 filled_1 fc_1 makers_1 mc_1 => mX4_becomeDown_L6 F umakers umc f (zx2 + 1) cells_1 back_1 reach_1 filled_1 fc_1 makers_1 mc_1))) := rfl
def mX4_becomeDown (F : Nat) (cells : Nat → Int32) (back : Nat → Int32) (reach : Nat → Int32) (filled : Nat → Int32) (fc : Int32) (makers : Nat → Int32) (mc : Int32) (umakers : Nat → Int32) (umc : Int32) : Option ((Nat → Int32) × (Nat → Int32) × (Nat → Int32) × (Nat → Int32) × Int32 × (Nat → Int32) × Int32) := bd3 (mX4_clear F reach fc mc) (fun reach_1 fc_1 mc_1 => bd7 (mX4_becomeDown_L6 F umakers umc F 0 cells back reach_1 filled fc_1 makers mc_1) (fun cells_1 back_1 reach_2 filled_1 fc_2 makers_1 mc_2 => bd7 (mX4_closeUnder F cells_1 back_1 reach_2 filled_1 fc_2 makers_1 mc_2 umakers umc) (fun cells_2 back_2 reach_3 filled_2 fc_3 makers_2 mc_3 => some (cells_2, back_2, reach_3, filled_2, fc_3, makers_2, mc_3))))
set_option maxRecDepth 100000 in
set_option maxHeartbeats 4000000 in
theorem wX4_becomeDown_L16 {p : Program} {l : Launch} {e : Env} {s : State} {m : MethodId} {zargs : Array Value} {zbelow : List Frame} {zmeth : Method} {c : Code} {D : va_G} {zQ : State → Prop} {zA : Nat → Prop} {ad : Nat → Nat} {od : Nat → Nat} {cI : ClassId} {ucells : Nat → Int32} {uback : Nat → Int32} {ureach : Nat → Int32} {ufilled : Nat → Int32} {ufc : Int32} {umakers : Nat → Int32} {umc : Int32} {zx2 : Int32} (C0 : tg_C p s m zmeth c zargs cX4_becomeDown RX4 wsX4_becomeDown 4 D [(cI, .int)]) (hDD : tg_DD zA [ad 0, ad 1, ad 2, ad 3, ad 4, ad 5]) (hPo : va_P D vwCl (wT cI od ucells uback ureach ufilled ufc umakers umc) s.heap) (hoA : ∀ q : Nat, tg_in (wT cI od ucells uback ureach ufilled ufc umakers umc) q → ¬ zA q) (hlocks : zmeth.locks = false) (hr : zmeth.sig.returnType = none) (F : Nat) : ∀ (f : Nat) (zx3 : Int32) (cells : Nat → Int32) (back : Nat → Int32) (reach : Nat → Int32) (filled : Nat → Int32) (fc : Int32) (makers : Nat → Int32) (mc : Int32) (ocells : Nat → Int32) (oback : Nat → Int32) (oreach : Nat → Int32) (ofilled : Nat → Int32) (ofc : Int32) (omakers : Nat → Int32) (omc : Int32), mX4_becomeDown_L16 F zx2 umakers f zx3 cells back reach filled fc makers mc = some (ocells, oback, oreach, ofilled, ofc, omakers, omc) → ∀ (zH : Heap) (zlocs : List Loc), va_P D vwCl (wT cI ad cells back reach filled fc makers mc) zH → va_S zA s.heap zH zlocs → ∀ (zls : Array Slot), lv_has zls 4 [(0, .ref (ad 0)), (1, .ref (od 0)), (2, .int zx2), (3, .int zx3)] → (∀ (zH : Heap) (zlocs : List Loc), va_P D vwCl (wT cI ad ocells oback oreach ofilled ofc omakers omc) zH → va_S zA s.heap zH zlocs → ∀ (zls : Array Slot), lv_has zls 4 [(0, .ref (ad 0)), (1, .ref (od 0)), (2, .int zx2)] → W p l e ({ frames := 5, cells := 0, slots := 0, locals := 119 } : Room) s m zargs zbelow zmeth c zH zlocs 0 0 zQ (F0 m 47 zls [])) → W p l e ({ frames := 5, cells := 0, slots := 0, locals := 119 } : Room) s m zargs zbelow zmeth c zH zlocs 0 0 zQ (F0 m 16 zls []) := by
  obtain ⟨hx, hb, hml, hown, hts, hK, hN⟩ := C0
  intro f
  induction f with
  | zero => intro _ _ _ _ _ _ _ _ _ _ _ _ _ _ _ h; exact absurd (show none = some _ from h) (fun h9 => by cases h9)
  | succ f ih =>
    intro zx3 cells back reach filled fc makers mc ocells oback oreach ofilled ofc omakers omc h zH zlocs hP hS zls hl kk
    rw [mX4_becomeDown_L16_s] at h
    refine lv_iload_n hx hb dX4_becomeDown_16 rfl (lv_at hl 3 rfl) ?_
    refine lv_iload_n hx hb dX4_becomeDown_17 rfl (lv_at hl 2 rfl) ?_
    refine lv_icmp_ge (tgt := 47) hx hb dX4_becomeDown_18 (by decide) (fun cb => ?_) (fun cb => ?_)
    · rw [if_pos cb] at h
      cases h
      exact kk _ _ hP hS _ (lv_sub hl [0, 1, 2] rfl)
    · rw [if_neg cb] at h
      refine lv_aload_n hx hb dX4_becomeDown_21 rfl (lv_at hl 0 rfl) ?_
      refine lv_aload_n hx hb dX4_becomeDown_22 rfl (lv_at hl 1 rfl) ?_
      refine va_get (D := D) (ci := 4) (v := .ref (od 5)) (C := RX4) (T := TX4) (N := 7) hx hb hts uX4_becomeDown_RX4 hown hK (tg_ro hPo hoA hS) 0 rfl rfl 5 (by decide) (hts _ kX4_becomeDown_2) (fun _ h9 => h9) rfl dX4_becomeDown_23 ?_
      refine lv_iload_n hx hb dX4_becomeDown_26 rfl (lv_at hl 2 rfl) ?_
      obtain ⟨gg, h⟩ := gd_el h
      refine va_iald hx hb hK (tg_ro hPo hoA hS) 5 0 rfl rfl (inb_in gg) dX4_becomeDown_27 ?_
      refine lv_aload_n hx hb dX4_becomeDown_28 rfl (lv_at hl 1 rfl) ?_
      refine va_get (D := D) (ci := 4) (v := .ref (od 5)) (C := RX4) (T := TX4) (N := 7) hx hb hts uX4_becomeDown_RX4 hown hK (tg_ro hPo hoA hS) 0 rfl rfl 5 (by decide) (hts _ kX4_becomeDown_2) (fun _ h9 => h9) rfl dX4_becomeDown_29 ?_
      refine lv_iload_n hx hb dX4_becomeDown_32 rfl (lv_at hl 3 rfl) ?_
      obtain ⟨gg_1, h⟩ := gd_el h
      refine va_iald hx hb hK (tg_ro hPo hoA hS) 5 0 rfl rfl (inb_in gg_1) dX4_becomeDown_33 ?_
      obtain ⟨zr, hc, h⟩ := bd_el h
      refine tg_cRi (va_runSN (As := [.int (umakers (Int32.toNatClampNeg zx2)), .int (umakers (Int32.toNatClampNeg zx3))]) (rest := [.ref (ad 0)]) ⟨hx, hb, hml, hown, hts⟩ (qX6_commutator l D (umakers (Int32.toNatClampNeg zx2)) (umakers (Int32.toNatClampNeg zx3)) F zr hc) (⟨va_cnB 2 hts gX4_becomeDown_X6_commutator_n58 rfl rfl rfl (hN _ nw_X4_58) (hts _ kX4_becomeDown_3) zSX6_commutator ⟨Nat.le_of_ble_eq_true rfl, Nat.le_of_ble_eq_true rfl⟩, hts _ kX4_becomeDown_4, trivial⟩) (tg_preS tg_nil (hK.sub (tys' := []) [] rfl) hN) rfl rfl hl.1 rfl (lv_room (Nat.le_of_ble_eq_true rfl)) dX4_becomeDown_34 ⟨Nat.zero_le _, Nat.zero_le _⟩) ?_
      obtain ⟨zr_1, cells_1, back_1, reach_1, filled_1, fc_1, makers_1, mc_1, hc_1, h⟩ := bd8_el h
      refine tg_cMi (va_runV (As := [.int zr]) (rest := []) ⟨hx, hb, hml, hown, hts⟩ (qX4_join l D cI ad cells back reach filled fc makers mc zr F zr_1 cells_1 back_1 reach_1 filled_1 fc_1 makers_1 mc_1 hc_1) (cwV 1 hts gX4_becomeDown_X4_join rfl rfl rfl zVX4_join ⟨Nat.le_of_ble_eq_true rfl, Nat.le_of_ble_eq_true rfl⟩) (tg_preVM (r := (RX4, TX4, 7)) (ci := 4) (q0 := 0) hP (hDD _ rfl) hK hN rfl rfl) rfl rfl hl.1 rfl (lv_room (Nat.le_of_ble_eq_true rfl)) dX4_becomeDown_37 ⟨Nat.zero_le _, Nat.zero_le _⟩) hS (tg_inA (hDD _ rfl)) (fun zH zlocs _ hP hS => ?_)
      refine lv_pop hx hb dX4_becomeDown_40 rfl ?_
      refine lv_iinc (v := (zx3 + 1)) (lv' := [(3, .int (zx3 + 1)), (0, .ref (ad 0)), (1, .ref (od 0)), (2, .int zx2)]) hx hb dX4_becomeDown_41 hl (k := 3) rfl rfl (by decide) rfl (fun zls hl => ?_)
      refine lv_goto (tgt := 16) hx hb dX4_becomeDown_44 (by decide) ?_
      exact ih _ _ _ _ _ _ _ _ _ _ _ _ _ _ _ h _ _ hP hS _ (lv_sub hl [1, 2, 3, 0] rfl) kk
set_option maxRecDepth 100000 in
set_option maxHeartbeats 4000000 in
theorem wX4_becomeDown_L6 {p : Program} {l : Launch} {e : Env} {s : State} {m : MethodId} {zargs : Array Value} {zbelow : List Frame} {zmeth : Method} {c : Code} {D : va_G} {zQ : State → Prop} {zA : Nat → Prop} {ad : Nat → Nat} {od : Nat → Nat} {cI : ClassId} {ucells : Nat → Int32} {uback : Nat → Int32} {ureach : Nat → Int32} {ufilled : Nat → Int32} {ufc : Int32} {umakers : Nat → Int32} {umc : Int32} (C0 : tg_C p s m zmeth c zargs cX4_becomeDown RX4 wsX4_becomeDown 4 D [(cI, .int)]) (hDD : tg_DD zA [ad 0, ad 1, ad 2, ad 3, ad 4, ad 5]) (hPo : va_P D vwCl (wT cI od ucells uback ureach ufilled ufc umakers umc) s.heap) (hoA : ∀ q : Nat, tg_in (wT cI od ucells uback ureach ufilled ufc umakers umc) q → ¬ zA q) (hlocks : zmeth.locks = false) (hr : zmeth.sig.returnType = none) (F : Nat) : ∀ (f : Nat) (zx2 : Int32) (cells : Nat → Int32) (back : Nat → Int32) (reach : Nat → Int32) (filled : Nat → Int32) (fc : Int32) (makers : Nat → Int32) (mc : Int32) (ocells : Nat → Int32) (oback : Nat → Int32) (oreach : Nat → Int32) (ofilled : Nat → Int32) (ofc : Int32) (omakers : Nat → Int32) (omc : Int32), mX4_becomeDown_L6 F umakers umc f zx2 cells back reach filled fc makers mc = some (ocells, oback, oreach, ofilled, ofc, omakers, omc) → ∀ (zH : Heap) (zlocs : List Loc), va_P D vwCl (wT cI ad cells back reach filled fc makers mc) zH → va_S zA s.heap zH zlocs → ∀ (zls : Array Slot), lv_has zls 4 [(0, .ref (ad 0)), (1, .ref (od 0)), (2, .int zx2)] → (∀ (zH : Heap) (zlocs : List Loc), va_P D vwCl (wT cI ad ocells oback oreach ofilled ofc omakers omc) zH → va_S zA s.heap zH zlocs → ∀ (zls : Array Slot), lv_has zls 4 [(0, .ref (ad 0)), (1, .ref (od 0))] → W p l e ({ frames := 5, cells := 0, slots := 0, locals := 119 } : Room) s m zargs zbelow zmeth c zH zlocs 0 0 zQ (F0 m 53 zls [])) → W p l e ({ frames := 5, cells := 0, slots := 0, locals := 119 } : Room) s m zargs zbelow zmeth c zH zlocs 0 0 zQ (F0 m 6 zls []) := by
  obtain ⟨hx, hb, hml, hown, hts, hK, hN⟩ := C0
  intro f
  induction f with
  | zero => intro _ _ _ _ _ _ _ _ _ _ _ _ _ _ _ h; exact absurd (show none = some _ from h) (fun h9 => by cases h9)
  | succ f ih =>
    intro zx2 cells back reach filled fc makers mc ocells oback oreach ofilled ofc omakers omc h zH zlocs hP hS zls hl kk
    rw [mX4_becomeDown_L6_s] at h
    refine lv_iload_n hx hb dX4_becomeDown_6 rfl (lv_at hl 2 rfl) ?_
    refine lv_aload_n hx hb dX4_becomeDown_7 rfl (lv_at hl 1 rfl) ?_
    refine va_get (D := D) (ci := 4) (v := .int umc) (C := RX4) (T := TX4) (N := 7) hx hb hts uX4_becomeDown_RX4 hown hK (tg_ro hPo hoA hS) 0 rfl rfl 6 (by decide) (hts _ kX4_becomeDown_1) (fun _ h9 => h9) rfl dX4_becomeDown_8 ?_
    refine lv_icmp_ge (tgt := 53) hx hb dX4_becomeDown_11 (by decide) (fun cb => ?_) (fun cb => ?_)
    · rw [if_pos cb] at h
      cases h
      exact kk _ _ hP hS _ (lv_sub hl [0, 1] rfl)
    · rw [if_neg cb] at h
      refine lv_iconst (v := 0) hx hb dX4_becomeDown_14 (by decide) ?_
      refine lv_istore_n (lv' := [(3, .int 0), (0, .ref (ad 0)), (1, .ref (od 0)), (2, .int zx2)]) hx hb dX4_becomeDown_15 rfl hl (by decide) rfl (fun zls hl => ?_)
      obtain ⟨cells_1, back_1, reach_1, filled_1, fc_1, makers_1, mc_1, hv, h⟩ := bd7_el h
      refine wX4_becomeDown_L16 ⟨hx, hb, hml, hown, hts, hK, hN⟩ hDD hPo hoA hlocks hr F F _ _ _ _ _ _ _ _ _ _ _ _ _ _ _ hv _ _ hP hS _ (lv_sub hl [1, 2, 3, 0] rfl) (fun zH zlocs hP hS zls hl => ?_)
      refine lv_iinc (v := (zx2 + 1)) (lv' := [(2, .int (zx2 + 1)), (0, .ref (ad 0)), (1, .ref (od 0))]) hx hb dX4_becomeDown_47 hl (k := 2) rfl rfl (by decide) rfl (fun zls hl => ?_)
      refine lv_goto (tgt := 6) hx hb dX4_becomeDown_50 (by decide) ?_
      exact ih _ _ _ _ _ _ _ _ _ _ _ _ _ _ _ h _ _ hP hS _ (lv_sub hl [1, 2, 0] rfl) kk
set_option maxRecDepth 100000 in
set_option maxHeartbeats 4000000 in
theorem qX4_becomeDown (l : Launch) (D : va_G) (cI : ClassId) (ad : Nat → Nat) (cells : Nat → Int32) (back : Nat → Int32) (reach : Nat → Int32) (filled : Nat → Int32) (fc : Int32) (makers : Nat → Int32) (mc : Int32) (od : Nat → Nat) (ucells : Nat → Int32) (uback : Nat → Int32) (ureach : Nat → Int32) (ufilled : Nat → Int32) (ufc : Int32) (umakers : Nat → Int32) (umc : Int32) (F : Nat) (ocells : Nat → Int32) (oback : Nat → Int32) (oreach : Nat → Int32) (ofilled : Nat → Int32) (ofc : Int32) (omakers : Nat → Int32) (omc : Int32) (h : mX4_becomeDown F cells back reach filled fc makers mc umakers umc = some (ocells, oback, oreach, ofilled, ofc, omakers, omc)) : Met l yX4_becomeDown wsX4_becomeDown ({ frames := 5, cells := 0, slots := 0, locals := 119 } : Room) (tg_PMo D [(cI, .int)] [.ref (ad 0), .ref (od 0)] (wT cI ad cells back reach filled fc makers mc) (wT cI od ucells uback ureach ufilled ufc umakers umc)) (tg_Mv D (wT cI ad cells back reach filled fc makers mc) (wT cI ad ocells oback oreach ofilled ofc omakers omc)) 0 0 (tg_in (wT cI ad cells back reach filled fc makers mc)) := by
  refine Met.ofW (cc := cX4_becomeDown) (maxL := 4) (ret := none) (by decide) rfl ?_
  intro p e s m zargs zbelow zmeth c s₁ B hml hv
  obtain ⟨hargs, hP, hPo, hK, hN, hD0, hoA⟩ := hv
  have hx := B.exec
  have hb := B.bytes
  have hr := B.returns
  have hts := atoms_spec (ws := wsX4_becomeDown) B.pre
  have hown : s.vm.findClass RX4 = some m.cls := findClass_of_methodNamed B.named
  have hlocks := B.notSynchronized
  have hDD : tg_DD (tg_in (wT cI ad cells back reach filled fc makers mc)) [ad 0, ad 1, ad 2, ad 3, ad 4, ad 5] := tg_DD.of (tg_D hD0) rfl
  have hS : va_S (tg_in (wT cI ad cells back reach filled fc makers mc)) s.heap s.heap [] := va_S.rf
  have hl := lv_entry ([.ref (ad 0), .ref (od 0)]) (n := 4) (Nat.le_of_ble_eq_true rfl)
  refine W.eq (g2 := entryFrame m ([.ref (ad 0), .ref (od 0)] : List Value).toArray 4) (by rw [hargs]) ?_
  rw [lg_entry_eq]
  generalize (lg_sl ([.ref (ad 0), .ref (od 0)]) ++ List.replicate (4 - (lg_sl ([.ref (ad 0), .ref (od 0)])).length) Slot.unset).toArray = zls at hl ⊢
  have hl : lv_has zls 4 [(0, .ref (ad 0)), (1, .ref (od 0))] := hl
  rw [mX4_becomeDown] at h
  refine lv_aload_n hx hb dX4_becomeDown_0 rfl (lv_at hl 0 rfl) ?_
  obtain ⟨reach_1, fc_1, mc_1, hc, h⟩ := bd3_el h
  refine tg_cMv (va_runV (As := []) (rest := []) ⟨hx, hb, hml, hown, hts⟩ (qX4_clear l D cI ad cells back reach filled fc makers mc F reach_1 fc_1 mc_1 hc) (cwV 0 hts gX4_becomeDown_X4_clear rfl rfl rfl zVX4_clear ⟨Nat.le_of_ble_eq_true rfl, Nat.le_of_ble_eq_true rfl⟩) (tg_preVM (r := (RX4, TX4, 7)) (ci := 4) (q0 := 0) hP (hDD _ rfl) hK hN rfl rfl) rfl rfl hl.1 rfl (lv_room (Nat.le_of_ble_eq_true rfl)) dX4_becomeDown_1 ⟨Nat.zero_le _, Nat.zero_le _⟩) hS (tg_inA (hDD _ rfl)) (fun zH zlocs _ hP hS => ?_)
  refine lv_iconst (v := 0) hx hb dX4_becomeDown_4 (by decide) ?_
  refine lv_istore_n (lv' := [(2, .int 0), (0, .ref (ad 0)), (1, .ref (od 0))]) hx hb dX4_becomeDown_5 rfl hl (by decide) rfl (fun zls hl => ?_)
  obtain ⟨cells_1, back_1, reach_2, filled_1, fc_2, makers_1, mc_2, hv, h⟩ := bd7_el h
  refine wX4_becomeDown_L6 ⟨hx, hb, hml, hown, hts, hK, hN⟩ hDD hPo hoA hlocks hr F F _ _ _ _ _ _ _ _ _ _ _ _ _ _ _ hv _ _ hP hS _ (lv_sub hl [1, 2, 0] rfl) (fun zH zlocs hP hS zls hl => ?_)
  refine lv_aload_n hx hb dX4_becomeDown_53 rfl (lv_at hl 0 rfl) ?_
  refine lv_aload_n hx hb dX4_becomeDown_54 rfl (lv_at hl 1 rfl) ?_
  obtain ⟨cells_2, back_2, reach_3, filled_2, fc_3, makers_2, mc_3, hc_1, h⟩ := bd7_el h
  refine tg_cMv (va_runV (As := [.ref (od 0)]) (rest := []) ⟨hx, hb, hml, hown, hts⟩ (qX4_closeUnder l D cI ad cells_1 back_1 reach_2 filled_1 fc_2 makers_1 mc_2 od ucells uback ureach ufilled ufc umakers umc F cells_2 back_2 reach_3 filled_2 fc_3 makers_2 mc_3 hc_1) (cwV 1 hts gX4_becomeDown_X4_closeUnder rfl rfl rfl zVX4_closeUnder ⟨Nat.le_of_ble_eq_true rfl, Nat.le_of_ble_eq_true rfl⟩) (tg_preVMo (r := (RX4, TX4, 7)) (ci := 4) (q0 := 0) hP (hDD _ rfl) (tg_ro hPo hoA hS) (fun q9 h8 h9 => hoA q9 h8 (tg_inA (hDD _ rfl) q9 h9)) hK hN rfl rfl) rfl rfl hl.1 rfl (lv_room (Nat.le_of_ble_eq_true rfl)) dX4_becomeDown_55 ⟨Nat.zero_le _, Nat.zero_le _⟩) hS (tg_inA (hDD _ rfl)) (fun zH zlocs _ hP hS => ?_)
  cases h
  exact W.vret hx hb hr (fun t ht hW => ⟨rfl, by rw [ht]; exact hP, hS.F ht⟩) hS.2.2 dX4_becomeDown_58
theorem zVX4_becomeDown : yX4_becomeDown.cls = RX4 ∧ yX4_becomeDown.cls ≠ "java/lang/invoke/MethodHandle" ∧ yX4_becomeDown.cls ≠ "java/lang/invoke/VarHandle" ∧ (parseMethodDescriptor yX4_becomeDown.desc).map (fun d => d.parameters.length) = some 1 := by decide +kernel
