/-! THE CLAIM OUT OF ONE WALK OF THE LAW'S BODY. Your part is whole_start (and what it stands on); all else here is the same for every law, but numbers. -/
def R_law : String := "TurnGroupsLaw"
def lw_P (b : Addr) (xs : List Int32) (args : Array Value) (s : State) : Prop := args = #[.ref b] ∧ s.IntsAt b xs ∧ xs.length ≤ 2048 ∧ (Jvm.Cond.and given_1 narrow_1).before args s = true
def lw_Q (_ : Array Value) (s : State) (o : Outcome) (t : State) : Prop := o = .returned (some (.int 1)) ∧ Framed s o t [] 600000 7302250
def lw_Z (below : List Frame) (a : Array Value) (s : State) : State → Prop := fun t => ∃ o, t.status = .running ∧ Ended t below o ∧ lw_Q a s o t
/-- the law's own end, with 1 on the stack, nothing written that was there before, its room as the claim has it -/
theorem lw_ret {p : Program} {l : Launch} {e : Env} {s : State} {m : MethodId} {below : List Frame} {meth : Method} {c : Code} {b : Nat} (hx : p.tables.exec = Jvm.exec) (hb : c.code = code) (hr : meth.sig.returnType = ret) (hlocks : meth.locks = false) {pc : Nat} {H : Heap} {ls : Array Slot} (hdg : decode code pc = .ok (.ireturn, 1)) : W p l e room_1 s m #[Value.ref b] below meth c H [] 600000 7302250 (lw_Z below #[Value.ref b] s) (F0 m pc ls [.int 1]) := by
  intro T hT X
  obtain ⟨fs, hret, hrun, hended, hW, hframe⟩ := X.leave (v := some (.int 1)) (hlocks := hlocks) (fun h => by rw [hr] at h; cases h)
  have hmeth' : T.vm.method? m = some meth := X.method'
  refine ⟨T.setFrames fs, ?_, .returned (some (.int 1)), hrun, hended, rfl, ⟨_, rfl⟩, hW, hframe⟩
  jvm_step X.here [X.here.top, hx, hb, hdg, hmeth', hr, ret, narrow_b1]
  (try refine ⟨rfl, ?_⟩); (try refine ⟨rfl, ?_⟩)
  first | (intro acts; rw [hret _ acts rfl rfl rfl]) | rw [hret _ _ rfl rfl rfl]
  exact Steps.refl _
/-- what holds at the law's entry: the machine, the code, the tables' words (any of lw_tbl by 'hts w (by decide +kernel)'), the script of L ints xs at the cell b, what the Statement gives of the start (any of its parts by flat_of_before) -/
def lw_At (p : Program) (s : State) (m : MethodId) (meth : Method) (c : Code) (b L : Nat) (xs : Nat → Int32) : Prop :=
  p.tables.exec = Jvm.exec ∧ c.code = code ∧ meth.sig.returnType = ret ∧ c.maxLocals = 4 ∧ s.vm.findClass R_law = some m.cls ∧ (∀ w ∈ lw_tbl, w.before #[Value.ref b] s = true) ∧ va_X b L xs s s.heap ∧ b < s.heap.size ∧ meth.locks = false ∧ (Jvm.Cond.and given_1 narrow_1).before #[Value.ref b] s = true
theorem and31 (z : Int32) : ∃ j, j < 32 ∧ z &&& 31 = nI j := by
  refine ⟨z.toBitVec.toNat &&& 31, ?_, ?_⟩
  · have := Nat.and_le_right (n := z.toBitVec.toNat) (m := 31)
    omega
  · have e : z = nI z.toBitVec.toNat := by
      apply Int32.toBitVec_inj.1
      show z.toBitVec = BitVec.ofNat 32 z.toBitVec.toNat
      simp
    calc z &&& 31 = nI z.toBitVec.toNat &&& nI 31 := by rw [← e]; rfl
      _ = _ := ni_and _ _
set_option maxRecDepth 100000 in
set_option maxHeartbeats 4000000 in
theorem lw_loop {p : Program} {l : Launch} {e : Env} {s : State} {m : MethodId} {b : Nat} {below : List Frame} {meth : Method} {c : Code} {D : va_G} {zQ : State → Prop} {ga : Nat → Nat} {ta : Nat → Nat → Nat} {ad : Nat → Nat} {cI cT cZ : ClassId} {L : Nat} {xs : Nat → Int32} {F : Nat} (C0 : tg_C p s m meth c #[Value.ref b] cL_law RL wsL_law 4 D [(cI, .int), (cT, .object "TurnGroups$Tower"), (cZ, .boolean)]) (hX : va_X b L xs s s.heap) (hbl : b < s.heap.size) (hDs : lwD s ta ga ad) (hF : 50000 ≤ F) (hL : L ≤ 2048) {c0 s0 : Nat} (hc0 : c0 + 600 ≤ 600000) (hs0 : s0 + 1200 ≤ 7302250) : ∀ (f k : Nat), k + f = 513 → 4 * k ≤ L → ∀ (zH : Heap) (zlocs : List Loc), lwI D cI cT cZ ta ga ad zH → va_S (lwA s) s.heap zH zlocs → ∀ (zls : Array Slot), lv_has zls 4 [(0, .ref b), (1, .ref (ga 0)), (2, .ref (ad 0)), (3, .int (nI (4 * k)))] → (∀ (zH : Heap) (zlocs : List Loc), va_S (lwA s) s.heap zH zlocs → ∀ zls : Array Slot, W p l e room_1 s m #[Value.ref b] below meth c zH zlocs (c0 + 600) (s0 + 1200) zQ (F0 m 897 zls [])) → W p l e room_1 s m #[Value.ref b] below meth c zH zlocs (c0 + k) (s0 + 2 * k) zQ (F0 m 18 zls []) := by
  have C1 := C0
  obtain ⟨hx, hb, hml, hown, hts, hK, hN⟩ := C0
  have hbA : ¬ lwA s b := Nat.not_le.mpr hbl
  intro f
  induction f with
  | zero =>
    intro k hk hkL
    omega
  | succ f ih =>
    intro k hk hkL zH zlocs hI hS zls hl kk
    refine lv_iload_n hx hb dL_law_18 rfl (lv_at hl 3 rfl) ?_
    refine lv_aload_n hx hb dL_law_19 rfl (lv_at hl 0 rfl) ?_
    refine va_slen hx hb hX hbl hbA hS dL_law_20 ?_
    refine lv_iconst (v := 4) hx hb dL_law_21 (by decide) ?_
    refine lv_isub hx hb dL_law_22 ?_
    have hd : (Int32.ofNat L - 4).toInt = (L : Int) - 4 := pk_sub_toInt (a := L) (b := 4) (by omega) (by omega)
    have h4 : (nI (4 * k)).toInt = ((4 * k : Nat) : Int) := nI_toInt (by omega)
    refine lv_icmp_gt (tgt := 897) hx hb dL_law_23 (by decide) (fun _ => ?_) (fun hlt => ?_)
    · refine W.widen (k := c0 + 600) (n := s0 + 1200) (by omega) (by omega) ?_
      exact kk _ _ hS _
    · rw [Int32.lt_iff_toInt_lt, hd, h4] at hlt
      have hL4 : 4 * k + 4 ≤ L := by omega
      have cl : ∀ j, j < 4 → vp_in (nI (4 * k + j)) L := fun j hj => vp_in_nI (by omega) (by omega)
      have hi : lwX (nI (4 * k)) L xs (xs (nI (4 * k) + 1).toNatClampNeg) (xs (nI (4 * k) + 2).toNatClampNeg) (xs (nI (4 * k) + 3).toNatClampNeg) := by
        have a1 : nI (4 * k) + 1 = nI (4 * k + 1) := nI_add _ 1
        have a2 : nI (4 * k) + 2 = nI (4 * k + 2) := nI_add _ 2
        have a3 : nI (4 * k) + 3 = nI (4 * k + 3) := nI_add _ 3
        exact ⟨by rw [a1]; exact cl 1 (by omega), rfl, by rw [a2]; exact cl 2 (by omega), rfl, by rw [a3]; exact cl 3 (by omega), rfl⟩
      refine lv_aload_n hx hb dL_law_26 rfl (lv_at hl 0 rfl) ?_
      refine lv_iload_n hx hb dL_law_27 rfl (lv_at hl 3 rfl) ?_
      refine va_sld hx hb hX hbl hbA hS (cl 0 (by omega)) dL_law_28 ?_
      refine lv_bipush (v := 31) hx hb dL_law_29 (by decide) ?_
      refine lv_iand hx hb dL_law_31 ?_
      obtain ⟨j, hj, ej⟩ := and31 (xs (nI (4 * k)).toNatClampNeg)
      refine tg_top ej.symm ?_
      have k2 : ∀ (zH : Heap) (zlocs : List Loc), lwI D cI cT cZ ta ga ad zH → va_S (lwA s) s.heap zH zlocs → W p l e room_1 s m #[Value.ref b] below meth c zH zlocs (c0 + k + 1) (s0 + 2 * k + 2) zQ (F0 m 891 zls []) := by
        intro zH zlocs hI hS
        refine lv_iinc (v := nI (4 * (k + 1))) (lv' := [(3, .int (nI (4 * (k + 1)))), (0, .ref b), (1, .ref (ga 0)), (2, .ref (ad 0))]) hx hb dL_law_891 hl (k := 3) rfl (ni4 k) (by decide) rfl (fun zls hl => ?_)
        refine lv_goto (tgt := 18) hx hb dL_law_894 (by decide) ?_
        refine W.widen (k := c0 + (k + 1)) (n := s0 + 2 * (k + 1)) (by omega) (by omega) ?_
        exact ih (k + 1) (by omega) (by omega) _ _ hI hS _ (lv_sub hl [1, 2, 3, 0] rfl) kk
      have hcA : c0 + k + 1 ≤ 600000 := by omega
      have hsA : s0 + 2 * k + 2 ≤ 7302250 := by omega
      match j, hj with
      | 0, _ =>
        refine lv_tableIn (off := 120) (tgt := 152) hx hb dL_law_32 (by decide) (by decide) (by decide) (by decide) ?_
        exact lwc_points C1 hX hbl hDs hF hi hcA hsA hI hS hl k2
      | 1, _ =>
        refine lv_tableIn (off := 143) (tgt := 175) hx hb dL_law_32 (by decide) (by decide) (by decide) (by decide) ?_
        exact lwc_turn C1 hX hbl hDs hF hi hcA hsA hI hS hl k2
      | 2, _ =>
        refine lv_tableIn (off := 196) (tgt := 228) hx hb dL_law_32 (by decide) (by decide) (by decide) (by decide) ?_
        exact lwc_told C1 hX hbl hDs hF hi hcA hsA hI hS hl k2
      | 3, _ =>
        refine lv_tableIn (off := 210) (tgt := 242) hx hb dL_law_32 (by decide) (by decide) (by decide) (by decide) ?_
        exact lwc_to C1 hX hbl hDs hF hi hcA hsA hI hS hl k2
      | 4, _ =>
        refine lv_tableIn (off := 233) (tgt := 265) hx hb dL_law_32 (by decide) (by decide) (by decide) (by decide) ?_
        exact lwc_lay C1 hX hbl hDs hF hi hcA hsA hI hS hl k2
      | 5, _ =>
        refine lv_tableIn (off := 256) (tgt := 288) hx hb dL_law_32 (by decide) (by decide) (by decide) (by decide) ?_
        exact lwc_take C1 hX hbl hDs hF hi hcA hsA hI hS hl k2
      | 6, _ =>
        refine lv_tableIn (off := 279) (tgt := 311) hx hb dL_law_32 (by decide) (by decide) (by decide) (by decide) ?_
        exact lwc_then C1 hX hbl hDs hF hi hcA hsA hI hS hl k2
      | 7, _ =>
        refine lv_tableIn (off := 302) (tgt := 334) hx hb dL_law_32 (by decide) (by decide) (by decide) (by decide) ?_
        exact lwc_back C1 hX hbl hDs hF hi hcA hsA hI hS hl k2
      | 8, _ =>
        refine lv_tableIn (off := 315) (tgt := 347) hx hb dL_law_32 (by decide) (by decide) (by decide) (by decide) ?_
        exact lwc_power C1 hX hbl hDs hF hi hcA hsA hI hS hl k2
      | 9, _ =>
        refine lv_tableIn (off := 338) (tgt := 370) hx hb dL_law_32 (by decide) (by decide) (by decide) (by decide) ?_
        exact lwc_group C1 hX hbl hDs hF hi hcA hsA hI hS hl k2
      | 10, _ =>
        refine lv_tableIn (off := 361) (tgt := 393) hx hb dL_law_32 (by decide) (by decide) (by decide) (by decide) ?_
        exact lwc_add C1 hX hbl hDs hF hi hcA hsA hI hS hl k2
      | 11, _ =>
        refine lv_tableIn (off := 384) (tgt := 416) hx hb dL_law_32 (by decide) (by decide) (by decide) (by decide) ?_
        exact lwc_of C1 hX hbl hDs hF hi hcA hsA hI hS hl k2
      | 12, _ =>
        refine lv_tableIn (off := 427) (tgt := 459) hx hb dL_law_32 (by decide) (by decide) (by decide) (by decide) ?_
        exact lwc_by C1 hX hbl hDs hF hi hcA hsA hI hS hl k2
      | 13, _ =>
        refine lv_tableIn (off := 470) (tgt := 502) hx hb dL_law_32 (by decide) (by decide) (by decide) (by decide) ?_
        exact lwc_made C1 hX hbl hDs hF hi hcA hsA hI hS hl k2
      | 14, _ =>
        refine lv_tableIn (off := 503) (tgt := 535) hx hb dL_law_32 (by decide) (by decide) (by decide) (by decide) ?_
        exact lwc_undo C1 hX hbl hDs hF hi hcA hsA hI hS hl k2
      | 15, _ =>
        refine lv_tableIn (off := 516) (tgt := 548) hx hb dL_law_32 (by decide) (by decide) (by decide) (by decide) ?_
        exact lwc_size C1 hX hbl hDs hF hi hcA hsA hI hS hl k2
      | 16, _ =>
        refine lv_tableIn (off := 539) (tgt := 571) hx hb dL_law_32 (by decide) (by decide) (by decide) (by decide) ?_
        exact lwc_has C1 hX hbl hDs hF hi hcA hsA hI hS hl k2
      | 17, _ =>
        refine lv_tableIn (off := 562) (tgt := 594) hx hb dL_law_32 (by decide) (by decide) (by decide) (by decide) ?_
        exact lwc_is C1 hX hbl hDs hF hi hcA hsA hI hS hl k2
      | 18, _ =>
        refine lv_tableIn (off := 605) (tgt := 637) hx hb dL_law_32 (by decide) (by decide) (by decide) (by decide) ?_
        exact lwc_orbit C1 hX hbl hDs hF hi hcA hsA hI hS hl k2
      | 19, _ =>
        refine lv_tableIn (off := 638) (tgt := 670) hx hb dL_law_32 (by decide) (by decide) (by decide) (by decide) ?_
        exact lwc_block C1 hX hbl hDs hF hi hcA hsA hI hS hl k2
      | 20, _ =>
        refine lv_tableIn (off := 681) (tgt := 713) hx hb dL_law_32 (by decide) (by decide) (by decide) (by decide) ?_
        exact lwc_steps C1 hX hbl hDs hF hi hcA hsA hI hS hl k2
      | 21, _ =>
        refine lv_tableIn (off := 704) (tgt := 736) hx hb dL_law_32 (by decide) (by decide) (by decide) (by decide) ?_
        exact lwc_still C1 hX hbl hDs hF hi hcA hsA hI hS hl k2
      | 22, _ =>
        refine lv_tableIn (off := 737) (tgt := 769) hx hb dL_law_32 (by decide) (by decide) (by decide) (by decide) ?_
        exact lwc_element C1 hX hbl hDs hF hi hcA hsA hI hS hl k2
      | 23, _ =>
        refine lv_tableIn (off := 770) (tgt := 802) hx hb dL_law_32 (by decide) (by decide) (by decide) (by decide) ?_
        exact lwc_place C1 hX hbl hDs hF hi hcA hsA hI hS hl k2
      | 24, _ =>
        refine lv_tableIn (off := 793) (tgt := 825) hx hb dL_law_32 (by decide) (by decide) (by decide) (by decide) ?_
        exact lwc_carry C1 hX hbl hDs hF hi hcA hsA hI hS hl k2
      | 25, _ =>
        refine lv_tableIn (off := 836) (tgt := 868) hx hb dL_law_32 (by decide) (by decide) (by decide) (by decide) ?_
        exact lwc_count C1 hX hbl hDs hF hi hcA hsA hI hS hl k2
      | j + 26, hj =>
        refine lv_tableOut (tgt := 891) hx hb dL_law_32 (Or.inr (by rw [nI_toInt (by omega)]; omega)) (by decide) ?_
        refine W.widen (k := c0 + k + 1) (n := s0 + 2 * k + 2) (by omega) (by omega) ?_
        exact k2 _ _ hI hS
theorem nwL_in : ∀ w ∈ nwL, w ∈ lw_tbl := by decide +kernel
theorem nwL_on : ∀ w ∈ nwL, w.onTables = true := by decide +kernel
theorem lw_ao : Cond.arrayOver (.object "TurnGroups$Tower") ∈ lw_tbl := by decide +kernel
theorem lw_i0 : Cond.instantiable RX0 2 ∈ lw_tbl := by decide +kernel
theorem lw_i1 : Cond.instantiable RX1 1 ∈ lw_tbl := by decide +kernel
theorem lw_i2 : Cond.instantiable RX2 1 ∈ lw_tbl := by decide +kernel
theorem lw_i3 : Cond.instantiable RX3 1 ∈ lw_tbl := by decide +kernel
theorem lw_i4 : Cond.instantiable RX4 7 ∈ lw_tbl := by decide +kernel
theorem lw_i6 : Cond.instantiable RX6 6 ∈ lw_tbl := by decide +kernel
theorem lw_i7 : Cond.instantiable RX7 11 ∈ lw_tbl := by decide +kernel
theorem lw_c6 : Cond.classLink RL 7 RX6 ∈ lw_tbl := by decide +kernel
theorem lw_c7 : Cond.classLink RL 10 RX7 ∈ lw_tbl := by decide +kernel
theorem lw_n6 : Cond.initialized RX6 ∈ lw_tbl := by decide +kernel
theorem lw_n7 : Cond.initialized RX7 ∈ lw_tbl := by decide +kernel
theorem lw_m6 : Cond.methodLink RL 9 yX6_init ∈ lw_tbl := by decide +kernel
theorem lw_m7 : Cond.methodLink RL 12 yX7_init ∈ lw_tbl := by decide +kernel
theorem lw_o6 : Cond.instanceMethod yX6_init ∈ lw_tbl := by decide +kernel
theorem lw_o7 : Cond.instanceMethod yX7_init ∈ lw_tbl := by decide +kernel
theorem lw_aI : Cond.arrayClass .int ∈ lw_tbl := by decide +kernel
theorem lw_aZ : Cond.arrayClass .boolean ∈ lw_tbl := by decide +kernel
/-- what the tables say of the classes and of the arrays -/
theorem lw_K {s : State} {b : Nat} (hts : ∀ w ∈ lw_tbl, w.before #[Value.ref b] s = true) : ∃ (D : va_G) (cI cT cZ : ClassId), va_K D vwCl [(cI, .int), (cT, .object "TurnGroups$Tower"), (cZ, .boolean)] s := by
  have h1 : ∀ w ∈ wsL_law, w.before #[Value.ref b] s = true := fun w h => hts w (wsL_law_in w h)
  obtain ⟨c0, i0, k0⟩ := u_known (C := RX0) (T := TX0) (N := 2) h1 inlX0 (hts _ lw_i0)
  obtain ⟨c1, i1, k1⟩ := u_known (C := RX1) (T := TX1) (N := 1) h1 inlX1 (hts _ lw_i1)
  obtain ⟨c2, i2, k2⟩ := u_known (C := RX2) (T := TX2) (N := 1) h1 inlX2 (hts _ lw_i2)
  obtain ⟨c3, i3, k3⟩ := u_known (C := RX3) (T := TX3) (N := 1) h1 inlX3 (hts _ lw_i3)
  obtain ⟨c4, i4, k4⟩ := u_known (C := RX4) (T := TX4) (N := 7) h1 inlX4 (hts _ lw_i4)
  obtain ⟨c5, i5, k5⟩ := u_known (C := RX6) (T := TX6) (N := 6) h1 inlX6 (hts _ lw_i6)
  obtain ⟨c6, i6, k6⟩ := u_known (C := RX7) (T := TX7) (N := 11) h1 inlX7 (hts _ lw_i7)
  obtain ⟨cI, a1, a2⟩ := tg_arrI (ty := .int) (hts _ lw_aI) (fun _ h => by cases h)
  obtain ⟨cZ, z1, z2⟩ := tg_arrI (ty := .boolean) (hts _ lw_aZ) (fun _ h => by cases h)
  obtain ⟨comp, cT, kA, t1, -, t3, t4, t5⟩ := Cond.arrayOver_spec (hts _ lw_ao)
  refine ⟨(fun k => match k with | 0 => c0 | 1 => c1 | 2 => c2 | 3 => c3 | 4 => c4 | 5 => c5 | _ => c6, fun k => match k with | 0 => i0 | 1 => i1 | 2 => i2 | 3 => i3 | 4 => i4 | 5 => i5 | _ => i6), cI, cT, cZ, fun k q hq => ?_, fun k q hq => ?_⟩
  · match k, hq with
    | 0, hq => cases hq; exact k0
    | 1, hq => cases hq; exact k1
    | 2, hq => cases hq; exact k2
    | 3, hq => cases hq; exact k3
    | 4, hq => cases hq; exact k4
    | 5, hq => cases hq; exact k5
    | 6, hq => cases hq; exact k6
    | k + 7, hq => cases hq
  · match k, hq with
    | 0, hq => cases hq; exact ⟨a1, a2⟩
    | 1, hq => cases hq; exact ⟨fun N z => ⟨(fun k h => by cases h), kA, t3, comp, t4⟩, kA, comp, t3, t4, t1, t5⟩
    | 2, hq => cases hq; exact ⟨z1, z2⟩
    | k + 3, hq => cases hq
theorem lw_apart {s : State} {ta : Nat → Nat → Nat} {ga ad : Nat → Nat} {cI cT cJ cZ : ClassId} {shelf : Nat → Int32} {np ng cur : Int32} {tw : Nat → TW} {rn rmany : Int32} {image : Nat → Int32} {rturn : Int32} {rshelf : Nat → Int32} {rgroups : Int32} {inn now makers makerMany queue : Nat → Int32} (h : va_D (lwA s) (wG ta cI cT ga shelf np ng cur tw ++ wM cJ cZ ad rn rmany image rturn rshelf rgroups inn now makers makerMany queue)) : lwD s ta ga ad := by
  have hn := nodup_of_D h
  rw [List.map_append, wG_ad] at hn
  have hm : (adG ta ga ++ adM ad).Nodup := hn
  rw [List.nodup_append] at hm
  refine ⟨tg_DD.mk hm.1 (fun a ha => ?_), tg_DD.mk hm.2.1 (fun a ha => ?_), fun q h1 h2 => hm.2.2 q h1 q h2 rfl⟩
  · exact tg_inA h a (tg_in_mem.mpr (by rw [List.map_append, wG_ad]; exact List.mem_append_left _ ha))
  · exact tg_inA h a (tg_in_mem.mpr (by rw [List.map_append]; exact List.mem_append_right _ ha))
abbrev e5 : va_E := .inr (5, [.null, .null, .null, .int 0, .int 0, .int 0])
abbrev e6 : va_E := .inr (6, [.int 0, .int 0, .null, .int 0, .null, .int 0, .null, .null, .null, .null, .null])
theorem lw_fr {s : State} {ws : va_W} {q : Nat} {e0 : va_E} {H : Heap} {locs : List Loc} (hD : va_D (lwA s) (ws ++ [(q, e0)])) (hS : va_S (lwA s) s.heap H locs) : ∀ a, va_A [(q, e0)] H.size a → lwA s a := fun a h9 => by
  rcases h9 with h9 | h9
  · have := tg_one h9
    subst this
    exact hD.2 _ (a, e0) (by rw [List.getElem?_append_right (Nat.le_refl _), Nat.sub_self]; rfl)
  · exact Nat.le_trans hS.1 h9
set_option maxRecDepth 100000 in
set_option maxHeartbeats 4000000 in
theorem whole_start {p : Program} {e : Env} {s : State} {m : MethodId} {below : List Frame} {meth : Method} {c : Code} (l : Launch) {b L : Nat} {xs : Nat → Int32} (hL : L ≤ 2048) (C0 : lw_At p s m meth c b L xs) : W p l e room_1 s m #[Value.ref b] below meth c s.heap [] 0 0 (lw_Z below #[Value.ref b] s) (entryFrame m ([Value.ref b] : List Value).toArray 4) := by
  obtain ⟨hx, hb, hr, hml, hown, hts0, hX, hbl, hlocks, hgv⟩ := C0
  have hown : s.vm.findClass RL = some m.cls := hown
  have hb : c.code = cL_law := hb
  have hts : ∀ w ∈ wsL_law, w.before #[Value.ref b] s = true := fun w h => hts0 w (wsL_law_in w h)
  have hN : NW s := fun w hw => va_Nw.of (nwL_on w hw) (hts0 w (nwL_in w hw))
  obtain ⟨D, cI, cT, cZ, hK⟩ := lw_K hts0
  have hO : va_AO "TurnGroups$Tower" s := va_AO.of (hts0 _ lw_ao)
  have hKG := hK.sub (tys' := [(cI, .int), (cT, .object "TurnGroups$Tower")]) [0, 1] rfl
  have hKM := hK.sub (tys' := [(cI, .int), (cZ, .boolean)]) [0, 2] rfl
  obtain ⟨s1, i2, m6, m7, hR⟩ := start_rl (F := 50000) (Nat.le_refl _) (fun _ => tw0) (fun _ => 0)
  have hA : ∀ q : Nat, s.heap.size ≤ q → lwA s q := fun _ h9 => h9
  have hS : va_S (lwA s) s.heap s.heap [] := va_S.rf
  have hl := lv_entry ([.ref b]) (n := 4) (Nat.le_of_ble_eq_true rfl)
  rw [lg_entry_eq]
  generalize (lg_sl ([.ref b]) ++ List.replicate (4 - (lg_sl ([.ref b])).length) Slot.unset).toArray = zls at hl ⊢
  have hl : lv_has zls 4 [(0, .ref b)] := hl
  have hD : va_D (lwA s) [] := ⟨fun i j x y hi => by simp at hi, fun k q hk => by simp at hk⟩
  refine va_new (ci := 5) (fs := [.null, .null, .null, .int 0, .int 0, .int 0]) (C := RX6) (T := TX6) (N := 6) hx hb hts inlX6 tyX6 tyX6_ok hown (hts0 _ lw_c6) (hts0 _ lw_i6) (hts0 _ lw_n6) hK tg_nil hD hS hA rfl (fun j hj => by rcases (show j = 0 ∨ j = 1 ∨ j = 2 ∨ j = 3 ∨ j = 4 ∨ j = 5 by omega) with rfl | rfl | rfl | rfl | rfl | rfl <;> rfl) (Nat.le_of_ble_eq_true rfl) (Nat.le_of_ble_eq_true rfl) dL_law_0 (fun zq zH hP hD hS => ?_)
  refine lv_dup hx hb dL_law_3 rfl ?_
  have hF1 := lw_fr hD hS
  refine va_callv (va_runI (As := []) (rest := [.ref zq]) ⟨hx, hb, hml, hown, hts⟩ (qX6_init l D cI cT zq zH.size 50000 s1 4 0 1985229328 m6) (cwI 0 hts gL_law_X6_init rfl rfl rfl (hts0 _ lw_n6) (hts0 _ lw_m6) (hts0 _ lw_o6) rfl zSX6_init ⟨Nat.le_of_ble_eq_true rfl, Nat.le_of_ble_eq_true rfl⟩) (tg_preSA (tg_appR hP) (tg_newD hD) hKG hN hO) rfl rfl hl.1 rfl (lv_room (Nat.le_of_ble_eq_true rfl)) dL_law_4 ⟨Nat.le_of_ble_eq_true rfl, Nat.le_of_ble_eq_true rfl⟩) hS (fun a _ h9 => hF1 a h9) hF1 (fun u zt zH1 zlocs hzt _ had hB _ _ hS => ?_)
  obtain ⟨ta, ga⟩ := u
  have hga : ga 0 = zq := had
  subst hga
  obtain ⟨hG, hDG⟩ := hB
  rw [hzt] at hG
  have hDG := hDG.weaken (B := lwA s) (fun k q hk h9 => hF1 _ h9)
  refine lv_astore_n (lv' := [(1, .ref (ga 0)), (0, .ref b)]) hx hb dL_law_7 rfl hl (by decide) rfl (fun zls hl => ?_)
  refine W.widen (k := 76) (n := 2270) (by omega) (by omega) ?_
  refine va_new (ci := 6) (fs := [.int 0, .int 0, .null, .int 0, .null, .int 0, .null, .null, .null, .null, .null]) (C := RX7) (T := TX7) (N := 11) hx hb hts inlX7 tyX7 tyX7_ok hown (hts0 _ lw_c7) (hts0 _ lw_i7) (hts0 _ lw_n7) hK hG hDG hS hA rfl (fun j hj => by rcases (show j = 0 ∨ j = 1 ∨ j = 2 ∨ j = 3 ∨ j = 4 ∨ j = 5 ∨ j = 6 ∨ j = 7 ∨ j = 8 ∨ j = 9 ∨ j = 10 by omega) with rfl | rfl | rfl | rfl | rfl | rfl | rfl | rfl | rfl | rfl | rfl <;> rfl) (Nat.le_of_ble_eq_true rfl) (Nat.le_of_ble_eq_true rfl) dL_law_8 (fun zq zH hP hD hS => ?_)
  refine lv_dup hx hb dL_law_11 rfl ?_
  have hF2 := lw_fr hD hS
  refine va_callv (va_runI (As := []) (rest := [.ref zq]) ⟨hx, hb, hml, hown, hts⟩ (qX7_init l D cI cZ zq zH.size 50000 (nI (fac 4)) i2 m7) (cwI 0 hts gL_law_X7_init rfl rfl rfl (hts0 _ lw_n7) (hts0 _ lw_m7) (hts0 _ lw_o7) rfl zSX7_init ⟨Nat.le_of_ble_eq_true rfl, Nat.le_of_ble_eq_true rfl⟩) (tg_preSN (tg_appR hP) (tg_newD hD) hKM hN) rfl rfl hl.1 rfl (lv_room (Nat.le_of_ble_eq_true rfl)) dL_law_12 ⟨Nat.le_of_ble_eq_true rfl, Nat.le_of_ble_eq_true rfl⟩) hS (fun a _ h9 => hF2 a h9) hF2 (fun ad zt zH1 zlocs hzt _ had hB _ hf9 hS => ?_)
  have had0 : ad 0 = zq := had
  subst had0
  obtain ⟨hB1, hB2⟩ := hB
  rw [hzt] at hB1
  obtain ⟨hP, hD⟩ := wH_join hP hD hf9 hF2 hB1 hB2
  have hDs := lw_apart hD
  have hI : lwI D cI cT cZ ta ga ad zH1 := ⟨_, _, _, _, _, _, _, _, _, _, _, _, _, _, _, _, hR, tg_appL hP, tg_appR hP⟩
  refine lv_astore_n (lv' := [(2, .ref (ad 0)), (1, .ref (ga 0)), (0, .ref b)]) hx hb dL_law_15 rfl hl (by decide) rfl (fun zls hl => ?_)
  refine lv_iconst (v := nI (4 * 0)) hx hb dL_law_16 (by decide) ?_
  refine lv_istore_n (lv' := [(3, .int (nI (4 * 0))), (2, .ref (ad 0)), (1, .ref (ga 0)), (0, .ref b)]) hx hb dL_law_17 rfl hl (by decide) rfl (fun zls hl => ?_)
  refine W.widen (k := 84 + 0) (n := 889766 + 2 * 0) (by omega) (by omega) ?_
  refine lw_loop (F := 50000) ⟨hx, hb, hml, hown, hts, hK, hN⟩ hX hbl hDs (Nat.le_refl _) hL (c0 := 84) (s0 := 889766) (by omega) (by omega) 513 0 rfl (by omega) _ _ hI hS _ (lv_sub hl [3, 2, 1, 0] rfl) (fun zH zlocs hS zls => ?_)
  refine va_forget (fun q hq => hS.2.2 q hq) ?_
  refine W.widen (k := 600000) (n := 7302250) (by omega) (by omega) ?_
  refine lv_iconst (v := 1) hx hb dL_law_897 (by decide) ?_
  exact lw_ret hx hb hr hlocks dL_law_898
