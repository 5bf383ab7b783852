/-! ===== turn: a long that tells one ===== -/
def nbb (U i : Nat) : Nat := U / 2 ^ (4 * i) % 16
theorem nbb_lt (U i : Nat) : nbb U i < 16 := Nat.mod_lt _ (by decide)
theorem nbb_bit (U i : Nat) {b : Nat} (hb : b < 4) : (nbb U i).testBit b = U.testBit (4 * i + b) := by
  unfold nbb
  rw [show (16 : Nat) = 2 ^ 4 from rfl, Nat.testBit_mod_two_pow, Nat.testBit_div_two_pow, Nat.add_comm b]
  simp [hb]
theorem sar_low {U : Nat} (hU : U < 2 ^ 64) {i : Nat} (hi : i < 8) : (lN U >>> (Int32.toInt64 (4 * nI i) &&& 63)).toBitVec.toNat % 16 = nbb U i := by
  rw [sh_4', wb_c _ (by omega)]
  apply Nat.eq_of_testBit_eq
  intro b
  rw [show (16 : Nat) = 2 ^ 4 from rfl, Nat.testBit_mod_two_pow]
  by_cases hb : b < 4
  · rw [nbb_bit U i hb, Int64.toBitVec_shiftRight]
    show (decide (b < 4) && ((lN U).toBitVec.sshiftRight ((lN (4 * i)).toBitVec.smod 64).toNat).getLsbD b) = _
    rw [wb_tb (4 * i), wb_sm (4 * i) (by omega), BitVec.toNat_ofNat, Nat.mod_eq_of_lt (by omega), BitVec.getLsbD_sshiftRight, wb_tb]
    have h1 : 4 * i + b < 64 := by omega
    have h2 : ¬ 64 ≤ b := by omega
    rw [if_pos h1, BitVec.getLsbD_ofNat]
    simp [hb, h1, h2]
  · rw [tb_low (k := 4) (nbb_lt U i) (by omega)]
    simp [hb]
theorem nib_c {U : Nat} (hU : U < 2 ^ 64) {i : Nat} (hi : i < 8) : (Int64.toInt32 (lN U >>> (Int32.toInt64 (4 * nI i) &&& 63))) &&& 15 = nI (nbb U i) := by
  rw [pk_and _ 4 (by decide), ← sar_low hU hi]
  congr 1
  generalize lN U >>> (Int32.toInt64 (4 * nI i) &&& 63) = y
  rw [Int64.toBitVec_toInt32, BitVec.signExtend_eq_setWidth_of_le _ (by decide)]
  rw [BitVec.toNat_setWidth]
  omega
theorem nib_r {U : Nat} (hU : U < 2 ^ 64) {i : Nat} (hi : i < 8) : Int64.toInt32 ((lN U >>> (Int32.toInt64 (4 * nI i) &&& 63)) &&& 15) = nI (nbb U i) := by
  rw [← sar_low hU hi]
  generalize lN U >>> (Int32.toInt64 (4 * nI i) &&& 63) = y
  obtain ⟨V, hV, rfl⟩ := wb_of y
  rw [wb_tn hV, show lN V &&& 15 = lN (V % 2 ^ 4) from wb_mask (k := 4) hV (by omega), lN_i]
theorem mask_iff (w m : Int64) (k : Nat) (hm : m.toBitVec.toNat = 2 ^ k - 1) : (w &&& (m ^^^ (-1))) = 0 ↔ w.toBitVec.toNat < 2 ^ k := by
  have e0 : (-1 : Int64).toBitVec = BitVec.allOnes 64 := by decide
  have z0 : (0 : Int64).toBitVec = 0#64 := by decide
  have hb : ∀ W M : BitVec 64, (W &&& (M ^^^ BitVec.allOnes 64)) = 0#64 ↔ W &&& M = W := by
    intro W M
    constructor
    · intro h
      apply BitVec.eq_of_getLsbD_eq
      intro i hi
      have e := congrArg (fun x => BitVec.getLsbD x i) h
      simp only [BitVec.getLsbD_and, BitVec.getLsbD_xor, BitVec.getLsbD_allOnes, BitVec.getLsbD_zero, hi, decide_true] at e ⊢
      revert e
      cases W.getLsbD i <;> cases M.getLsbD i <;> decide
    · intro h
      apply BitVec.eq_of_getLsbD_eq
      intro i hi
      have e := congrArg (fun x => BitVec.getLsbD x i) h
      simp only [BitVec.getLsbD_and, BitVec.getLsbD_xor, BitVec.getLsbD_allOnes, BitVec.getLsbD_zero, hi, decide_true] at e ⊢
      revert e
      cases W.getLsbD i <;> cases M.getLsbD i <;> decide
  rw [← Int64.toBitVec_inj, z0, Int64.toBitVec_and, Int64.toBitVec_xor, e0, hb, ← BitVec.toNat_inj, BitVec.toNat_and, hm, Nat.and_two_pow_sub_one_eq_mod]
  constructor
  · intro h
    have t := Nat.mod_lt w.toBitVec.toNat (Nat.two_pow_pos k)
    rw [h] at t
    exact t
  · exact Nat.mod_eq_of_lt
/-- the long tells a turn of n points -/
def Tells (n U : Nat) : Prop := U < 2 ^ (4 * n) ∧ ∀ v, (∃ k, k < n ∧ nbb U k = v) ↔ v < n
theorem tells_inj {n : Nat} {p : Nat → Nat} (h : ∀ v, (∃ k, k < n ∧ p k = v) ↔ v < n) : ∀ i j, i < j → j < n → p i ≠ p j := by
  intro i j hij hj e
  have hq : ∀ v, ∃ k, v < n → (k < n ∧ p k = v) := fun v => by
    by_cases hv : v < n
    · obtain ⟨k, hk⟩ := (h v).mpr hv
      exact ⟨k, fun _ => hk⟩
    · exact ⟨0, fun h => absurd h hv⟩
  let q : Nat → Nat := fun v => (hq v).choose
  have hqs : ∀ v, v < n → (q v < n ∧ p (q v) = v) := fun v => (hq v).choose_spec
  -- one of i, j is never met
  have hmiss : ∃ m, m < n ∧ ∀ v, v < n → q v ≠ m := by
    by_cases hi : q (p i) = i
    · refine ⟨j, hj, fun v hv e2 => ?_⟩
      have := (hqs v hv).2
      rw [e2] at this
      rw [← this, ← e] at e2
      omega
    · refine ⟨i, by omega, fun v hv e2 => ?_⟩
      have := (hqs v hv).2
      rw [e2] at this
      rw [← this] at e2
      exact hi e2
  obtain ⟨m, hm, hno⟩ := hmiss
  have c1 := (hc_below n).map q (fun x y hx hy e => by rw [← (hqs x hx).2, e, (hqs y hy).2])
  have := (c1.or (Hc.single (P := fun y => y = m) m (fun _ => Iff.rfl)) (fun x ⟨v, hv, e⟩ e2 => hno v hv (e.symm.trans e2))).le (hc_below n) (fun x hx => by
    rcases hx with ⟨v, hv, e⟩ | e
    · rw [e]; exact (hqs v hv).1
    · rw [e]; exact hm)
  omega
theorem tells_pm {n U : Nat} (hn : n ≤ 8) (h : Tells n U) : ∃ c : Pm, Sup n c ∧ ∀ i, i < n → c.ap i = nbb U i := mkPm hn (nbb U) (fun i hi => (h.2 _).mp ⟨i, hi, rfl⟩) (tells_inj h.2)
/-- what the class's loop has seen -/
theorem tellsC_L {n U : Nat} (hn : n ≤ 8) (hU : U < 2 ^ 64) : ∀ (d i f s : Nat), i + d = n → d < f → s < 256 → (∀ v, s.testBit v = true ↔ ∃ k, k < i ∧ nbb U k = v) → (∀ k, k < i → nbb U k < n) → ((∀ v, (∃ k, k < n ∧ nbb U k = v) ↔ v < n) ∧ mX6_tellsTurn_L22 (lN U) (nI n) f (nI s) (nI i) = some 1) ∨ (¬ (∀ v, (∃ k, k < n ∧ nbb U k = v) ↔ v < n) ∧ mX6_tellsTurn_L22 (lN U) (nI n) f (nI s) (nI i) = some 0)
  | 0, i, f, s, hi, hf, hs, h1, h2 => by
    obtain ⟨f, rfl⟩ : ∃ g, f = g + 1 := ⟨f - 1, by omega⟩
    have : i = n := by omega
    subst this
    rw [mX6_tellsTurn_L22_s, if_pos (nI_le (Nat.le_refl _) (by omega)), bc_is s hs]
    have hcl := ct_le s.testBit 8
    have hlow : ∀ v, s.testBit v = true → v < i := fun v hv => by
      obtain ⟨k, hk, e⟩ := (h1 v).mp hv
      rw [← e]; exact h2 k hk
    by_cases hct : ct s.testBit 8 = i
    · left
      refine ⟨fun v => ?_, by rw [if_pos (by rw [hct])]⟩
      constructor
      · rintro ⟨k, hk, e⟩
        rw [← e]; exact h2 k hk
      · intro hv
        have c1 := ct_hc s.testBit 8
        rw [hct] at c1
        exact (h1 v).mp (c1.full (hc_below i) (fun x hx => hlow x hx.2) hv).2
    · right
      refine ⟨fun h => hct ?_, by rw [if_neg (fun e => hct ((nI_eq (by omega) (by omega)).mp e))]⟩
      refine (ct_hc s.testBit 8).uniq ((hc_below i).congr (fun v => ?_))
      exact ⟨fun hv => ⟨by omega, (h1 v).mpr ((h v).mpr hv)⟩, fun hv => hlow v hv.2⟩
  | d + 1, i, f, s, hi, hf, hs, h1, h2 => by
    obtain ⟨f, rfl⟩ : ∃ g, f = g + 1 := ⟨f - 1, by omega⟩
    have hin : i < n := by omega
    have hnb := nbb_lt U i
    rw [mX6_tellsTurn_L22_s, if_neg (nI_ge hin (by omega)), nib_c hU (by omega), lT_x]
    by_cases hlt : nbb U i < n
    · rw [if_pos (nI_lt hlt (by omega)), lT_x, one_shl (by omega), ni_or, nI_1]
      refine tellsC_L hn hU d (i + 1) f (s ||| 2 ^ nbb U i) (by omega) (by omega) (set_put hs (by omega)) (fun v => ?_) (fun k hk => ?_)
      · rw [tb_set, Bool.or_eq_true, decide_eq_true_iff, h1]
        constructor
        · rintro (⟨k, hk, e⟩ | e)
          · exact ⟨k, by omega, e⟩
          · exact ⟨i, by omega, e.symm⟩
        · rintro ⟨k, hk, e⟩
          by_cases ek : k = i
          · subst ek; exact Or.inr e.symm
          · exact Or.inl ⟨k, by omega, e⟩
      · by_cases ek : k = i
        · subst ek; exact hlt
        · exact h2 k (by omega)
    · rw [if_neg (nI_nlt (by omega) (by omega))]
      exact Or.inr ⟨fun h => hlt ((h _).mp ⟨i, hin, rfl⟩), rfl⟩
theorem tellsC_is {F n U : Nat} (hF : 50000 ≤ F) (hn : n ≤ 8) (hU : U < 2 ^ 64) : (Tells n U ∧ mX6_tellsTurn F (nI n) (lN U) = some 1) ∨ (¬ Tells n U ∧ mX6_tellsTurn F (nI n) (lN U) = some 0) := by
  unfold mX6_tellsTurn
  rw [own_is hn]
  have hp : 2 ^ (4 * n) ≤ 2 ^ 32 := Nat.pow_le_pow_right (by decide) (by omega)
  have hm := mask_iff (lN U) (lN (2 ^ (4 * n) - 1)) (4 * n) (wb_tn (by omega))
  rw [wb_tn hU] at hm
  by_cases hlt : U < 2 ^ (4 * n)
  · rw [if_pos ((lg_cmp_eq _ _).mpr (hm.mpr hlt))]
    rcases tellsC_L hn hU n 0 F 0 (by omega) (by omega) (by omega) (fun v => by
      rw [Nat.zero_testBit]
      exact ⟨fun h => absurd h (by decide), fun ⟨k, hk, _⟩ => by omega⟩) (fun k hk => by omega) with ⟨h, e⟩ | ⟨h, e⟩
    · exact Or.inl ⟨⟨hlt, h⟩, e⟩
    · exact Or.inr ⟨fun h2 => h h2.2, e⟩
  · rw [if_neg (fun e => hlt (hm.mp ((lg_cmp_eq _ _).mp e)))]
    exact Or.inr ⟨fun h => hlt h.1, rfl⟩
theorem tellsR_L {n U : Nat} (hn : n ≤ 8) (hU : U < 2 ^ 64) : ∀ (d i f s : Nat) (now : Nat → Int32), i + d = n → d < f → s < 2 ^ 16 → (∀ v, s.testBit v = true ↔ ∃ k, k < i ∧ nbb U k = v) → (∀ k, k < i → now k = nI (nbb U k)) → ∃ s2 now2, mX7_turn_L5 (lN U) (nI n) f (nI s) (nI i) now = some (nI s2, now2) ∧ s2 < 2 ^ 16 ∧ (∀ v, s2.testBit v = true ↔ ∃ k, k < n ∧ nbb U k = v) ∧ ∀ k, k < n → now2 k = nI (nbb U k)
  | 0, i, f, s, now, hi, hf, hs, h1, h2 => by
    obtain ⟨f, rfl⟩ : ∃ g, f = g + 1 := ⟨f - 1, by omega⟩
    have : i = n := by omega
    subst this
    exact ⟨s, now, by rw [mX7_turn_L5_s, if_pos (nI_le (Nat.le_refl _) (by omega))], hs, h1, h2⟩
  | d + 1, i, f, s, now, hi, hf, hs, h1, h2 => by
    obtain ⟨f, rfl⟩ : ∃ g, f = g + 1 := ⟨f - 1, by omega⟩
    have hin : i < n := by omega
    have hnb := nbb_lt U i
    have h2p : 2 ^ nbb U i < 2 ^ 16 := Nat.pow_lt_pow_right (by decide) hnb
    obtain ⟨s2, now2, e, b1, b2, b3⟩ := tellsR_L hn hU d (i + 1) f (s ||| 2 ^ nbb U i) (upd now i (nI (nbb U i))) (by omega) (by omega) (Nat.or_lt_two_pow hs h2p) (fun v => by
      rw [tb_set, Bool.or_eq_true, decide_eq_true_iff, h1]
      constructor
      · rintro (⟨k, hk, e⟩ | e)
        · exact ⟨k, by omega, e⟩
        · exact ⟨i, by omega, e.symm⟩
      · rintro ⟨k, hk, e⟩
        by_cases ek : k = i
        · subst ek; exact Or.inr e.symm
        · exact Or.inl ⟨k, by omega, e⟩) (fun k hk => by
      by_cases ek : k = i
      · subst ek; exact pk_us
      · rw [pk_un ek]; exact h2 k (by omega))
    refine ⟨s2, now2, ?_, b1, b2, b3⟩
    rw [mX7_turn_L5_s, if_neg (nI_ge hin (by omega)), gd_t (inb_n (by omega) (by omega)), cl_n (by omega), nib_r hU (by omega), lT_x, gd_t (inb_n (by omega) (by omega)), lT_x, pk_us, one_shl (by omega), ni_or, nI_1]
    exact e
theorem one_nbl : (1985229328 : Nat) = nbl (fun i => i) 8 := by decide
/-- the class's int of what is told -/
theorem told_code {n U : Nat} (hn : n ≤ 8) (hU : U < 2 ^ (4 * n)) {c : Pm} (hc : Sup n c) (hcn : ∀ i, i < n → c.ap i = nbb U i) : Int64.toInt32 (lN U ||| ((1985229328 : Int64) &&& (lN (2 ^ (4 * n) - 1) ^^^ (-1)))) = cdp c := by
  have hp : 2 ^ (4 * n) ≤ 2 ^ 32 := Nat.pow_le_pow_right (by decide) (by omega)
  apply Int32.toBitVec_inj.mp
  apply BitVec.eq_of_getLsbD_eq
  intro b hb
  rw [Int64.toBitVec_toInt32, BitVec.signExtend_eq_setWidth_of_le _ (by decide)]
  show _ = (BitVec.ofNat 32 (nbl c.ap 8)).getLsbD b
  have e0 : (-1 : Int64).toBitVec = BitVec.allOnes 64 := by decide
  have e1 : (1985229328 : Int64).toBitVec = BitVec.ofNat 64 1985229328 := rfl
  have hb64 : b < 64 := by omega
  rw [BitVec.getLsbD_setWidth, Int64.toBitVec_or, Int64.toBitVec_and, Int64.toBitVec_xor, e0, e1, wb_tb, wb_tb, BitVec.getLsbD_or, BitVec.getLsbD_and, BitVec.getLsbD_xor, BitVec.getLsbD_allOnes, BitVec.getLsbD_ofNat, BitVec.getLsbD_ofNat, BitVec.getLsbD_ofNat, BitVec.getLsbD_ofNat, nbl_b8 c.b8, Nat.testBit_two_pow_sub_one, one_nbl, nbl_b8 (fun i hi => hi)]
  simp only [hb, hb64, decide_true, Bool.true_and]
  by_cases h4 : b < 4 * n
  · rw [hcn (b / 4) (by omega), nbb_bit U (b / 4) (by omega), show 4 * (b / 4) + b % 4 = b by omega]
    simp [h4]
  · rw [tb_low (k := 4 * n) hU (by omega), hc (b / 4) (by omega)]
    simp [h4]
section TU
variable {F : Nat} {shelf : Nat → Int32} {np ng cur : Int32} {tw : Nat → TW} {rn rmany : Int32} {image : Nat → Int32} {rturn : Int32} {rshelf : Nat → Int32} {rgroups : Int32} {inn : Nat → Int32}
theorem call_turn (hF : 50000 ≤ F) (h : Rl shelf np ng cur tw rn rmany image rturn rshelf rgroups inn) (now : Nat → Int32) (z : Int64) : ∃ v c1 t1 now1, mX6_turn F np cur z = some (v, c1) ∧ mX7_turn F rn rturn now z = some (v, t1, now1) ∧ Rl shelf np ng c1 tw rn rmany image t1 rshelf rgroups inn := by
  have h0 := h
  obtain ⟨n, g, c, sh, GS, hA⟩ := h
  have hA' := hA
  obtain ⟨⟨⟨a0, a1⟩, a2, a3, a4, a5⟩, ⟨b1, b2, b3, b4, b5⟩, c1, c2, c3, c4, c5, c6, c7⟩ := hA
  obtain ⟨U, hU, rfl⟩ := wb_of z
  have hp : 2 ^ (4 * n) ≤ 2 ^ 32 := Nat.pow_le_pow_right (by decide) (by omega)
  have hpn : 2 ^ n ≤ 2 ^ 8 := Nat.pow_le_pow_right (by decide) a1
  have hpn1 := Nat.two_pow_pos n
  obtain ⟨s, now1, e1, hs, hs1, hw⟩ := tellsR_L a1 hU n 0 F 0 now (by omega) (by omega) (by omega) (fun v => by
    rw [Nat.zero_testBit]
    exact ⟨fun h => absurd h (by decide), fun ⟨k, hk, _⟩ => by omega⟩) (fun k hk => by omega)
  have hset : nI s = ((1 : Int32) <<< (nI n &&& 31)) - 1 ↔ ∀ v, (∃ k, k < n ∧ nbb U k = v) ↔ v < n := by
    rw [one_shl (by omega), nI_m1 hpn1, nI_eq (by omega) (by omega)]
    constructor
    · intro e v
      rw [← hs1 v, e, Nat.testBit_two_pow_sub_one, decide_eq_true_iff]
    · intro hv
      apply Nat.eq_of_testBit_eq
      intro v
      rw [Nat.testBit_two_pow_sub_one]
      by_cases hvn : v < n
      · rw [decide_eq_true hvn]
        exact (hs1 v).mpr ((hv v).mpr hvn)
      · rw [decide_eq_false hvn]
        cases hb : s.testBit v with
        | true => exact absurd ((hv v).mp ((hs1 v).mp hb)) hvn
        | false => rfl
  have hneg : (lg_cmp (lN U) 0) < 0 ↔ 2 ^ 63 ≤ U := by
    rw [lg_cmp_lt, Int64.lt_iff_toInt_lt]
    have z0 : (0 : Int64).toInt = 0 := rfl
    have e : (lN U).toInt = if 2 * U < 2 ^ 64 then (U : Int) else (U : Int) - 2 ^ 64 := by
      show (lN U).toBitVec.toInt = _
      rw [BitVec.toInt_eq_toNat_cond, wb_tn hU]
      rfl
    rw [z0, e]
    split <;> omega
  have hsh : U < 2 ^ 63 → ((lg_cmp ((lN U >>> (Int32.toInt64 ((4 * nI n) - 1) &&& 63)) >>> (Int32.toInt64 1 &&& 63)) 0) = 0 ↔ U < 2 ^ (4 * n)) := fun h63 => by
    have hd := Nat.div_le_self U (2 ^ (4 * n - 1))
    rw [sh_4', nI_m1 (by omega), wb_sar (by omega) h63, show (lN (U / 2 ^ (4 * n - 1)) >>> (Int32.toInt64 1 &&& 63)) = lN (U / 2 ^ (4 * n - 1) / 2 ^ 1) from wb_sar (k := 1) (by omega) (by omega), lg_cmp_eq, Nat.div_div_eq_div_mul, ← Nat.pow_add, show 4 * n - 1 + 1 = 4 * n by omega]
    have hd2 := Nat.div_le_self U (2 ^ (4 * n))
    show lN _ = lN 0 ↔ _
    rw [pk_lEQ (by omega) (by omega), Nat.div_eq_zero_iff_lt (Nat.two_pow_pos _)]
  unfold mX6_turn mX7_turn
  rcases tellsC_is hF a1 hU with ⟨ht, e2⟩ | ⟨ht, e2⟩
  · obtain ⟨c2', hc2, hcn⟩ := tells_pm a1 ht
    have h63 : U < 2 ^ 63 := by have := ht.1; omega
    refine ⟨1, _, _, now1, ?_, ?_, hA'.turn hc2⟩
    · rw [b1, bd_e e2, if_neg (by decide), lT_x, lT_x, own_is a1, told_code a1 ht.1 hc2 hcn]
    · rw [c1, bd2_e (show mX7_turn_L5 (lN U) (nI n) F 0 0 now = _ from e1), if_pos (hset.mpr ht.2), if_neg (fun e => by have := hneg.mp e; omega), if_pos ((hsh h63).mpr ht.1), bd_e (place_now hF a1 hc2 (fun k hk => by rw [hw k hk, hcn k hk]))]
  · refine ⟨-2, cur, rturn, now1, ?_, ?_, h0⟩
    · rw [b1, bd_e e2, if_pos rfl]
    · rw [c1, bd2_e (show mX7_turn_L5 (lN U) (nI n) F 0 0 now = _ from e1)]
      by_cases h1 : ∀ v, (∃ k, k < n ∧ nbb U k = v) ↔ v < n
      · rw [if_pos (hset.mpr h1)]
        by_cases h2 : 2 ^ 63 ≤ U
        · rw [if_pos (hneg.mpr h2)]
        · rw [if_neg (fun e => h2 (hneg.mp e)), if_neg (fun e => ht ⟨(hsh (by omega)).mp e, h1⟩)]
      · rw [if_neg (fun e => h1 (hset.mp e))]
end TU
