/-! ===== power, turn, told: longs ===== -/
theorem wb_tb (n : Nat) : (lN n).toBitVec = BitVec.ofNat 64 n := rfl
theorem wb_inj {a b : Int64} (h : a.toBitVec = b.toBitVec) : a = b := Int64.toBitVec_inj.mp h
theorem wb_tn {n : Nat} (h : n < 2 ^ 64) : (lN n).toBitVec.toNat = n := by rw [wb_tb, BitVec.toNat_ofNat, Nat.mod_eq_of_lt h]
theorem wb_of (x : Int64) : ∃ n, n < 2 ^ 64 ∧ x = lN n := ⟨x.toBitVec.toNat, x.toBitVec.isLt, wb_inj (by rw [wb_tb]; simp)⟩
theorem wb_c : ∀ k, k < 64 → ((nI k).toInt64 &&& 63) = lN k := by decide +kernel
theorem wb_sm : ∀ k, k < 64 → (BitVec.ofNat 64 k).smod 64 = BitVec.ofNat 64 k := by decide +kernel
theorem wb_lt2 {a b : Nat} (h : a < b) : 2 ^ a < 2 ^ b := Nat.pow_lt_pow_right (by decide) h
theorem wb_shl (n : Nat) {k : Nat} (hk : k < 64) : lN n <<< ((nI k).toInt64 &&& 63) = lN (n * 2 ^ k) := by
  rw [wb_c k hk]
  apply wb_inj
  rw [Int64.toBitVec_shiftLeft, wb_tb, wb_tb, wb_tb, wb_sm k hk]
  apply BitVec.eq_of_toNat_eq
  rw [BitVec.shiftLeft_eq', BitVec.toNat_shiftLeft, BitVec.toNat_ofNat, BitVec.toNat_ofNat, BitVec.toNat_ofNat, Nat.mod_eq_of_lt (show k < 2 ^ 64 by omega), Nat.shiftLeft_eq, Nat.mul_mod, Nat.mod_mod, ← Nat.mul_mod]
theorem wb_and {a b : Nat} (ha : a < 2 ^ 64) (hb : b < 2 ^ 64) : lN a &&& lN b = lN (a &&& b) := by
  apply wb_inj
  rw [Int64.toBitVec_and, wb_tb, wb_tb, wb_tb]
  apply BitVec.eq_of_toNat_eq
  rw [BitVec.toNat_and, BitVec.toNat_ofNat, BitVec.toNat_ofNat, BitVec.toNat_ofNat, Nat.mod_eq_of_lt ha, Nat.mod_eq_of_lt hb, Nat.mod_eq_of_lt (Nat.and_lt_two_pow _ hb)]
theorem wb_or {a b : Nat} (ha : a < 2 ^ 64) (hb : b < 2 ^ 64) : lN a ||| lN b = lN (a ||| b) := by
  apply wb_inj
  rw [Int64.toBitVec_or, wb_tb, wb_tb, wb_tb]
  apply BitVec.eq_of_toNat_eq
  rw [BitVec.toNat_or, BitVec.toNat_ofNat, BitVec.toNat_ofNat, BitVec.toNat_ofNat, Nat.mod_eq_of_lt ha, Nat.mod_eq_of_lt hb, Nat.mod_eq_of_lt (Nat.or_lt_two_pow ha hb)]
theorem wb_mask {n k : Nat} (hn : n < 2 ^ 64) (hk : k < 64) : lN n &&& lN (2 ^ k - 1) = lN (n % 2 ^ k) := by
  rw [wb_and hn (by have := wb_lt2 hk; omega), Nat.and_two_pow_sub_one_eq_mod]
theorem wb_sar {a k : Nat} (hk : k < 64) (h : a < 2 ^ 63) : lN a >>> ((nI k).toInt64 &&& 63) = lN (a / 2 ^ k) := by
  have hd : a / 2 ^ k ≤ a := Nat.div_le_self _ _
  rw [wb_c k hk]
  apply Int64.toInt_inj.mp
  have e : (lN a >>> lN k).toInt = (lN a).toInt >>> ((lN k).toBitVec.smod 64).toNat := BitVec.toInt_sshiftRight ..
  rw [e, wb_tb, wb_sm k hk, BitVec.toNat_ofNat, Nat.mod_eq_of_lt (by omega), Int.shiftRight_eq_div_pow, pk_lT (by omega), pk_lT (by omega)]
  rfl
/-! power -/
theorem abs_is (z : Int32) : (if 0 < (Int32.toInt64 z) then (Int32.toInt64 z) else -(Int32.toInt64 z)) = lN z.toInt.natAbs := by
  have h1 := Int32.le_toInt z
  have h2 := Int32.toInt_lt z
  have h3 : z.toInt64.toInt = z.toInt := Int32.toInt_toInt64 z
  have h0 : (0 : Int64).toInt = 0 := rfl
  apply Int64.toInt_inj.mp
  rw [pk_lT (by omega)]
  by_cases h : 0 < z.toInt64
  · rw [if_pos h, h3]
    rw [Int64.lt_iff_toInt_lt, h0, h3] at h
    omega
  · rw [if_neg h, Int64.toInt_neg, h3]
    rw [Int64.lt_iff_toInt_lt, h0, h3] at h
    rw [Int.bmod_eq_of_le (by omega) (by omega)]
    omega
theorem pow_L {F : Nat} (hF : 50000 ≤ F) : ∀ (f : Nat) (s r : Pm) (M : Nat), M < 2 ^ f → M < 2 ^ 33 → mX6_power_L33 F (f + 1) (cdp s) (cdp r) (lN M) = some (cdp (r.th (s.pw M)))
  | 0, s, r, M, hM, hM2 => by
    have : M = 0 := by have : (2 : Nat) ^ 0 = 1 := rfl; omega
    subst this
    show (if (lg_cmp (lN 0) 0) ≤ 0 then some (cdp r) else _) = _
    rw [if_pos (by decide), Pm.pw_0, Pm.th_one]
  | f + 1, s, r, M, hM, hM2 => by
    by_cases h0 : M = 0
    · subst h0
      rw [mX6_power_L33_s, if_pos (by decide), Pm.pw_0, Pm.th_one]
    · have hlt : M / 2 < 2 ^ f := by
        rw [Nat.pow_succ] at hM
        omega
      have e1 : ¬ (lg_cmp (lN M) 0) ≤ 0 := by
        rw [lg_cmp_le]
        show ¬ lN M ≤ lN 0
        rw [pk_lLE (by omega) (by omega)]
        omega
      have e2 : lN M &&& 1 = lN (M % 2) := wb_mask (k := 1) (by omega) (by omega)
      have e3 : lN M >>> (Int32.toInt64 1 &&& 63) = lN (M / 2) := wb_sar (k := 1) (by omega) (by omega)
      have e4 : s.th s = s.pw 2 := by rw [Pm.pw_s, Pm.pw_one]
      rw [mX6_power_L33_s, if_neg e1, e2]
      by_cases ho : M % 2 = 1
      · rw [ho, if_pos (by decide), bd_e (chain_is hF r s), bd_s, bd_e (chain_is hF s s), lT_x, e3, pow_L hF f (s.th s) (r.th s) (M / 2) hlt (by omega), Pm.th_assoc, e4, ← Pm.pw_mul]
        have : s.th (s.pw (2 * (M / 2))) = s.pw M := by
          rw [← Pm.pw_comm, ← Pm.pw_s]
          congr 1
          omega
        rw [this]
      · have ho2 : M % 2 = 0 := by omega
        rw [ho2, if_neg (by decide), bd_s, bd_e (chain_is hF s s), lT_x, e3, pow_L hF f (s.th s) r (M / 2) hlt (by omega), e4, ← Pm.pw_mul]
        have : 2 * (M / 2) = M := by omega
        rw [this]
theorem pow_fuel {F : Nat} (s r : Int32) (x : Int64) : ∀ (f g : Nat), f ≤ g → ∀ (s r : Int32) (x : Int64) (v : Int32), mX6_power_L33 F f s r x = some v → mX6_power_L33 F g s r x = some v
  | 0, g, _, s, r, x, v, h => by cases h
  | f + 1, g, hg, s, r, x, v, h => by
    obtain ⟨g, rfl⟩ : ∃ k, g = k + 1 := ⟨g - 1, by omega⟩
    rw [mX6_power_L33_s] at h ⊢
    split at h
    · rename_i hc
      rw [if_pos hc]; exact h
    · rename_i hc
      rw [if_neg hc]
      obtain ⟨y, e1, h⟩ := bd_el h
      obtain ⟨w, e2, h⟩ := bd_el h
      rw [e1, bd_s, e2, bd_s]
      rw [lT_x] at h ⊢
      exact pow_fuel s r x f g (by omega) _ _ _ _ h
theorem powR_L {F n : Nat} {image : Nat → Int32} (hF : 50000 ≤ F) (hn : n ≤ 8) (hT : Tbl n image) {c : Pm} (hc : Sup n c) {m : Nat} (hm : m ≤ 840) : ∀ (d i f : Nat) (now : Nat → Int32), i + d = m → d < f → ∃ now2, mX7_power_L33 F (nI m) (nI n) image (nI (rk n c)) f (nI (rk n (c.pw i))) (nI i) now = some (nI (rk n (c.pw m)), now2)
  | 0, i, f, now, hi, hf => by
    obtain ⟨f, rfl⟩ : ∃ g, f = g + 1 := ⟨f - 1, by omega⟩
    have : i = m := by omega
    subst this
    exact ⟨now, by rw [mX7_power_L33_s, if_pos (nI_le (Nat.le_refl _) (by omega))]⟩
  | d + 1, i, f, now, hi, hf => by
    obtain ⟨f, rfl⟩ : ∃ g, f = g + 1 := ⟨f - 1, by omega⟩
    obtain ⟨now1, e1⟩ := oneThen_is hF hT hn (hc.pw i) hc now
    obtain ⟨now2, e2⟩ := powR_L hF hn hT hc hm d (i + 1) f now1 (by omega) (by omega)
    refine ⟨now2, ?_⟩
    rw [mX7_power_L33_s, if_neg (nI_ge (by omega) (by omega)), bd2_e e1, nI_1]
    exact e2
section PW
variable {F : Nat} {shelf : Nat → Int32} {np ng cur : Int32} {tw : Nat → TW} {rn rmany : Int32} {image : Nat → Int32} {rturn : Int32} {rshelf : Nat → Int32} {rgroups : Int32} {inn : Nat → Int32}
theorem call_power (hF : 50000 ≤ F) (h : Rl shelf np ng cur tw rn rmany image rturn rshelf rgroups inn) (now : Nat → Int32) (z : Int32) : ∃ v c1 t1 now1, mX6_power F cur z = some (v, c1) ∧ mX7_power F rn image rturn now z = some (v, t1, now1) ∧ Rl shelf np ng c1 tw rn rmany image t1 rshelf rgroups inn := by
  obtain ⟨n, g, c, sh, GS, hA⟩ := h
  have hA' := hA
  obtain ⟨⟨⟨a0, a1⟩, a2, a3, a4, a5⟩, ⟨b1, b2, b3, b4, b5⟩, c1, c2, c3, c4, c5, c6, c7⟩ := hA
  obtain ⟨k, ⟨hk0, hk⟩, hl⟩ := c.times
  have hk8 := times_le hl
  obtain ⟨o1, e1⟩ := orderOf_is hF c3 a1 a3 hk0 hk hl now
  have hz1 := Int32.le_toInt z
  have hz2 := Int32.toInt_lt z
  have h0 : (0 : Int32).toInt = 0 := rfl
  have hrem := rem_toInt z (nI k)
  rw [nI_toInt (by omega)] at hrem
  have hmodlt : z.toInt.natAbs % k < k := Nat.mod_lt _ hk0
  have hcm : c.pw z.toInt.natAbs = c.pw (z.toInt.natAbs % k) := by
    have h1 := Nat.div_add_mod z.toInt.natAbs k
    have h2 : c.pw z.toInt.natAbs = c.pw (k * (z.toInt.natAbs / k) + z.toInt.natAbs % k) := by rw [h1]
    rw [h2, Pm.pw_add, Pm.pw_mul, hk, Pm.one_pw, Pm.one_th]
  -- the power that both come to
  have key : ∃ (base : Pm) (m : Nat), m < k ∧ base.pw z.toInt.natAbs = c.pw m ∧ (if 0 ≤ z then (some (cdp c)) else (bd (mX6_reverse F (cdp c)) (fun zr_1 => some zr_1))) = some (cdp base) ∧ (if 0 ≤ (z - z / nI k * nI k) then (gd (nzb (nI k)) (some (z - z / nI k * nI k))) else (gd (nzb (nI k)) (some ((z - z / nI k * nI k) + nI k)))) = some (nI m) := by
    have hnz : nzb (nI k) = true := nzb_of (nI_ne0 hk0 (by omega))
    by_cases hz : 0 ≤ z
    · have hz' := hz
      rw [Int32.le_iff_toInt_le, h0] at hz'
      have ez : z.toInt = (z.toInt.natAbs : Int) := by omega
      have er : z - z / nI k * nI k = nI (z.toInt.natAbs % k) := by
        apply Int32.toInt_inj.mp
        rw [hrem, nI_toInt (by omega)]
        clear hcm hmodlt hrem
        generalize z.toInt.natAbs = M at ez ⊢
        rw [ez]
        rfl
      refine ⟨c, z.toInt.natAbs % k, hmodlt, hcm, by rw [if_pos hz], ?_⟩
      rw [er, if_pos (nI_pos' (by omega)), gd_t hnz]
    · have hz' := hz
      rw [Int32.le_iff_toInt_le, h0] at hz'
      have ez : z.toInt = -(z.toInt.natAbs : Int) := by omega
      have er : (z - z / nI k * nI k).toInt = -((z.toInt.natAbs % k : Nat) : Int) := by
        rw [hrem, ez, Int.neg_tmod, Int.natAbs_neg, Int.natAbs_natCast]
        rfl
      have hbk : c.bk.pw z.toInt.natAbs = (c.pw (z.toInt.natAbs % k)).bk := by rw [Pm.pw_bk, hcm]
      have erv : (if 0 ≤ z then (some (cdp c)) else (bd (mX6_reverse F (cdp c)) (fun zr_1 => some zr_1))) = some (cdp c.bk) := by rw [if_neg hz, bd_e (reverse_is hF c)]
      by_cases hm0 : z.toInt.natAbs % k = 0
      · refine ⟨c.bk, 0, hk0, by rw [hbk, hm0]; rfl, erv, ?_⟩
        have e0 : z - z / nI k * nI k = nI 0 := by
          apply Int32.toInt_inj.mp
          rw [er, hm0]; rfl
        rw [e0, if_pos (by decide), gd_t hnz]
      · refine ⟨c.bk, k - z.toInt.natAbs % k, by omega, ?_, erv, ?_⟩
        · rw [hbk]
          refine (Pm.bk_of ?_).symm
          rw [← Pm.pw_add, show k - z.toInt.natAbs % k + z.toInt.natAbs % k = k by omega, hk]
        · have hneg : ¬ 0 ≤ (z - z / nI k * nI k) := by
            rw [Int32.le_iff_toInt_le, h0, er]
            omega
          rw [if_neg hneg, gd_t hnz]
          congr 1
          apply Int32.toInt_inj.mp
          rw [Int32.toInt_add, er, nI_toInt (by omega), nI_toInt (by omega), Int.bmod_eq_of_le (by omega) (by omega)]
          omega
  obtain ⟨base, m, hmk, epw, eb, em⟩ := key
  obtain ⟨o2, e2⟩ := powR_L hF a1 c3 a3 (m := m) (by omega) m 0 F o1 (by omega) (by omega)
  rw [Pm.pw_0, rk_one] at e2
  have hsup := a3.pw m
  have hL := pow_fuel (F := F) 0 0 0 (33 + 1) F (by omega) _ _ _ _ (pow_L hF 33 base .one z.toInt.natAbs (by omega) (by omega))
  rw [Pm.one_th, epw, cdp_one] at hL
  have h4 := rk_31 a1 hsup
  by_cases hone : c.pw m = .one
  · refine ⟨1, _, _, o2, ?_, ?_, hA'.turn hsup⟩
    · unfold mX6_power
      rw [lT_x, abs_is, b3, eb, bd_s, bd_e hL, lT_x, if_pos (cdp_is1.mpr hone)]
      rfl
    · unfold mX7_power
      rw [c1, c4, bd2_e e1, gd_t (nzb_of (nI_ne0 hk0 (by omega))), em, bd_s, bd2_e (show mX7_power_L33 F (nI m) (nI n) image (nI (rk n c)) F 0 0 o1 = _ from e2), if_pos (by rw [hone, rk_one]; rfl)]
  · refine ⟨0, _, _, o2, ?_, ?_, hA'.turn hsup⟩
    · unfold mX6_power
      rw [lT_x, abs_is, b3, eb, bd_s, bd_e hL, lT_x, if_neg (fun e => hone (cdp_is1.mp e))]
      rfl
    · unfold mX7_power
      rw [c1, c4, bd2_e e1, gd_t (nzb_of (nI_ne0 hk0 (by omega))), em, bd_s, bd2_e (show mX7_power_L33 F (nI m) (nI n) image (nI (rk n c)) F 0 0 o1 = _ from e2), if_neg (show ¬ nI (rk n (c.pw m)) = (0 : Int32) from fun e => hone ((rk_0 a1 hsup).mp ((nI_eq (b := 0) (by omega) (by omega)).mp e)))]
/-! told -/
theorem own_is {n : Nat} (hn : n ≤ 8) : mX6_ownBits (nI n) = lN (2 ^ (4 * n) - 1) := by
  unfold mX6_ownBits
  have h1 : 1 ≤ 2 ^ (4 * n) := Nat.one_le_two_pow
  rw [sh_4', show ((1 : Int64) <<< ((nI (4 * n)).toInt64 &&& 63)) = lN (1 * 2 ^ (4 * n)) from wb_shl 1 (by omega), Nat.one_mul, show (1 : Int64) = lN 1 from rfl, lN_sub h1]
theorem nbl_mod {h : Nat → Nat} (hh : ∀ i, i < 8 → h i < 16) {n : Nat} (hn : n ≤ 8) : nbl h 8 % 2 ^ (4 * n) = nbl h n := by
  apply Nat.eq_of_testBit_eq
  intro b
  rw [Nat.testBit_mod_two_pow, nbl_bit (k := 8) hh, nbl_bit (k := n) (fun i hi => hh i (by omega))]
  by_cases hb : b < 4 * n
  · have : b < 4 * 8 := by omega
    simp [hb, this]
  · simp [hb]
theorem told_L {n : Nat} (hn : n ≤ 8) (hT : Tbl n image) {c : Pm} (hc : Sup n c) : ∀ (d i f : Nat), i + d = n → d < f → mX7_told_L4 (nI n) image (nI (rk n c)) f (lN (nbl c.ap i)) (nI i) = some (lN (nbl c.ap n))
  | 0, i, f, hi, hf => by
    obtain ⟨f, rfl⟩ : ∃ g, f = g + 1 := ⟨f - 1, by omega⟩
    have : i = n := by omega
    subst this
    rw [mX7_told_L4_s, if_pos (nI_le (Nat.le_refl _) (by omega))]
  | d + 1, i, f, hi, hf => by
    obtain ⟨f, rfl⟩ : ∃ g, f = g + 1 := ⟨f - 1, by omega⟩
    have hin : i < n := by omega
    have hx := rk_ix hn hc hin
    have hci := hc.lt hin
    have h1 : nbl c.ap i < 2 ^ (4 * i) := nbl_lt (fun j hj => by have := c.ap_lt (show j < 8 by omega); omega)
    have h2 : 2 ^ (4 * i) ≤ 2 ^ 28 := Nat.pow_le_pow_right (by decide) (by omega)
    have h3 : c.ap i * 2 ^ (4 * i) ≤ 8 * 2 ^ 28 := Nat.mul_le_mul (by omega) h2
    rw [mX7_told_L4_s, if_neg (nI_ge hin (by omega)), ix8, gd_t (inb_n hx (by omega)), cl_n (by omega), hT.get hn hc hin, lT_x, nI_l (by omega), sh_4', wb_shl _ (by omega), wb_or (by omega) (by omega), nI_1]
    have e : nbl c.ap i ||| c.ap i * 2 ^ (4 * i) = nbl c.ap (i + 1) := by
      rw [nbl_s, Nat.two_pow_add_eq_or_of_lt h1, Nat.or_comm, Nat.mul_comm]
    rw [e]
    exact told_L hn hT hc d (i + 1) f (by omega) (by omega)
theorem call_told (hF : 50000 ≤ F) (h : Rl shelf np ng cur tw rn rmany image rturn rshelf rgroups inn) : ∃ v, mX6_told np cur = v ∧ mX7_told F rn image rturn = some v := by
  obtain ⟨n, g, c, sh, GS, ⟨⟨a0, a1⟩, a2, a3, a4, a5⟩, ⟨b1, b2, b3, b4, b5⟩, c1, c2, c3, c4, c5, c6, c7⟩ := h
  have h31 := nbl_31 c.b8
  refine ⟨lN (nbl c.ap n), ?_, ?_⟩
  · unfold mX6_told
    rw [b1, b3, own_is a1]
    show (nI (nbl c.ap 8)).toInt64 &&& _ = _
    rw [nI_l h31, wb_mask (by omega) (by omega), nbl_mod (fun i hi => by have := c.ap_lt hi; omega) a1]
  · unfold mX7_told
    rw [c1, c4, bd_e (show mX7_told_L4 (nI n) image (nI (rk n c)) F 0 0 = _ from told_L a1 c3 a3 n 0 F (by omega) (by omega))]
end PW
