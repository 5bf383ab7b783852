/-! ===== the reference's answers to what is asked ===== -/
section ASK
variable {F n : Nat} {image : Nat → Int32}
theorem orbitR_L (hn : n ≤ 8) (hT : Tbl n image) {a p : Nat} (ha : a < 13) (hp : p < n) {S : Pm → Prop} {inn : Nat → Int32} (hS : RS n inn a S) : ∀ (d r f s : Nat), r + d = fac n → d < f → s < 256 → (∀ q, s.testBit q = true ↔ ∃ x, Sup n x ∧ S x ∧ rk n x < r ∧ x.ap p = q) → ∃ s2, mX7_orbit_L30 (nI a) (nI p) (nI (fac n)) image inn f (nI s) (nI r) = some (nI s2) ∧ s2 < 256 ∧ ∀ q, s2.testBit q = true ↔ ∃ x, Sup n x ∧ S x ∧ x.ap p = q
  | 0, r, f, s, hr, hf, hs, h => by
    obtain ⟨f, rfl⟩ : ∃ g, f = g + 1 := ⟨f - 1, by omega⟩
    have hfac := fac_8 hn
    have : r = fac n := by omega
    subst this
    refine ⟨s, by rw [mX7_orbit_L30_s, if_pos (nI_le (Nat.le_refl _) (by omega))], hs, fun q => (h q).trans ?_⟩
    exact ⟨fun ⟨x, h1, h2, _, h3⟩ => ⟨x, h1, h2, h3⟩, fun ⟨x, h1, h2, h3⟩ => ⟨x, h1, h2, rk_lt x h1, h3⟩⟩
  | d + 1, r, f, s, hr, hf, hs, h => by
    obtain ⟨f, rfl⟩ : ∃ g, f = g + 1 := ⟨f - 1, by omega⟩
    have hfac := fac_8 hn
    obtain ⟨x, hx, hxr⟩ := hT.ex (show r < fac n by omega)
    have hix := rk_ix hn hx hp
    have hxp := hx.lt hp
    rw [mX7_orbit_L30_s, if_neg (nI_ge (by omega) (by omega)), nI_1]
    rcases has_is hn hS ha hx with ⟨hin, e⟩ | ⟨hout, e⟩
    · obtain ⟨s2, e2, b1, b2⟩ := orbitR_L hn hT ha hp hS d (r + 1) f (s ||| 2 ^ x.ap p) (by omega) (by omega) (set_put hs (by omega)) (fun q => by
        rw [tb_set, Bool.or_eq_true, decide_eq_true_iff, h]
        constructor
        · rintro (⟨y, h1, h2, h3, h4⟩ | rfl)
          · exact ⟨y, h1, h2, by omega, h4⟩
          · exact ⟨x, hx, hin, by omega, rfl⟩
        · rintro ⟨y, h1, h2, h3, h4⟩
          by_cases ey : rk n y = r
          · have := rk_inj hn h1 hx (ey.trans hxr.symm)
            subst this
            exact Or.inr h4.symm
          · exact Or.inl ⟨y, h1, h2, by omega, h4⟩)
      refine ⟨s2, ?_, b1, b2⟩
      have hg := hT.get hn hx hp
      rw [hxr] at e hix hg
      rw [bd_e e, if_neg (by decide), ix8, gd_t (inb_n hix (by omega)), cl_n (by omega), hg, one_shl (by omega), bd_s, lT_x, ni_or]
      exact e2
    · obtain ⟨s2, e2, b1, b2⟩ := orbitR_L hn hT ha hp hS d (r + 1) f s (by omega) (by omega) hs (fun q => by
        rw [h]
        constructor
        · rintro ⟨y, h1, h2, h3, h4⟩
          exact ⟨y, h1, h2, by omega, h4⟩
        · rintro ⟨y, h1, h2, h3, h4⟩
          by_cases ey : rk n y = r
          · exact absurd (rk_inj hn h1 hx (ey.trans hxr.symm) ▸ h2) hout
          · exact ⟨y, h1, h2, by omega, h4⟩)
      refine ⟨s2, ?_, b1, b2⟩
      rw [hxr] at e
      rw [bd_e e, if_pos rfl, bd_s, lT_x, show (0 : Int32) = nI 0 from rfl, ni_or, Nat.or_zero]
      exact e2
theorem blockR_in (hF : 50000 ≤ F) (hn : n ≤ 8) (hT : Tbl n image) {a : Nat} (ha : a < 13) {S : Pm → Prop} {inn : Nat → Int32} (hS : RS n inn a S) (P : Nat → Prop) (hP : ∀ x p q, Sup n x → S x → P p → P (x.ap p) → P q → P (x.ap q)) : ∀ (d r f s : Nat), r + d = fac n → d < f → s < 2 ^ n → (∀ q, s.testBit q = true → P q) → ∃ s2, mX7_block_L65 F (nI a) (nI n) (nI (fac n)) image inn f (nI s) (nI r) = some (nI s2) ∧ s2 < 2 ^ n ∧ (∀ q, s2.testBit q = true → P q) ∧ (∀ q, s.testBit q = true → s2.testBit q = true) ∧ (s2 = s → ∀ x, Sup n x → S x → r ≤ rk n x → ∀ p, s.testBit p = true → s.testBit (x.ap p) = true → ∀ q, s.testBit q = true → s.testBit (x.ap q) = true)
  | 0, r, f, s, hr, hf, hs, h => by
    obtain ⟨f, rfl⟩ : ∃ g, f = g + 1 := ⟨f - 1, by omega⟩
    have hfac := fac_8 hn
    exact ⟨s, by rw [mX7_block_L65_s, if_pos (nI_le (by omega) (by omega))], hs, h, fun _ h => h, fun _ x hx _ hr' => by have := rk_lt x hx; omega⟩
  | d + 1, r, f, s, hr, hf, hs, h => by
    obtain ⟨f, rfl⟩ : ∃ g, f = g + 1 := ⟨f - 1, by omega⟩
    have hfac := fac_8 hn
    have h2n : 2 ^ n ≤ 2 ^ 8 := Nat.pow_le_pow_right (by decide) hn
    obtain ⟨x, hx, hxr⟩ := hT.ex (show r < fac n by omega)
    rw [mX7_block_L65_s, if_neg (nI_ge (by omega) (by omega)), nI_1]
    have skip : (S x → ¬ ∃ p, s.testBit p = true ∧ s.testBit (x.ap p) = true) → ∃ s2, mX7_block_L65 F (nI a) (nI n) (nI (fac n)) image inn f (nI s) (nI (r + 1)) = some (nI s2) ∧ s2 < 2 ^ n ∧ (∀ q, s2.testBit q = true → P q) ∧ (∀ q, s.testBit q = true → s2.testBit q = true) ∧ (s2 = s → ∀ x, Sup n x → S x → r ≤ rk n x → ∀ p, s.testBit p = true → s.testBit (x.ap p) = true → ∀ q, s.testBit q = true → s.testBit (x.ap q) = true) := fun hno => by
      obtain ⟨s2, e2, b1, b2, b3, b4⟩ := blockR_in hF hn hT ha hS P hP d (r + 1) f s (by omega) (by omega) hs h
      refine ⟨s2, e2, b1, b2, b3, fun es y hy hSy hle p hp hp2 q hq => ?_⟩
      by_cases ey : rk n y = r
      · have := rk_inj hn hy hx (ey.trans hxr.symm)
        subst this
        exact absurd ⟨p, hp, hp2⟩ (hno hSy)
      · exact b4 es y hy hSy (by omega) p hp hp2 q hq
    rcases has_is hn hS ha hx with ⟨hin, e⟩ | ⟨hout, e⟩
    · have hset := setOf_is hF hT hn hx hs
      rw [hxr] at e hset
      have hi := ims_lt x s
      have hi2 : ims x s < 2 ^ n := by
        apply Nat.lt_pow_two_of_testBit
        intro j hj
        by_cases hj8 : j < 8
        · rw [ims_bit x s hj8, ← Pm.ap_bk, hx.bk j hj, tb_low (k := n) hs hj]
        · rw [tb_low (k := 8) hi (by omega)]
      rw [bd_e e, if_neg (by decide), bd_e hset, bd_s, lT_x, lT_x, ni_and]
      by_cases hm : ims x s &&& s = 0
      · rw [hm, if_pos nI_0, show (0 : Int32) = nI 0 from rfl, ni_or, Nat.or_zero]
        refine skip (fun _ ⟨p, hp, hp2⟩ => ?_)
        have hp8 := set_lt (Nat.lt_of_lt_of_le hs h2n) hp
        have : (ims x s &&& s).testBit (x.ap p) = true := by
          rw [Nat.testBit_and, ims_bit x s (x.ap_lt hp8), x.pa_ap, hp, hp2]; rfl
        rw [hm, Nat.zero_testBit] at this
        cases this
      · have hle : ims x s &&& s < 256 := Nat.lt_of_le_of_lt Nat.and_le_left hi
        rw [if_neg (nI_ne0 (by omega) (by omega)), ni_or]
        have hu : s ||| ims x s < 2 ^ n := Nat.or_lt_two_pow hs hi2
        have hbit : ∀ j, (s ||| ims x s).testBit j = true ↔ s.testBit j = true ∨ (j < 8 ∧ s.testBit (x.pa j) = true) := by
          intro j
          rw [Nat.testBit_or, Bool.or_eq_true]
          unfold ims
          rw [bsn_bit, Bool.and_eq_true, decide_eq_true_iff]
        -- a point of both
        obtain ⟨p0, hp0⟩ : ∃ p, (ims x s &&& s).testBit p = true := by
          apply Classical.byContradiction
          intro hc
          exact hm (Nat.eq_of_testBit_eq fun i => by
            rw [Nat.zero_testBit]
            cases hb : (ims x s &&& s).testBit i with
            | true => exact absurd ⟨i, hb⟩ hc
            | false => rfl)
        rw [Nat.testBit_and, Bool.and_eq_true] at hp0
        have hp08 := set_lt hi hp0.1
        rw [ims_bit x s hp08] at hp0
        obtain ⟨s2, e2, b1, b2, b3, b4⟩ := blockR_in hF hn hT ha hS P hP d (r + 1) f (s ||| ims x s) (by omega) (by omega) hu (fun q hq => by
          rcases (hbit q).mp hq with hq | ⟨_, hq⟩
          · exact h q hq
          · have := hP x (x.pa p0) (x.pa q) hx hin (h _ hp0.1) (by rw [x.ap_pa]; exact h _ hp0.2) (h _ hq)
            rwa [x.ap_pa] at this)
        refine ⟨s2, e2, b1, b2, fun q hq => b3 q ((hbit q).mpr (Or.inl hq)), fun es y hy hSy hle p hp hp2 q hq => ?_⟩
        have hsame : s ||| ims x s = s := by
          refine set_ext (Nat.lt_of_lt_of_le hu h2n) (Nat.lt_of_lt_of_le hs h2n) fun j hj => ?_
          cases hb : s.testBit j with
          | true => exact (hbit j).mpr (Or.inl hb)
          | false =>
            cases hb2 : (s ||| ims x s).testBit j with
            | true => rw [← es, b3 j hb2] at hb; cases hb
            | false => rfl
        by_cases ey : rk n y = r
        · have := rk_inj hn hy hx (ey.trans hxr.symm)
          subst this
          have hq8 := set_lt (Nat.lt_of_lt_of_le hs h2n) hq
          have : (s ||| ims y s).testBit (y.ap q) = true := (hbit _).mpr (Or.inr ⟨y.ap_lt hq8, by rw [y.pa_ap]; exact hq⟩)
          rwa [hsame] at this
        · have := b4 (es.trans hsame.symm) y hy hSy (by omega)
          rw [hsame] at this
          exact this p hp hp2 q hq
    · rw [hxr] at e
      rw [bd_e e, if_pos rfl, bd_s, lT_x, lT_x, show (0 : Int32) = nI 0 from rfl, ni_and, Nat.zero_and, if_pos rfl, ni_or, Nat.or_zero]
      exact skip (fun h => absurd h hout)
theorem blockR_out (hF : 50000 ≤ F) (hn : n ≤ 8) (hT : Tbl n image) {a : Nat} (ha : a < 13) {S : Pm → Prop} {inn : Nat → Int32} (hS : RS n inn a S) (P : Nat → Prop) (hP : ∀ x p q, Sup n x → S x → P p → P (x.ap p) → P q → P (x.ap q)) : ∀ (d f s b : Nat), 8 ≤ ct s.testBit 8 + d → d + 1 < f → s < 2 ^ n → b < 2 ^ n → (∀ q, s.testBit q = true → P q) → (s = b → ∀ x, Sup n x → S x → ∀ p, s.testBit p = true → s.testBit (x.ap p) = true → ∀ q, s.testBit q = true → s.testBit (x.ap q) = true) → ∃ s2, mX7_block_L51 F (nI a) (nI n) (nI (fac n)) image inn f (nI s) (nI b) = some (nI s2) ∧ s2 < 2 ^ n ∧ (∀ q, s2.testBit q = true → P q) ∧ (∀ q, s.testBit q = true → s2.testBit q = true) ∧ (∀ x, Sup n x → S x → ∀ p, s2.testBit p = true → s2.testBit (x.ap p) = true → ∀ q, s2.testBit q = true → s2.testBit (x.ap q) = true) := by
  intro d
  have h2n : 2 ^ n ≤ 2 ^ 8 := Nat.pow_le_pow_right (by decide) hn
  have hfac := fac_8 hn
  induction d with
  | zero =>
    intro f s b hd hf hs hb h hc
    obtain ⟨f, rfl⟩ : ∃ g, f = g + 2 := ⟨f - 2, by omega⟩
    by_cases e : s = b
    · exact ⟨s, by rw [mX7_block_L51_s, if_pos (by rw [e])], hs, h, fun _ h => h, hc e⟩
    · obtain ⟨s2, e2, b1, b2, b3, b4⟩ := blockR_in hF hn hT ha hS P hP (fac n) 0 F s (by omega) (by omega) hs h
      have hsame : s2 = s := by
        apply Classical.byContradiction
        intro hne
        have := ct_sub_lt (Nat.lt_of_lt_of_le hs h2n) (Nat.lt_of_lt_of_le b1 h2n) b3 (fun e => hne e.symm)
        have := ct_le s2.testBit 8
        omega
      refine ⟨s, ?_, hs, h, fun _ h => h, fun x hx hSx => b4 hsame x hx hSx (Nat.zero_le _)⟩
      rw [mX7_block_L51_s, if_neg (fun h => e ((nI_eq (by omega) (by omega)).mp h)), bd_e (show mX7_block_L65 F (nI a) (nI n) (nI (fac n)) image inn F (nI s) 0 = _ from e2), hsame, mX7_block_L51_s, if_pos rfl]
  | succ d ih =>
    intro f s b hd hf hs hb h hc
    obtain ⟨f, rfl⟩ : ∃ g, f = g + 1 := ⟨f - 1, by omega⟩
    by_cases e : s = b
    · exact ⟨s, by rw [mX7_block_L51_s, if_pos (by rw [e])], hs, h, fun _ h => h, hc e⟩
    · obtain ⟨s2, e2, b1, b2, b3, b4⟩ := blockR_in hF hn hT ha hS P hP (fac n) 0 F s (by omega) (by omega) hs h
      by_cases hsame : s2 = s
      · obtain ⟨f, rfl⟩ : ∃ g, f = g + 1 := ⟨f - 1, by omega⟩
        refine ⟨s, ?_, hs, h, fun _ h => h, fun x hx hSx => b4 hsame x hx hSx (Nat.zero_le _)⟩
        rw [mX7_block_L51_s, if_neg (fun h => e ((nI_eq (by omega) (by omega)).mp h)), bd_e (show mX7_block_L65 F (nI a) (nI n) (nI (fac n)) image inn F (nI s) 0 = _ from e2), hsame, mX7_block_L51_s, if_pos rfl]
      · have hlt := ct_sub_lt (Nat.lt_of_lt_of_le hs h2n) (Nat.lt_of_lt_of_le b1 h2n) b3 (fun e => hsame e.symm)
        obtain ⟨s3, e3, d1, d2, d3, d4⟩ := ih f s2 s (by omega) (by omega) b1 hs b2 (fun e => absurd e hsame)
        refine ⟨s3, ?_, d1, d2, fun q hq => d3 q (b3 q hq), d4⟩
        rw [mX7_block_L51_s, if_neg (fun h => e ((nI_eq (by omega) (by omega)).mp h)), bd_e (show mX7_block_L65 F (nI a) (nI n) (nI (fac n)) image inn F (nI s) 0 = _ from e2)]
        exact e3
theorem blockR_is (hF : 50000 ≤ F) (hn : n ≤ 8) (hT : Tbl n image) {a : Nat} (ha : a < 13) {S : Pm → Prop} (hG : Grp S) (hsub : ∀ x, S x → Sup n x) {inn : Nat → Int32} (hS : RS n inn a S) {i j : Nat} (hi : i < n) (hj : j < n) : ∃ s, mX7_block_L51 F (nI a) (nI n) (nI (fac n)) image inn F (((1 : Int32) <<< (nI i &&& 31)) ||| (1 <<< (nI j &&& 31))) 0 = some (nI s) ∧ s < 256 ∧ ∀ p, s.testBit p = true ↔ p < 8 ∧ Eqv S i j i p := by
  have h2n : 2 ^ n ≤ 2 ^ 8 := Nat.pow_le_pow_right (by decide) hn
  have hpi : 2 ^ i < 2 ^ n := Nat.pow_lt_pow_right (by decide) hi
  have hpj : 2 ^ j < 2 ^ n := Nat.pow_lt_pow_right (by decide) hj
  have hs0 : 2 ^ i ||| 2 ^ j < 2 ^ n := Nat.or_lt_two_pow hpi hpj
  have hb0 : ∀ q, (2 ^ i ||| 2 ^ j).testBit q = true ↔ q = i ∨ q = j := fun q => by
    rw [tb_set, Bool.or_eq_true, decide_eq_true_iff, Nat.testBit_two_pow, decide_eq_true_iff]
    exact ⟨fun h => h.imp Eq.symm id, fun h => h.imp Eq.symm id⟩
  have hE := Eqv.eqr S i j
  obtain ⟨s, e, b1, b2, b3, b4⟩ := blockR_out hF hn hT ha hS (fun q => Eqv S i j i q) (fun x p q hx hSx hp hxp hq => by
    have := Eqv.inv hSx (hE.2.2 _ _ _ (hE.2.1 _ _ hp) hq)
    exact hE.2.2 _ _ _ hxp this) 8 F (2 ^ i ||| 2 ^ j) 0 (by omega) (by omega) hs0 (Nat.two_pow_pos n) (fun q hq => by
    rcases (hb0 q).mp hq with rfl | rfl
    · exact hE.1 _
    · exact Eqv.of) (fun e => by
    have : (2 ^ i ||| 2 ^ j).testBit i = true := (hb0 i).mpr (Or.inl rfl)
    rw [e, Nat.zero_testBit] at this
    cases this)
  have hsi : s.testBit i = true := b3 i ((hb0 i).mpr (Or.inl rfl))
  have hsj : s.testBit j = true := b3 j ((hb0 j).mpr (Or.inr rfl))
  refine ⟨s, ?_, Nat.lt_of_lt_of_le b1 h2n, fun p => ⟨fun hp => ⟨set_lt (Nat.lt_of_lt_of_le b1 h2n) hp, b2 p hp⟩, fun ⟨hp8, hp⟩ => ?_⟩⟩
  · rw [one_shl (by omega), one_shl (by omega), ni_or]
    exact e
  · -- what lies in one carried set
    have hmeet : ∀ t, S t → ∀ x, s.testBit x = true → s.testBit (t.pa x) = true → ∀ y, s.testBit (t.pa y) = true → s.testBit y = true := fun t ht x hx hx2 y hy => by
      have := b4 t (hsub t ht) ht (t.pa x) hx2 (by rw [t.ap_pa]; exact hx) (t.pa y) hy
      rwa [t.ap_pa] at this
    have hr := hp (fun x y => x = y ∨ ∃ t, S t ∧ s.testBit (t.pa x) = true ∧ s.testBit (t.pa y) = true) ⟨fun _ => Or.inl rfl, fun x y h => by
        rcases h with h | ⟨t, h1, h2, h3⟩
        · exact Or.inl h.symm
        · exact Or.inr ⟨t, h1, h3, h2⟩, fun x y z h h' => by
        rcases h with rfl | ⟨t, h1, h2, h3⟩
        · exact h'
        · rcases h' with rfl | ⟨u, k1, k2, k3⟩
          · exact Or.inr ⟨t, h1, h2, h3⟩
          · refine Or.inr ⟨u, k1, ?_, k3⟩
            -- t then back of u meets the set
            have hw := hG.2.1 _ _ h1 (hG.2.2 _ k1)
            have := hmeet (t.th u.bk) hw (u.pa y) k2 (by rw [Pm.pa_th, Pm.pa_bk, u.ap_pa]; exact h3) (u.pa x) (by rw [Pm.pa_th, Pm.pa_bk, u.ap_pa]; exact h2)
            exact this⟩ (fun t ht x y h => by
        rcases h with rfl | ⟨u, k1, k2, k3⟩
        · exact Or.inl rfl
        · exact Or.inr ⟨u.th t, hG.2.1 _ _ k1 ht, by rw [Pm.pa_th, t.pa_ap]; exact k2, by rw [Pm.pa_th, t.pa_ap]; exact k3⟩) (Or.inr ⟨.one, hG.1, hsi, hsj⟩)
    rcases hr with rfl | ⟨t, h1, h2, h3⟩
    · exact hsi
    · exact hmeet t h1 i hsi h2 p h3
theorem stillR_L (hF : 50000 ≤ F) (hn : n ≤ 8) (hT : Tbl n image) {a m : Nat} (ha : a < 13) (hm : m ≤ 8) {S : Pm → Prop} {inn : Nat → Int32} (hS : RS n inn a S) : ∀ (d r f N : Nat), r + d = fac n → d < f → Hc (fun x => Sup n x ∧ (S x ∧ fx x n = m) ∧ rk n x < r) N → ∃ N2, mX7_still_L28 F (nI a) (nI m) (nI n) (nI (fac n)) image inn f (nI N) (nI r) = some (nI N2) ∧ Hc (fun x => Sup n x ∧ (S x ∧ fx x n = m)) N2
  | 0, r, f, N, hr, hf, h => by
    obtain ⟨f, rfl⟩ : ∃ g, f = g + 1 := ⟨f - 1, by omega⟩
    have hfac := fac_8 hn
    have : r = fac n := by omega
    subst this
    exact ⟨N, by rw [mX7_still_L28_s, if_pos (nI_le (Nat.le_refl _) (by omega))], cnt_end h⟩
  | d + 1, r, f, N, hr, hf, h => by
    obtain ⟨f, rfl⟩ : ∃ g, f = g + 1 := ⟨f - 1, by omega⟩
    have hfac := fac_8 hn
    obtain ⟨x, hx, hxr⟩ := hT.ex (show r < fac n by omega)
    have hfx : fx x n ≤ 8 := Nat.le_trans (ct_le _ n) hn
    rw [mX7_still_L28_s, if_neg (nI_ge (by omega) (by omega)), nI_1]
    have no : ¬ (S x ∧ fx x n = m) → ∃ N2, mX7_still_L28 F (nI a) (nI m) (nI n) (nI (fac n)) image inn f (nI N + 0) (nI (r + 1)) = some (nI N2) ∧ Hc (fun x => Sup n x ∧ (S x ∧ fx x n = m)) N2 := fun hno => by
      rw [show (0 : Int32) = nI 0 from rfl, nI_add, Nat.add_zero]
      exact stillR_L hF hn hT ha hm hS d (r + 1) f N (by omega) (by omega) ((cnt_s hn h hx hxr).2 hno)
    rcases has_is hn hS ha hx with ⟨hin, e⟩ | ⟨hout, e⟩
    · have hst := stillIn_is hF hT hn hx
      rw [hxr] at e hst
      rw [bd_e e, if_neg (by decide), bd_e hst]
      by_cases hfm : fx x n = m
      · rw [if_pos (by rw [hfm]), bd_s, lT_x, nI_1]
        exact stillR_L hF hn hT ha hm hS d (r + 1) f (N + 1) (by omega) (by omega) ((cnt_s hn h hx hxr).1 ⟨hin, hfm⟩)
      · rw [if_neg (fun e => hfm ((nI_eq (by omega) (by omega)).mp e)), bd_s, lT_x]
        exact no (fun h => hfm h.2)
    · rw [hxr] at e
      rw [bd_e e, if_pos rfl, bd_s, lT_x]
      exact no (fun h => hout h.1)
theorem placeR_L (hn : n ≤ 8) (hT : Tbl n image) {a : Nat} (ha : a < 13) {S : Pm → Prop} {inn : Nat → Int32} (hS : RS n inn a S) {m : Nat} (hm : m < fac n) : ∀ (d r f N : Nat), r + d = m → d < f → Hc (fun x => Sup n x ∧ S x ∧ rk n x < r) N → ∃ N2, mX7_place_L15 (nI a) (nI m) inn f (nI N) (nI r) = some (nI N2) ∧ Hc (fun x => Sup n x ∧ S x ∧ rk n x < m) N2
  | 0, r, f, N, hr, hf, h => by
    obtain ⟨f, rfl⟩ : ∃ g, f = g + 1 := ⟨f - 1, by omega⟩
    have hfac := fac_8 hn
    have : r = m := by omega
    subst this
    exact ⟨N, by rw [mX7_place_L15_s, if_pos (nI_le (Nat.le_refl _) (by omega))], h⟩
  | d + 1, r, f, N, hr, hf, h => by
    obtain ⟨f, rfl⟩ : ∃ g, f = g + 1 := ⟨f - 1, by omega⟩
    have hfac := fac_8 hn
    obtain ⟨x, hx, hxr⟩ := hT.ex (show r < fac n by omega)
    rw [mX7_place_L15_s, if_neg (nI_ge (by omega) (by omega)), nI_1]
    rcases has_is hn hS ha hx with ⟨hin, e⟩ | ⟨hout, e⟩
    · rw [hxr] at e
      rw [bd_e e, lT_x, lT_x, if_neg (by decide), nI_1]
      exact placeR_L hn hT ha hS hm d (r + 1) f (N + 1) (by omega) (by omega) ((cnt_s hn h hx hxr).1 hin)
    · rw [hxr] at e
      rw [bd_e e, lT_x, lT_x, if_pos rfl, show (0 : Int32) = nI 0 from rfl, nI_add, Nat.add_zero]
      exact placeR_L hn hT ha hS hm d (r + 1) f N (by omega) (by omega) ((cnt_s hn h hx hxr).2 hout)
/-- the one which just k others are ahead of -/
theorem elementR_L (hn : n ≤ 8) (hT : Tbl n image) {a : Nat} (ha : a < 13) {S : Pm → Prop} {inn : Nat → Int32} (hS : RS n inn a S) (turn : Int32) {k : Nat} (hk : k < 2 ^ 31) : ∀ (d r f N : Nat), r + d = fac n → d < f → Hc (fun x => Sup n x ∧ S x ∧ rk n x < r) N → N ≤ k → (∃ x, Sup n x ∧ S x ∧ Hc (fun y => Sup n y ∧ S y ∧ rk n y < rk n x) k ∧ mX7_element_L20 (nI a) (nI (fac n)) turn inn f (nI (k - N)) (nI r) = some (1, nI (rk n x))) ∨ ((∃ N2, Hc (fun x => Sup n x ∧ S x) N2 ∧ N2 ≤ k) ∧ mX7_element_L20 (nI a) (nI (fac n)) turn inn f (nI (k - N)) (nI r) = some (-2, turn))
  | 0, r, f, N, hr, hf, h, hN => by
    obtain ⟨f, rfl⟩ : ∃ g, f = g + 1 := ⟨f - 1, by omega⟩
    have hfac := fac_8 hn
    have : r = fac n := by omega
    subst this
    exact Or.inr ⟨⟨N, cnt_end h, hN⟩, by rw [mX7_element_L20_s, if_pos (nI_le (Nat.le_refl _) (by omega))]⟩
  | d + 1, r, f, N, hr, hf, h, hN => by
    obtain ⟨f, rfl⟩ : ∃ g, f = g + 1 := ⟨f - 1, by omega⟩
    have hfac := fac_8 hn
    obtain ⟨x, hx, hxr⟩ := hT.ex (show r < fac n by omega)
    rw [mX7_element_L20_s, if_neg (nI_ge (by omega) (by omega)), nI_1]
    rcases has_is hn hS ha hx with ⟨hin, e⟩ | ⟨hout, e⟩
    · rw [hxr] at e
      rw [bd_e e, if_neg (by decide)]
      by_cases e0 : N = k
      · subst e0
        left
        refine ⟨x, hx, hin, by rw [hxr]; exact h, ?_⟩
        rw [Nat.sub_self, if_pos nI_0, hxr]
      · have e1 : nI (k - N) + (-1) = nI (k - (N + 1)) := by
          obtain ⟨m, hm⟩ : ∃ m, k - N = m + 1 := ⟨k - N - 1, by omega⟩
          rw [hm, pk_m1]
          congr 1
          omega
        rw [if_neg (nI_ne0 (by omega) (by omega)), e1]
        exact elementR_L hn hT ha hS turn hk d (r + 1) f (N + 1) (by omega) (by omega) ((cnt_s hn h hx hxr).1 hin) (by omega)
    · rw [hxr] at e
      rw [bd_e e, if_pos rfl]
      exact elementR_L hn hT ha hS turn hk d (r + 1) f N (by omega) (by omega) ((cnt_s hn h hx hxr).2 hout) hN
/-- the first that carries a set onto a set -/
theorem carryR_L (hF : 50000 ≤ F) (hn : n ≤ 8) (hT : Tbl n image) {a s1 s2 : Nat} (ha : a < 13) (h1 : s1 < 2 ^ n) (h2 : s2 < 2 ^ n) {S : Pm → Prop} {inn : Nat → Int32} (hS : RS n inn a S) (turn : Int32) : ∀ (d r f : Nat), r + d = fac n → d < f → (∀ x, Sup n x → S x → rk n x < r → ims x s1 ≠ s2) → (∃ x, Sup n x ∧ S x ∧ ims x s1 = s2 ∧ (∀ y, Sup n y → S y → ims y s1 = s2 → rk n x ≤ rk n y) ∧ mX7_carry_L44 F (nI a) (nI s1) (nI s2) (nI n) (nI (fac n)) image turn inn f (nI r) = some (1, nI (rk n x))) ∨ ((∀ x, Sup n x → S x → ims x s1 ≠ s2) ∧ mX7_carry_L44 F (nI a) (nI s1) (nI s2) (nI n) (nI (fac n)) image turn inn f (nI r) = some (-1, turn))
  | 0, r, f, hr, hf, h => by
    obtain ⟨f, rfl⟩ : ∃ g, f = g + 1 := ⟨f - 1, by omega⟩
    have hfac := fac_8 hn
    exact Or.inr ⟨fun x hx hs => h x hx hs (by have := rk_lt x hx; omega), by rw [mX7_carry_L44_s, if_pos (nI_le (by omega) (by omega))]⟩
  | d + 1, r, f, hr, hf, h => by
    obtain ⟨f, rfl⟩ : ∃ g, f = g + 1 := ⟨f - 1, by omega⟩
    have hfac := fac_8 hn
    have h2n : 2 ^ n ≤ 2 ^ 8 := Nat.pow_le_pow_right (by decide) hn
    obtain ⟨x, hx, hxr⟩ := hT.ex (show r < fac n by omega)
    have go : ¬ (S x ∧ ims x s1 = s2) → ∀ y, Sup n y → S y → rk n y < r + 1 → ims y s1 ≠ s2 := fun hno y hy hs hlt => by
      by_cases ey : rk n y = r
      · have := rk_inj hn hy hx (ey.trans hxr.symm)
        subst this
        exact fun e => hno ⟨hs, e⟩
      · exact h y hy hs (by omega)
    rw [mX7_carry_L44_s, if_neg (nI_ge (by omega) (by omega)), nI_1]
    rcases has_is hn hS ha hx with ⟨hin, e⟩ | ⟨hout, e⟩
    · have hset := setOf_is hF hT hn hx h1
      have hi := ims_lt x s1
      rw [hxr] at e hset
      rw [bd_e e, if_neg (by decide), bd_e hset]
      by_cases hs : ims x s1 = s2
      · left
        refine ⟨x, hx, hin, hs, fun y hy hSy hyS => ?_, by rw [if_pos (by rw [hs]), hxr]⟩
        apply Classical.byContradiction
        intro hc
        exact h y hy hSy (by omega) hyS
      · rw [if_neg (fun e => hs ((nI_eq (by omega) (by omega)).mp e))]
        exact carryR_L hF hn hT ha h1 h2 hS turn d (r + 1) f (by omega) (by omega) (go (fun h => hs h.2))
    · rw [hxr] at e
      rw [bd_e e, if_pos rfl]
      exact carryR_L hF hn hT ha h1 h2 hS turn d (r + 1) f (by omega) (by omega) (go (fun h => hout h.1))
theorem normalR_in (hF : 50000 ≤ F) (hn : n ≤ 8) (hT : Tbl n image) {a : Nat} (ha : a < 13) {S : Pm → Prop} {s : RW} (hS : RS n s.1 a S) {um vm : List Pm} (hu : WG n 10 um s) (hv : WG n 11 vm s) {k : Nat} {x : Pm} (hx : um[k]? = some x) : ∀ (d i f : Nat) (b : Int32) (now : Nat → Int32), i + d = vm.length → d < f → (b = 1 ∨ b = 0) → ∃ v now2, mX7_isNormal_L46 F (nI a) (nI k) (nI n) image s.1 s.2.2.1 s.2.2.2.1 f b (nI i) now = some (v, now2) ∧ (((b = 1 ∧ ∀ z, Fr vm i z → S (x.cj z)) ∧ v = 1) ∨ (¬ (b = 1 ∧ ∀ z, Fr vm i z → S (x.cj z)) ∧ v = 0))
  | 0, i, f, b, now, hi, hf, hb => by
    obtain ⟨f, rfl⟩ : ∃ g, f = g + 1 := ⟨f - 1, by omega⟩
    have hl := hv.len
    refine ⟨b, now, by rw [mX7_isNormal_L46_s, gd_t (by decide), show (Int32.toNatClampNeg 11) = 11 from rfl, hv.2.2.1, if_pos (nI_le (by omega) (by omega))], ?_⟩
    rcases hb with rfl | rfl
    · exact Or.inl ⟨⟨rfl, fun z hz => absurd hz (Fr_end (by omega))⟩, rfl⟩
    · exact Or.inr ⟨fun h => absurd h.1 (by decide), rfl⟩
  | d + 1, i, f, b, now, hi, hf, hb => by
    obtain ⟨f, rfl⟩ : ∃ g, f = g + 1 := ⟨f - 1, by omega⟩
    have hl := hv.len
    have hlu := hu.len
    have hk1 := (List.getElem?_eq_some_iff.mp hx).1
    obtain ⟨z, hz⟩ : ∃ z, vm[i]? = some z := ⟨vm[i]'(by omega), List.getElem?_eq_getElem (by omega)⟩
    have hxs := hu.2.2.2.2 x (List.mem_of_getElem? hx)
    have hzs := hv.2.2.2.2 z (List.mem_of_getElem? hz)
    have hne : ∀ A B : Option (Int32 × (Nat → Int32)), (if s.2.2.2.1 11 ≤ nI i then A else B) = B := fun A B => by rw [hv.2.2.1, if_neg (nI_ge (by omega) (by omega))]
    rw [mX7_isNormal_L46_s, gd_t (by decide), show (Int32.toNatClampNeg 11) = 11 from rfl, hne, nI_1]
    rcases hb with rfl | rfl
    · obtain ⟨now1, e1⟩ := carriedR_is hF hT hn hxs hzs now
      rw [if_neg (by decide), ix320, ix352, gd_t (inb_n (by omega) (by omega)), gd_t (inb_n (by omega) (by omega)), cl_n (by omega), cl_n (by omega), hu.2.1 k x hx, hv.2.1 i z hz, bd2_e e1]
      rcases has_is hn hS ha (hxs.cj hzs) with ⟨hin, e⟩ | ⟨hout, e⟩
      · rw [bd_e e, if_neg (by decide), bd2_e rfl]
        obtain ⟨v, now2, e2, h2⟩ := normalR_in hF hn hT ha hS hu hv hx d (i + 1) f 1 now1 (by omega) (by omega) (Or.inl rfl)
        refine ⟨v, now2, e2, ?_⟩
        have hiff : (((1 : Int32) = 1 ∧ ∀ w, Fr vm i w → S (x.cj w)) ↔ ((1 : Int32) = 1 ∧ ∀ w, Fr vm (i + 1) w → S (x.cj w))) := ⟨fun h => ⟨rfl, fun w hw => h.2 w ((Fr_s hz).mpr (Or.inr hw))⟩, fun h => ⟨rfl, fun w hw => ((Fr_s hz).mp hw).elim (fun e => e ▸ hin) (h.2 w)⟩⟩
        rw [hiff]; exact h2
      · rw [bd_e e, if_pos rfl, bd2_e rfl]
        obtain ⟨v, now2, e2, h2⟩ := normalR_in hF hn hT ha hS hu hv hx d (i + 1) f 0 now1 (by omega) (by omega) (Or.inr rfl)
        refine ⟨v, now2, e2, Or.inr ⟨fun h => hout (h.2 z ((Fr_s hz).mpr (Or.inl rfl))), ?_⟩⟩
        rcases h2 with ⟨h2, -⟩ | ⟨-, h2⟩
        · exact absurd h2.1 (by decide)
        · exact h2
    · rw [if_pos rfl, bd2_e rfl]
      obtain ⟨v, now2, e2, h2⟩ := normalR_in hF hn hT ha hS hu hv hx d (i + 1) f 0 now (by omega) (by omega) (Or.inr rfl)
      refine ⟨v, now2, e2, Or.inr ⟨fun h => absurd h.1 (by decide), ?_⟩⟩
      rcases h2 with ⟨h2, -⟩ | ⟨-, h2⟩
      · exact absurd h2.1 (by decide)
      · exact h2
theorem normalR_L (hF : 50000 ≤ F) (hn : n ≤ 8) (hT : Tbl n image) {a : Nat} (ha : a < 13) {S : Pm → Prop} {s : RW} (hS : RS n s.1 a S) {um vm : List Pm} (hu : WG n 10 um s) (hv : WG n 11 vm s) : ∀ (d k f : Nat) (b : Int32) (now : Nat → Int32), k + d = um.length → d < f → (b = 1 ∨ b = 0) → ∃ v now2, mX7_isNormal_L31 F (nI a) (nI n) image s.1 s.2.2.1 s.2.2.2.1 f b (nI k) now = some (v, now2) ∧ (((b = 1 ∧ ∀ x z, Fr um k x → z ∈ vm → S (x.cj z)) ∧ v = 1) ∨ (¬ (b = 1 ∧ ∀ x z, Fr um k x → z ∈ vm → S (x.cj z)) ∧ v = 0))
  | 0, k, f, b, now, hk, hf, hb => by
    obtain ⟨f, rfl⟩ : ∃ g, f = g + 1 := ⟨f - 1, by omega⟩
    have hl := hu.len
    refine ⟨b, now, by rw [mX7_isNormal_L31_s, gd_t (by decide), show (Int32.toNatClampNeg 10) = 10 from rfl, hu.2.2.1, if_pos (nI_le (by omega) (by omega))], ?_⟩
    rcases hb with rfl | rfl
    · exact Or.inl ⟨⟨rfl, fun x z hx => absurd hx (Fr_end (by omega))⟩, rfl⟩
    · exact Or.inr ⟨fun h => absurd h.1 (by decide), rfl⟩
  | d + 1, k, f, b, now, hk, hf, hb => by
    obtain ⟨f, rfl⟩ : ∃ g, f = g + 1 := ⟨f - 1, by omega⟩
    have hl := hu.len
    have hlv := hv.len
    obtain ⟨x, hx⟩ : ∃ x, um[k]? = some x := ⟨um[k]'(by omega), List.getElem?_eq_getElem (by omega)⟩
    have hne : ∀ A B : Option (Int32 × (Nat → Int32)), (if s.2.2.2.1 10 ≤ nI k then A else B) = B := fun A B => by rw [hu.2.2.1, if_neg (nI_ge (by omega) (by omega))]
    obtain ⟨v1, now1, e1, h1⟩ := normalR_in hF hn hT ha hS hu hv hx vm.length 0 F b now (by omega) (by omega) hb
    have hv1 : v1 = 1 ∨ v1 = 0 := h1.imp (fun h => h.2) (fun h => h.2)
    obtain ⟨v, now2, e2, h2⟩ := normalR_L hF hn hT ha hS hu hv d (k + 1) f v1 now1 (by omega) (by omega) hv1
    refine ⟨v, now2, ?_, ?_⟩
    · rw [mX7_isNormal_L31_s, gd_t (by decide), show (Int32.toNatClampNeg 10) = 10 from rfl, hne, bd2_e (show mX7_isNormal_L46 F (nI a) (nI k) (nI n) image s.1 s.2.2.1 s.2.2.2.1 F b 0 now = _ from e1), nI_1]
      exact e2
    · have hiff : (b = 1 ∧ ∀ y z, Fr um k y → z ∈ vm → S (y.cj z)) ↔ (v1 = 1 ∧ ∀ y z, Fr um (k + 1) y → z ∈ vm → S (y.cj z)) := by
        constructor
        · rintro ⟨hb1, h⟩
          refine ⟨?_, fun y z hy hz => h y z ((Fr_s hx).mpr (Or.inr hy)) hz⟩
          rcases h1 with ⟨_, e⟩ | ⟨hn', _⟩
          · exact e
          · exact absurd ⟨hb1, fun z hz => h x z ((Fr_s hx).mpr (Or.inl rfl)) (Fr_0.mp hz)⟩ hn'
        · rintro ⟨hv', h⟩
          rcases h1 with ⟨⟨hb1, hh⟩, _⟩ | ⟨_, e⟩
          · exact ⟨hb1, fun y z hy hz => ((Fr_s hx).mp hy).elim (fun e => e ▸ hh z (Fr_0.mpr hz)) (fun hy => h y z hy hz)⟩
          · rw [e] at hv'; exact absurd hv' (by decide)
      rw [hiff]; exact h2
theorem isNormalR_is (hF : 50000 ≤ F) (hn : n ≤ 8) (hT : Tbl n image) {a b : Nat} (ha : a < 10) (hb : b < 10) {S U : Pm → Prop} (hGS : Grp S) (hGU : Grp U) (hsS : ∀ x, S x → Sup n x) (hsU : ∀ x, U x → Sup n x) (s : RW) (hS : RS n s.1 a S) (hU : RS n s.1 b U) : ∃ (v : Int32) (s2 : RW), mX7_isNormal F (nI n) (nI (fac n)) image s.1 s.2.1 s.2.2.1 s.2.2.2.1 s.2.2.2.2 (nI a) (nI b) = some (v, s2) ∧ Kq n s s2 ∧ (((∀ x z, S x → U z → S (x.cj z)) ∧ v = 1) ∨ (¬ (∀ x z, S x → U z → S (x.cj z)) ∧ v = 0)) := by
  obtain ⟨i1, m1, e1, h1, k1⟩ := begin_is hF hn hT (w := 10) (by omega) s
  have q1 := k1.kq hn (Or.inl rfl)
  obtain ⟨⟨i2, n2, p2, m2, q2⟩, um, e2, h2, k2, g2⟩ := joinAllR_is hF hn hT (w := 10) (a := a) (by omega) (by omega) (by omega) h1 (q1 a S (by omega) (by omega) hS) hsS
  have q12 := q1.trans (k2.kq hn (Or.inl rfl))
  obtain ⟨i3, m3, e3, h3, k3⟩ := begin_is hF hn hT (w := 11) (by omega) (i2, n2, p2, m2, q2)
  have q13 := q12.trans (k3.kq hn (Or.inr rfl))
  obtain ⟨⟨i4, n4, p4, m4, q4⟩, vm, e4, h4, k4, g4⟩ := joinAllR_is hF hn hT (w := 11) (a := b) (by omega) (by omega) (by omega) h3 (q13 b U (by omega) (by omega) hU) hsU
  have q14 := q13.trans (k4.kq hn (Or.inr rfl))
  have hu4 : WG n 10 um (i4, n4, p4, m4, q4) := (h2.kp hn k3 (by omega)).kp hn k4 (by omega)
  have hum : ∀ x, GL um x ↔ S x := fun x => (g2 x).trans (gen_nil hGS x)
  have hvm : ∀ x, GL vm x ↔ U x := fun x => (g4 x).trans (gen_nil hGU x)
  obtain ⟨v, now2, e5, h5⟩ := normalR_L hF hn hT (a := a) (by omega) (q14 a S (by omega) (by omega) hS) hu4 h4 um.length 0 F 1 n4 (by omega) (by have := h2.len; omega) (Or.inl rfl)
  have hiff : ((1 : Int32) = 1 ∧ ∀ x z, Fr um 0 x → z ∈ vm → S (x.cj z)) ↔ ∀ x z, S x → U z → S (x.cj z) := by
    constructor
    · rintro ⟨-, h⟩ x z hx hz
      refine ((hvm z).mpr hz) _ Grp.nrm (fun y hy a ha => ?_) x hx
      exact Gen.cj hGS (fun w hw => h w y (Fr_0.mpr hw) hy) ((hum a).mpr ha)
    · exact fun h => ⟨rfl, fun x z hx hz => h x z ((hum x).mp (GL.of (Fr_0.mp hx))) ((hvm z).mp (GL.of hz))⟩
  rw [hiff] at h5
  have hvb : isb v = true := by
    rcases h5 with ⟨_, e⟩ | ⟨_, e⟩
    · rw [e]; exact isb_1
    · rw [e]; exact isb_0
  refine ⟨v, (i4, now2, p4, m4, q4), ?_, fun b' T' x1 x2 hb' => q14 b' T' x1 x2 hb', h5⟩
  unfold mX7_isNormal
  rw [bd2_e (show mX7_begin F (nI (fac n)) s.1 s.2.2.2.1 10 = _ from e1), bd5_e (show mX7_joinAll F (nI n) (nI (fac n)) image i1 s.2.1 s.2.2.1 m1 s.2.2.2.2 10 (nI a) = _ from e2), bd2_e (show mX7_begin F (nI (fac n)) i2 m2 11 = _ from e3), bd5_e (show mX7_joinAll F (nI n) (nI (fac n)) image i3 n2 p2 m3 q2 11 (nI b) = _ from e4), bd2_e (show mX7_isNormal_L31 F (nI a) (nI n) image i4 p4 m4 F 1 0 n4 = _ from e5), gd_t hvb]
end ASK
