/-! ===== the turn at a place in order, and the place of a turn ===== -/
section ORD
variable {R : Nat → Nat} {C : Nat → Nat → Pm} {fl : List (Nat × Nat)} {cells back reach filled : Nat → Int32} {fc : Int32} {F : Nat}
/-- turns of the tower that go with t below l -/
def Wi (R : Nat → Nat) (C : Nat → Nat → Pm) (t : Pm) (l : Nat) (x : Pm) : Prop := Lv R C 0 x ∧ ∀ j, j < l → x.ap j = t.ap j
/-- turns of the tower that are ahead of t by a point below l -/
def Ahl (R : Nat → Nat) (C : Nat → Nat → Pm) (t : Pm) (l : Nat) (x : Pm) : Prop := Lv R C 0 x ∧ ∃ i, i < l ∧ (∀ j, j < i → x.ap j = t.ap j) ∧ x.ap i < t.ap i
theorem Ahl_8 {t x : Pm} : Ahl R C t 8 x ↔ Lv R C 0 x ∧ Lx x t := Iff.rfl
theorem Ahl_s {t : Pm} {l : Nat} {x : Pm} : Ahl R C t (l + 1) x ↔ Ahl R C t l x ∨ (Wi R C t l x ∧ x.ap l < t.ap l) := by
  constructor
  · rintro ⟨h1, i, hi, h2, h3⟩
    by_cases e : i = l
    · subst e; exact Or.inr ⟨⟨h1, h2⟩, h3⟩
    · exact Or.inl ⟨h1, i, by omega, h2, h3⟩
  · rintro (⟨h1, i, hi, h2⟩ | ⟨⟨h1, h2⟩, h3⟩)
    · exact ⟨h1, i, by omega, h2⟩
    · exact ⟨h1, l, by omega, h2, h3⟩
theorem Ahl_Wi {t : Pm} {l : Nat} {x : Pm} (h : Ahl R C t l x) : ¬ Wi R C t l x := fun hw => by
  obtain ⟨-, i, hi, -, h3⟩ := h
  have := hw.2 i hi
  omega
theorem Ahl_congr {t v : Pm} {l : Nat} (h : ∀ j, j < l → v.ap j = t.ap j) {x : Pm} : Ahl R C t l x ↔ Ahl R C v l x := by
  constructor
  · rintro ⟨h1, i, hi, h2, h3⟩
    exact ⟨h1, i, hi, fun j hj => by rw [h2 j hj, h j (by omega)], by rw [h i hi]; exact h3⟩
  · rintro ⟨h1, i, hi, h2, h3⟩
    exact ⟨h1, i, hi, fun j hj => by rw [h2 j hj, h j (by omega)], by rw [← h i hi]; exact h3⟩
/-- so many go with t below l and carry l to q -/
theorem Wi_at (T : TwOk R C) (hc : Cl R C) {t v : Pm} {l : Nat} (hl : l < 8) (hv : Wi R C t l v) {q : Nat} : Hc (fun x => Wi R C t l x ∧ x.ap l = q) (if (R l).testBit (v.pa q) then tf R (l + 1) else 0) := by
  have hG := Lv_grp T hc (Nat.zero_le 8)
  have key : ∀ x, Wi R C t l x ↔ ∃ u, Lv R C l u ∧ x = u.th v := fun x => by
    constructor
    · rintro ⟨h1, h2⟩
      refine ⟨x.th v.bk, (Lv_iff T (by omega)).mpr ⟨hG.2.1 _ _ h1 (hG.2.2 v hv.1), fun j hj => ?_⟩, (Pm.th_can_bk x v).symm⟩
      rw [Pm.ap_th, Pm.ap_bk, h2 j hj, ← hv.2 j hj, Pm.pa_ap]
    · rintro ⟨u, hu, rfl⟩
      refine ⟨hG.2.1 _ _ (Lv_mono T (Nat.zero_le l) (by omega) hu) hv.1, fun j hj => ?_⟩
      rw [Pm.ap_th, Lv_fix T (by omega) hu hj, hv.2 j hj]
  cases hb : (R l).testBit (v.pa q) with
  | false =>
    refine Hc.none (fun x ⟨h1, h2⟩ => ?_)
    obtain ⟨u, hu, rfl⟩ := (key x).mp h1
    have := ((Lv_sift T hl).mp hu).1
    rw [Pm.ap_th, v.ap_eq] at h2
    rw [h2, hb] at this
    cases this
  | true =>
    rw [if_pos rfl]
    refine (tf_is T (i := l + 1) (by omega)).bij (fun b => b.th ((C l (v.pa q)).th v)) (fun x y _ _ e => Pm.rc e) (fun b hb' => ?_) (fun x ⟨h1, h2⟩ => ?_)
    · refine ⟨(key _).mpr ⟨b.th (C l (v.pa q)), (Lv_s hl).mpr ⟨_, b, hb, hb', rfl⟩, by rw [Pm.th_assoc]⟩, ?_⟩
      rw [Pm.ap_th, Lv_fix T (i := l + 1) (by omega) hb' (by omega), Pm.ap_th, T.at hl hb, Pm.ap_pa]
    · obtain ⟨u, hu, rfl⟩ := (key x).mp h1
      obtain ⟨p, b, hp, hb', rfl⟩ := (Lv_s hl).mp hu
      have : p = v.pa q := by
        rw [← v.ap_eq, ← h2, Pm.ap_th, Pm.ap_th, Lv_fix T (i := l + 1) (by omega) hb' (by omega), T.at hl hp]
      subst this
      exact ⟨b, hb', by rw [Pm.th_assoc]⟩
/-- so many go with t below l and carry l to a point of a set -/
theorem Wi_set (T : TwOk R C) (hc : Cl R C) {t v : Pm} {l : Nat} (hl : l < 8) (hv : Wi R C t l v) {s : Nat} (hsub : ∀ q, s.testBit q = true → (R l).testBit (v.pa q) = true) : Hc (fun x => Wi R C t l x ∧ s.testBit (x.ap l) = true) (ct s.testBit 8 * tf R (l + 1)) := by
  rw [← sm_ite]
  refine (Hc.sum (n := 8) (P := fun q x => s.testBit q = true ∧ Wi R C t l x ∧ x.ap l = q) (fun q hq => ?_) (fun q r _ _ x hx hy => hx.2.2.symm.trans hy.2.2)).congr (fun x => ?_)
  · cases hb : s.testBit q with
    | true =>
      have := Wi_at T hc hl hv (q := q)
      rw [hsub q hb, if_pos rfl] at this
      exact this.congr (fun x => ⟨fun h => ⟨rfl, h⟩, fun h => h.2⟩)
    | false => exact Hc.none (fun x h => by cases h.1)
  · constructor
    · rintro ⟨q, hq, h1, h2, h3⟩
      exact ⟨h2, by rw [h3]; exact h1⟩
    · rintro ⟨h1, h2⟩
      exact ⟨x.ap l, x.ap_lt hl, h2, h1, rfl⟩
theorem descend_is (T : Tow R C fl cells back reach filled fc) (hF : 50000 ≤ F) {l q : Nat} (hl : l < 8) (hq : q < 8) (v : Pm) (hb : (R l).testBit (v.pa q) = true) : mX4_descend F cells (nI l) (cdp v) (nI q) = some (cdp ((C l (v.pa q)).th v)) := by
  unfold mX4_descend
  rw [bd_e (reverse_is hF v), cdp_im _ hq, Pm.ap_bk, bd_e (step_is T hF hl hb v)]
theorem desc_Wi (T : TwOk R C) (hc : Cl R C) {t v : Pm} {l q : Nat} (hl : l < 8) (hv : Wi R C t l v) (hb : (R l).testBit (v.pa q) = true) : Lv R C 0 ((C l (v.pa q)).th v) ∧ (∀ j, j < l → ((C l (v.pa q)).th v).ap j = t.ap j) ∧ ((C l (v.pa q)).th v).ap l = q := by
  refine ⟨(Lv_grp T hc (Nat.zero_le 8)).2.1 _ _ (Lv_mono T (Nat.zero_le l) (by omega) (Lv_cell T hl hb)) hv.1, fun j hj => ?_, ?_⟩
  · rw [Pm.ap_th, T.fix hl hb hj, hv.2 j hj]
  · rw [Pm.ap_th, T.at hl hb, Pm.ap_pa]
theorem low_bits {s p : Nat} (q : Nat) : (s % 2 ^ p).testBit q = (decide (q < p) && s.testBit q) := Nat.testBit_mod_two_pow s p q
theorem ahead_L (T : Tow R C fl cells back reach filled fc) (hc : Cl R C) (hF : 50000 ≤ F) (t : Pm) : ∀ (d l f N : Nat) (v : Pm), l + d = 8 → d < f → Wi R C t l v → Hc (Ahl R C t l) N → ∃ N2, Hc (Ahl R C t 8) N2 ∧ mX4_turnsAheadOf_L8 F (cdp t) cells reach f (nI N) (cdp v) (nI l) = some (nI N2)
  | 0, l, f, N, v, hl, hf, hv, h => by
    obtain ⟨f, rfl⟩ : ∃ g, f = g + 1 := ⟨f - 1, by omega⟩
    have : l = 8 := by omega
    subst this
    exact ⟨N, h, by rw [mX4_turnsAheadOf_L8_s, if_pos ge8]⟩
  | d + 1, l, f, N, v, hl, hf, hv, h => by
    obtain ⟨f, rfl⟩ : ∃ g, f = g + 1 := ⟨f - 1, by omega⟩
    have hl8 : l < 8 := by omega
    have hp8 := t.ap_lt hl8
    have hR := (T.1 l hl8).1
    have hi := ims_lt v (R l)
    have h2p : 2 ^ t.ap l ≤ 2 ^ 7 := Nat.pow_le_pow_right (by decide) (by omega)
    have h2q := Nat.two_pow_pos (t.ap l)
    have hlow : ims v (R l) % 2 ^ t.ap l < 256 := by
      have := Nat.mod_lt (ims v (R l)) h2q
      omega
    have hlowb : ∀ q, (ims v (R l) % 2 ^ t.ap l).testBit q = true ↔ q < t.ap l ∧ (R l).testBit (v.pa q) = true := fun q => by
      rw [low_bits, Bool.and_eq_true, decide_eq_true_iff]
      constructor
      · rintro ⟨a1, a2⟩
        rw [ims_bit v _ (by omega)] at a2
        exact ⟨a1, a2⟩
      · rintro ⟨a1, a2⟩
        exact ⟨a1, by rw [ims_bit v _ (by omega)]; exact a2⟩
    have c1 := Wi_set T.1 hc hl8 hv (s := ims v (R l) % 2 ^ t.ap l) (fun q hq => ((hlowb q).mp hq).2)
    have c2 : Hc (Ahl R C t (l + 1)) (N + ct (ims v (R l) % 2 ^ t.ap l).testBit 8 * tf R (l + 1)) := by
      refine (h.or c1 (fun x hx hy => Ahl_Wi hx hy.1)).congr (fun x => ?_)
      rw [Ahl_s]
      constructor
      · rintro (hx | ⟨b1, b2⟩)
        · exact Or.inl hx
        · exact Or.inr ⟨b1, ((hlowb _).mp b2).1⟩
      · rintro (hx | ⟨b1, b2⟩)
        · exact Or.inl hx
        · refine Or.inr ⟨b1, (hlowb _).mpr ⟨b2, ?_⟩⟩
          cases hb : (R l).testBit (v.pa (x.ap l)) with
          | true => rfl
          | false =>
            have h0 := Wi_at T.1 hc hl8 hv (q := x.ap l)
            rw [hb, if_neg (by decide)] at h0
            have := (Hc.single (P := fun y => y = x) x (fun _ => Iff.rfl)).le h0 (fun y hy => by rw [hy]; exact ⟨b1, rfl⟩)
            omega
    have hm : nI (ims v (R l)) &&& ((1 : Int32) <<< (nI (t.ap l) &&& 31) - 1) = nI (ims v (R l) % 2 ^ t.ap l) := by
      rw [one_shl (by omega), show (1 : Int32) = nI 1 from rfl, pk_sub (by omega), ni_and, Nat.and_two_pow_sub_one_eq_mod]
    rw [mX4_turnsAheadOf_L8_s, if_neg (le8 hl8), cdp_im t hl8]
    simp only [lT]
    rw [gd_t (inb_n hl8 (by omega)), cl_n (by omega), T.2.1 l hl8, bd_e (ims_is hF v hR), hm, bc_is _ hlow, nI_1, bd_e (turnsFrom_is T hF (i := l + 1) (by omega)), pk_mul, nI_add, bit_is (by omega) (by omega), ims_bit v (R l) hp8]
    cases hb : (R l).testBit (v.pa (t.ap l)) with
    | true =>
      rw [if_neg (by decide), bd_e (descend_is T hF hl8 hp8 v hb)]
      obtain ⟨d1, d2, d3⟩ := desc_Wi T.1 hc hl8 hv hb
      exact ahead_L T hc hF t d (l + 1) f _ _ (by omega) (by omega) ⟨d1, fun j hj => by
        by_cases e : j = l
        · subst e; exact d3
        · exact d2 j (by omega)⟩ c2
    | false =>
      rw [if_pos (show (if false = true then (1 : Int32) else 0) = 0 from rfl)]
      refine ⟨_, c2.congr (fun x => ?_), rfl⟩
      constructor
      · rintro ⟨b1, i, b2, b3⟩
        exact ⟨b1, i, by omega, b3⟩
      · rintro ⟨b1, i, b2, b3, b4⟩
        by_cases hi' : i < l + 1
        · exact ⟨b1, i, hi', b3, b4⟩
        · exfalso
          have h0 := Wi_at T.1 hc hl8 hv (q := t.ap l)
          rw [hb, if_neg (by decide)] at h0
          have := (Hc.single (P := fun y => y = x) x (fun _ => Iff.rfl)).le h0 (fun y hy => by rw [hy]; exact ⟨⟨b1, fun j hj => b3 j (by omega)⟩, b3 l (by omega)⟩)
          omega
theorem ahead_is (T : Tow R C fl cells back reach filled fc) (hc : Cl R C) (hF : 50000 ≤ F) (t : Pm) : ∃ N, Hc (fun x => Lv R C 0 x ∧ Lx x t) N ∧ mX4_turnsAheadOf F cells reach (cdp t) = some (nI N) := by
  obtain ⟨N, c, e⟩ := ahead_L T hc hF t 8 0 F 0 .one (by omega) (by omega) ⟨Lv_one T.1 (Nat.zero_le 8), fun j hj => by omega⟩ (Hc.none (fun x ⟨_, i, hi, _⟩ => by omega))
  rw [cdp_one] at e
  exact ⟨N, c, e⟩
/-- a turn is taken at a level: so many points of the images come first -/
theorem turnAt_in (T : Tow R C fl cells back reach filled fc) (hF : 50000 ≤ F) {l : Nat} (hl : l < 8) (v : Pm) {n0 : Nat} (hn0 : n0 < 40320) : ∀ (d q f n : Nat), q + d = 8 → d < f → n + ct (ims v (R l)).testBit q * tf R (l + 1) = n0 → n0 < ct (ims v (R l)).testBit 8 * tf R (l + 1) → ∃ q2 n2, q2 < 8 ∧ (R l).testBit (v.pa q2) = true ∧ n2 < tf R (l + 1) ∧ n2 + ct (ims v (R l)).testBit q2 * tf R (l + 1) = n0 ∧ mX4_turnAt_L41 F (nI l) (nI (tf R (l + 1))) (nI (ims v (R l))) cells f (nI n) (cdp v) (nI q) = some (nI n2, cdp ((C l (v.pa q2)).th v))
  | 0, q, f, n, hq, hf, hn, hlt => by
    have : q = 8 := by omega
    subst this
    omega
  | d + 1, q, f, n, hq, hf, hn, hlt => by
    obtain ⟨f, rfl⟩ : ∃ g, f = g + 1 := ⟨f - 1, by omega⟩
    have hq8 : q < 8 := by omega
    have hi := ims_lt v (R l)
    have htf := tf_40320 T.1 (i := l + 1) (by omega)
    rw [mX4_turnAt_L41_s, if_neg (le8 hq8), bit_is (by omega) (by omega), ims_bit v (R l) hq8]
    cases hb : (R l).testBit (v.pa q) with
    | true =>
      rw [if_pos (show (if true = true then (1 : Int32) else 0) = 1 from rfl)]
      by_cases hlt2 : n < tf R (l + 1)
      · refine ⟨q, n, hq8, hb, hlt2, hn, ?_⟩
        rw [if_neg (nI_ge hlt2 (by omega)), bd_e (descend_is T hF hl hq8 v hb)]
      · have hct : ct (ims v (R l)).testBit (q + 1) = ct (ims v (R l)).testBit q + 1 := by rw [ct_s, ims_bit v (R l) hq8, hb]; rfl
        obtain ⟨q2, n2, a1, a2, a3, a4, a5⟩ := turnAt_in T hF hl v hn0 d (q + 1) f (n - tf R (l + 1)) (by omega) (by omega) (by rw [hct, Nat.add_mul, Nat.one_mul]; omega) hlt
        refine ⟨q2, n2, a1, a2, a3, a4, ?_⟩
        rw [if_pos (nI_le (by omega) (by omega))]
        simp only [lT]
        rw [pk_sub (by omega), nI_1]
        exact a5
    | false =>
      have hct : ct (ims v (R l)).testBit (q + 1) = ct (ims v (R l)).testBit q := by rw [ct_s, ims_bit v (R l) hq8, hb]; rfl
      obtain ⟨q2, n2, a1, a2, a3, a4, a5⟩ := turnAt_in T hF hl v hn0 d (q + 1) f n (by omega) (by omega) (by rw [hct]; exact hn) hlt
      refine ⟨q2, n2, a1, a2, a3, a4, ?_⟩
      rw [if_neg (show ¬ (if false = true then (1 : Int32) else 0) = 1 from by decide), nI_1]
      exact a5
theorem ct_ims (v : Pm) {s : Nat} (hs : s < 256) : ct (ims v s).testBit 8 = ct s.testBit 8 :=
  (ct_hc _ 8).uniq ((ct_hc s.testBit 8).bij v.ap (fun i j _ _ e => v.inj e) (fun i hi => ⟨v.ap_lt hi.1, by rw [ims_bit v s (v.ap_lt hi.1), Pm.pa_ap]; exact hi.2⟩) (fun j hj => ⟨v.pa j, ⟨v.pa_lt hj.1, by rw [← ims_bit v s hj.1]; exact hj.2⟩, (v.ap_pa j).symm⟩))
theorem turnAt_L (T : Tow R C fl cells back reach filled fc) (hc : Cl R C) (hF : 50000 ≤ F) {k : Nat} : ∀ (d l f n : Nat) (v : Pm), l + d = 8 → d < f → Lv R C 0 v → n < tf R l → (∃ N, Hc (Ahl R C v l) N ∧ N + n = k) → ∃ x, Lv R C 0 x ∧ Hc (Ahl R C x 8) k ∧ mX4_turnAt_L8 F cells reach f (nI n) (cdp v) (nI l) = some (cdp x)
  | 0, l, f, n, v, hl, hf, hv, hn, ⟨N, h, hk⟩ => by
    obtain ⟨f, rfl⟩ : ∃ g, f = g + 1 := ⟨f - 1, by omega⟩
    have : l = 8 := by omega
    subst this
    rw [tf_8] at hn
    have : N = k := by omega
    subst this
    exact ⟨v, hv, h, by rw [mX4_turnAt_L8_s, if_pos ge8]⟩
  | d + 1, l, f, n, v, hl, hf, hv, hn, ⟨N, h, hk⟩ => by
    obtain ⟨f, rfl⟩ : ∃ g, f = g + 1 := ⟨f - 1, by omega⟩
    have hl8 : l < 8 := by omega
    have hR := (T.1 l hl8).1
    have htf := tf_40320 T.1 (i := l) (by omega)
    obtain ⟨q2, n2, a1, a2, a3, a4, a5⟩ := turnAt_in T hF hl8 v (n0 := n) (by omega) 8 0 F n (by omega) (by omega) (by show n + 0 * _ = n; omega) (by rw [ct_ims v hR, ← tf_s R hl8]; exact hn)
    have hvW : Wi R C v l v := ⟨hv, fun _ _ => rfl⟩
    obtain ⟨d1, d2, d3⟩ := desc_Wi T.1 hc hl8 hvW a2
    have hlow : ims v (R l) % 2 ^ q2 < 256 := by
      have := Nat.mod_le (ims v (R l)) (2 ^ q2)
      have := ims_lt v (R l)
      omega
    have hlowb : ∀ q, (ims v (R l) % 2 ^ q2).testBit q = true ↔ q < q2 ∧ (R l).testBit (v.pa q) = true := fun q => by
      rw [low_bits, Bool.and_eq_true, decide_eq_true_iff]
      constructor
      · rintro ⟨b1, b2⟩
        rw [ims_bit v _ (by omega)] at b2
        exact ⟨b1, b2⟩
      · rintro ⟨b1, b2⟩
        exact ⟨b1, by rw [ims_bit v _ (by omega)]; exact b2⟩
    have c1 := Wi_set T.1 hc hl8 hvW (s := ims v (R l) % 2 ^ q2) (fun q hq => ((hlowb q).mp hq).2)
    have ect : ct (ims v (R l) % 2 ^ q2).testBit 8 = ct (ims v (R l)).testBit q2 := (ct_hc _ 8).uniq ((ct_hc (ims v (R l)).testBit q2).congr (fun q => by
      rw [low_bits, Bool.and_eq_true, decide_eq_true_iff]
      exact ⟨fun ⟨b1, b2⟩ => ⟨by omega, b1, b2⟩, fun ⟨_, b1, b2⟩ => ⟨b1, b2⟩⟩))
    have c2 : Hc (Ahl R C ((C l (v.pa q2)).th v) (l + 1)) (N + ct (ims v (R l)).testBit q2 * tf R (l + 1)) := by
      rw [← ect]
      refine (h.or c1 (fun x hx hy => Ahl_Wi hx hy.1)).congr (fun x => ?_)
      rw [Ahl_s, d3, ← Ahl_congr (t := v) d2]
      constructor
      · rintro (hx | ⟨b1, b2⟩)
        · exact Or.inl hx
        · exact Or.inr ⟨⟨b1.1, fun j hj => by rw [d2 j hj]; exact b1.2 j hj⟩, ((hlowb _).mp b2).1⟩
      · rintro (hx | ⟨b1, b2⟩)
        · exact Or.inl hx
        · have hw : Wi R C v l x := ⟨b1.1, fun j hj => by rw [← d2 j hj]; exact b1.2 j hj⟩
          refine Or.inr ⟨hw, (hlowb _).mpr ⟨b2, ?_⟩⟩
          cases hb : (R l).testBit (v.pa (x.ap l)) with
          | true => rfl
          | false =>
            have h0 := Wi_at T.1 hc hl8 hvW (q := x.ap l)
            rw [hb, if_neg (by decide)] at h0
            have := (Hc.single (P := fun y => y = x) x (fun _ => Iff.rfl)).le h0 (fun y hy => by rw [hy]; exact ⟨hw, rfl⟩)
            omega
    obtain ⟨x, e1, e2, e3⟩ := turnAt_L T hc hF (k := k) d (l + 1) f n2 _ (by omega) (by omega) d1 a3 ⟨_, c2, by omega⟩
    refine ⟨x, e1, e2, ?_⟩
    rw [mX4_turnAt_L8_s, if_neg (le8 hl8), nI_1, bd_e (turnsFrom_is T hF (i := l + 1) (by omega)), gd_t (inb_n hl8 (by omega)), cl_n (by omega), T.2.1 l hl8, bd_e (ims_is hF v hR), bd2_e (show mX4_turnAt_L41 F (nI l) (nI (tf R (l + 1))) (nI (ims v (R l))) cells F (nI n) (cdp v) 0 = _ from a5), e3]
theorem turnAt_is (T : Tow R C fl cells back reach filled fc) (hc : Cl R C) (hF : 50000 ≤ F) {k : Nat} (hk : k < tf R 0) : ∃ x, Lv R C 0 x ∧ Hc (fun y => Lv R C 0 y ∧ Lx y x) k ∧ mX4_turnAt F cells reach (nI k) = some (cdp x) := by
  obtain ⟨x, h1, h2, h3⟩ := turnAt_L T hc hF (k := k) 8 0 F k .one (by omega) (by omega) (Lv_one T.1 (Nat.zero_le 8)) hk ⟨0, Hc.none (fun x ⟨_, i, hi, _⟩ => by omega), by omega⟩
  rw [cdp_one] at h3
  refine ⟨x, h1, h2, ?_⟩
  unfold mX4_turnAt
  rw [bd_e (show mX4_turnAt_L8 F cells reach F (nI k) 1985229328 0 = _ from h3)]
end ORD
