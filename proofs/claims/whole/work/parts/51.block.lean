/-! ===== blocks ===== -/
def mg (h : Nat → Nat) (a b : Nat) : Nat → Nat := fun p => if h p = h a then h b else h p
theorem mg_b8 {h : Nat → Nat} (hh : B8 h) {a b : Nat} (hb : b < 8) : B8 (mg h a b) := fun p hp => by
  show (if h p = h a then h b else h p) < 8
  split
  · exact hh b hb
  · exact hh p hp
theorem mg_same {h : Nat → Nat} {a b : Nat} (e : h a = h b) : mg h a b = h := funext fun p => by
  show (if h p = h a then h b else h p) = h p
  split
  · omega
  · rfl
theorem merge_L {h : Nat → Nat} (hh : B8 h) {a b : Nat} (ha : a < 8) (hb : b < 8) (hne : h a ≠ h b) : ∀ (d i f : Nat), i + d = 8 → d < f → mX4_merge_L19 (cdf h) (nI (h a)) (nI (h b)) f (cdf (fun p => if p < i then mg h a b p else h p)) (nI i) = some (cdf (mg h a b))
  | 0, i, f, hi, hf => by
    obtain ⟨f, rfl⟩ : ∃ g, f = g + 1 := ⟨f - 1, by omega⟩
    have : i = 8 := by omega
    subst this
    rw [mX4_merge_L19_s, if_pos ge8]
    exact congrArg some (cdf_congr fun k hk => if_pos hk)
  | d + 1, i, f, hi, hf => by
    obtain ⟨f, rfl⟩ : ∃ g, f = g + 1 := ⟨f - 1, by omega⟩
    have ih := merge_L hh ha hb hne d (i + 1) f (by omega) (by omega)
    have h1 := hh a ha
    have h2 := hh b hb
    have h3 := hh i (by omega)
    rw [mX4_merge_L19_s, if_neg (le8 (by omega)), if_neg (fun e => hne ((nI_eq (by omega) (by omega)).mp e)), cdf_im hh (by omega)]
    simp only [lT]
    rw [sh_4', nI_1, ← ih]
    congr 1
    have hB : B8 (fun p => if p < i then mg h a b p else h p) := fun p hp => by
      show (if p < i then mg h a b p else h p) < 8
      split
      · exact mg_b8 hh hb p hp
      · exact hh p hp
    by_cases e : h i = h a
    · rw [if_pos (by rw [e]), cdf_flip hB (by omega) h1 h2 (by rw [if_neg (by omega)]; exact e)]
      refine cdf_congr fun k hk => ?_
      by_cases hk1 : k = i
      · subst hk1
        rw [if_pos rfl, if_pos (by omega)]
        exact (if_pos e).symm
      · rw [if_neg hk1]
        by_cases hk2 : k < i
        · rw [if_pos hk2, if_pos (by omega)]
        · rw [if_neg hk2, if_neg (by omega)]
    · rw [if_neg (fun e2 => e ((nI_eq (by omega) (by omega)).mp e2))]
      refine cdf_congr fun k hk => ?_
      by_cases hk1 : k = i
      · subst hk1
        rw [if_neg (by omega), if_pos (by omega)]
        exact (if_neg e).symm
      · by_cases hk2 : k < i
        · rw [if_pos hk2, if_pos (by omega)]
        · rw [if_neg hk2, if_neg (by omega)]
theorem merge_is {F : Nat} (hF : 50000 ≤ F) {h : Nat → Nat} (hh : B8 h) {a b : Nat} (ha : a < 8) (hb : b < 8) : mX4_merge F (cdf h) (nI a) (nI b) = some (cdf (mg h a b)) := by
  unfold mX4_merge
  simp only [lT]
  rw [cdf_im hh ha, cdf_im hh hb]
  by_cases e : h a = h b
  · obtain ⟨f, rfl⟩ : ∃ g, F = g + 1 := ⟨F - 1, by omega⟩
    rw [mX4_merge_L19_s, if_neg (by decide), if_pos (by rw [e]), bd_s, mg_same e]
  · have := merge_L hh ha hb e 8 0 F (by omega) (by omega)
    rw [show (fun p => if p < 0 then mg h a b p else h p) = h from funext fun p => if_neg (by omega)] at this
    rw [bd_e (show mX4_merge_L19 (cdf h) (nI (h a)) (nI (h b)) F (cdf h) 0 = _ from this)]
/-- marks: each point is marked with one of its kind that is marked with itself -/
def Mk (E : Nat → Nat → Prop) (h : Nat → Nat) : Prop := B8 h ∧ (∀ p, p < 8 → h (h p) = h p) ∧ ∀ p, p < 8 → E p (h p)
def Eqr (r : Nat → Nat → Prop) : Prop := (∀ p, r p p) ∧ (∀ p q, r p q → r q p) ∧ ∀ p q s, r p q → r q s → r p s
theorem mg_mk {E : Nat → Nat → Prop} (hE : Eqr E) {h : Nat → Nat} (hm : Mk E h) {a b : Nat} (ha : a < 8) (hb : b < 8) (hab : E a b) : Mk E (mg h a b) := by
  obtain ⟨h1, h2, h3⟩ := hm
  refine ⟨mg_b8 h1 hb, fun p hp => ?_, fun p hp => ?_⟩
  · unfold mg
    by_cases e : h p = h a
    · rw [if_pos e, h2 b hb]
      split <;> rfl
    · rw [if_neg e, h2 p hp, if_neg e]
  · unfold mg
    by_cases e : h p = h a
    · rw [if_pos e]
      have e1 := h3 p hp
      rw [e] at e1
      exact hE.2.2 _ _ _ (hE.2.2 _ _ _ (hE.2.2 _ _ _ e1 (hE.2.1 _ _ (h3 a ha))) hab) (h3 b hb)
    · rw [if_neg e]; exact h3 p hp
def rt (h : Nat → Nat) : Nat := ct (fun p => decide (h p = p)) 8
theorem mg_rt {E : Nat → Nat → Prop} {h : Nat → Nat} (hm : Mk E h) {a b : Nat} (ha : a < 8) (hb : b < 8) (hne : h a ≠ h b) : rt (mg h a b) < rt h := by
  obtain ⟨h1, h2, h3⟩ := hm
  have c1 := ct_hc (fun p => decide (mg h a b p = p)) 8
  have c2 := ct_hc (fun p => decide (h p = p)) 8
  have hno : ∀ p, p < 8 → mg h a b p = p → h p ≠ h a ∧ h p = p := fun p hp e => by
    unfold mg at e
    by_cases e1 : h p = h a
    · rw [if_pos e1] at e
      rw [← e, h2 b hb] at e1
      exact absurd e1.symm hne
    · rw [if_neg e1] at e
      exact ⟨e1, e⟩
  have := (c1.or (Hc.single (P := fun x => x = h a) (h a) (fun _ => Iff.rfl)) (fun x hx e => by
    have := hno x hx.1 (of_decide_eq_true hx.2)
    exact this.1 (by rw [e, h2 a ha]))).le c2 (fun x hx => by
    rcases hx with hx | hx
    · exact ⟨hx.1, decide_eq_true (hno x hx.1 (of_decide_eq_true hx.2)).2⟩
    · rw [hx]; exact ⟨h1 a ha, decide_eq_true (h2 a ha)⟩)
  unfold rt
  omega
theorem rt_pos {E : Nat → Nat → Prop} {h : Nat → Nat} (hm : Mk E h) : 0 < rt h := by
  have := (Hc.single (P := fun x => x = h 0) (h 0) (fun _ => Iff.rfl)).le (ct_hc (fun p => decide (h p = p)) 8) (fun x hx => by
    rw [hx]; exact ⟨hm.1 0 (by omega), decide_eq_true (hm.2.1 0 (by omega))⟩)
  exact this
/-- a step of merging: what it keeps, and whether it does anything; Q: that nothing is left to do -/
def MgS (E : Nat → Nat → Prop) (h h2 : Nat → Nat) (Q : Prop) : Prop := Mk E h2 ∧ (∀ p q, h p = h q → h2 p = h2 q) ∧ (Q → h2 = h) ∧ (rt h2 < rt h ∨ (h2 = h ∧ Q))
theorem MgS.trans {E : Nat → Nat → Prop} {h h2 h3 : Nat → Nat} {P Q S : Prop} (a : MgS E h h2 P) (b : h2 = h → MgS E h2 h3 Q) (b2 : rt h2 < rt h → ∃ Q2, MgS E h2 h3 Q2) (hS : S ↔ P ∧ Q) : MgS E h h3 S := by
  obtain ⟨a1, a2, a3, a4⟩ := a
  rcases a4 with a4 | ⟨a4, a5⟩
  · obtain ⟨Q2, c1, c2, c3, c4⟩ := b2 a4
    have : rt h3 < rt h := by
      rcases c4 with c4 | ⟨c4, -⟩
      · omega
      · rw [c4]; exact a4
    refine ⟨c1, fun p q e => c2 p q (a2 p q e), fun hs => ?_, Or.inl this⟩
    have := a3 (hS.mp hs).1
    rw [this] at a4
    omega
  · obtain ⟨c1, c2, c3, c4⟩ := b a4
    refine ⟨c1, fun p q e => c2 p q (a2 p q e), fun hs => (c3 (hS.mp hs).2).trans a4, ?_⟩
    rcases c4 with c4 | ⟨c4, c5⟩
    · exact Or.inl (a4 ▸ c4)
    · exact Or.inr ⟨c4.trans a4, hS.mpr ⟨a5, c5⟩⟩
theorem mg_stp {E : Nat → Nat → Prop} (hE : Eqr E) {h : Nat → Nat} (hm : Mk E h) {a b : Nat} (ha : a < 8) (hb : b < 8) (hab : E a b) : MgS E h (mg h a b) (h a = h b) := by
  refine ⟨mg_mk hE hm ha hb hab, fun p q e => ?_, fun e => mg_same e, ?_⟩
  · unfold mg; rw [e]
  · by_cases e : h a = h b
    · exact Or.inr ⟨mg_same e, e⟩
    · exact Or.inl (mg_rt hm ha hb e)
theorem mergeImages_L {F : Nat} (hF : 50000 ≤ F) {E : Nat → Nat → Prop} (hE : Eqr E) {t : Pm} (ht : ∀ p q, E p q → E (t.ap p) (t.ap q)) : ∀ (d i f : Nat) (h : Nat → Nat), i + d = 8 → d < f → Mk E h → ∃ h2, mX4_mergeImages_L4 F (cdp t) f (cdf h) (nI i) = some (cdf h2) ∧ MgS E h h2 (∀ p, i ≤ p → p < 8 → h (t.ap p) = h (t.ap (h p)))
  | 0, i, f, h, hi, hf, hm => by
    obtain ⟨f, rfl⟩ : ∃ g, f = g + 1 := ⟨f - 1, by omega⟩
    have : i = 8 := by omega
    subst this
    exact ⟨h, by rw [mX4_mergeImages_L4_s, if_pos ge8], hm, fun _ _ e => e, fun _ => rfl, Or.inr ⟨rfl, fun p h1 h2 => by omega⟩⟩
  | d + 1, i, f, h, hi, hf, hm => by
    obtain ⟨f, rfl⟩ : ∃ g, f = g + 1 := ⟨f - 1, by omega⟩
    have hi8 : i < 8 := by omega
    have hhi := hm.1 i hi8
    have a1 := mg_stp hE hm (t.ap_lt hi8) (t.ap_lt hhi) (ht _ _ (hm.2.2 i hi8))
    obtain ⟨h2, e2, s2⟩ := mergeImages_L hF hE ht d (i + 1) f (mg h (t.ap i) (t.ap (h i))) (by omega) (by omega) a1.1
    refine ⟨h2, ?_, ?_⟩
    · rw [mX4_mergeImages_L4_s, if_neg (le8 hi8), cdf_im hm.1 hi8, cdp_im t hi8, cdp_im t hhi, bd_e (merge_is hF hm.1 (t.ap_lt hi8) (t.ap_lt hhi)), nI_1, e2]
    · refine a1.trans (Q := ∀ p, i + 1 ≤ p → p < 8 → h (t.ap p) = h (t.ap (h p))) (fun e => ?_) (fun _ => ⟨_, s2⟩) ?_
      · rw [e] at s2 ⊢; exact s2
      · constructor
        · intro hs
          exact ⟨hs i (Nat.le_refl i) hi8, fun p hp hp8 => hs p (by omega) hp8⟩
        · rintro ⟨b1, b2⟩ p hp hp8
          by_cases e : p = i
          · subst e; exact b1
          · exact b2 p (by omega) hp8
theorem block_in {F : Nat} (hF : 50000 ≤ F) {E : Nat → Nat → Prop} (hE : Eqr E) {um : List Pm} {umakers : Nat → Int32} {umc : Int32} (hu : Row um umakers umc) (hinv : ∀ t, t ∈ um → ∀ p q, E p q → E (t.ap p) (t.ap q)) : ∀ (d k f : Nat) (h : Nat → Nat), k + d = um.length → d < f → Mk E h → ∃ h2, mX4_blockOf_L21 F umakers umc f (cdf h) (nI k) = some (cdf h2) ∧ MgS E h h2 (∀ t, Fr um k t → ∀ p, p < 8 → h (t.ap p) = h (t.ap (h p)))
  | 0, k, f, h, hk, hf, hm => by
    obtain ⟨f, rfl⟩ : ∃ g, f = g + 1 := ⟨f - 1, by omega⟩
    have hl := hu.2.2
    exact ⟨h, by rw [mX4_blockOf_L21_s, hu.2.1, if_pos (nI_le (by omega) (by omega))], hm, fun _ _ e => e, fun _ => rfl, Or.inr ⟨rfl, fun t ht => absurd ht (Fr_end (by omega))⟩⟩
  | d + 1, k, f, h, hk, hf, hm => by
    obtain ⟨f, rfl⟩ : ∃ g, f = g + 1 := ⟨f - 1, by omega⟩
    have hl := hu.2.2
    obtain ⟨t, ht⟩ : ∃ t, um[k]? = some t := ⟨um[k]'(by omega), List.getElem?_eq_getElem (by omega)⟩
    obtain ⟨h1, e1, s1⟩ := mergeImages_L hF hE (hinv t (List.mem_of_getElem? ht)) 8 0 F h (by omega) (by omega) hm
    obtain ⟨h2, e2, s2⟩ := block_in hF hE hu hinv d (k + 1) f h1 (by omega) (by omega) s1.1
    refine ⟨h2, ?_, ?_⟩
    · rw [mX4_blockOf_L21_s, hu.2.1, if_neg (nI_ge (by omega) (by omega)), ← hu.2.1, gd_t (inb_n (by omega) (by omega)), cl_n (by omega), hu.1 k t ht]
      unfold mX4_mergeImages
      rw [bd_e (show mX4_mergeImages_L4 F (cdp t) F (cdf h) 0 = _ from e1), bd_s, nI_1, e2]
    · refine s1.trans (Q := ∀ t, Fr um (k + 1) t → ∀ p, p < 8 → h (t.ap p) = h (t.ap (h p))) (fun e => ?_) (fun _ => ⟨_, s2⟩) ?_
      · rw [e] at s2 ⊢; exact s2
      · constructor
        · intro hs
          exact ⟨fun p _ hp => hs t ((Fr_s ht).mpr (Or.inl rfl)) p hp, fun u hu' => hs u ((Fr_s ht).mpr (Or.inr hu'))⟩
        · rintro ⟨b1, b2⟩ u hu' p hp
          rcases (Fr_s ht).mp hu' with rfl | hu'
          · exact b1 p (Nat.zero_le p) hp
          · exact b2 u hu' p hp
theorem block_out {F : Nat} (hF : 50000 ≤ F) {E : Nat → Nat → Prop} (hE : Eqr E) {um : List Pm} {umakers : Nat → Int32} {umc : Int32} (hu : Row um umakers umc) (hinv : ∀ t, t ∈ um → ∀ p q, E p q → E (t.ap p) (t.ap q)) : ∀ (d r f : Nat) (h : Nat → Nat), r + d = 8 → d < f → Mk E h → (rt h + r ≤ 8 ∨ ∀ t, t ∈ um → ∀ p, p < 8 → h (t.ap p) = h (t.ap (h p))) → ∃ h2, mX4_blockOf_L11 F umakers umc f (cdf h) (nI r) = some (cdf h2) ∧ Mk E h2 ∧ (∀ p q, h p = h q → h2 p = h2 q) ∧ ∀ t, t ∈ um → ∀ p, p < 8 → h2 (t.ap p) = h2 (t.ap (h2 p))
  | 0, r, f, h, hr, hf, hm, hc => by
    obtain ⟨f, rfl⟩ : ∃ g, f = g + 1 := ⟨f - 1, by omega⟩
    have : r = 8 := by omega
    subst this
    refine ⟨h, by rw [mX4_blockOf_L11_s, if_pos ge8], hm, fun _ _ e => e, ?_⟩
    rcases hc with hc | hc
    · have := rt_pos hm; omega
    · exact hc
  | d + 1, r, f, h, hr, hf, hm, hc => by
    obtain ⟨f, rfl⟩ : ∃ g, f = g + 1 := ⟨f - 1, by omega⟩
    have hl := hu.2.2
    obtain ⟨h1, e1, s1⟩ := block_in hF hE hu hinv um.length 0 F h (by omega) (by omega) hm
    obtain ⟨h2, e2, a1, a2, a3⟩ := block_out hF hE hu hinv d (r + 1) f h1 (by omega) (by omega) s1.1 (by
      rcases s1.2.2.2 with s | ⟨s, s'⟩
      · rcases hc with hc | hc
        · left; omega
        · have := s1.2.2.1 (fun t ht => hc t (Fr_0.mp ht))
          rw [this] at s; omega
      · right; rw [s]; exact fun t ht => s' t (Fr_0.mpr ht))
    refine ⟨h2, ?_, a1, fun p q e => a2 p q (s1.2.1 p q e), a3⟩
    rw [mX4_blockOf_L11_s, if_neg (le8 (by omega)), bd_e (show mX4_blockOf_L21 F umakers umc F (cdf h) 0 = _ from e1), nI_1, e2]
theorem block_set {h : Nat → Nat} (hh : B8 h) {i : Nat} (hi : i < 8) : ∀ (d k f : Nat), k + d = 8 → d < f → mX4_blockOf_L60 (nI i) (cdf h) f (nI (bsn (fun p => decide (h p = h i)) k)) (nI k) = some (nI (bsn (fun p => decide (h p = h i)) 8))
  | 0, k, f, hk, hf => by
    obtain ⟨f, rfl⟩ : ∃ g, f = g + 1 := ⟨f - 1, by omega⟩
    have : k = 8 := by omega
    subst this
    rw [mX4_blockOf_L60_s, if_pos ge8]
  | d + 1, k, f, hk, hf => by
    obtain ⟨f, rfl⟩ : ∃ g, f = g + 1 := ⟨f - 1, by omega⟩
    have ih := block_set hh hi d (k + 1) f (by omega) (by omega)
    have h1 := hh k (by omega)
    have h2 := hh i hi
    rw [mX4_blockOf_L60_s, if_neg (le8 (by omega)), cdf_im hh (by omega), cdf_im hh hi]
    simp only [lT]
    rw [one_shl (by omega), ni_or, nI_1, ← ih]
    congr 1
    rw [bsn_s]
    by_cases e : h k = h i
    · rw [if_pos (by rw [e]), if_pos (decide_eq_true e)]
    · rw [if_neg (fun e2 => e ((nI_eq (by omega) (by omega)).mp e2)), if_neg (by simpa using e), Nat.or_zero]
/-- one with another, if i and j are, and what is one goes to what is one -/
def Eqv (G : Pm → Prop) (i j p q : Nat) : Prop := ∀ r : Nat → Nat → Prop, Eqr r → (∀ t, G t → ∀ x y, r x y → r (t.ap x) (t.ap y)) → r i j → r p q
theorem Eqv.eqr (G : Pm → Prop) (i j : Nat) : Eqr (Eqv G i j) := ⟨fun p r hr _ _ => hr.1 p, fun p q h r hr hi hij => hr.2.1 _ _ (h r hr hi hij), fun p q s h h2 r hr hi hij => hr.2.2 _ _ _ (h r hr hi hij) (h2 r hr hi hij)⟩
theorem Eqv.inv {G : Pm → Prop} {i j p q : Nat} {t : Pm} (ht : G t) (h : Eqv G i j p q) : Eqv G i j (t.ap p) (t.ap q) := fun r hr hi hij => hi t ht _ _ (h r hr hi hij)
theorem Eqv.of {G : Pm → Prop} {i j : Nat} : Eqv G i j i j := fun _ _ _ hij => hij
theorem blockOf_is {F : Nat} (hF : 50000 ≤ F) {mq : List Pm} {t : TW} (h : TG mq t) {i j : Nat} (hi : i < 8) (hj : j < 8) : ∃ s, mX4_blockOf F t.2.2.2.2.2.1 t.2.2.2.2.2.2 (nI i) (nI j) = some (nI s) ∧ s < 256 ∧ ∀ p, s.testBit p = true ↔ p < 8 ∧ Eqv (GL mq) i j i p := by
  have hu := h.row
  have hE := Eqv.eqr (GL mq) i j
  have hid : Mk (Eqv (GL mq) i j) (fun p => p) := ⟨fun p hp => hp, fun _ _ => rfl, fun p _ => hE.1 p⟩
  have hinv : ∀ t, t ∈ mq → ∀ p q, Eqv (GL mq) i j p q → Eqv (GL mq) i j (t.ap p) (t.ap q) := fun t ht p q e => Eqv.inv (GL.of ht) e
  have m0 := mg_mk hE hid hi hj Eqv.of
  obtain ⟨h2, e2, a1, a2, a3⟩ := block_out hF hE hu hinv 8 0 F _ (by omega) (by omega) m0 (Or.inl (by
    have := ct_le (fun p => decide (mg (fun p => p) i j p = p)) 8
    unfold rt
    omega))
  refine ⟨bsn (fun p => decide (h2 p = h2 i)) 8, ?_, bsn_lt _ 8, fun p => ?_⟩
  · unfold mX4_blockOf
    have em := merge_is hF (h := fun p => p) (fun p hp => hp) hi hj
    rw [show cdf (fun p => p) = 1985229328 from cdp_one] at em
    rw [bd_e em, bd_e (show mX4_blockOf_L11 F t.2.2.2.2.2.1 t.2.2.2.2.2.2 F (cdf (mg (fun p => p) i j)) 0 = _ from e2), bd_e (show mX4_blockOf_L60 (nI i) (cdf h2) F 0 0 = _ from block_set a1.1 hi 8 0 F (by omega) (by omega))]
  · rw [bsn_bit, Bool.and_eq_true, decide_eq_true_iff, decide_eq_true_iff]
    constructor
    · rintro ⟨h1, h3⟩
      refine ⟨h1, hE.2.2 _ _ _ (a1.2.2 i hi) ?_⟩
      rw [← h3]
      exact hE.2.1 _ _ (a1.2.2 p h1)
    · rintro ⟨h1, h3⟩
      refine ⟨h1, ?_⟩
      have hr := h3 (fun x y => x = y ∨ (x < 8 ∧ y < 8 ∧ h2 x = h2 y)) ⟨fun _ => Or.inl rfl, fun x y e => by
          rcases e with e | ⟨b1, b2, b3⟩
          · exact Or.inl e.symm
          · exact Or.inr ⟨b2, b1, b3.symm⟩, fun x y z e e' => by
          rcases e with rfl | ⟨b1, b2, b3⟩
          · exact e'
          · rcases e' with rfl | ⟨c1, c2, c3⟩
            · exact Or.inr ⟨b1, b2, b3⟩
            · exact Or.inr ⟨b1, c2, b3.trans c3⟩⟩ (fun u hu' => ?_) (Or.inr ⟨hi, hj, a2 i j (by
            unfold mg
            rw [if_pos rfl]
            split
            · rfl
            · rfl)⟩)
      · rcases hr with e | ⟨-, -, e⟩
        · rw [e]
        · exact e.symm
      · refine hu' (fun u => ∀ x y, (x = y ∨ (x < 8 ∧ y < 8 ∧ h2 x = h2 y)) → (u.ap x = u.ap y ∨ (u.ap x < 8 ∧ u.ap y < 8 ∧ h2 (u.ap x) = h2 (u.ap y)))) (Grp.of_mul (fun x y e => e) (fun a b ha hb x y e => hb _ _ (ha x y e))) (fun v hv x y e => ?_)
        rcases e with rfl | ⟨b1, b2, b3⟩
        · exact Or.inl rfl
        · exact Or.inr ⟨v.ap_lt b1, v.ap_lt b2, by rw [a3 v hv x b1, a3 v hv y b2, b3]⟩
