/-! ===== pairs the other way round; what swaps make ===== -/
def iv1 (a : Pm) (n i : Nat) : Nat := ct (fun j => decide (i < j) && decide (a.ap j < a.ap i)) n
/-- how many pairs below n stand the other way round -/
def iv (a : Pm) (n : Nat) : Nat := sm (iv1 a n) n
def Inv (a : Pm) (n : Nat) (x : Nat × Nat) : Prop := x.1 < x.2 ∧ x.2 < n ∧ a.ap x.2 < a.ap x.1
theorem iv_hc (a : Pm) (n : Nat) : Hc (Inv a n) (iv a n) := by
  refine (Hc.sum (P := fun (i : Nat) (x : Nat × Nat) => x.1 = i ∧ Inv a n x) (f := iv1 a n) (n := n) (fun i hi => ?_) (fun i j _ _ x hx hy => hx.1.symm.trans hy.1)).congr (fun x => ?_)
  · refine (ct_hc (fun j => decide (i < j) && decide (a.ap j < a.ap i)) n).bij (fun j => (i, j)) (fun x y _ _ e => congrArg Prod.snd e) (fun j hj => ?_) (fun x hx => ?_)
    · rw [Bool.and_eq_true, decide_eq_true_iff, decide_eq_true_iff] at hj
      exact ⟨rfl, hj.2.1, hj.1, hj.2.2⟩
    · obtain ⟨rfl, h1, h2, h3⟩ := hx
      refine ⟨x.2, ⟨h2, ?_⟩, rfl⟩
      rw [Bool.and_eq_true, decide_eq_true_iff, decide_eq_true_iff]
      exact ⟨h1, h3⟩
  · constructor
    · rintro ⟨i, hi, rfl, h⟩
      exact h
    · intro h
      exact ⟨x.1, by have h1 := h.1; have h2 := h.2.1; omega, rfl, h⟩
theorem iv_8 {n : Nat} {a : Pm} (ha : Sup n a) (hn : n ≤ 8) : iv a 8 = iv a n := (iv_hc a 8).uniq ((iv_hc a n).congr (fun x => by
  constructor
  · rintro ⟨h1, h2, h3⟩
    exact ⟨h1, by omega, h3⟩
  · rintro ⟨h1, h2, h3⟩
    refine ⟨h1, ?_, h3⟩
    apply Classical.byContradiction
    intro hc
    have h4 := ha x.2 (by omega)
    by_cases h5 : x.1 < n
    · have := ha.lt h5; omega
    · have := ha x.1 (by omega); omega))
/-- the swap of a point and the next -/
def sw (k : Nat) : Pm := if h : k + 1 < 8 then Pm.tr k (k + 1) (by omega) h else .one
theorem sw_ap {k : Nat} (hk : k + 1 < 8) (i : Nat) : (sw k).ap i = if i = k then k + 1 else if i = k + 1 then k else i := by
  unfold sw
  rw [dif_pos hk]
  rfl
theorem sw_sw (k : Nat) : (sw k).th (sw k) = .one := by
  by_cases hk : k + 1 < 8
  · exact Pm.ext fun i => by
      rw [Pm.ap_th, sw_ap hk, sw_ap hk, Pm.ap_one]
      by_cases h1 : i = k
      · rw [if_pos h1, if_neg (by omega), if_pos rfl, h1]
      · rw [if_neg h1]
        by_cases h2 : i = k + 1
        · rw [if_pos h2, if_pos rfl, h2]
        · rw [if_neg h2, if_neg h1, if_neg h2]
  · unfold sw
    rw [dif_neg hk]
    rfl
theorem sw_bk (k : Nat) : (sw k).bk = sw k := (Pm.bk_of (sw_sw k)).symm
theorem sw_sup {k n : Nat} (h : k + 1 < n) (hn : n ≤ 8) : Sup n (sw k) := fun i hi => by
  rw [sw_ap (by omega), if_neg (by omega), if_neg (by omega)]
theorem sw_code : ∀ k, k < 7 → mX6_swap (nI k) (nI (k + 1)) = cdf (fun i => if i = k then k + 1 else if i = k + 1 then k else i) := by decide
theorem swap_is {k : Nat} (hk : k < 7) : mX6_swap (nI k) (nI (k + 1)) = cdp (sw k) := by
  rw [sw_code k hk]
  exact cdf_congr fun i _ => (sw_ap (by omega) i).symm
/-- a swap changes one pair -/
theorem iv_sw {a : Pm} {k n : Nat} (hk : k + 1 < n) (hn : n ≤ 8) : ∃ N, iv a n = N + (if a.ap (k + 1) < a.ap k then 1 else 0) ∧ iv ((sw k).th a) n = N + (if a.ap k < a.ap (k + 1) then 1 else 0) := by
  have hk8 : k + 1 < 8 := by omega
  have s1 : (sw k).ap k = k + 1 := by rw [sw_ap hk8, if_pos rfl]
  have s2 : (sw k).ap (k + 1) = k := by rw [sw_ap hk8, if_neg (by omega), if_pos rfl]
  have s3 : ∀ i, i ≠ k → i ≠ k + 1 → (sw k).ap i = i := fun i h1 h2 => by rw [sw_ap hk8, if_neg h1, if_neg h2]
  have fin : ∀ b : Pm, ∃ N, Hc (fun x => Inv b n x ∧ x ≠ (k, k + 1)) N ∧ iv b n = N + (if b.ap (k + 1) < b.ap k then 1 else 0) := by
    intro b
    obtain ⟨N, -, hN⟩ := (iv_hc b n).filt (P := fun x => Inv b n x ∧ x ≠ (k, k + 1)) (fun x hx => hx.1)
    refine ⟨N, hN, ?_⟩
    by_cases h : b.ap (k + 1) < b.ap k
    · rw [if_pos h]
      refine (iv_hc b n).uniq ((hN.or (Hc.single (P := fun x => x = (k, k + 1)) (k, k + 1) (fun _ => Iff.rfl)) (fun x hx e => hx.2 e)).congr (fun x => ?_))
      constructor
      · rintro (hx | rfl)
        · exact hx.1
        · exact ⟨by show k < k + 1; omega, hk, h⟩
      · intro hx
        by_cases e : x = (k, k + 1)
        · exact Or.inr e
        · exact Or.inl ⟨hx, e⟩
    · rw [if_neg h]
      refine (iv_hc b n).uniq (hN.congr (fun x => ?_))
      constructor
      · exact fun hx => hx.1
      · intro hx
        refine ⟨hx, fun e => ?_⟩
        subst e
        exact h hx.2.2
  obtain ⟨N, hN, e1⟩ := fin a
  obtain ⟨N2, hN2, e2⟩ := fin ((sw k).th a)
  have : N2 = N := by
    refine hN2.uniq (hN.bij (fun x => ((sw k).ap x.1, (sw k).ap x.2)) (fun x y _ _ e => ?_) ?_ ?_)
    · have a1 := (sw k).inj (congrArg Prod.fst e)
      have a2 := (sw k).inj (congrArg Prod.snd e)
      exact Prod.ext a1 a2
    · rintro ⟨i, j⟩ ⟨⟨h1, h2, h3⟩, hne⟩
      dsimp only at h1 h2 h3 ⊢
      have hij : ¬ (i = k ∧ j = k + 1) := fun ⟨e1, e2⟩ => hne (by rw [e1, e2])
      have hss : ∀ p, ((sw k).th a).ap ((sw k).ap p) = a.ap p := fun p => by
        rw [Pm.ap_th, ← Pm.ap_th (sw k) (sw k), sw_sw]; rfl
      refine ⟨⟨?_, ?_, ?_⟩, fun e => ?_⟩
      · show (sw k).ap i < (sw k).ap j
        by_cases c1 : i = k
        · subst c1
          by_cases c2 : j = i + 1
          · exact absurd ⟨rfl, c2⟩ hij
          · rw [s1, s3 j (by omega) c2]; omega
        · by_cases c2 : i = k + 1
          · subst c2
            rw [s2, s3 j (by omega) (by omega)]; omega
          · rw [s3 i c1 c2]
            by_cases c3 : j = k
            · subst c3; rw [s1]; omega
            · by_cases c4 : j = k + 1
              · subst c4; rw [s2]; omega
              · rw [s3 j c3 c4]; exact h1
      · exact (sw_sup hk hn).lt h2
      · show ((sw k).th a).ap ((sw k).ap j) < ((sw k).th a).ap ((sw k).ap i)
        rw [hss, hss]; exact h3
      · have a1 : (sw k).ap i = k := congrArg Prod.fst e
        have a2 : (sw k).ap j = k + 1 := congrArg Prod.snd e
        have b1 : i = k + 1 := (sw k).inj (a1.trans s2.symm)
        have b2 : j = k := (sw k).inj (a2.trans s1.symm)
        omega
    · rintro ⟨i, j⟩ ⟨⟨h1, h2, h3⟩, hne⟩
      dsimp only at h1 h2 h3
      have hij : ¬ (i = k ∧ j = k + 1) := fun ⟨e1, e2⟩ => hne (by rw [e1, e2])
      have hss : ∀ p, (sw k).ap ((sw k).ap p) = p := fun p => by
        rw [← Pm.ap_th, sw_sw]; rfl
      refine ⟨((sw k).ap i, (sw k).ap j), ⟨⟨?_, ?_, ?_⟩, fun e => ?_⟩, ?_⟩
      · show (sw k).ap i < (sw k).ap j
        by_cases c1 : i = k
        · subst c1
          by_cases c2 : j = i + 1
          · exact absurd ⟨rfl, c2⟩ hij
          · rw [s1, s3 j (by omega) c2]; omega
        · by_cases c2 : i = k + 1
          · subst c2
            rw [s2, s3 j (by omega) (by omega)]; omega
          · rw [s3 i c1 c2]
            by_cases c3 : j = k
            · subst c3; rw [s1]; omega
            · by_cases c4 : j = k + 1
              · subst c4; rw [s2]; omega
              · rw [s3 j c3 c4]; exact h1
      · exact (sw_sup hk hn).lt h2
      · exact h3
      · have a1 : (sw k).ap i = k := congrArg Prod.fst e
        have a2 : (sw k).ap j = k + 1 := congrArg Prod.snd e
        have b1 : i = k + 1 := (sw k).inj (a1.trans s2.symm)
        have b2 : j = k := (sw k).inj (a2.trans s1.symm)
        omega
      · show (i, j) = ((sw k).ap ((sw k).ap i), (sw k).ap ((sw k).ap j))
        rw [hss, hss]
  subst this
  refine ⟨N2, e1, ?_⟩
  rw [e2, Pm.ap_th, Pm.ap_th, s1, s2]
theorem iv_one (n : Nat) : iv .one n = 0 := (iv_hc .one n).uniq (Hc.none (fun x h => by have h1 := h.1; have h2 : x.2 < x.1 := h.2.2; omega))
/-- what is no pair the other way round is one -/
theorem no_desc {n : Nat} {a : Pm} (ha : Sup n a) (h : ∀ k, k + 1 < n → a.ap k < a.ap (k + 1)) : a = .one := by
  have h1 : ∀ i, i < n → i ≤ a.ap i := by
    intro i
    induction i with
    | zero => intro _; omega
    | succ i ih =>
      intro hi
      have := ih (by omega)
      have := h i hi
      omega
  have h2 : ∀ d i, i + d + 1 = n → a.ap i ≤ i := by
    intro d
    induction d with
    | zero =>
      intro i hi
      have := ha.lt (show i < n by omega)
      omega
    | succ d ih =>
      intro i hi
      have := ih (i + 1) (by omega)
      have := h i (by omega)
      omega
  refine Sup.ext ha (Sup.one n) (fun i hi => ?_)
  have := h1 i hi
  have := h2 (n - 1 - i) i (by omega)
  rw [Pm.ap_one]
  omega
theorem desc {n : Nat} {a : Pm} (ha : Sup n a) (hne : a ≠ .one) : ∃ k, k + 1 < n ∧ a.ap (k + 1) < a.ap k := by
  apply Classical.byContradiction
  intro hc
  apply hne
  refine no_desc ha (fun k hk => ?_)
  rcases Nat.lt_trichotomy (a.ap k) (a.ap (k + 1)) with h | h | h
  · exact h
  · have := a.inj h; omega
  · exact absurd ⟨k, hk, h⟩ hc
theorem sw_th_th (k : Nat) (a : Pm) : (sw k).th ((sw k).th a) = a := by rw [← Pm.th_assoc, sw_sw, Pm.one_th]
theorem all_by_sw {n : Nat} (hn : n ≤ 8) {G : Pm → Prop} (hG : Grp G) (hs : ∀ k, k + 1 < n → G (sw k)) : ∀ (m : Nat) (a : Pm), Sup n a → iv a n = m → G a
  | 0, a, ha, hm => by
    by_cases e : a = .one
    · rw [e]; exact hG.1
    · obtain ⟨k, hk, hd⟩ := desc ha e
      obtain ⟨N, e1, -⟩ := iv_sw (a := a) hk hn
      rw [if_pos hd] at e1
      omega
  | m + 1, a, ha, hm => by
    by_cases e : a = .one
    · rw [e]; exact hG.1
    · obtain ⟨k, hk, hd⟩ := desc ha e
      obtain ⟨N, e1, e2⟩ := iv_sw (a := a) hk hn
      rw [if_pos hd] at e1
      rw [if_neg (by omega)] at e2
      have := all_by_sw hn hG hs m ((sw k).th a) ((sw_sup hk hn).th ha) (by omega)
      rw [← sw_th_th k a]
      exact hG.2.1 _ _ (hs k hk) this
/-- three points in a ring -/
def c3 (k : Nat) : Pm := (sw k).th (sw (k + 1))
theorem sw_two {n : Nat} {G : Pm → Prop} (hG : Grp G) (hs : ∀ k, k + 2 < n → G (c3 k)) : ∀ (d i : Nat), i + d + 1 < n → G ((sw i).th (sw (i + d)))
  | 0, i, hi => by rw [Nat.add_zero, sw_sw]; exact hG.1
  | d + 1, i, hi => by
    have h1 := sw_two hG hs d i (by omega)
    have h2 := hs (i + d) (by omega)
    have h3 := hG.2.1 _ _ h1 h2
    unfold c3 at h3
    rw [Pm.th_assoc, sw_th_th] at h3
    exact h3
theorem sw_any {n : Nat} {G : Pm → Prop} (hG : Grp G) (hs : ∀ k, k + 2 < n → G (c3 k)) {i j : Nat} (hi : i + 1 < n) (hj : j + 1 < n) : G ((sw i).th (sw j)) := by
  rcases Nat.le_total i j with h | h
  · have := sw_two hG hs (j - i) i (by omega)
    rwa [show i + (j - i) = j by omega] at this
  · have := sw_two hG hs (i - j) j (by omega)
    rw [show j + (i - j) = i by omega] at this
    have := hG.2.2 _ this
    rwa [Pm.bk_th', sw_bk, sw_bk] at this
theorem even_by_c3 {n : Nat} (hn : n ≤ 8) {G : Pm → Prop} (hG : Grp G) (hs : ∀ k, k + 2 < n → G (c3 k)) : ∀ (m : Nat) (a : Pm), Sup n a → iv a n = m → (m % 2 = 0 → G a) ∧ (m % 2 = 1 → ∀ k, k + 1 < n → G ((sw k).th a))
  | 0, a, ha, hm => by
    refine ⟨fun _ => ?_, fun h => by omega⟩
    by_cases e : a = .one
    · rw [e]; exact hG.1
    · obtain ⟨k, hk, hd⟩ := desc ha e
      obtain ⟨N, e1, -⟩ := iv_sw (a := a) hk hn
      rw [if_pos hd] at e1
      omega
  | m + 1, a, ha, hm => by
    have hne : a ≠ .one := fun e => by rw [e, iv_one] at hm; omega
    obtain ⟨d, hd, hdd⟩ := desc ha hne
    obtain ⟨N, e1, e2⟩ := iv_sw (a := a) hd hn
    rw [if_pos hdd] at e1
    rw [if_neg (by omega)] at e2
    obtain ⟨i1, i2⟩ := even_by_c3 hn hG hs m ((sw d).th a) ((sw_sup hd hn).th ha) (by omega)
    refine ⟨fun h => ?_, fun h k hk => ?_⟩
    · have := i2 (by omega) d hd
      rwa [sw_th_th] at this
    · have h1 := i1 (by omega)
      have h2 := hG.2.1 _ _ (sw_any hG hs hk hd) h1
      rwa [Pm.th_assoc, sw_th_th] at h2
theorem iv_flip {a : Pm} {k n : Nat} (hk : k + 1 < n) (hn : n ≤ 8) : iv ((sw k).th a) n % 2 = (iv a n + 1) % 2 := by
  obtain ⟨N, e1, e2⟩ := iv_sw (a := a) hk hn
  rw [e1, e2]
  rcases Nat.lt_trichotomy (a.ap k) (a.ap (k + 1)) with h | h | h
  · rw [if_pos h, if_neg (by omega)]
  · have := a.inj h; omega
  · rw [if_neg (by omega), if_pos h]; omega
/-- all turns of n points are made of swaps of a point and the next -/
theorem gen_sw {n : Nat} (hn : n ≤ 8) (a : Pm) : Gen (fun x => ∃ k, k + 1 < n ∧ x = sw k) a ↔ Sup n a := by
  constructor
  · exact Gen.least (Grp.sup n) (fun x ⟨k, hk, e⟩ => e ▸ sw_sup hk hn)
  · exact fun ha => all_by_sw hn (Gen.grp _) (fun k hk => Gen.of ⟨k, hk, rfl⟩) _ a ha rfl
/-- the even ones are made of rings of three -/
theorem gen_c3 {n : Nat} (hn : n ≤ 8) (a : Pm) : Gen (fun x => ∃ k, k + 2 < n ∧ x = c3 k) a ↔ Sup n a ∧ iv a n % 2 = 0 := by
  constructor
  · intro ha
    have hS : Sup n a := Gen.least (Grp.sup n) (fun x ⟨k, hk, e⟩ => by rw [e]; exact (sw_sup (by omega) hn).th (sw_sup (by omega) hn)) ha
    refine ⟨hS, ?_⟩
    have hM : Grp (fun b => ∀ a, iv a n % 2 = 0 → iv (b.th a) n % 2 = 0) := Grp.of_mul (fun a ha => by rw [Pm.one_th]; exact ha) (fun b c hb hc a ha => by rw [Pm.th_assoc]; exact hb _ (hc a ha))
    have := Gen.least hM (fun x ⟨k, hk, e⟩ b hb => by
      rw [e]
      unfold c3
      rw [Pm.th_assoc, iv_flip (by omega) hn]
      have := iv_flip (a := b) (k := k + 1) (n := n) (by omega) hn
      omega) ha .one (by rw [iv_one])
    rwa [Pm.th_one] at this
  · rintro ⟨h1, h2⟩
    exact (even_by_c3 hn (Gen.grp _) (fun k hk => Gen.of ⟨k, hk, rfl⟩) _ a h1 rfl).1 h2
/-! isEven of the class -/
theorem even_in (a : Pm) {i : Nat} (hi : i < 8) : ∀ (d j f acc : Nat), j + d = 8 → d < f → i < j → mX6_isEven_L14 (cdp a) (nI i) f (nI (acc + iv1 a j i)) (nI j) = some (nI (acc + iv1 a 8 i))
  | 0, j, f, acc, hj, hf, hij => by
    obtain ⟨f, rfl⟩ : ∃ g, f = g + 1 := ⟨f - 1, by omega⟩
    have : j = 8 := by omega
    subst this
    rw [mX6_isEven_L14_s, if_pos ge8]
  | d + 1, j, f, acc, hj, hf, hij => by
    obtain ⟨f, rfl⟩ : ∃ g, f = g + 1 := ⟨f - 1, by omega⟩
    have hj8 : j < 8 := by omega
    have h1 := a.ap_lt hi
    have h2 := a.ap_lt hj8
    have ih := even_in a hi d (j + 1) f acc (by omega) (by omega) (by omega)
    have hs : iv1 a (j + 1) i = iv1 a j i + (if a.ap j < a.ap i then 1 else 0) := by
      unfold iv1
      rw [ct_s]
      congr 1
      simp [hij]
    rw [mX6_isEven_L14_s, if_neg (le8 hj8), cdp_im a hi, cdp_im a hj8]
    simp only [lT]
    have e : (if nI (a.ap i) ≤ nI (a.ap j) then nI (acc + iv1 a j i) else nI (acc + iv1 a j i) + 1) = nI (acc + iv1 a (j + 1) i) := by
      rw [hs]
      by_cases h : a.ap j < a.ap i
      · rw [if_neg (nI_ge h (by omega)), if_pos h, nI_1, Nat.add_assoc]
      · rw [if_pos (nI_le (by omega) (by omega)), if_neg h, Nat.add_zero]
    rw [e, nI_1, ih]
theorem iv1_low (a : Pm) {i : Nat} : ∀ j, j ≤ i + 1 → iv1 a j i = 0
  | 0, _ => rfl
  | j + 1, h => by
    have ih := iv1_low a (i := i) j (by omega)
    unfold iv1 at ih ⊢
    rw [ct_s, ih]
    have : ¬ i < j := by omega
    simp [this]
theorem even_L (a : Pm) {F : Nat} (hF : 50000 ≤ F) : ∀ (d i f : Nat), i + d = 8 → d < f → mX6_isEven_L4 F (cdp a) f (nI (sm (iv1 a 8) i)) (nI i) = some (nI (iv a 8))
  | 0, i, f, hi, hf => by
    obtain ⟨f, rfl⟩ : ∃ g, f = g + 1 := ⟨f - 1, by omega⟩
    have : i = 8 := by omega
    subst this
    rw [mX6_isEven_L4_s, if_pos ge8]
    rfl
  | d + 1, i, f, hi, hf => by
    obtain ⟨f, rfl⟩ : ∃ g, f = g + 1 := ⟨f - 1, by omega⟩
    have ih := even_L a hF d (i + 1) f (by omega) (by omega)
    have h := even_in a (i := i) (by omega) (7 - i) (i + 1) F (sm (iv1 a 8) i) (by omega) (by omega) (by omega)
    rw [iv1_low a (i + 1) (by omega), Nat.add_zero, ← sm_s] at h
    rw [mX6_isEven_L4_s, if_neg (le8 (by omega))]
    simp only [lT]
    rw [nI_1, bd_e h, ih]
theorem iv_lt (a : Pm) : iv a 8 < 100 := by
  have h : ∀ i, i ≤ 8 → sm (iv1 a 8) i ≤ i * 8 := by
    intro i
    induction i with
    | zero => intro _; exact Nat.zero_le _
    | succ i ih =>
      intro hi
      have h1 := ih (by omega)
      have h2 : iv1 a 8 i ≤ 8 := ct_le _ 8
      rw [sm_s]
      omega
  have := h 8 (Nat.le_refl 8)
  unfold iv
  omega
theorem isEven_is (a : Pm) {F : Nat} (hF : 50000 ≤ F) : mX6_isEven F (cdp a) = some (if iv a 8 % 2 = 0 then 1 else 0) := by
  unfold mX6_isEven
  have h8 := iv_lt a
  rw [bd_e (show mX6_isEven_L4 F (cdp a) F 0 0 = _ from even_L a hF 8 0 F (by omega) (by omega)), pk_andN (by omega) 1 (by decide)]
  have h2 : iv a 8 % 2 ^ 1 = iv a 8 % 2 := rfl
  rw [h2]
  by_cases h : iv a 8 % 2 = 0
  · rw [if_pos h, if_pos (by rw [h]; rfl)]
  · rw [if_neg h, if_neg (show ¬ nI (iv a 8 % 2) = (0 : Int32) from fun e => h ((nI_eq (b := 0) (by omega) (by omega)).mp e))]
