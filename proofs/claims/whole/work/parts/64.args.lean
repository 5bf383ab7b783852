/-! ===== arguments, and what both sides say of them ===== -/
theorem arg_rng (N : Nat) (hN : N < 2 ^ 30) (z : Int32) : (∃ j, j < N ∧ z = nI j) ∨ z < 0 ∨ (¬ z < 0 ∧ nI N ≤ z) := by
  by_cases h : z < 0
  · exact Or.inr (Or.inl h)
  · rcases pk_ix z (n := N) (by omega) with h1 | h1 | h1
    · exact absurd h1 h
    · exact Or.inr (Or.inr ⟨h, h1⟩)
    · exact Or.inl h1
theorem le_lt {N : Nat} (hN : N < 2 ^ 30) {z : Int32} (h : nI N ≤ z) : nI N - 1 < z := by
  have h1 : (nI N - 1).toInt = (N : Int) - 1 := pk_sub_toInt (b := 1) (by omega) (by omega)
  have h2 : (nI N).toInt = N := nI_toInt (by omega)
  rw [Int32.le_iff_toInt_le, h2] at h
  rw [Int32.lt_iff_toInt_lt, h1]
  omega
theorem isIn_is {N : Nat} (hN : N < 2 ^ 30) (z : Int32) : ((∃ j, j < N ∧ z = nI j) ∧ mX7_isIn z 0 (nI N - 1) = 1) ∨ (¬ (∃ j, j < N ∧ z = nI j) ∧ mX7_isIn z 0 (nI N - 1) = 0) := by
  unfold mX7_isIn
  rcases arg_rng N hN z with ⟨j, hj, rfl⟩ | h | ⟨h, h2⟩
  · left
    refine ⟨⟨j, hj, rfl⟩, ?_⟩
    rw [if_neg (nI_pos (by omega)), nI_m1 (by omega), if_neg (nI_nlt (by omega) (by omega))]
  · right
    refine ⟨fun ⟨j, hj, e⟩ => ?_, by rw [if_pos h]⟩
    rw [e] at h
    exact nI_pos (by omega) h
  · right
    refine ⟨fun ⟨j, hj, e⟩ => ?_, by rw [if_neg h, if_pos (le_lt hN h2)]⟩
    rw [e] at h2
    exact nI_ge hj (by omega) h2
theorem below_is {N : Nat} (hN : N < 2 ^ 30) (z : Int32) : ((∃ j, j < N ∧ z = nI j) ∧ (if z < 0 then (0 : Int32) else (if nI N ≤ z then (0 : Int32) else 1)) = 1) ∨ (¬ (∃ j, j < N ∧ z = nI j) ∧ (if z < 0 then (0 : Int32) else (if nI N ≤ z then (0 : Int32) else 1)) = 0) := by
  rcases arg_rng N hN z with ⟨j, hj, rfl⟩ | h | ⟨h, h2⟩
  · left
    refine ⟨⟨j, hj, rfl⟩, ?_⟩
    rw [if_neg (nI_pos (by omega)), if_neg (nI_ge hj (by omega))]
  · right
    refine ⟨fun ⟨j, hj, e⟩ => ?_, by rw [if_pos h]⟩
    rw [e] at h
    exact nI_pos (by omega) h
  · right
    refine ⟨fun ⟨j, hj, e⟩ => ?_, by rw [if_neg h, if_pos h2]⟩
    rw [e] at h2
    exact nI_ge hj (by omega) h2
/-- both sides say the same of an argument: it is a number below N, or it is refused -/
theorem grp_arg {g : Nat} (hg : g ≤ 10) (z : Int32) : ((∃ j, j < g ∧ z = nI j) ∧ mX6_isGroup (nI g) z = 1 ∧ mX7_isGroup (nI g) z = some 1) ∨ (mX6_isGroup (nI g) z = 0 ∧ mX7_isGroup (nI g) z = some 0) := by
  unfold mX7_isGroup mX6_isGroup
  rcases below_is (N := g) (by omega) z with ⟨h, e⟩ | ⟨h, e⟩
  · rcases isIn_is (N := g) (by omega) z with ⟨_, e2⟩ | ⟨h2, _⟩
    · exact Or.inl ⟨h, e, by rw [e2, gd_t isb_1]⟩
    · exact absurd h h2
  · rcases isIn_is (N := g) (by omega) z with ⟨h2, _⟩ | ⟨_, e2⟩
    · exact absurd h2 h
    · exact Or.inr ⟨e, by rw [e2, gd_t isb_0]⟩
theorem pt_arg {n : Nat} (hn : n ≤ 8) (z : Int32) : ((∃ j, j < n ∧ z = nI j) ∧ mX6_isPoint (nI n) z = 1 ∧ mX7_isIn z 0 (nI n - 1) = 1) ∨ (mX6_isPoint (nI n) z = 0 ∧ mX7_isIn z 0 (nI n - 1) = 0) := by
  unfold mX6_isPoint
  rcases below_is (N := n) (by omega) z with ⟨h, e⟩ | ⟨h, e⟩
  · rcases isIn_is (N := n) (by omega) z with ⟨_, e2⟩ | ⟨h2, _⟩
    · exact Or.inl ⟨h, e, e2⟩
    · exact absurd h h2
  · rcases isIn_is (N := n) (by omega) z with ⟨h2, _⟩ | ⟨_, e2⟩
    · exact absurd h2 h
    · exact Or.inr ⟨e, e2⟩
theorem set_arg {n : Nat} (hn : n ≤ 8) (z : Int32) : ((∃ s, s < 2 ^ n ∧ z = nI s) ∧ mX6_isSet (nI n) z = 1 ∧ mX7_isIn z 0 ((1 <<< (nI n &&& 31)) - 1) = 1) ∨ (mX6_isSet (nI n) z = 0 ∧ mX7_isIn z 0 ((1 <<< (nI n &&& 31)) - 1) = 0) := by
  have h2 : 2 ^ n ≤ 2 ^ 8 := Nat.pow_le_pow_right (by decide) hn
  unfold mX6_isSet
  rw [one_shl (by omega)]
  rcases below_is (N := 2 ^ n) (by omega) z with ⟨h, e⟩ | ⟨h, e⟩
  · rcases isIn_is (N := 2 ^ n) (by omega) z with ⟨_, e2⟩ | ⟨h2, _⟩
    · exact Or.inl ⟨h, e, e2⟩
    · exact absurd h h2
  · rcases isIn_is (N := 2 ^ n) (by omega) z with ⟨h2, _⟩ | ⟨_, e2⟩
    · exact absurd h2 h
    · exact Or.inr ⟨e, e2⟩
theorem sh_arg (z : Int32) : ((∃ j, j < 8 ∧ z = nI j) ∧ mX6_isShelfPlace z = 1 ∧ mX7_isIn z 0 7 = 1) ∨ (mX6_isShelfPlace z = 0 ∧ mX7_isIn z 0 7 = 0) := by
  unfold mX6_isShelfPlace
  have e7 : (7 : Int32) = nI 8 - 1 := by decide
  rw [e7]
  rcases below_is (N := 8) (by omega) z with ⟨h, e⟩ | ⟨h, e⟩
  · rcases isIn_is (N := 8) (by omega) z with ⟨_, e2⟩ | ⟨h2, _⟩
    · exact Or.inl ⟨h, e, e2⟩
    · exact absurd h h2
  · rcases isIn_is (N := 8) (by omega) z with ⟨h2, _⟩ | ⟨_, e2⟩
    · exact absurd h2 h
    · exact Or.inr ⟨e, e2⟩
/-- a way: 0 .. m - 1 -/
theorem way_arg {m : Nat} (hm : 1 ≤ m) (hm2 : m < 100) (z : Int32) : ((∃ j, j < m ∧ z = nI j) ∧ ¬ z < 0 ∧ ¬ nI (m - 1) < z ∧ mX7_isIn z 0 (nI (m - 1)) = 1) ∨ ((z < 0 ∨ (¬ z < 0 ∧ nI (m - 1) < z)) ∧ mX7_isIn z 0 (nI (m - 1)) = 0) := by
  have e := nI_m1 (n := m) hm
  rw [← e]
  rcases isIn_is (N := m) (by omega) z with ⟨⟨j, hj, rfl⟩, e2⟩ | ⟨h, e2⟩
  · exact Or.inl ⟨⟨j, hj, rfl⟩, nI_pos (by omega), by rw [e]; exact nI_nlt (by omega) (by omega), e2⟩
  · refine Or.inr ⟨?_, e2⟩
    rcases arg_rng m (by omega) z with h1 | h1 | ⟨h1, h2⟩
    · exact absurd h1 h
    · exact Or.inl h1
    · exact Or.inr ⟨h1, le_lt (by omega) h2⟩
/-! ===== the two states, and the one that both stand for ===== -/
def RlA (n g : Nat) (c : Pm) (sh : Nat → Pm) (GS : Nat → Pm → Prop) (shelf : Nat → Int32) (np ng cur : Int32) (tw : Nat → TW) (rn rmany : Int32) (image : Nat → Int32) (rturn : Int32) (rshelf : Nat → Int32) (rgroups : Int32) (inn : Nat → Int32) : Prop :=
  ((2 ≤ n ∧ n ≤ 8) ∧ g ≤ 10 ∧ Sup n c ∧ (∀ k, k < 8 → Sup n (sh k)) ∧ ∀ a, a < g → Grp (GS a) ∧ ∀ x, GS a x → Sup n x) ∧
  (np = nI n ∧ ng = nI g ∧ cur = cdp c ∧ (∀ k, k < 8 → shelf k = cdp (sh k)) ∧ ∀ a, a < g → ∃ mq, TG mq (tw a) ∧ ∀ x, GL mq x ↔ GS a x) ∧
  (rn = nI n ∧ rmany = nI (fac n) ∧ Tbl n image ∧ rturn = nI (rk n c) ∧ (∀ k, k < 8 → rshelf k = nI (rk n (sh k))) ∧ rgroups = nI g ∧ ∀ a, a < g → RS n inn a (GS a))
def Rl (shelf : Nat → Int32) (np ng cur : Int32) (tw : Nat → TW) (rn rmany : Int32) (image : Nat → Int32) (rturn : Int32) (rshelf : Nat → Int32) (rgroups : Int32) (inn : Nat → Int32) : Prop := ∃ n g c sh GS, RlA n g c sh GS shelf np ng cur tw rn rmany image rturn rshelf rgroups inn
section CALLS
variable {F : Nat} {shelf : Nat → Int32} {np ng cur : Int32} {tw : Nat → TW} {rn rmany : Int32} {image : Nat → Int32} {rturn : Int32} {rshelf : Nat → Int32} {rgroups : Int32} {inn : Nat → Int32}
/-- another turn at hand -/
theorem RlA.turn {n g : Nat} {c : Pm} {sh : Nat → Pm} {GS : Nat → Pm → Prop} (h : RlA n g c sh GS shelf np ng cur tw rn rmany image rturn rshelf rgroups inn) {c2 : Pm} (hc : Sup n c2) : Rl shelf np ng (cdp c2) tw rn rmany image (nI (rk n c2)) rshelf rgroups inn := by
  obtain ⟨⟨a1, a2, a3, a4, a5⟩, ⟨b1, b2, b3, b4, b5⟩, c1, c2', c3, c4, c5, c6, c7⟩ := h
  exact ⟨n, g, c2, sh, GS, ⟨a1, a2, hc, a4, a5⟩, ⟨b1, b2, rfl, b4, b5⟩, c1, c2', c3, rfl, c5, c6, c7⟩
theorem fillR_L (v : Int32) : ∀ (d i f : Nat) (row : Nat → Int32), i + d = 8 → d < f → (∀ k, k < i → row k = v) → ∃ r2, mJ7_fill_53178_L5 v 8 f (nI i) row = some r2 ∧ ∀ k, k < 8 → r2 k = v
  | 0, i, f, row, hi, hf, h => by
    obtain ⟨f, rfl⟩ : ∃ g, f = g + 1 := ⟨f - 1, by omega⟩
    have : i = 8 := by omega
    subst this
    exact ⟨row, by rw [mJ7_fill_53178_L5_s, if_pos ge8], h⟩
  | d + 1, i, f, row, hi, hf, h => by
    obtain ⟨f, rfl⟩ : ∃ g, f = g + 1 := ⟨f - 1, by omega⟩
    obtain ⟨r2, e, h2⟩ := fillR_L v d (i + 1) f (upd row i v) (by omega) (by omega) (fun k hk => by
      by_cases e : k = i
      · subst e; exact pk_us
      · rw [pk_un e]; exact h k (by omega))
    exact ⟨r2, by rw [mJ7_fill_53178_L5_s, if_neg (le8 (by omega)), gd_t (inb_n (by omega) (by omega)), cl_n (by omega), lT_x, nI_1]; exact e, h2⟩
theorem shelf0_L : ∀ (d i f : Nat) (row : Nat → Int32), i + d = 8 → d < f → (∀ k, k < i → row k = 0) → ∃ r2, mX7_points_L35 f (nI i) row = some r2 ∧ ∀ k, k < 8 → r2 k = 0
  | 0, i, f, row, hi, hf, h => by
    obtain ⟨f, rfl⟩ : ∃ g, f = g + 1 := ⟨f - 1, by omega⟩
    have : i = 8 := by omega
    subst this
    exact ⟨row, by rw [mX7_points_L35_s, if_pos ge8], h⟩
  | d + 1, i, f, row, hi, hf, h => by
    obtain ⟨f, rfl⟩ : ∃ g, f = g + 1 := ⟨f - 1, by omega⟩
    obtain ⟨r2, e, h2⟩ := shelf0_L d (i + 1) f (upd row i 0) (by omega) (by omega) (fun k hk => by
      by_cases e : k = i
      · subst e; exact pk_us
      · rw [pk_un e]; exact h k (by omega))
    exact ⟨r2, by rw [mX7_points_L35_s, if_neg (le8 (by omega)), gd_t (inb_n (by omega) (by omega)), cl_n (by omega), lT_x, nI_1]; exact e, h2⟩
/-- the start with n points, on both sides -/
theorem begin_rl (hF : 50000 ≤ F) {n : Nat} (h2 : 2 ≤ n) (h8 : n ≤ 8) (z many : Int32) (im sh1 sh2 : Nat → Int32) (p q r : Int32) : ∃ s1 s2 i2, mX6_beginWith F sh1 p q r (nI n) = some (s1, nI n, 0, 1985229328) ∧ mX7_points_L35 F 0 sh2 = some s2 ∧ mX7_layAll F (nI n) many im = some (nI (fac n), i2) ∧ Rl s1 (nI n) 0 1985229328 tw (nI n) (nI (fac n)) i2 0 s2 0 inn := by
  obtain ⟨s1, e1, f1⟩ := fillR_L 1985229328 8 0 F sh1 (by omega) (by omega) (fun k hk => by omega)
  obtain ⟨s2, e2, f2⟩ := shelf0_L 8 0 F sh2 (by omega) (by omega) (fun k hk => by omega)
  obtain ⟨i2, e3, hT⟩ := layAll_is hF h8 many im
  refine ⟨s1, s2, i2, ?_, e2, e3, n, 0, .one, fun _ => .one, fun _ _ => True, ⟨⟨h2, h8⟩, by omega, Sup.one n, fun _ _ => Sup.one n, fun a ha => by omega⟩, ⟨rfl, rfl, cdp_one.symm, fun k hk => (f1 k hk).trans cdp_one.symm, fun a ha => by omega⟩, rfl, rfl, hT, by rw [rk_one]; rfl, fun k hk => by rw [rk_one]; exact f2 k hk, rfl, fun a ha => by omega⟩
  unfold mX6_beginWith mJ7_fill_53178
  rw [bd_e (show mJ7_fill_53178_L5 1985229328 8 F 0 sh1 = _ from e1), bd_s]
theorem call_points (hF : 50000 ≤ F) (h : Rl shelf np ng cur tw rn rmany image rturn rshelf rgroups inn) (z : Int32) : ∃ v s1 p1 g1 c1 n1 m1 i1 t1 s2 g2, mX6_points F shelf np ng cur z = some (v, s1, p1, g1, c1) ∧ mX7_points F rn rmany image rturn rshelf rgroups z = some (v, n1, m1, i1, t1, s2, g2) ∧ Rl s1 p1 g1 c1 tw n1 m1 i1 t1 s2 g2 inn := by
  have h0 := h
  obtain ⟨n, g, c, sh, GS, ⟨⟨a0, a1⟩, a2, a3, a4, a5⟩, ⟨b1, b2, b3, b4, b5⟩, c1, c2, c3, c4, c5, c6, c7⟩ := h
  unfold mX6_points mX7_points mX7_isIn
  rcases arg_rng 9 (by omega) z with ⟨j, hj, rfl⟩ | hz | ⟨hz, hz2⟩
  · by_cases h2 : 2 ≤ j
    · obtain ⟨s1, s2, i2, e1, e2, e3, hr⟩ := begin_rl (tw := tw) (inn := inn) hF h2 (show j ≤ 8 by omega) 0 rmany image shelf rshelf np ng cur
      refine ⟨ng, s1, nI j, 0, 1985229328, nI j, nI (fac j), i2, 0, s2, 0, ?_, ?_, hr⟩
      · rw [if_neg (show ¬ nI j < (2 : Int32) from nI_nlt (b := 2) h2 (by omega)), if_pos (show nI j ≤ (8 : Int32) from nI_le (b := 8) (by omega) (by omega)), bd4_e e1]
      · rw [if_neg (show ¬ nI j < (2 : Int32) from nI_nlt (b := 2) h2 (by omega)), if_neg (show ¬ (8 : Int32) < nI j from nI_nlt (a := 8) (by omega) (by omega)), if_neg (by decide), bd_e e2, bd2_e e3, b2, c6]
    · refine ⟨-2, shelf, np, ng, cur, rn, rmany, image, rturn, rshelf, rgroups, ?_, ?_, h0⟩
      · rw [if_pos (show nI j < (2 : Int32) from nI_lt (b := 2) (by omega) (by omega))]
      · rw [if_pos (show nI j < (2 : Int32) from nI_lt (b := 2) (by omega) (by omega)), if_pos rfl]
  · have hz2 : z < 2 := by
      rw [Int32.lt_iff_toInt_lt] at hz ⊢
      have h1 : (0 : Int32).toInt = 0 := rfl
      have h2 : (2 : Int32).toInt = 2 := rfl
      omega
    refine ⟨-2, shelf, np, ng, cur, rn, rmany, image, rturn, rshelf, rgroups, ?_, ?_, h0⟩
    · rw [if_pos hz2]
    · rw [if_pos hz2, if_pos rfl]
  · have h8 : (8 : Int32) < z := le_lt (N := 9) (by omega) hz2
    have h8' : ¬ z ≤ 8 := by
      rw [Int32.lt_iff_toInt_lt] at h8
      rw [Int32.le_iff_toInt_le]
      omega
    have h2 : ¬ z < 2 := by
      rw [Int32.lt_iff_toInt_lt] at h8 ⊢
      have h1 : (8 : Int32).toInt = 8 := rfl
      have h2 : (2 : Int32).toInt = 2 := rfl
      omega
    refine ⟨-2, shelf, np, ng, cur, rn, rmany, image, rturn, rshelf, rgroups, ?_, ?_, h0⟩
    · rw [if_neg h2, if_neg h8']
    · rw [if_neg h2, if_pos h8, if_pos rfl]
theorem call_to (h : Rl shelf np ng cur tw rn rmany image rturn rshelf rgroups inn) (z : Int32) : ∃ v, mX6_to np cur z = v ∧ mX7_to rn image rturn z = some v := by
  obtain ⟨n, g, c, sh, GS, ⟨⟨a0, a1⟩, a2, a3, a4, a5⟩, ⟨b1, b2, b3, b4, b5⟩, c1, c2, c3, c4, c5, c6, c7⟩ := h
  unfold mX6_to mX7_to
  rw [b1, b3, c1, c4]
  rcases pt_arg a1 z with ⟨⟨j, hj, rfl⟩, e1, e2⟩ | ⟨e1, e2⟩
  · have hx := rk_ix a1 a3 hj
    refine ⟨nI (c.ap j), ?_, ?_⟩
    · rw [e1, if_neg (by decide), cdp_im c (by omega)]
    · rw [e2, if_neg (by decide), ix8, gd_t (inb_n hx (by omega)), cl_n (by omega), c3.get a1 a3 hj]
  · exact ⟨-2, by rw [e1, if_pos rfl], by rw [e2, if_pos rfl]⟩
theorem call_lay (h : Rl shelf np ng cur tw rn rmany image rturn rshelf rgroups inn) (z : Int32) : ∃ v s1 s2, mX6_lay shelf cur z = some (v, s1) ∧ mX7_lay rturn rshelf z = some (v, s2) ∧ Rl s1 np ng cur tw rn rmany image rturn s2 rgroups inn := by
  have h0 := h
  obtain ⟨n, g, c, sh, GS, ⟨⟨a0, a1⟩, a2, a3, a4, a5⟩, ⟨b1, b2, b3, b4, b5⟩, c1, c2, c3, c4, c5, c6, c7⟩ := h
  unfold mX6_lay mX7_lay
  rcases sh_arg z with ⟨⟨j, hj, rfl⟩, e1, e2⟩ | ⟨e1, e2⟩
  · refine ⟨1, upd shelf j cur, upd rshelf j rturn, ?_, ?_, n, g, c, fun k => if k = j then c else sh k, GS, ⟨⟨a0, a1⟩, a2, a3, fun k hk => ?_, a5⟩, ⟨b1, b2, b3, fun k hk => ?_, b5⟩, c1, c2, c3, c4, fun k hk => ?_, c6, c7⟩
    · rw [e1, if_neg (by decide), gd_t (inb_n hj (by omega)), cl_n (by omega), lT_x]
    · rw [e2, if_neg (by decide), gd_t (inb_n hj (by omega)), cl_n (by omega), lT_x]
    · dsimp only
      split
      · exact a3
      · exact a4 k hk
    · dsimp only
      by_cases e : k = j
      · subst e; rw [pk_us, if_pos rfl]; exact b3
      · rw [pk_un e, if_neg e]; exact b4 k hk
    · dsimp only
      by_cases e : k = j
      · subst e; rw [pk_us, if_pos rfl]; exact c4
      · rw [pk_un e, if_neg e]; exact c5 k hk
  · exact ⟨-2, shelf, rshelf, by rw [e1, if_pos rfl], by rw [e2, if_pos rfl], h0⟩
theorem call_take (h : Rl shelf np ng cur tw rn rmany image rturn rshelf rgroups inn) (z : Int32) : ∃ v c1 t1, mX6_take shelf cur z = some (v, c1) ∧ mX7_take rturn rshelf z = some (v, t1) ∧ Rl shelf np ng c1 tw rn rmany image t1 rshelf rgroups inn := by
  have h0 := h
  obtain ⟨n, g, c, sh, GS, hA⟩ := h
  have hA' := hA
  obtain ⟨⟨⟨a0, a1⟩, a2, a3, a4, a5⟩, ⟨b1, b2, b3, b4, b5⟩, c1, c2, c3, c4, c5, c6, c7⟩ := hA
  unfold mX6_take mX7_take
  rcases sh_arg z with ⟨⟨j, hj, rfl⟩, e1, e2⟩ | ⟨e1, e2⟩
  · refine ⟨1, _, _, ?_, ?_, hA'.turn (a4 j hj)⟩
    · rw [e1, if_neg (by decide), gd_t (inb_n hj (by omega)), cl_n (by omega), lT_x, b4 j hj]
    · rw [e2, if_neg (by decide), gd_t (inb_n hj (by omega)), cl_n (by omega), lT_x, c5 j hj]
  · exact ⟨-2, cur, rturn, by rw [e1, if_pos rfl], by rw [e2, if_pos rfl], h0⟩
theorem call_then (hF : 50000 ≤ F) (h : Rl shelf np ng cur tw rn rmany image rturn rshelf rgroups inn) (now : Nat → Int32) (z : Int32) : ∃ v c1 t1 now1, mX6_then F shelf cur z = some (v, c1) ∧ mX7_then F rn image rturn rshelf now z = some (v, t1, now1) ∧ Rl shelf np ng c1 tw rn rmany image t1 rshelf rgroups inn := by
  have h0 := h
  obtain ⟨n, g, c, sh, GS, hA⟩ := h
  have hA' := hA
  obtain ⟨⟨⟨a0, a1⟩, a2, a3, a4, a5⟩, ⟨b1, b2, b3, b4, b5⟩, c1, c2, c3, c4, c5, c6, c7⟩ := hA
  unfold mX6_then mX7_then
  rcases sh_arg z with ⟨⟨j, hj, rfl⟩, e1, e2⟩ | ⟨e1, e2⟩
  · obtain ⟨now1, e3⟩ := oneThen_is hF c3 a1 a3 (a4 j hj) now
    refine ⟨1, _, _, now1, ?_, ?_, hA'.turn (a3.th (a4 j hj))⟩
    · rw [e1, if_neg (by decide), gd_t (inb_n hj (by omega)), cl_n (by omega), b4 j hj, b3, bd_e (chain_is hF _ _)]
    · rw [e2, if_neg (by decide), gd_t (inb_n hj (by omega)), cl_n (by omega), c5 j hj, c4, c1, bd2_e e3]
  · exact ⟨-2, cur, rturn, now, by rw [e1, if_pos rfl], by rw [e2, if_pos rfl], h0⟩
theorem call_back (hF : 50000 ≤ F) (h : Rl shelf np ng cur tw rn rmany image rturn rshelf rgroups inn) (now : Nat → Int32) : ∃ v c1 t1 now1, mX6_back F cur = some (v, c1) ∧ mX7_back F rn image rturn now = some (v, t1, now1) ∧ Rl shelf np ng c1 tw rn rmany image t1 rshelf rgroups inn := by
  obtain ⟨n, g, c, sh, GS, hA⟩ := h
  have hA' := hA
  obtain ⟨⟨⟨a0, a1⟩, a2, a3, a4, a5⟩, ⟨b1, b2, b3, b4, b5⟩, c1, c2, c3, c4, c5, c6, c7⟩ := hA
  obtain ⟨k, ⟨hk0, hk⟩, hl⟩ := c.times
  obtain ⟨o1, e1⟩ := orderOf_is hF c3 a1 a3 hk0 hk hl now
  obtain ⟨o2, e2⟩ := backOf_is hF c3 a1 a3 o1
  refine ⟨nI k, _, _, o2, ?_, ?_, hA'.turn a3.bk⟩
  · unfold mX6_back
    rw [b3, bd_e (times_is hF c hk0 hk hl), bd_e (reverse_is hF c)]
  · unfold mX7_back
    rw [c1, c4, bd2_e e1, bd2_e e2]
theorem call_undo (h : Rl shelf np ng cur tw rn rmany image rturn rshelf rgroups inn) : ∃ v g1 g2, mX6_undo ng = (v, g1) ∧ mX7_undo rgroups = (v, g2) ∧ Rl shelf np g1 cur tw rn rmany image rturn rshelf g2 inn := by
  have h0 := h
  obtain ⟨n, g, c, sh, GS, ⟨⟨a0, a1⟩, a2, a3, a4, a5⟩, ⟨b1, b2, b3, b4, b5⟩, c1, c2, c3, c4, c5, c6, c7⟩ := h
  unfold mX6_undo mX7_undo
  rw [b2, c6]
  by_cases e : g = 0
  · subst e
    refine ⟨-1, nI 0, nI 0, by rw [if_pos nI_0], by rw [if_pos nI_0], n, 0, c, sh, GS, ⟨⟨a0, a1⟩, a2, a3, a4, a5⟩, ⟨b1, rfl, b3, b4, b5⟩, c1, c2, c3, c4, c5, rfl, c7⟩
  · have hne : ¬ nI g = 0 := nI_ne0 (by omega) (by omega)
    have e1 : nI g - 1 = nI (g - 1) := nI_m1 (by omega)
    refine ⟨nI (g - 1), nI (g - 1), nI (g - 1), by rw [if_neg hne, lT_x, e1], by rw [if_neg hne, lT_x, e1], n, g - 1, c, sh, GS, ⟨⟨a0, a1⟩, by omega, a3, a4, fun a ha => a5 a (by omega)⟩, ⟨b1, rfl, b3, b4, fun a ha => b5 a (by omega)⟩, c1, c2, c3, c4, c5, rfl, fun a ha => c7 a (by omega)⟩
theorem fx_8 {n : Nat} (hn : n ≤ 8) {x : Pm} (hx : Sup n x) : fx x 8 = fx x n + (8 - n) := by
  refine (ct_hc _ 8).uniq ?_
  have c1 := ct_hc (fun i => decide (x.ap i = i)) n
  have c2 : Hc (fun i => n ≤ i ∧ i < 8) (8 - n) := (hc_below (8 - n)).bij (fun i => n + i) (fun i j _ _ e => by omega) (fun i hi => by omega) (fun i hi => ⟨i - n, by omega, by omega⟩)
  refine (c1.or c2 (fun i hi hj => by omega)).congr (fun i => ?_)
  constructor
  · rintro (⟨h1, h2⟩ | ⟨h1, h2⟩)
    · exact ⟨by omega, h2⟩
    · exact ⟨h2, decide_eq_true (hx i h1)⟩
  · rintro ⟨h1, h2⟩
    by_cases hi : i < n
    · exact Or.inl ⟨hi, h2⟩
    · exact Or.inr ⟨by omega, h1⟩
theorem call_count (hF : 50000 ≤ F) (h : Rl shelf np ng cur tw rn rmany image rturn rshelf rgroups inn) (z : Int32) : ∃ v, mX6_count F np ng cur z = some v ∧ mX7_count F rn image rturn rgroups z = some v := by
  obtain ⟨n, g, c, sh, GS, ⟨⟨a0, a1⟩, a2, a3, a4, a5⟩, ⟨b1, b2, b3, b4, b5⟩, c1, c2, c3, c4, c5, c6, c7⟩ := h
  unfold mX6_count mX7_count
  rw [b1, b2, b3, c1, c4, c6]
  by_cases h0 : z = 0
  · exact ⟨nI n, by rw [if_pos h0], by rw [if_pos h0]⟩
  · rw [if_neg h0, if_neg h0]
    by_cases h1 : z = 1
    · exact ⟨nI g, by rw [if_pos h1], by rw [if_pos h1]⟩
    · rw [if_neg h1, if_neg h1]
      by_cases h2 : z = 2
      · rw [if_pos h2, if_pos h2]
        refine ⟨nI (fx c n), ?_, by rw [bd_e (stillIn_is hF c3 a1 a3)]⟩
        rw [bd_e (left_is hF c), show (8 : Int32) = nI 8 from rfl, pk_sub a1, fx_8 a1 a3, pk_sub (by omega), Nat.add_sub_cancel]
      · rw [if_neg h2, if_neg h2]
        by_cases h3 : z = 3
        · rw [if_pos h3, if_pos h3, bd_e (isEven_is c hF), bd_e (isEvenR_is hF c3 a1 a3), iv_8 a3 a1]
          by_cases he : iv c n % 2 = 0
          · exact ⟨1, by rw [if_pos he]; rfl, by rw [if_pos he]; rfl⟩
          · exact ⟨0, by rw [if_neg he]; rfl, by rw [if_neg he]; rfl⟩
        · exact ⟨-2, by rw [if_neg h3], by rw [if_neg h3]⟩
end CALLS
