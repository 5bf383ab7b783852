/-! ===== the reference's numbers of turns: their places in order ===== -/
/-- the values below v that none of the first i has -/
def fre (p : Nat → Nat) (i v : Nat) : Bool := decide (∀ k, k < i → p k ≠ v)
theorem fre_iff {p : Nat → Nat} {i v : Nat} : fre p i v = true ↔ ∀ k, k < i → p k ≠ v := decide_eq_true_iff
def lp (p : Nat → Nat) (i : Nat) : Nat := ct (fre p i) (p i)
def hp (p : Nat → Nat) (n : Nat) : Nat → Nat
  | 0 => 0
  | i + 1 => hp p n i * (n - i) + lp p i
theorem hp_s (p : Nat → Nat) (n i : Nat) : hp p n (i + 1) = hp p n i * (n - i) + lp p i := rfl
theorem fre_congr {p q : Nat → Nat} {i : Nat} (h : ∀ k, k < i → p k = q k) (v : Nat) : fre p i v = fre q i v := by
  have : (∀ k, k < i → p k ≠ v) ↔ (∀ k, k < i → q k ≠ v) := ⟨fun a k hk => by rw [← h k hk]; exact a k hk, fun a k hk => by rw [h k hk]; exact a k hk⟩
  unfold fre
  exact decide_eq_decide.mpr this
theorem lp_congr {p q : Nat → Nat} {i : Nat} (h : ∀ k, k ≤ i → p k = q k) : lp p i = lp q i := by
  unfold lp
  rw [h i (Nat.le_refl i)]
  exact ct_congr fun v _ => fre_congr (fun k hk => h k (by omega)) v
theorem hp_congr {p q : Nat → Nat} {n : Nat} : ∀ {i : Nat}, (∀ k, k < i → p k = q k) → hp p n i = hp q n i
  | 0, _ => rfl
  | i + 1, h => by rw [hp_s, hp_s, hp_congr (i := i) (fun k hk => h k (by omega)), lp_congr (fun k hk => h k (by omega))]
/-- the place of a turn of n points -/
def rk (n : Nat) (a : Pm) : Nat := hp a.ap n n
theorem lp_hc (a : Pm) {n i : Nat} (ha : Sup n a) (hi : i < n) : Hc (fun j => j < n ∧ i < j ∧ a.ap j < a.ap i) (lp a.ap i) := by
  refine (ct_hc (fre a.ap i) (a.ap i)).bij a.pa (fun x y _ _ e => by rw [← a.ap_pa x, e, a.ap_pa]) (fun v hv => ?_) (fun j hj => ?_)
  · have hv2 := fre_iff.mp hv.2
    have hvn : v < n := by have := ha.lt hi; omega
    refine ⟨ha.palt hvn, ?_, by rw [a.ap_pa]; exact hv.1⟩
    rcases Nat.lt_trichotomy i (a.pa v) with h | h | h
    · exact h
    · have : a.ap i = v := by rw [h, a.ap_pa]
      omega
    · exact absurd (a.ap_pa v) (hv2 _ h)
  · refine ⟨a.ap j, ⟨hj.2.2, fre_iff.mpr (fun k hk e => ?_)⟩, (a.pa_ap j).symm⟩
    have := a.inj e
    omega
theorem lp_iv (a : Pm) {n i : Nat} (ha : Sup n a) (hi : i < n) : iv1 a n i = lp a.ap i := (ct_hc _ n).uniq ((lp_hc a ha hi).congr (fun j => by rw [Bool.and_eq_true, decide_eq_true_iff, decide_eq_true_iff]))
theorem iv1_le (a : Pm) {i : Nat} : ∀ (d n : Nat), i + 1 + d = n → iv1 a n i ≤ d
  | 0, n, h => by rw [iv1_low a n (by omega)]; omega
  | d + 1, n, h => by
    obtain ⟨m, rfl⟩ : ∃ m, n = m + 1 := ⟨n - 1, by omega⟩
    have ih := iv1_le a (i := i) d m (by omega)
    unfold iv1 at ih ⊢
    rw [ct_s]
    split <;> omega
theorem lp_lt (a : Pm) {n i : Nat} (ha : Sup n a) (hi : i < n) : lp a.ap i < n - i := by
  rw [← lp_iv a ha hi]
  have := iv1_le a (i := i) (n - 1 - i) n (by omega)
  omega
theorem fac_pos : ∀ n, 0 < fac n
  | 0 => Nat.one_pos
  | n + 1 => Nat.mul_pos (Nat.succ_pos n) (fac_pos n)
theorem fac_mono {m n : Nat} (h : m ≤ n) : fac m ≤ fac n := by
  obtain ⟨d, rfl⟩ : ∃ d, n = m + d := ⟨n - m, by omega⟩
  clear h
  induction d with
  | zero => exact Nat.le_refl _
  | succ d ih =>
    have h1 : fac (m + d + 1) = (m + d + 1) * fac (m + d) := rfl
    have h2 : 1 * fac (m + d) ≤ (m + d + 1) * fac (m + d) := Nat.mul_le_mul_right _ (by omega)
    rw [← Nat.add_assoc, h1]
    omega
theorem fac_8 {n : Nat} (h : n ≤ 8) : fac n ≤ 40320 := fac_mono h
theorem rk_step (a : Pm) {n : Nat} (ha : Sup n a) : ∀ i, i ≤ n → (hp a.ap n i + 1) * fac (n - i) ≤ fac n
  | 0, _ => by
    rw [hp, Nat.zero_add, Nat.one_mul]
    exact Nat.le_refl _
  | i + 1, h => by
    have ih := rk_step a ha i (by omega)
    have h1 := lp_lt a ha (show i < n by omega)
    obtain ⟨m, hm⟩ : ∃ m, n - i = m + 1 := ⟨n - i - 1, by omega⟩
    have h2 : n - (i + 1) = m := by omega
    rw [hm] at ih h1
    rw [hp_s, h2, hm]
    have h3 : fac (m + 1) = (m + 1) * fac m := rfl
    rw [h3, ← Nat.mul_assoc] at ih
    refine Nat.le_trans (Nat.mul_le_mul_right _ ?_) ih
    rw [Nat.add_mul, Nat.one_mul]
    omega
theorem rk_lt (a : Pm) {n : Nat} (ha : Sup n a) : rk n a < fac n := by
  have h := rk_step a ha n (Nat.le_refl n)
  rw [Nat.sub_self] at h
  have h0 : fac 0 = 1 := rfl
  rw [h0, Nat.mul_one] at h
  exact h
theorem lp_less {a b : Pm} {n i : Nat} (ha : Sup n a) (hb : Sup n b) (hi : i < n) (h : ∀ j, j < i → a.ap j = b.ap j) (hlt : a.ap i < b.ap i) : lp a.ap i < lp b.ap i := by
  have c1 := ct_hc (fre a.ap i) (a.ap i)
  have c2 := ct_hc (fre b.ap i) (b.ap i)
  have := (c1.or (Hc.single (P := fun v => v = a.ap i) (a.ap i) (fun _ => Iff.rfl)) (fun v hv e => by omega)).le c2 (fun v hv => by
    rcases hv with ⟨h1, h2⟩ | rfl
    · exact ⟨by omega, by rw [← fre_congr h]; exact h2⟩
    · refine ⟨hlt, fre_iff.mpr (fun k hk e => ?_)⟩
      rw [← h k hk] at e
      have := a.inj e
      omega)
  unfold lp
  omega
theorem rk_mono {a b : Pm} {n : Nat} (hn : n ≤ 8) (ha : Sup n a) (hb : Sup n b) (h : Lx a b) : rk n a < rk n b := by
  obtain ⟨i, hi8, h1, h2⟩ := h
  have hi : i < n := by
    apply Classical.byContradiction
    intro hc
    rw [ha i (by omega), hb i (by omega)] at h2
    omega
  have key : ∀ d, i + 1 + d ≤ n → hp a.ap n (i + 1 + d) < hp b.ap n (i + 1 + d) := by
    intro d
    induction d with
    | zero =>
      intro _
      rw [Nat.add_zero, hp_s, hp_s, hp_congr (p := a.ap) (q := b.ap) h1]
      have := lp_less ha hb hi h1 h2
      omega
    | succ d ih =>
      intro hd
      have ih := ih (by omega)
      have l1 := lp_lt a ha (show i + 1 + d < n by omega)
      rw [← Nat.add_assoc, hp_s, hp_s]
      have : (hp a.ap n (i + 1 + d) + 1) * (n - (i + 1 + d)) ≤ hp b.ap n (i + 1 + d) * (n - (i + 1 + d)) := Nat.mul_le_mul_right _ ih
      rw [Nat.add_mul, Nat.one_mul] at this
      omega
  have := key (n - 1 - i) (by omega)
  rwa [show i + 1 + (n - 1 - i) = n by omega] at this
theorem rk_inj {a b : Pm} {n : Nat} (hn : n ≤ 8) (ha : Sup n a) (hb : Sup n b) (h : rk n a = rk n b) : a = b := by
  rcases Lx.total a b with h1 | h1 | h1
  · have := rk_mono hn ha hb h1; omega
  · exact h1
  · have := rk_mono hn hb ha h1; omega
theorem rk_Lx {a b : Pm} {n : Nat} (hn : n ≤ 8) (ha : Sup n a) (hb : Sup n b) : rk n a < rk n b ↔ Lx a b := by
  refine ⟨fun h => ?_, rk_mono hn ha hb⟩
  rcases Lx.total a b with h1 | h1 | h1
  · exact h1
  · rw [h1] at h; omega
  · have := rk_mono hn hb ha h1; omega
theorem rk_one (n : Nat) : rk n .one = 0 := by
  have : ∀ i, i ≤ n → hp Pm.one.ap n i = 0 := by
    intro i
    induction i with
    | zero => intro _; rfl
    | succ i ih =>
      intro hi
      rw [hp_s, ih (by omega), ← lp_iv .one (Sup.one n) (show i < n by omega), Nat.zero_mul, Nat.zero_add]
      exact (ct_hc _ n).uniq (Hc.none (fun j hj => by
        rw [Bool.and_eq_true, decide_eq_true_iff, decide_eq_true_iff, Pm.ap_one, Pm.ap_one] at hj
        omega))
  exact this n (Nat.le_refl n)
theorem rk_0 {a : Pm} {n : Nat} (hn : n ≤ 8) (ha : Sup n a) : rk n a = 0 ↔ a = .one := ⟨fun h => rk_inj hn ha (Sup.one n) (h.trans (rk_one n).symm), fun h => h ▸ rk_one n⟩
/-- a row without two alike is a turn -/
theorem mkPm {n : Nat} (hn : n ≤ 8) (p : Nat → Nat) (h1 : ∀ i, i < n → p i < n) (h2 : ∀ i j, i < j → j < n → p i ≠ p j) : ∃ a : Pm, Sup n a ∧ ∀ i, i < n → a.ap i = p i := by
  have honto : ∀ y, y < n → ∃ i, i < n ∧ p i = y := by
    intro y hy
    apply Classical.byContradiction
    intro hc
    have := pg_holes n (n + 1) (fun i => if i < n then p i else y) (fun i hi => by
      show (if i < n then p i else y) < n
      split
      · exact h1 i (by assumption)
      · exact hy) (fun i j hij hj => by
      show (if i < n then p i else y) ≠ (if j < n then p j else y)
      rw [if_pos (by omega)]
      split
      · exact h2 i j hij (by assumption)
      · exact fun e => hc ⟨i, by omega, e⟩)
    omega
  have hinj : ∀ i j, i < n → j < n → p i = p j → i = j := by
    intro i j hi hj e
    rcases Nat.lt_trichotomy i j with h | h | h
    · exact absurd e (h2 i j h hj)
    · exact h
    · exact absurd e.symm (h2 j i h hi)
  have hq : ∀ y, ∃ i, (y < n → i < n ∧ p i = y) ∧ (n ≤ y → i = y) := fun y => by
    by_cases hy : y < n
    · obtain ⟨i, hi⟩ := honto y hy
      exact ⟨i, fun _ => hi, fun h => by omega⟩
    · exact ⟨y, fun h => absurd h hy, fun _ => rfl⟩
  let q : Nat → Nat := fun y => (hq y).choose
  have hqs : ∀ y, (y < n → q y < n ∧ p (q y) = y) ∧ (n ≤ y → q y = y) := fun y => (hq y).choose_spec
  refine ⟨⟨(fun i => if i < n then p i else i, q), fun i => ?_, fun i => ?_, fun i hi => if_neg (by omega)⟩, fun i hi => if_neg (by omega), fun i hi => if_pos hi⟩
  · show q (if i < n then p i else i) = i
    by_cases hi : i < n
    · rw [if_pos hi]
      obtain ⟨a1, a2⟩ := (hqs (p i)).1 (h1 i hi)
      exact hinj _ _ a1 hi a2
    · rw [if_neg hi]
      exact (hqs i).2 (by omega)
  · show (if q i < n then p (q i) else q i) = i
    by_cases hi : i < n
    · obtain ⟨a1, a2⟩ := (hqs i).1 hi
      rw [if_pos a1, a2]
    · rw [(hqs i).2 (by omega), if_neg hi]
/-! layAll -/
theorem lT_x {α β : Type} (x : α) (f : α → β) : lT x f = f x := rfl
theorem product_L {k : Nat} (hk : k ≤ 8) : ∀ (d i f : Nat), i + d = k + 1 → d < f → mX7_product_L4 (nI k) f (nI (fac (i - 1))) (nI i) = some (nI (fac k)) ∨ i = 0
  | 0, i, f, hi, hf => by
    obtain ⟨f, rfl⟩ : ∃ g, f = g + 1 := ⟨f - 1, by omega⟩
    left
    have : i = k + 1 := by omega
    subst this
    rw [mX7_product_L4_s, if_pos (nI_lt (by omega) (by omega)), Nat.add_sub_cancel]
  | d + 1, i, f, hi, hf => by
    obtain ⟨f, rfl⟩ : ∃ g, f = g + 1 := ⟨f - 1, by omega⟩
    by_cases h0 : i = 0
    · exact Or.inr h0
    · left
      rcases product_L hk d (i + 1) f (by omega) (by omega) with h | h
      · rw [mX7_product_L4_s, if_neg (nI_nlt (by omega) (by omega))]
        simp only [lT]
        obtain ⟨j, rfl⟩ : ∃ j, i = j + 1 := ⟨i - 1, by omega⟩
        have e : nI (fac (j + 1 - 1)) * nI (j + 1) = nI (fac (j + 1 + 1 - 1)) := by
          rw [pk_mul]
          congr 1
          rw [Nat.add_sub_cancel, Nat.add_sub_cancel, Nat.mul_comm]
          rfl
        rw [e, nI_1, h]
      · omega
theorem product_is {F : Nat} (hF : 50000 ≤ F) {k : Nat} (hk : k ≤ 8) : mX7_product F (nI k) = some (nI (fac k)) := by
  unfold mX7_product
  by_cases h : k = 0
  · subst h
    obtain ⟨f, rfl⟩ : ∃ g, F = g + 1 := ⟨F - 1, by omega⟩
    rw [mX7_product_L4_s, if_pos (by decide)]
    rfl
  · rcases product_L hk (k - 1) 2 F (by omega) (by omega) with h | h
    · rw [bd_e (show mX7_product_L4 (nI k) F 1 2 = _ from h)]
    · omega
/-- the next free point with so many free ones below it -/
theorem nextFree {u L n : Nat} (hu : u < 2 ^ 31) (hn : n ≤ 8) (hL : L < ct (fun v => !u.testBit v) n) : ∀ (d p f : Nat), p + d = n → d < f → ct (fun v => !u.testBit v) p ≤ L → ∃ q, q < n ∧ u.testBit q = false ∧ ct (fun v => !u.testBit v) q = L ∧ mX7_layAll_L65 (nI u) f (nI (L - ct (fun v => !u.testBit v) p)) (nI p) = some (nI q)
  | 0, p, f, hp, hf, hle => by
    have : p = n := by omega
    subst this
    omega
  | d + 1, p, f, hp, hf, hle => by
    obtain ⟨f, rfl⟩ : ∃ g, f = g + 1 := ⟨f - 1, by omega⟩
    have hcl := ct_le (fun v => !u.testBit v) n
    rw [mX7_layAll_L65_s, bit_is hu (by omega)]
    cases hb : u.testBit p with
    | true =>
      have hs : ct (fun v => !u.testBit v) (p + 1) = ct (fun v => !u.testBit v) p := by rw [ct_s, hb]; rfl
      obtain ⟨q, a1, a2, a3, a4⟩ := nextFree hu hn hL d (p + 1) f (by omega) (by omega) (by omega)
      refine ⟨q, a1, a2, a3, ?_⟩
      rw [if_pos (show (if true = true then (1 : Int32) else 0) = 1 from rfl), lT_x, lT_x]
      rw [if_neg (show ¬ (if true = true then (1 : Int32) else 0) = 0 from by decide), nI_1, show (0 : Int32) = nI 0 from rfl, pk_sub (Nat.zero_le _), Nat.sub_zero, ← hs]
      exact a4
    | false =>
      have hs : ct (fun v => !u.testBit v) (p + 1) = ct (fun v => !u.testBit v) p + 1 := by rw [ct_s, hb]; rfl
      rw [if_neg (show ¬ (if false = true then (1 : Int32) else 0) = 1 from by decide)]
      by_cases h0 : ct (fun v => !u.testBit v) p = L
      · refine ⟨p, by omega, hb, h0, ?_⟩
        rw [h0, Nat.sub_self, if_pos (by decide)]
      · obtain ⟨q, a1, a2, a3, a4⟩ := nextFree hu hn hL d (p + 1) f (by omega) (by omega) (by omega)
        refine ⟨q, a1, a2, a3, ?_⟩
        rw [if_neg (nI_nle (by omega) (by omega)), lT_x, lT_x]
        rw [if_pos (show (if false = true then (1 : Int32) else 0) = 0 from rfl), show (1 : Int32) = nI 1 from rfl, pk_sub (by omega), show nI p + nI 1 = nI (p + 1) from nI_1 p, Nat.sub_sub, ← hs]
        exact a4
