/-! ===== sets of points as numbers ===== -/
theorem sh_1 : ∀ i, i < 32 → ((nI i &&& 31).toBitVec.smod 32).toNat = i := by decide
theorem one_shl {p : Nat} (hp : p < 31) : (1 : Int32) <<< (nI p &&& 31) = nI (2 ^ p) := by
  have h1 : 2 ^ p < 2 ^ 31 := Nat.pow_lt_pow_right (by decide) hp
  have := pk_shlN (n := 1) (nI p &&& 31) p (sh_1 p (by omega)) (by omega)
  rw [Nat.one_mul] at this
  exact this
theorem bit_is {s p : Nat} (hs : s < 2 ^ 31) (hp : p < 31) : ((nI s >>> (nI p &&& 31)) &&& 1) = if s.testBit p then 1 else 0 := by
  rw [pk_shrN hs _ p (sh_1 p (by omega)), pk_andN (by have := Nat.div_le_self s (2 ^ p); omega) 1 (by decide)]
  have h1 : s.testBit p = decide (s / 2 ^ p % 2 = 1) := Nat.testBit_eq_decide_div_mod_eq
  rw [h1]
  have h2 : s / 2 ^ p % 2 < 2 := Nat.mod_lt _ (by decide)
  by_cases h : s / 2 ^ p % 2 = 1
  · rw [h]; rfl
  · have h3 : s / 2 ^ p % 2 = 0 := by omega
    rw [show 2 ^ 1 = 2 from rfl, h3]; rfl
def bsn (p : Nat → Bool) : Nat → Nat
  | 0 => 0
  | n + 1 => bsn p n ||| (if p n then 2 ^ n else 0)
theorem bsn_s (p : Nat → Bool) (n : Nat) : bsn p (n + 1) = bsn p n ||| (if p n then 2 ^ n else 0) := rfl
theorem bsn_bit (p : Nat → Bool) : ∀ n j, (bsn p n).testBit j = (decide (j < n) && p j)
  | 0, j => by simp [bsn]
  | n + 1, j => by
    rw [bsn_s, Nat.testBit_or, bsn_bit p n j]
    by_cases h : j = n
    · subst h
      cases hp : p j <;> simp
    · have h1 : (if p n then 2 ^ n else 0).testBit j = false := by
        split
        · exact Nat.testBit_two_pow_of_ne (by omega)
        · exact Nat.zero_testBit j
      rw [h1]
      by_cases h2 : j < n
      · have h3 : j < n + 1 := by omega
        simp [h2, h3]
      · have h3 : ¬ j < n + 1 := by omega
        simp [h2, h3]
theorem bsn_lt (p : Nat → Bool) : ∀ n, bsn p n < 2 ^ n
  | 0 => Nat.one_pos
  | n + 1 => by
    rw [bsn_s]
    have h1 := bsn_lt p n
    have h2 : 2 ^ n < 2 ^ (n + 1) := Nat.pow_lt_pow_right (by decide) (by omega)
    apply Nat.or_lt_two_pow
    · omega
    · split <;> omega
theorem set_ext {s t : Nat} (hs : s < 256) (ht : t < 256) (h : ∀ j, j < 8 → s.testBit j = t.testBit j) : s = t := by
  apply Nat.eq_of_testBit_eq
  intro j
  by_cases hj : j < 8
  · exact h j hj
  · rw [tb_low (k := 8) hs (by omega), tb_low (k := 8) ht (by omega)]
theorem set_lt {s p : Nat} (hs : s < 256) (h : s.testBit p = true) : p < 8 := by
  apply Classical.byContradiction
  intro hc
  rw [tb_low (k := 8) hs (by omega)] at h
  cases h
theorem bc_is : ∀ s, s < 256 → mJ6_bitCount_0f7a4 (nI s) = nI (ct s.testBit 8) := by decide +kernel
theorem tb_set (s p j : Nat) : (s ||| 2 ^ p).testBit j = (s.testBit j || decide (j = p)) := by
  rw [Nat.testBit_or]
  by_cases h : p = j
  · subst h; simp
  · have h2 : ¬ j = p := fun e => h e.symm
    simp [Nat.testBit_two_pow_of_ne h, h2]
theorem set_put {s p : Nat} (hs : s < 256) (hp : p < 8) : s ||| 2 ^ p < 256 := by
  have h1 : 2 ^ p < 2 ^ 8 := Nat.pow_lt_pow_right (by decide) hp
  exact Nat.or_lt_two_pow (n := 8) hs h1
/-- where a turn carries a set -/
def ims (a : Pm) (s : Nat) : Nat := bsn (fun j => s.testBit (a.pa j)) 8
theorem ims_lt (a : Pm) (s : Nat) : ims a s < 256 := bsn_lt _ 8
theorem ims_bit (a : Pm) (s : Nat) {j : Nat} (hj : j < 8) : (ims a s).testBit j = s.testBit (a.pa j) := by
  unfold ims
  rw [bsn_bit]
  simp [hj]
theorem ims_L (a : Pm) {s : Nat} (hs : s < 256) : ∀ (d i f : Nat), i + d = 8 → d < f → mX4_imageOfSet_L4 (cdp a) (nI s) f (nI (bsn (fun j => s.testBit (a.pa j) && decide (a.pa j < i)) 8)) (nI i) = some (nI (ims a s))
  | 0, i, f, hi, hf => by
    obtain ⟨f, rfl⟩ : ∃ g, f = g + 1 := ⟨f - 1, by omega⟩
    have : i = 8 := by omega
    subst this
    rw [mX4_imageOfSet_L4_s, if_pos ge8]
    refine congrArg (fun x => some (nI x)) (set_ext (bsn_lt _ 8) (ims_lt a s) fun j hj => ?_)
    rw [bsn_bit, ims_bit a s hj]
    simp [hj, a.pa_lt hj]
  | d + 1, i, f, hi, hf => by
    obtain ⟨f, rfl⟩ : ∃ g, f = g + 1 := ⟨f - 1, by omega⟩
    have ih := ims_L a hs d (i + 1) f (by omega) (by omega)
    rw [mX4_imageOfSet_L4_s, if_neg (le8 (by omega)), bit_is (by omega) (by omega), cdp_im a (by omega), one_shl (by have := a.ap_lt (show i < 8 by omega); omega), ni_or, nI_1]
    simp only [lT]
    have e : (if (if s.testBit i = true then (1 : Int32) else 0) = 1 then nI (bsn (fun j => s.testBit (a.pa j) && decide (a.pa j < i)) 8 ||| 2 ^ a.ap i) else nI (bsn (fun j => s.testBit (a.pa j) && decide (a.pa j < i)) 8)) = nI (bsn (fun j => s.testBit (a.pa j) && decide (a.pa j < i + 1)) 8) := by
      cases hb : s.testBit i with
      | true =>
        rw [if_pos rfl]
        refine congrArg nI (set_ext (set_put (bsn_lt _ 8) (a.ap_lt (by omega))) (bsn_lt _ 8) fun j hj => ?_)
        rw [tb_set, bsn_bit, bsn_bit]
        by_cases h1 : j = a.ap i
        · subst h1; simp [a.pa_ap, hb, hj]
        · have h3 : a.pa j ≠ i := fun e => h1 (a.pa_eq.mp e)
          have h4 : (a.pa j < i + 1) ↔ a.pa j < i := by omega
          simp [h1, h4]
      | false =>
        rw [if_neg (by decide)]
        refine congrArg nI (set_ext (bsn_lt _ 8) (bsn_lt _ 8) fun j hj => ?_)
        rw [bsn_bit, bsn_bit]
        by_cases h1 : a.pa j = i
        · rw [h1, hb]; simp
        · have h4 : (a.pa j < i + 1) ↔ a.pa j < i := by omega
          simp [h4]
    rw [e, ih]
theorem ims_is {F : Nat} (hF : 50000 ≤ F) (a : Pm) {s : Nat} (hs : s < 256) : mX4_imageOfSet F (cdp a) (nI s) = some (nI (ims a s)) := by
  unfold mX4_imageOfSet
  have h := ims_L a hs 8 0 F (by omega) (by omega)
  rw [show bsn (fun j => s.testBit (a.pa j) && decide (a.pa j < 0)) 8 = 0 from set_ext (bsn_lt _ 8) (by decide) fun j hj => by rw [bsn_bit]; simp] at h
  rw [bd_e (show mX4_imageOfSet_L4 (cdp a) (nI s) F 0 0 = _ from h)]
theorem ni_b {b : Bool} : ((if b then (1 : Int32) else 0) = 1) ↔ b = true := by cases b <;> decide
theorem ni_b0 {b : Bool} : ((if b then (1 : Int32) else 0) = 0) ↔ b = false := by cases b <;> decide
theorem inb_n {i n : Nat} (h : i < n) (hn : n < 2 ^ 31) : inb (nI i) n = true := inb_of (vp_in_nI h hn)
theorem cl_n {i : Nat} (h : i < 2 ^ 31) : (nI i).toNatClampNeg = i := nI_clamp h
theorem reaches_is {reach : Nat → Int32} {R : Nat → Nat} (hr : ∀ i, i < 8 → reach i = nI (R i)) (hR : ∀ i, i < 8 → R i < 256) {l p : Nat} (hl : l < 8) (hp : p < 31) : mX4_reaches reach (nI l) (nI p) = some (if (R l).testBit p then 1 else 0) := by
  unfold mX4_reaches
  have h1 := hR l hl
  rw [gd_t (inb_n hl (by omega)), cl_n (by omega), hr l hl, bit_is (by omega) hp]
  cases (R l).testBit p <;> rfl
theorem cell_is {l p : Nat} : mX4_cellOf (nI l) (nI p) = nI (8 * l + p) := by
  unfold mX4_cellOf
  rw [show (8 : Int32) = nI 8 from rfl, pk_mul, nI_add, Nat.mul_comm]
theorem level_is {l p : Nat} (hl : l < 8) (hp : p < 8) : mX4_levelOf (nI (8 * l + p)) = nI l := by
  unfold mX4_levelOf
  rw [show (8 : Int32) = nI 8 from rfl, pk_div (by omega) (by omega) (by omega)]
  congr 1
  omega
