/-! ===== turns as ints: four bits for each point ===== -/
theorem ni_or (a b : Nat) : nI a ||| nI b = nI (a ||| b) := by
  apply Int32.toBitVec_inj.1
  show BitVec.ofNat 32 a ||| BitVec.ofNat 32 b = BitVec.ofNat 32 (a ||| b)
  apply BitVec.eq_of_getLsbD_eq
  intro i hi
  simp [hi]
theorem ni_xor (a b : Nat) : nI a ^^^ nI b = nI (a ^^^ b) := by
  apply Int32.toBitVec_inj.1
  show BitVec.ofNat 32 a ^^^ BitVec.ofNat 32 b = BitVec.ofNat 32 (a ^^^ b)
  apply BitVec.eq_of_getLsbD_eq
  intro i hi
  simp [hi]
theorem ni_and (a b : Nat) : nI a &&& nI b = nI (a &&& b) := by
  apply Int32.toBitVec_inj.1
  show BitVec.ofNat 32 a &&& BitVec.ofNat 32 b = BitVec.ofNat 32 (a &&& b)
  apply BitVec.eq_of_getLsbD_eq
  intro i hi
  simp [hi]
def nbl (h : Nat → Nat) : Nat → Nat
  | 0 => 0
  | k + 1 => 2 ^ (4 * k) * h k + nbl h k
theorem nbl_s (h : Nat → Nat) (k : Nat) : nbl h (k + 1) = 2 ^ (4 * k) * h k + nbl h k := rfl
theorem nbl_lt {h : Nat → Nat} : ∀ {k : Nat}, (∀ i, i < k → h i < 16) → nbl h k < 2 ^ (4 * k)
  | 0, _ => Nat.one_pos
  | k + 1, hh => by
    have ih := nbl_lt (h := h) (k := k) (fun i hi => hh i (by omega))
    have h1 := hh k (by omega)
    have h2 : 2 ^ (4 * (k + 1)) = 2 ^ (4 * k) * 16 := by rw [show 4 * (k + 1) = 4 * k + 4 from by omega, Nat.pow_add]
    rw [nbl_s, h2]
    have h3 : 2 ^ (4 * k) * h k + 2 ^ (4 * k) ≤ 2 ^ (4 * k) * 16 := by
      rw [← Nat.mul_succ]
      exact Nat.mul_le_mul_left _ h1
    omega
theorem nbl_bit {h : Nat → Nat} : ∀ {k : Nat}, (∀ i, i < k → h i < 16) → ∀ b, (nbl h k).testBit b = (decide (b < 4 * k) && (h (b / 4)).testBit (b % 4))
  | 0, _, b => by simp [nbl]
  | k + 1, hh, b => by
    have ih := nbl_bit (h := h) (k := k) (fun i hi => hh i (by omega)) b
    rw [nbl_s, Nat.testBit_two_pow_mul_add _ (nbl_lt (fun i hi => hh i (by omega)))]
    by_cases hb : b < 4 * k
    · rw [if_pos hb, ih]
      have h1 : b < 4 * (k + 1) := by omega
      simp [hb, h1]
    · rw [if_neg hb]
      by_cases hb2 : b < 4 * (k + 1)
      · have h1 : b / 4 = k := by omega
        have h2 : b % 4 = b - 4 * k := by omega
        rw [h1, h2]
        simp [hb2]
      · have h1 : (h k).testBit (b - 4 * k) = false := by
          apply Nat.testBit_lt_two_pow
          have h2 := hh k (by omega)
          have h3 : 2 ^ 4 ≤ 2 ^ (b - 4 * k) := Nat.pow_le_pow_right (by decide) (by omega)
          omega
        rw [h1]
        simp [hb2]
theorem nbl_congr {h g : Nat → Nat} : ∀ {k : Nat}, (∀ i, i < k → h i = g i) → nbl h k = nbl g k
  | 0, _ => rfl
  | k + 1, hh => by rw [nbl_s, nbl_s, nbl_congr (k := k) (fun i hi => hh i (by omega)), hh k (by omega)]
/-- below eight, at each of the eight places -/
def B8 (h : Nat → Nat) : Prop := ∀ i, i < 8 → h i < 8
theorem nbl_31 {h : Nat → Nat} (hh : B8 h) : nbl h 8 < 2 ^ 31 := by
  have h1 := nbl_lt (h := h) (k := 7) (fun i hi => by have := hh i (by omega); omega)
  have h2 := hh 7 (by omega)
  rw [nbl_s]
  omega
theorem nbl_b8 {h : Nat → Nat} (hh : B8 h) (b : Nat) : (nbl h 8).testBit b = (decide (b < 32) && (h (b / 4)).testBit (b % 4)) := nbl_bit (k := 8) (fun i hi => by have := hh i hi; omega) b
def cdf (h : Nat → Nat) : Int32 := nI (nbl h 8)
theorem cdf_congr {h g : Nat → Nat} (e : ∀ i, i < 8 → h i = g i) : cdf h = cdf g := by unfold cdf; rw [nbl_congr e]
theorem sh_4 : ∀ i, i < 8 → ((nI (4 * i) &&& 31).toBitVec.smod 32).toNat = 4 * i := by decide
theorem sh_4' (i : Nat) : (4 : Int32) * nI i = nI (4 * i) := pk_mul 4 i
theorem tb_low {x k b : Nat} (h : x < 2 ^ k) (hb : k ≤ b) : x.testBit b = false := Nat.testBit_lt_two_pow (Nat.lt_of_lt_of_le h (Nat.pow_le_pow_right (by decide) hb))
theorem cdf_at {h : Nat → Nat} (hh : B8 h) {i : Nat} (hi : i < 8) : (cdf h >>> (nI (4 * i) &&& 31)) &&& 7 = nI (h i) := by
  unfold cdf
  have h0 := nbl_31 hh
  rw [pk_shrN h0 _ (4 * i) (sh_4 i hi), pk_andN (by have := Nat.div_le_self (nbl h 8) (2 ^ (4 * i)); omega) 3 (by decide)]
  congr 1
  apply Nat.eq_of_testBit_eq
  intro b
  rw [Nat.testBit_mod_two_pow, Nat.testBit_div_two_pow, nbl_b8 hh]
  by_cases hb : b < 3
  · have h1 : (b + 4 * i) / 4 = i := by omega
    have h2 : (b + 4 * i) % 4 = b := by omega
    have h3 : b + 4 * i < 32 := by omega
    rw [h1, h2]
    simp [hb, h3]
  · rw [tb_low (k := 3) (hh i hi) (by omega)]
    simp [hb]
theorem cdf_im {h : Nat → Nat} (hh : B8 h) {i : Nat} (hi : i < 8) : mX6_image (cdf h) (nI i) = nI (h i) := by
  unfold mX6_image
  rw [sh_4', cdf_at hh hi]
theorem cdf_put {h : Nat → Nat} (hh : B8 h) {j x : Nat} (hj : j < 8) (hx : x < 8) (h0 : h j = 0) : cdf h ||| (nI x <<< (nI (4 * j) &&& 31)) = cdf (fun i => if i = j then x else h i) := by
  unfold cdf
  have hg : B8 (fun i => if i = j then x else h i) := fun i hi => by
    show (if i = j then x else h i) < 8
    split
    · exact hx
    · exact hh i hi
  have hp : 2 ^ (4 * j) ≤ 2 ^ 28 := Nat.pow_le_pow_right (by decide) (by omega)
  have hq : x * 2 ^ (4 * j) ≤ 7 * 2 ^ 28 := Nat.mul_le_mul (by omega) hp
  rw [pk_shlN _ (4 * j) (sh_4 j hj) (by omega), ni_or]
  congr 1
  apply Nat.eq_of_testBit_eq
  intro b
  rw [Nat.testBit_or, nbl_b8 hh, nbl_b8 hg, Nat.testBit_mul_two_pow]
  by_cases hb : b / 4 = j
  · have h1 : 4 * j ≤ b := by omega
    have h2 : b - 4 * j = b % 4 := by omega
    have h3 : b < 32 := by omega
    simp only [hb, if_true, h0, h2]
    simp [h1, h3]
  · simp only [hb, if_false]
    by_cases h1 : 4 * j ≤ b
    · rw [tb_low (k := 3) hx (by omega)]
      simp
    · simp [h1]
theorem cdf_flip {h : Nat → Nat} (hh : B8 h) {j x y : Nat} (hj : j < 8) (hx : x < 8) (hy : y < 8) (h0 : h j = x) : cdf h ^^^ ((nI x ^^^ nI y) <<< (nI (4 * j) &&& 31)) = cdf (fun i => if i = j then y else h i) := by
  unfold cdf
  have hg : B8 (fun i => if i = j then y else h i) := fun i hi => by
    show (if i = j then y else h i) < 8
    split
    · exact hy
    · exact hh i hi
  have hz : x ^^^ y < 2 ^ 3 := Nat.xor_lt_two_pow hx hy
  have hp : 2 ^ (4 * j) ≤ 2 ^ 28 := Nat.pow_le_pow_right (by decide) (by omega)
  have hq : (x ^^^ y) * 2 ^ (4 * j) ≤ 7 * 2 ^ 28 := Nat.mul_le_mul (by omega) hp
  rw [ni_xor, pk_shlN _ (4 * j) (sh_4 j hj) (by omega), ni_xor]
  congr 1
  apply Nat.eq_of_testBit_eq
  intro b
  rw [Nat.testBit_xor, nbl_b8 hh, nbl_b8 hg, Nat.testBit_mul_two_pow]
  by_cases hb : b / 4 = j
  · have h1 : 4 * j ≤ b := by omega
    have h2 : b - 4 * j = b % 4 := by omega
    have h3 : b < 32 := by omega
    simp only [hb, if_true, h0, h2, Nat.testBit_xor]
    simp only [h1, h3, decide_true, Bool.true_and]
    cases x.testBit (b % 4) <;> cases y.testBit (b % 4) <;> rfl
  · simp only [hb, if_false]
    by_cases h1 : 4 * j ≤ b
    · rw [tb_low (k := 3) hz (by omega)]
      simp
    · simp [h1]
theorem cdf_inj {h g : Nat → Nat} (hh : B8 h) (hg : B8 g) (e : cdf h = cdf g) {i : Nat} (hi : i < 8) : h i = g i := by
  have h1 := cdf_at hh hi
  rw [e, cdf_at hg hi] at h1
  have h2 := hh i hi
  have h3 := hg i hi
  exact ((nI_eq (by omega) (by omega)).mp h1).symm
/-- a turn as an int -/
def cdp (a : Pm) : Int32 := cdf a.ap
theorem Pm.b8 (a : Pm) : B8 a.ap := fun _ h => a.ap_lt h
theorem cdp_im (a : Pm) {i : Nat} (hi : i < 8) : mX6_image (cdp a) (nI i) = nI (a.ap i) := cdf_im a.b8 hi
theorem cdp_at (a : Pm) {i : Nat} (hi : i < 8) : (cdp a >>> (nI (4 * i) &&& 31)) &&& 7 = nI (a.ap i) := cdf_at a.b8 hi
theorem cdp_inj {a b : Pm} (e : cdp a = cdp b) : a = b := Pm.ext8 fun _ hi => cdf_inj a.b8 b.b8 e hi
theorem cdp_eq {a b : Pm} : cdp a = cdp b ↔ a = b := ⟨cdp_inj, fun h => h ▸ rfl⟩
theorem cdp_one : cdp .one = 1985229328 := by decide
theorem cdp_is1 {a : Pm} : cdp a = 1985229328 ↔ a = .one := by rw [← cdp_one, cdp_eq]
theorem cdf_0 : cdf (fun _ => 0) = 0 := by decide
theorem cdp_ne0 (a : Pm) : cdp a ≠ 0 := fun e => by
  have e2 : cdf a.ap = cdf (fun _ => 0) := by rw [cdf_0]; exact e
  have h0 := cdf_inj (g := fun _ => 0) a.b8 (fun _ _ => by show 0 < 8; omega) e2 (i := 0) (by omega)
  have h1 := cdf_inj (g := fun _ => 0) a.b8 (fun _ _ => by show 0 < 8; omega) e2 (i := 1) (by omega)
  have := a.inj (h0.trans h1.symm)
  omega
theorem le8 {i : Nat} (h : i < 8) : ¬ (8 : Int32) ≤ nI i := nI_ge (b := 8) h (by omega)
theorem ge8 : (8 : Int32) ≤ nI 8 := by decide
theorem lt8' : ∀ i, i < 8 → ¬ (32 : Int32) ≤ nI (4 * i) := by decide
theorem ni4 (i : Nat) : nI (4 * i) + 4 = nI (4 * (i + 1)) := by rw [show (4 : Int32) = nI 4 from rfl, nI_add]; congr 1
/-- one turn then another -/
theorem chain_L (a b : Pm) : ∀ (d i f : Nat), i + d = 8 → d < f → mX6_chain_L4 (cdp a) (cdp b) f (cdf (fun k => if k < i then b.ap (a.ap k) else 0)) (nI (4 * i)) = some (cdp (a.th b))
  | 0, i, f, hi, hf => by
    obtain ⟨f, rfl⟩ : ∃ g, f = g + 1 := ⟨f - 1, by omega⟩
    have : i = 8 := by omega
    subst this
    rw [mX6_chain_L4_s, if_pos (by decide)]
    refine congrArg some (cdf_congr fun k hk => ?_)
    rw [if_pos hk]
    rfl
  | d + 1, i, f, hi, hf => by
    obtain ⟨f, rfl⟩ : ∃ g, f = g + 1 := ⟨f - 1, by omega⟩
    have ih := chain_L a b d (i + 1) f (by omega) (by omega)
    rw [mX6_chain_L4_s, if_neg (lt8' i (by omega))]
    simp only [lT]
    rw [cdp_at a (by omega), sh_4', cdp_at b (a.ap_lt (by omega)), cdf_put (fun k hk => by
      show (if k < i then b.ap (a.ap k) else 0) < 8
      split
      · exact b.ap_lt (a.ap_lt hk)
      · omega) (by omega) (b.ap_lt (a.ap_lt (by omega))) (by rw [if_neg (by omega)]), ni4]
    rw [← ih]
    congr 1
    refine cdf_congr fun k hk => ?_
    by_cases h1 : k = i
    · subst h1; simp
    · by_cases h2 : k < i
      · rw [if_neg h1, if_pos h2, if_pos (by omega)]
      · rw [if_neg h1, if_neg h2, if_neg (by omega)]
theorem chain_is {F : Nat} (hF : 50000 ≤ F) (a b : Pm) : mX6_chain F (cdp a) (cdp b) = some (cdp (a.th b)) := by
  unfold mX6_chain
  have h := chain_L a b 8 0 F (by omega) (by omega)
  rw [show (fun k => if k < 0 then b.ap (a.ap k) else 0) = (fun _ => 0) from funext fun k => if_neg (by omega), cdf_0] at h
  rw [bd_e (show mX6_chain_L4 (cdp a) (cdp b) F 0 0 = _ from h)]
theorem reverse_L (a : Pm) : ∀ (d i f : Nat), i + d = 8 → d < f → mX6_reverse_L4 (cdp a) f (cdf (fun k => if a.pa k < i then a.pa k else 0)) (nI i) = some (cdp a.bk)
  | 0, i, f, hi, hf => by
    obtain ⟨f, rfl⟩ : ∃ g, f = g + 1 := ⟨f - 1, by omega⟩
    have : i = 8 := by omega
    subst this
    rw [mX6_reverse_L4_s, if_pos ge8]
    refine congrArg some (cdf_congr fun k hk => ?_)
    rw [if_pos (a.pa_lt hk)]
    rfl
  | d + 1, i, f, hi, hf => by
    obtain ⟨f, rfl⟩ : ∃ g, f = g + 1 := ⟨f - 1, by omega⟩
    have ih := reverse_L a d (i + 1) f (by omega) (by omega)
    rw [mX6_reverse_L4_s, if_neg (le8 (by omega))]
    simp only [lT]
    rw [sh_4', cdp_at a (by omega), sh_4', cdf_put (fun k hk => by
      show (if a.pa k < i then a.pa k else 0) < 8
      split <;> omega) (a.ap_lt (by omega)) (by omega) (by rw [a.pa_ap, if_neg (by omega)]), nI_1]
    rw [← ih]
    congr 1
    refine cdf_congr fun k hk => ?_
    by_cases h1 : k = a.ap i
    · subst h1; simp [a.pa_ap]
    · have h3 : a.pa k ≠ i := fun e => h1 (a.pa_eq.mp e)
      rw [if_neg h1]
      by_cases h2 : a.pa k < i
      · rw [if_pos h2, if_pos (by omega)]
      · rw [if_neg h2, if_neg (by omega)]
theorem reverse_is {F : Nat} (hF : 50000 ≤ F) (a : Pm) : mX6_reverse F (cdp a) = some (cdp a.bk) := by
  unfold mX6_reverse
  have h := reverse_L a 8 0 F (by omega) (by omega)
  rw [show (fun k => if a.pa k < 0 then a.pa k else 0) = (fun _ => 0) from funext fun k => if_neg (by omega), cdf_0] at h
  rw [bd_e (show mX6_reverse_L4 (cdp a) F 0 0 = _ from h)]
theorem carried_is {F : Nat} (hF : 50000 ≤ F) (t p : Pm) : mX6_carried F (cdp t) (cdp p) = some (cdp (t.cj p)) := by
  unfold mX6_carried
  rw [bd_e (reverse_is hF p), bd_e (chain_is hF _ _), bd_e (chain_is hF _ _)]
  rfl
theorem commutator_is {F : Nat} (hF : 50000 ≤ F) (s t : Pm) : mX6_commutator F (cdp s) (cdp t) = some (cdp (s.cm t)) := by
  unfold mX6_commutator
  rw [bd_e (reverse_is hF s), bd_e (reverse_is hF t), bd_e (chain_is hF _ _), bd_e (chain_is hF _ _), bd_e (chain_is hF _ _)]
  rfl
/-- the least number above 0 of times -/
theorem Pm.times (a : Pm) : ∃ k, (0 < k ∧ a.pw k = .one) ∧ ∀ j, j < k → ¬ (0 < j ∧ a.pw j = .one) := pk_least _ ⟨840, by omega, a.pw840⟩
theorem times_le {a : Pm} {k : Nat} (h : ∀ j, j < k → ¬ (0 < j ∧ a.pw j = .one)) : k ≤ 840 := by
  apply Classical.byContradiction
  intro hc
  exact h 840 (by omega) ⟨by omega, a.pw840⟩
theorem times_L {F : Nat} (hF : 50000 ≤ F) (a : Pm) {k : Nat} (hk : a.pw k = .one) (hl : ∀ j, j < k → ¬ (0 < j ∧ a.pw j = .one)) (h8 : k ≤ 840) : ∀ (d i f : Nat), i + d = k → 0 < i → d < f → mX6_timesToOne_L4 F (cdp a) f (cdp (a.pw i)) (nI i) = some (nI k)
  | 0, i, f, hi, h0, hf => by
    obtain ⟨f, rfl⟩ : ∃ g, f = g + 1 := ⟨f - 1, by omega⟩
    have : i = k := by omega
    subst this
    rw [mX6_timesToOne_L4_s, if_pos (cdp_is1.mpr hk)]
  | d + 1, i, f, hi, h0, hf => by
    obtain ⟨f, rfl⟩ : ∃ g, f = g + 1 := ⟨f - 1, by omega⟩
    rw [mX6_timesToOne_L4_s, if_neg (fun e => hl i (by omega) ⟨h0, cdp_is1.mp e⟩), if_neg (show ¬ (1000 : Int32) ≤ nI i from nI_ge (b := 1000) (by omega) (by omega)), bd_e (chain_is hF _ _), nI_1]
    exact times_L hF a hk hl h8 d (i + 1) f (by omega) (by omega) (by omega)
theorem times_is {F : Nat} (hF : 50000 ≤ F) (a : Pm) {k : Nat} (h0 : 0 < k) (hk : a.pw k = .one) (hl : ∀ j, j < k → ¬ (0 < j ∧ a.pw j = .one)) : mX6_timesToOne F (cdp a) = some (nI k) := by
  unfold mX6_timesToOne
  have h8 := times_le hl
  have h := times_L hF a hk hl h8 (k - 1) 1 F (by omega) (by omega) (by omega)
  rw [Pm.pw_one] at h
  rw [bd_e (show mX6_timesToOne_L4 F (cdp a) F (cdp a) 1 = _ from h)]
/-- how many points stay -/
def fx (a : Pm) (n : Nat) : Nat := ct (fun i => decide (a.ap i = i)) n
theorem left_L (a : Pm) : ∀ (d i f : Nat), i + d = 8 → d < f → mX6_pointsLeft_L4 (cdp a) f (nI (fx a i)) (nI i) = some (nI (fx a 8))
  | 0, i, f, hi, hf => by
    obtain ⟨f, rfl⟩ : ∃ g, f = g + 1 := ⟨f - 1, by omega⟩
    have : i = 8 := by omega
    subst this
    rw [mX6_pointsLeft_L4_s, if_pos ge8]
  | d + 1, i, f, hi, hf => by
    obtain ⟨f, rfl⟩ : ∃ g, f = g + 1 := ⟨f - 1, by omega⟩
    have ih := left_L a d (i + 1) f (by omega) (by omega)
    have h1 := a.ap_lt (show i < 8 by omega)
    rw [mX6_pointsLeft_L4_s, if_neg (le8 (by omega)), cdp_im a (by omega)]
    simp only [lT]
    have h2 : (if nI (a.ap i) = nI i then nI (fx a i) + 1 else nI (fx a i)) = nI (fx a (i + 1)) := by
      unfold fx
      rw [ct_s]
      by_cases h : a.ap i = i
      · rw [if_pos (by rw [h]), nI_1, if_pos (by simp [h])]
      · rw [if_neg (fun e => h ((nI_eq (by omega) (by omega)).mp e)), if_neg (by simp [h])]; rfl
    rw [h2, nI_1, ih]
theorem left_is {F : Nat} (hF : 50000 ≤ F) (a : Pm) : mX6_pointsLeft F (cdp a) = some (nI (fx a 8)) := by
  unfold mX6_pointsLeft
  rw [bd_e (show mX6_pointsLeft_L4 (cdp a) F 0 0 = _ from left_L a 8 0 F (by omega) (by omega))]
