/-! ===== towers ===== -/
/-- the levels' bits and turns are as they must be -/
def TwOk (R : Nat → Nat) (C : Nat → Nat → Pm) : Prop := ∀ i, i < 8 → R i < 256 ∧ (R i).testBit i = true ∧ (∀ p, (R i).testBit p = true → i ≤ p) ∧ C i i = .one ∧ ∀ p, (R i).testBit p = true → (∀ j, j < i → (C i p).ap j = j) ∧ (C i p).ap i = p
def ElD (R : Nat → Nat) (C : Nat → Nat → Pm) : Nat → Pm → Prop
  | 0, a => a = .one
  | d + 1, a => ∃ p b, (R (7 - d)).testBit p = true ∧ ElD R C d b ∧ a = b.th (C (7 - d) p)
/-- what levels from i on make -/
def Lv (R : Nat → Nat) (C : Nat → Nat → Pm) (i : Nat) (a : Pm) : Prop := ElD R C (8 - i) a
theorem Lv_8 {R : Nat → Nat} {C : Nat → Nat → Pm} {a : Pm} : Lv R C 8 a ↔ a = .one := Iff.rfl
theorem Lv_s {R : Nat → Nat} {C : Nat → Nat → Pm} {i : Nat} (hi : i < 8) {a : Pm} : Lv R C i a ↔ ∃ p b, (R i).testBit p = true ∧ Lv R C (i + 1) b ∧ a = b.th (C i p) := by
  unfold Lv
  obtain ⟨d, hd⟩ : ∃ d, 8 - i = d + 1 := ⟨7 - i, by omega⟩
  have h1 : 8 - (i + 1) = d := by omega
  have h2 : 7 - d = i := by omega
  rw [hd, h1, ElD, h2]
section TWR
variable {R : Nat → Nat} {C : Nat → Nat → Pm}
theorem TwOk.bit {i : Nat} (h : TwOk R C) (hi : i < 8) : (R i).testBit i = true := (h i hi).2.1
theorem TwOk.lt {i p : Nat} (h : TwOk R C) (hi : i < 8) (hp : (R i).testBit p = true) : p < 8 := set_lt (h i hi).1 hp
theorem TwOk.ge {i p : Nat} (h : TwOk R C) (hi : i < 8) (hp : (R i).testBit p = true) : i ≤ p := (h i hi).2.2.1 p hp
theorem TwOk.self {i : Nat} (h : TwOk R C) (hi : i < 8) : C i i = .one := (h i hi).2.2.2.1
theorem TwOk.fix {i p j : Nat} (h : TwOk R C) (hi : i < 8) (hp : (R i).testBit p = true) (hj : j < i) : (C i p).ap j = j := ((h i hi).2.2.2.2 p hp).1 j hj
theorem TwOk.at {i p : Nat} (h : TwOk R C) (hi : i < 8) (hp : (R i).testBit p = true) : (C i p).ap i = p := ((h i hi).2.2.2.2 p hp).2
theorem Lv_fixD (h : TwOk R C) : ∀ (d i : Nat), i + d = 8 → ∀ a, Lv R C i a → ∀ j, j < i → a.ap j = j
  | 0, i, hi, a, ha, j, hj => by
    have : i = 8 := by omega
    subst this
    rw [Lv_8.mp ha]; rfl
  | d + 1, i, hi, a, ha, j, hj => by
    obtain ⟨p, b, hp, hb, rfl⟩ := (Lv_s (by omega)).mp ha
    rw [Pm.ap_th, Lv_fixD h d (i + 1) (by omega) b hb j (by omega), h.fix (by omega) hp hj]
theorem Lv_fix (h : TwOk R C) {i : Nat} (hi : i ≤ 8) {a : Pm} (ha : Lv R C i a) {j : Nat} (hj : j < i) : a.ap j = j := Lv_fixD h (8 - i) i (by omega) a ha j hj
/-- a level is taken off -/
theorem Lv_sift (h : TwOk R C) {i : Nat} (hi : i < 8) {a : Pm} : Lv R C i a ↔ (R i).testBit (a.ap i) = true ∧ Lv R C (i + 1) (a.th (C i (a.ap i)).bk) := by
  constructor
  · intro ha
    obtain ⟨p, b, hp, hb, rfl⟩ := (Lv_s hi).mp ha
    have h1 : (b.th (C i p)).ap i = p := by rw [Pm.ap_th, Lv_fix h (by omega) hb (by omega), h.at hi hp]
    rw [h1, Pm.th_bk_can]
    exact ⟨hp, hb⟩
  · rintro ⟨hp, hb⟩
    exact (Lv_s hi).mpr ⟨_, _, hp, hb, (Pm.th_can_bk _ _).symm⟩
theorem Lv_up (h : TwOk R C) {i : Nat} (hi : i < 8) {a : Pm} (ha : Lv R C (i + 1) a) : Lv R C i a := (Lv_s hi).mpr ⟨i, a, h.bit hi, ha, by rw [h.self hi, Pm.th_one]⟩
theorem Lv_down (h : TwOk R C) {i : Nat} (hi : i < 8) {a : Pm} (ha : Lv R C i a) (hf : a.ap i = i) : Lv R C (i + 1) a := by
  have h1 := ((Lv_sift h hi).mp ha).2
  rw [hf, h.self hi] at h1
  exact h1
theorem Lv_ups (h : TwOk R C) : ∀ (d : Nat) {i : Nat}, i + d ≤ 8 → ∀ {a : Pm}, Lv R C (i + d) a → Lv R C i a
  | 0, _, _, _, ha => ha
  | d + 1, i, hi, _, ha => Lv_ups h d (by omega) (Lv_up h (by omega) ha)
theorem Lv_mono (h : TwOk R C) {i j : Nat} (hij : i ≤ j) (hj : j ≤ 8) {a : Pm} (ha : Lv R C j a) : Lv R C i a := Lv_ups h (j - i) (by omega) (by rw [show i + (j - i) = j by omega]; exact ha)
theorem Lv_downs (h : TwOk R C) : ∀ (d : Nat) {i : Nat}, i + d ≤ 8 → ∀ {a : Pm}, Lv R C i a → (∀ j, j < i + d → a.ap j = j) → Lv R C (i + d) a
  | 0, _, _, _, ha, _ => ha
  | d + 1, i, hi, a, ha, hf => by
    have := Lv_downs h d (i := i) (by omega) ha (fun j hj => hf j (by omega))
    exact Lv_down h (i := i + d) (by omega) this (hf (i + d) (by omega))
/-- the levels from i on are those of all that leave what is lower -/
theorem Lv_iff (h : TwOk R C) {i : Nat} (hi : i ≤ 8) {a : Pm} : Lv R C i a ↔ Lv R C 0 a ∧ ∀ j, j < i → a.ap j = j := by
  constructor
  · exact fun ha => ⟨Lv_mono h (by omega) hi ha, fun j hj => Lv_fix h hi ha hj⟩
  · rintro ⟨ha, hf⟩
    have := Lv_downs h i (i := 0) (by omega) ha (fun j hj => hf j (by omega))
    rwa [Nat.zero_add] at this
theorem Lv_one (h : TwOk R C) {i : Nat} (hi : i ≤ 8) : Lv R C i .one := Lv_mono h hi (Nat.le_refl 8) (Lv_8.mpr rfl)
theorem Lv_cell (h : TwOk R C) {i p : Nat} (hi : i < 8) (hp : (R i).testBit p = true) : Lv R C i (C i p) := (Lv_s hi).mpr ⟨p, .one, hp, Lv_one h (by omega), (Pm.one_th _).symm⟩
/-- each turn of a cell then one of the same level or a later one is there -/
def Cl (R : Nat → Nat) (C : Nat → Nat → Pm) : Prop := ∀ i p j r, i ≤ j → j < 8 → (R i).testBit p = true → (R j).testBit r = true → Lv R C i ((C i p).th (C j r))
theorem Lv_mulD (h : TwOk R C) (hc : Cl R C) : ∀ (d i : Nat), i + d = 8 → ∀ a b, Lv R C i a → Lv R C i b → Lv R C i (a.th b)
  | 0, i, hi, a, b, ha, hb => by
    have : i = 8 := by omega
    subst this
    rw [Lv_8.mp ha, Lv_8.mp hb]; exact Lv_8.mpr rfl
  | d + 1, i, hi, a, b, ha, hb => by
    have ih := Lv_mulD h hc d (i + 1) (by omega)
    have h1 : ∀ a j r, i ≤ j → j < 8 → (R j).testBit r = true → Lv R C i a → Lv R C i (a.th (C j r)) := by
      intro a j r hij hj hr ha
      obtain ⟨p, b, hp, hb, rfl⟩ := (Lv_s (by omega)).mp ha
      obtain ⟨q, b', hq, hb', e⟩ := (Lv_s (by omega)).mp (hc i p j r hij hj hp hr)
      exact (Lv_s (by omega)).mpr ⟨q, b.th b', hq, ih b b' hb hb', by rw [Pm.th_assoc, e, Pm.th_assoc]⟩
    have h2 : ∀ (e j : Nat), j + e = 8 → i ≤ j → ∀ c, Lv R C j c → ∀ a, Lv R C i a → Lv R C i (a.th c) := by
      intro e
      induction e with
      | zero =>
        intro j hj hij c hc' a ha
        have : j = 8 := by omega
        subst this
        rw [Lv_8.mp hc', Pm.th_one]; exact ha
      | succ e ihe =>
        intro j hj hij c hc' a ha
        obtain ⟨r, g, hr, hg, rfl⟩ := (Lv_s (by omega)).mp hc'
        rw [← Pm.th_assoc]
        exact h1 _ j r hij (by omega) hr (ihe (j + 1) (by omega) (by omega) g hg a ha)
    exact h2 (d + 1) i hi (Nat.le_refl i) b hb a ha
theorem Lv_grp (h : TwOk R C) (hc : Cl R C) {i : Nat} (hi : i ≤ 8) : Grp (Lv R C i) := Grp.of_mul (Lv_one h hi) (Lv_mulD h hc (8 - i) i (by omega))
/-! what is left of a turn, level by level -/
def sf (C : Nat → Nat → Pm) : Nat → Pm → Pm
  | 0, a => a
  | l + 1, a => (sf C l a).th (C l ((sf C l a).ap l)).bk
theorem sf_s (C : Nat → Nat → Pm) (l : Nat) (a : Pm) : sf C (l + 1) a = (sf C l a).th (C l ((sf C l a).ap l)).bk := rfl
def SfOk (R : Nat → Nat) (C : Nat → Nat → Pm) (l : Nat) (a : Pm) : Prop := ∀ k, k < l → (R k).testBit ((sf C k a).ap k) = true
theorem SfOk.down {l m : Nat} {a : Pm} (h : SfOk R C l a) (hm : m ≤ l) : SfOk R C m a := fun k hk => h k (by omega)
theorem sf_fix (h : TwOk R C) {a : Pm} : ∀ {l : Nat}, l ≤ 8 → SfOk R C l a → ∀ j, j < l → (sf C l a).ap j = j
  | 0, _, _, j, hj => by omega
  | l + 1, hl, hs, j, hj => by
    have hp := hs l (by omega)
    rw [sf_s, Pm.ap_th, Pm.ap_bk, Pm.pa_eq]
    by_cases e : j = l
    · subst e
      rw [h.at (by omega) hp]
    · rw [sf_fix h (l := l) (by omega) (hs.down (by omega)) j (by omega), h.fix (by omega) hp (by omega)]
theorem sf_Lv (h : TwOk R C) {a : Pm} : ∀ {l : Nat}, l ≤ 8 → SfOk R C l a → (Lv R C 0 a ↔ Lv R C l (sf C l a))
  | 0, _, _ => Iff.rfl
  | l + 1, hl, hs => by
    rw [sf_Lv h (l := l) (by omega) (hs.down (by omega)), Lv_sift h (by omega), sf_s]
    exact ⟨fun x => x.2, fun x => ⟨hs l (by omega), x⟩⟩
theorem Lv_ok (h : TwOk R C) {a : Pm} (ha : Lv R C 0 a) : ∀ {l : Nat}, l ≤ 8 → SfOk R C l a
  | 0, _ => fun k hk => by omega
  | l + 1, hl => fun k hk => by
    have ih := Lv_ok h ha (l := l) (by omega)
    by_cases e : k = l
    · subst e
      exact ((Lv_sift h (by omega)).mp ((sf_Lv h (by omega) ih).mp ha)).1
    · exact ih k (by omega)
theorem Lv_sf (h : TwOk R C) {a : Pm} : Lv R C 0 a ↔ SfOk R C 8 a := by
  refine ⟨fun ha => Lv_ok h ha (Nat.le_refl 8), fun hs => (sf_Lv h (Nat.le_refl 8) hs).mpr (Lv_8.mpr (Pm.ext8 fun i hi => ?_))⟩
  rw [sf_fix h (Nat.le_refl 8) hs i hi]; rfl
/-- what was taken off is of the tower -/
theorem sf_split (h : TwOk R C) {a : Pm} : ∀ {l : Nat}, l ≤ 8 → SfOk R C l a → ∃ u, a = (sf C l a).th u ∧ ∀ v, Lv R C l v → Lv R C 0 (v.th u)
  | 0, _, _ => ⟨.one, (Pm.th_one a).symm, fun v hv => by rw [Pm.th_one]; exact hv⟩
  | l + 1, hl, hs => by
    obtain ⟨u, hu, hv⟩ := sf_split h (l := l) (by omega) (hs.down (by omega))
    refine ⟨(C l ((sf C l a).ap l)).th u, ?_, fun v hv' => ?_⟩
    · rw [sf_s, ← Pm.th_assoc, Pm.th_can_bk]; exact hu
    · rw [← Pm.th_assoc]
      exact hv _ ((Lv_s (by omega)).mpr ⟨_, v, hs l (by omega), hv', rfl⟩)
/-- the first levels can be taken off just if a turn of the tower begins so -/
theorem SfOk_iff (h : TwOk R C) {a : Pm} {l : Nat} (hl : l ≤ 8) : SfOk R C l a ↔ ∃ g, Lv R C 0 g ∧ ∀ j, j < l → g.ap j = a.ap j := by
  constructor
  · intro hs
    obtain ⟨u, hu, hv⟩ := sf_split h hl hs
    refine ⟨u, ?_, fun j hj => ?_⟩
    · have := hv .one (Lv_one h hl)
      rwa [Pm.one_th] at this
    · have := sf_fix h hl hs j hj
      rw [hu, Pm.ap_th, this]
  · rintro ⟨g, hg, hj⟩
    have hs := Lv_ok h hg hl
    have key : ∀ k, k ≤ l → ∀ j, j < l → (sf C k g).ap j = (sf C k a).ap j := by
      intro k
      induction k with
      | zero => exact fun _ j hj' => hj j hj'
      | succ k ih =>
        intro hk j hj'
        rw [sf_s, sf_s, Pm.ap_th, Pm.ap_th, ih (by omega) j hj', ih (by omega) k (by omega)]
    intro k hk
    rw [← key k (by omega) k hk]
    exact hs k hk
end TWR
/-! a tower grows -/
def Ext (R : Nat → Nat) (C : Nat → Nat → Pm) (R2 : Nat → Nat) (C2 : Nat → Nat → Pm) : Prop := ∀ i p, i < 8 → (R i).testBit p = true → (R2 i).testBit p = true ∧ C2 i p = C i p
theorem Ext.refl {R : Nat → Nat} {C : Nat → Nat → Pm} : Ext R C R C := fun _ _ _ h => ⟨h, rfl⟩
theorem Ext.trans {R R2 R3 : Nat → Nat} {C C2 C3 : Nat → Nat → Pm} (h : Ext R C R2 C2) (h2 : Ext R2 C2 R3 C3) : Ext R C R3 C3 := fun i p hi hp => by
  obtain ⟨h3, h4⟩ := h i p hi hp
  obtain ⟨h5, h6⟩ := h2 i p hi h3
  exact ⟨h5, h6.trans h4⟩
theorem Ext.LvD {R R2 : Nat → Nat} {C C2 : Nat → Nat → Pm} (h : Ext R C R2 C2) : ∀ (d i : Nat), i + d = 8 → ∀ a, Lv R C i a → Lv R2 C2 i a
  | 0, i, hi, a, ha => by
    have : i = 8 := by omega
    subst this
    exact ha
  | d + 1, i, hi, a, ha => by
    obtain ⟨p, b, hp, hb, rfl⟩ := (Lv_s (by omega)).mp ha
    obtain ⟨h1, h2⟩ := h i p (by omega) hp
    exact (Lv_s (by omega)).mpr ⟨p, b, h1, Ext.LvD h d (i + 1) (by omega) b hb, by rw [h2]⟩
theorem Ext.Lv {R R2 : Nat → Nat} {C C2 : Nat → Nat → Pm} (h : Ext R C R2 C2) {i : Nat} (hi : i ≤ 8) {a : Pm} (ha : Lv R C i a) : Lv R2 C2 i a := h.LvD (8 - i) i (by omega) a ha
theorem Ext.sf {R R2 : Nat → Nat} {C C2 : Nat → Nat → Pm} (h : Ext R C R2 C2) {a : Pm} : ∀ {l : Nat}, l ≤ 8 → SfOk R C l a → sf C2 l a = sf C l a
  | 0, _, _ => rfl
  | l + 1, hl, hs => by
    rw [sf_s, sf_s, h.sf (l := l) (by omega) (hs.down (by omega)), (h l _ (by omega) (hs l (by omega))).2]
theorem Ext.ok {R R2 : Nat → Nat} {C C2 : Nat → Nat → Pm} (h : Ext R C R2 C2) {a : Pm} {l : Nat} (hl : l ≤ 8) (hs : SfOk R C l a) : SfOk R2 C2 l a := fun k hk => by
  rw [h.sf (by omega) (hs.down (by omega))]
  exact (h k _ (by omega) (hs k hk)).1
/-- one cell more -/
def upR (R : Nat → Nat) (i p : Nat) : Nat → Nat := fun k => if k = i then R i ||| 2 ^ p else R k
def upC (C : Nat → Nat → Pm) (i p : Nat) (x : Pm) : Nat → Nat → Pm := fun k r => if k = i ∧ r = p then x else C k r
theorem upR_bit (R : Nat → Nat) (i p k r : Nat) : (upR R i p k).testBit r = ((R k).testBit r || (decide (k = i) && decide (r = p))) := by
  unfold upR
  by_cases h : k = i
  · rw [if_pos h, tb_set]; subst h; simp
  · rw [if_neg h]; simp [h]
theorem upC_same (C : Nat → Nat → Pm) (i p : Nat) (x : Pm) : upC C i p x i p = x := if_pos ⟨rfl, rfl⟩
theorem upC_ne {C : Nat → Nat → Pm} {i p k r : Nat} {x : Pm} (h : ¬ (k = i ∧ r = p)) : upC C i p x k r = C k r := if_neg h
theorem up_ext {R : Nat → Nat} {C : Nat → Nat → Pm} {i p : Nat} {x : Pm} (hn : (R i).testBit p = false) : Ext R C (upR R i p) (upC C i p x) := fun k r hk hr => by
  refine ⟨by rw [upR_bit, hr]; rfl, upC_ne ?_⟩
  rintro ⟨rfl, rfl⟩
  rw [hn] at hr
  cases hr
theorem up_ok {R : Nat → Nat} {C : Nat → Nat → Pm} {i p : Nat} {x : Pm} (h : TwOk R C) (hi : i < 8) (hip : i < p) (hp : p < 8) (hn : (R i).testBit p = false) (hx : ∀ j, j < i → x.ap j = j) (hxp : x.ap i = p) : TwOk (upR R i p) (upC C i p x) := fun k hk => by
  obtain ⟨h1, h2, h3, h4, h5⟩ := h k hk
  refine ⟨?_, by rw [upR_bit, h2]; rfl, fun r hr => ?_, by rw [upC_ne (by omega)]; exact h4, fun r hr => ?_⟩
  · unfold upR
    split
    · exact set_put (h i hi).1 hp
    · exact h1
  · rw [upR_bit, Bool.or_eq_true] at hr
    rcases hr with hr | hr
    · exact h3 r hr
    · simp only [Bool.and_eq_true, decide_eq_true_eq] at hr
      omega
  · by_cases e : k = i ∧ r = p
    · obtain ⟨rfl, rfl⟩ := e
      rw [upC_same]
      exact ⟨hx, hxp⟩
    · rw [upC_ne e]
      rw [upR_bit, Bool.or_eq_true] at hr
      rcases hr with hr | hr
      · exact h5 r hr
      · simp only [Bool.and_eq_true, decide_eq_true_eq] at hr
        exact absurd hr e
