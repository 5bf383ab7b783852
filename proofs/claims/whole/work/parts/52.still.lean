/-! ===== how many turns leave so many points ===== -/
def zK (m : Nat) : Int32 := nI m - 16
theorem zK_neg : ∀ m, m < 32 → (zK m < 0 ↔ m < 16) := by decide
theorem zK_le : ∀ m, m < 32 → ∀ l, l < 9 → (zK m ≤ (8 : Int32) - nI l ↔ m + l ≤ 24) := by decide
theorem zK_0 : ∀ m, m < 32 → zK m - 0 = zK m := by decide
theorem zK_1 : ∀ m, m < 31 → zK (m + 1) - 1 = zK m := by decide
theorem zK_sub : ∀ a, a < 9 → ∀ b, b < 9 → nI a - nI b = zK (a + 16 - b) := by decide
/-- the points from l on that stay -/
def fxl (x : Pm) (l : Nat) : Nat := ct (fun i => decide (l ≤ i) && decide (x.ap i = i)) 8
theorem fxl_hc (x : Pm) (l : Nat) : Hc (fun i => i < 8 ∧ l ≤ i ∧ x.ap i = i) (fxl x l) := (ct_hc _ 8).congr (fun i => by rw [Bool.and_eq_true, decide_eq_true_iff, decide_eq_true_iff])
theorem fxl_s (x : Pm) {l : Nat} (hl : l < 8) : fxl x l = fxl x (l + 1) + (if x.ap l = l then 1 else 0) := by
  by_cases e : x.ap l = l
  · rw [if_pos e]
    refine (fxl_hc x l).uniq (((fxl_hc x (l + 1)).or (Hc.single (P := fun i => i = l) l (fun _ => Iff.rfl)) (fun i hi e => by omega)).congr (fun i => ?_))
    constructor
    · rintro (⟨h1, h2, h3⟩ | rfl)
      · exact ⟨h1, by omega, h3⟩
      · exact ⟨hl, Nat.le_refl _, e⟩
    · rintro ⟨h1, h2, h3⟩
      by_cases e2 : i = l
      · exact Or.inr e2
      · exact Or.inl ⟨h1, by omega, h3⟩
  · rw [if_neg e]
    refine (fxl_hc x l).uniq ((fxl_hc x (l + 1)).congr (fun i => ?_))
    constructor
    · rintro ⟨h1, h2, h3⟩
      exact ⟨h1, by omega, h3⟩
    · rintro ⟨h1, h2, h3⟩
      refine ⟨h1, ?_, h3⟩
      by_cases e2 : i = l
      · subst e2; exact absurd h3 e
      · omega
theorem fxl_le (x : Pm) : ∀ (d l : Nat), l + d = 8 → fxl x l ≤ d
  | 0, l, hl => by
    have h := (fxl_hc x l).uniq (Hc.none (fun i hi => by omega))
    omega
  | d + 1, l, hl => by
    have := fxl_le x d (l + 1) (by omega)
    rw [fxl_s x (by omega)]
    split <;> omega
theorem fxl_0 (x : Pm) : fxl x 0 = fx x 8 := (fxl_hc x 0).uniq ((ct_hc _ 8).congr (fun i => by rw [decide_eq_true_iff]; exact ⟨fun h => ⟨h.1, Nat.zero_le i, h.2⟩, fun h => ⟨h.1, h.2.2⟩⟩))
theorem fxl_low {x : Pm} : ∀ {l : Nat}, l ≤ 8 → (∀ j, j < l → x.ap j = j) → fx x 8 = l + fxl x l
  | 0, _, _ => by rw [fxl_0]; omega
  | l + 1, hl, h => by
    have h1 := fxl_low (x := x) (l := l) (by omega) (fun j hj => h j (by omega))
    have h2 := fxl_s x (show l < 8 by omega)
    rw [if_pos (h l (by omega))] at h2
    omega
section STI
variable {R : Nat → Nat} {C : Nat → Nat → Pm} {fl : List (Nat × Nat)} {cells back reach filled : Nat → Int32} {fc : Int32} {F : Nat}
/-- what levels from l on make of what is above, with m - 16 points from l on that stay -/
def Lf (R : Nat → Nat) (C : Nat → Nat → Pm) (l : Nat) (v : Pm) (m : Nat) (x : Pm) : Prop := ∃ u, Lv R C l u ∧ x = u.th v ∧ fxl x l + 16 = m
theorem Lf_s (T : TwOk R C) {l : Nat} (hl : l < 8) {v : Pm} {m : Nat} {x : Pm} : Lf R C l v m x ↔ ∃ p, p < 8 ∧ (R l).testBit p = true ∧ Lf R C (l + 1) ((C l p).th v) (m - (if v.ap p = l then 1 else 0)) x ∧ (if v.ap p = l then 1 else 0) ≤ m := by
  have key : ∀ p b, (R l).testBit p = true → Lv R C (l + 1) b → (b.th ((C l p).th v)).ap l = v.ap p := fun p b hp hb => by
    rw [Pm.ap_th, Lv_fix T (i := l + 1) (by omega) hb (by omega), Pm.ap_th, T.at hl hp]
  constructor
  · rintro ⟨u, hu, rfl, hm⟩
    obtain ⟨p, b, hp, hb, rfl⟩ := (Lv_s hl).mp hu
    rw [Pm.th_assoc] at hm
    have h1 := fxl_s (b.th ((C l p).th v)) hl
    rw [key p b hp hb] at h1
    refine ⟨p, T.lt hl hp, hp, ⟨b, hb, by rw [Pm.th_assoc], ?_⟩, by omega⟩
    rw [Pm.th_assoc]
    omega
  · rintro ⟨p, -, hp, ⟨b, hb, rfl, hm⟩, hle⟩
    have h1 := fxl_s (b.th ((C l p).th v)) hl
    rw [key p b hp hb] at h1
    refine ⟨b.th (C l p), (Lv_s hl).mpr ⟨p, b, hp, hb, rfl⟩, by rw [Pm.th_assoc], ?_⟩
    omega
theorem leaving_L (T : Tow R C fl cells back reach filled fc) (hF : 50000 ≤ F) {l : Nat} (hl : l < 8) (v : Pm) {m : Nat} (hm : 16 ≤ m ∧ m < 32) (zrec : Int32 → Int32 → Int32 → Option Int32) (hrec : ∀ v m, 15 ≤ m → m < 32 → ∃ N, Hc (Lf R C (l + 1) v m) N ∧ zrec (zK m) (nI (l + 1)) (cdp v) = some (nI N)) : ∀ (d i f acc : Nat), i + d = 8 → d < f → ∃ N, Hc (fun x => ∃ p, p < 8 ∧ i ≤ p ∧ (R l).testBit p = true ∧ Lf R C (l + 1) ((C l p).th v) (m - (if v.ap p = l then 1 else 0)) x) N ∧ mX4_countLeaving_L28 zrec F (zK m) (nI l) (cdp v) cells reach f (nI acc) (nI i) = some (nI (acc + N))
  | 0, i, f, acc, hi, hf => by
    obtain ⟨f, rfl⟩ : ∃ g, f = g + 1 := ⟨f - 1, by omega⟩
    have : i = 8 := by omega
    subst this
    exact ⟨0, Hc.none (fun x ⟨p, h1, h2, _⟩ => by omega), by rw [mX4_countLeaving_L28_s, if_pos ge8]; rfl⟩
  | d + 1, i, f, acc, hi, hf => by
    obtain ⟨f, rfl⟩ : ∃ g, f = g + 1 := ⟨f - 1, by omega⟩
    have hi8 : i < 8 := by omega
    rw [mX4_countLeaving_L28_s, if_neg (le8 hi8), T.rch hl (by omega)]
    cases hb : (R l).testBit i with
    | false =>
      obtain ⟨N, h1, h2⟩ := leaving_L T hF hl v hm zrec hrec d (i + 1) f acc (by omega) (by omega)
      refine ⟨N, h1.congr (fun x => ?_), by rw [if_neg (by decide), bd_s, if_pos rfl, bd_s, nI_1, h2]⟩
      constructor
      · rintro ⟨p, a1, a2, a3⟩
        exact ⟨p, a1, by omega, a3⟩
      · rintro ⟨p, a1, a2, a3, a4⟩
        refine ⟨p, a1, ?_, a3, a4⟩
        by_cases e : p = i
        · subst e; rw [hb] at a3; cases a3
        · omega
    | true =>
      have hvi := v.ap_lt hi8
      have hat : ((C l i).th v).ap l = v.ap i := by rw [Pm.ap_th, T.1.at hl hb]
      obtain ⟨N1, c1, e1⟩ := hrec ((C l i).th v) (m - (if v.ap i = l then 1 else 0)) (by split <;> omega) (by split <;> omega)
      obtain ⟨N, h1, h2⟩ := leaving_L T hF hl v hm zrec hrec d (i + 1) f (acc + N1) (by omega) (by omega)
      refine ⟨N1 + N, (c1.or h1 (fun x hx ⟨p, a1, a2, a3, a4⟩ => ?_)).congr (fun x => ?_), ?_⟩
      · have key : ∀ p x, (R l).testBit p = true → (∃ m, Lf R C (l + 1) ((C l p).th v) m x) → x.ap l = v.ap p := by
          rintro p x hp ⟨m, u, hu, rfl, -⟩
          rw [Pm.ap_th, Lv_fix T.1 (i := l + 1) (by omega) hu (by omega), Pm.ap_th, T.1.at hl hp]
        have k1 := key i x hb ⟨_, hx⟩
        have k2 := key p x a3 ⟨_, a4⟩
        have := v.inj (k1.symm.trans k2)
        omega
      · constructor
        · rintro (hx | ⟨p, a1, a2, a3⟩)
          · exact ⟨i, hi8, Nat.le_refl i, hb, hx⟩
          · exact ⟨p, a1, by omega, a3⟩
        · rintro ⟨p, a1, a2, a3, a4⟩
          by_cases e : p = i
          · subst e; exact Or.inl a4
          · exact Or.inr ⟨p, a1, by omega, a3, a4⟩
      · rw [if_pos rfl, bd_s, if_neg (by decide), bd_e (step_is T hF hl hb v), cdp_im _ hl, hat]
        simp only [lT]
        have e3 : zK m - (if nI (v.ap i) = nI l then (1 : Int32) else 0) = zK (m - (if v.ap i = l then 1 else 0)) := by
          by_cases e : v.ap i = l
          · rw [if_pos (by rw [e]), if_pos e]
            have := zK_1 (m - 1) (by omega)
            rwa [show m - 1 + 1 = m by omega] at this
          · rw [if_neg (fun h => e ((nI_eq (by omega) (by omega)).mp h)), if_neg e, zK_0 m (by omega), Nat.sub_zero]
        rw [e3, nI_1, bd_e e1, bd_s, nI_add, nI_1, h2, Nat.add_assoc]
theorem leaving_is (T : Tow R C fl cells back reach filled fc) (hF : 50000 ≤ F) : ∀ (d l g : Nat), l + d = 8 → d < g → ∀ v m, 8 ≤ m → m < 32 → ∃ N, Hc (Lf R C l v m) N ∧ mX4_countLeaving F cells reach g (zK m) (nI l) (cdp v) = some (nI N) := by
  intro d
  induction d with
  | zero =>
    intro l g hl hg v m hm0 hm
    obtain ⟨g, rfl⟩ : ∃ x, g = x + 1 := ⟨g - 1, by omega⟩
    have : l = 8 := by omega
    subst this
    rw [mX4_countLeaving_s]
    have h8 : ∀ x, fxl x 8 = 0 := fun x => by have := fxl_le x 0 8 (by omega); omega
    by_cases h1 : m < 16
    · exact ⟨0, Hc.none (fun x ⟨u, _, _, e⟩ => by omega), by rw [if_pos ((zK_neg m hm).mpr h1)]; rfl⟩
    · rw [if_neg (fun h => h1 ((zK_neg m hm).mp h))]
      by_cases h2 : m + 8 ≤ 24
      · rw [if_pos ((zK_le m hm 8 (by omega)).mpr h2), if_neg (by decide)]
        refine ⟨1, Hc.single v (fun x => ?_), rfl⟩
        constructor
        · rintro ⟨u, hu, rfl, -⟩
          rw [Lv_8.mp hu, Pm.one_th]
        · rintro rfl
          exact ⟨.one, Lv_8.mpr rfl, (Pm.one_th _).symm, by rw [h8]; omega⟩
      · rw [if_neg (fun h => h2 ((zK_le m hm 8 (by omega)).mp h))]
        exact ⟨0, Hc.none (fun x ⟨u, _, _, e⟩ => by rw [h8] at e; omega), rfl⟩
  | succ d ih =>
    intro l g hl hg v m hm0 hm
    obtain ⟨g, rfl⟩ : ∃ x, g = x + 1 := ⟨g - 1, by omega⟩
    rw [mX4_countLeaving_s]
    by_cases h1 : m < 16
    · exact ⟨0, Hc.none (fun x ⟨u, _, _, e⟩ => by omega), by rw [if_pos ((zK_neg m hm).mpr h1)]; rfl⟩
    · rw [if_neg (fun h => h1 ((zK_neg m hm).mp h))]
      by_cases h2 : m + l ≤ 24
      · rw [if_pos ((zK_le m hm l (by omega)).mpr h2), if_pos (show nI l < (8 : Int32) from nI_lt (b := 8) (by omega) (by omega))]
        obtain ⟨N, c, e⟩ := leaving_L T hF (l := l) (by omega) v (m := m) ⟨by omega, hm⟩ (mX4_countLeaving F cells reach g) (fun v m a1 a2 => ih (l + 1) g (by omega) (by omega) v m (by omega) a2) (8 - l) l F 0 (by omega) (by omega)
        rw [Nat.zero_add] at e
        refine ⟨N, c.congr (fun x => ?_), by rw [bd_e (show mX4_countLeaving_L28 (mX4_countLeaving F cells reach g) F (zK m) (nI l) (cdp v) cells reach F 0 (nI l) = _ from e)]⟩
        rw [Lf_s T.1 (by omega)]
        constructor
        · rintro ⟨p, a1, a2, a3, a4⟩
          exact ⟨p, a1, a3, a4, by split <;> omega⟩
        · rintro ⟨p, a1, a2, a3, -⟩
          exact ⟨p, a1, T.1.ge (by omega) a2, a2, a3⟩
      · rw [if_neg (fun h => h2 ((zK_le m hm l (by omega)).mp h))]
        refine ⟨0, Hc.none (fun x ⟨u, _, _, e⟩ => ?_), rfl⟩
        have := fxl_le x (d + 1) l hl
        omega
theorem fx_cj (x a : Pm) : fx (x.cj a) 8 = fx x 8 := by
  refine (ct_hc _ 8).uniq ((ct_hc (fun i => decide (x.ap i = i)) 8).bij a.ap (fun i j _ _ e => a.inj e) (fun i hi => ?_) (fun j hj => ?_))
  · rw [decide_eq_true_iff] at hi ⊢
    exact ⟨a.ap_lt hi.1, by rw [Pm.ap_cj', hi.2]⟩
  · rw [decide_eq_true_iff] at hj
    refine ⟨a.pa j, ⟨a.pa_lt hj.1, ?_⟩, (a.ap_pa j).symm⟩
    rw [decide_eq_true_iff]
    have := hj.2
    rw [Pm.ap_cj] at this
    exact (a.pa_eq.mpr this.symm).symm
/-- the turns of a level that move its point to one of a set, and leave m in all -/
def Mv (R : Nat → Nat) (C : Nat → Nat → Pm) (l m : Nat) (P : Nat → Prop) (x : Pm) : Prop := Lv R C l x ∧ P (x.ap l) ∧ fx x 8 = m
theorem still_in (T : Tow R C fl cells back reach filled fc) (hc : Cl R C) (hF : 50000 ≤ F) {l m : Nat} (hl : l < 8) (hm : m ≤ 8) : ∀ (d i f acc s : Nat), i + d = 8 → d < f → l < i → s < 256 → (∀ q, s.testBit q = true → l < q ∧ (R l).testBit q = true) → (∀ a q, Lv R C (l + 1) a → s.testBit q = true → s.testBit (a.ap q) = true) → (∀ q, l < q → q < i → (R l).testBit q = true → s.testBit q = true) → ∃ N, Hc (Mv R C l m (fun q => l < q ∧ s.testBit q = false)) N ∧ mX4_turnsThatLeave_L28 F (nI m) (nI l) cells reach filled fc f (nI acc) (nI s) (nI i) = some (nI (acc + N))
  | 0, i, f, acc, s, hi, hf, hli, hs, h1, h2, h3 => by
    obtain ⟨f, rfl⟩ : ∃ g, f = g + 1 := ⟨f - 1, by omega⟩
    have : i = 8 := by omega
    subst this
    refine ⟨0, Hc.none (fun x ⟨a1, ⟨a2, a3⟩, _⟩ => ?_), by rw [mX4_turnsThatLeave_L28_s, if_pos ge8]; rfl⟩
    have hb := ((Lv_sift T.1 hl).mp a1).1
    rw [h3 _ a2 (x.ap_lt hl) hb] at a3
    cases a3
  | d + 1, i, f, acc, s, hi, hf, hli, hs, h1, h2, h3 => by
    obtain ⟨f, rfl⟩ : ∃ g, f = g + 1 := ⟨f - 1, by omega⟩
    have hi8 : i < 8 := by omega
    rw [mX4_turnsThatLeave_L28_s, if_neg (le8 hi8), T.rch hl (by omega)]
    cases hb : (R l).testBit i with
    | false =>
      obtain ⟨N, c, e⟩ := still_in T hc hF hl hm d (i + 1) f acc s (by omega) (by omega) (by omega) hs h1 h2 (fun q a1 a2 a3 => by
        by_cases e : q = i
        · subst e; rw [hb] at a3; cases a3
        · exact h3 q a1 (by omega) a3)
      exact ⟨N, c, by rw [if_neg (by decide), bd_s, if_pos rfl, bd2_e rfl, nI_1, e]⟩
    | true =>
      rw [if_pos rfl, bd_s, if_neg (by decide), bit_is (by omega) (by omega)]
      cases hsb : s.testBit i with
      | true =>
        obtain ⟨N, c, e⟩ := still_in T hc hF hl hm d (i + 1) f acc s (by omega) (by omega) (by omega) hs h1 h2 (fun q a1 a2 a3 => by
          by_cases e : q = i
          · subst e; exact hsb
          · exact h3 q a1 (by omega) a3)
        exact ⟨N, c, by rw [if_pos rfl, if_neg (by decide), bd2_e rfl, nI_1, e]⟩
      | false =>
        have hG := Lv_grp T.1 hc (i := l + 1) (by omega)
        have hGl := Lv_grp T.1 hc (i := l) (by omega)
        obtain ⟨o, eo, ho, hob⟩ := orbitFrom_is T hc hF (l := l + 1) (p := i) (by omega) hi8
        obtain ⟨N1, c1, e1⟩ := leaving_is T hF (7 - l) (l + 1) 9 (by omega) (by omega) (C l i) (m + 16 - l) (by omega) (by omega)
        -- the turns that carry l to i and leave m points
        have c2 : Hc (Mv R C l m (fun q => q = i)) N1 := c1.congr (fun x => by
          constructor
          · rintro ⟨u, hu, rfl, e⟩
            have hx : Lv R C l (u.th (C l i)) := (Lv_s hl).mpr ⟨i, u, hb, hu, rfl⟩
            have hat : (u.th (C l i)).ap l = i := by rw [Pm.ap_th, Lv_fix T.1 (i := l + 1) (by omega) hu (by omega), T.1.at hl hb]
            refine ⟨hx, hat, ?_⟩
            have a1 := fxl_low (x := u.th (C l i)) (l := l) (by omega) (fun j hj => Lv_fix T.1 (by omega) hx hj)
            have a2 := fxl_s (u.th (C l i)) hl
            rw [hat, if_neg (by omega)] at a2
            omega
          · rintro ⟨a1, a2, a3⟩
            obtain ⟨p, u, hp, hu, rfl⟩ := (Lv_s hl).mp a1
            have hat : (u.th (C l p)).ap l = p := by rw [Pm.ap_th, Lv_fix T.1 (i := l + 1) (by omega) hu (by omega), T.1.at hl hp]
            have e : p = i := hat.symm.trans a2
            subst e
            refine ⟨u, hu, rfl, ?_⟩
            have b1 := fxl_low (x := u.th (C l p)) (l := l) (by omega) (fun j hj => Lv_fix T.1 (by omega) a1 hj)
            have b2 := fxl_s (u.th (C l p)) hl
            rw [hat, if_neg (by omega)] at b2
            omega)
        -- as many go to each point of the orbit
        have c3 : ∀ q, o.testBit q = true → Hc (Mv R C l m (fun y => y = q)) N1 := by
          intro q hq
          obtain ⟨a, ha, e⟩ := (hob q).mp hq
          have hal : Lv R C l a := Lv_up T.1 hl ha
          have haf : a.ap l = l := Lv_fix T.1 (i := l + 1) (by omega) ha (by omega)
          refine c2.bij (fun x => x.cj a) (fun x y _ _ e => Pm.cj_inj e) (fun x ⟨b1, b2, b3⟩ => ⟨hGl.cj_in b1 hal, ?_, by rw [fx_cj]; exact b3⟩) (fun y ⟨b1, b2, b3⟩ => ⟨y.cj a.bk, ⟨hGl.cj_in b1 (hGl.2.2 a hal), ?_, by rw [fx_cj]; exact b3⟩, (Pm.cj_back' y a).symm⟩)
          · have := Pm.ap_cj' x a l
            rw [haf, b2, e] at this
            exact this
          · show a.pa (y.ap (a.ap l)) = i
            rw [haf, b2, Pm.pa_eq, e]
        have c4 : Hc (Mv R C l m (fun q => o.testBit q = true)) (ct o.testBit 8 * N1) := by
          rw [← sm_ite]
          refine (Hc.sum (n := 8) (P := fun q x => o.testBit q = true ∧ Mv R C l m (fun y => y = q) x) (fun q hq => ?_) (fun q r _ _ x hx hy => ?_)).congr (fun x => ?_)
          · cases hbq : o.testBit q with
            | true => exact (c3 q hbq).congr (fun x => ⟨fun h => ⟨rfl, h⟩, fun h => h.2⟩)
            | false => exact Hc.none (fun x h => by cases h.1)
          · exact hx.2.2.1.symm.trans hy.2.2.1
          · constructor
            · rintro ⟨q, hq, h4, b1, b2, b3⟩
              exact ⟨b1, by rw [b2]; exact h4, b3⟩
            · rintro ⟨b1, b2, b3⟩
              exact ⟨x.ap l, x.ap_lt hl, b2, b1, rfl, b3⟩
        have ho1 : ∀ q, o.testBit q = true → l < q ∧ (R l).testBit q = true := by
          intro q hq
          obtain ⟨a, ha, e⟩ := (hob q).mp hq
          have haf : a.ap l = l := Lv_fix T.1 (i := l + 1) (by omega) ha (by omega)
          have hx : Lv R C l ((C l i).th a) := hGl.2.1 _ _ (Lv_cell T.1 hl hb) (Lv_up T.1 hl ha)
          have hbq := ((Lv_sift T.1 hl).mp hx).1
          rw [Pm.ap_th, T.1.at hl hb, e] at hbq
          have hge := T.1.ge hl hbq
          refine ⟨?_, hbq⟩
          by_cases eq : q = l
          · exfalso
            have : i = l := a.inj (by rw [e, haf, eq])
            omega
          · omega
        have hso : s ||| o < 256 := Nat.or_lt_two_pow (n := 8) hs ho
        have hbit : ∀ q, (s ||| o).testBit q = true ↔ s.testBit q = true ∨ o.testBit q = true := fun q => by rw [Nat.testBit_or, Bool.or_eq_true]
        have hoi : o.testBit i = true := (hob i).mpr ⟨.one, hG.1, rfl⟩
        obtain ⟨N, c, e⟩ := still_in T hc hF hl hm d (i + 1) f (acc + ct o.testBit 8 * N1) (s ||| o) (by omega) (by omega) (by omega) hso (fun q hq => ((hbit q).mp hq).elim (h1 q) (ho1 q)) (fun a q ha hq => (hbit _).mpr (((hbit q).mp hq).imp (h2 a q ha) (fun hq => by
            obtain ⟨a', ha', e'⟩ := (hob q).mp hq
            exact (hob _).mpr ⟨a'.th a, hG.2.1 _ _ ha' ha, by rw [Pm.ap_th, e']⟩))) (fun q a1 a2 a3 => by
          by_cases eq : q = i
          · subst eq; exact (hbit _).mpr (Or.inr hoi)
          · exact (hbit _).mpr (Or.inl (h3 q a1 (by omega) a3)))
        refine ⟨ct o.testBit 8 * N1 + N, (c4.or c (fun x hx hy => ?_)).congr (fun x => ?_), ?_⟩
        · have := hy.2.1.2
          rw [(hbit _).mpr (Or.inr hx.2.1)] at this
          cases this
        · constructor
          · rintro (⟨b1, b2, b3⟩ | ⟨b1, ⟨b2, b4⟩, b3⟩)
            · refine ⟨b1, ⟨(ho1 _ b2).1, ?_⟩, b3⟩
              cases hsq : s.testBit (x.ap l) with
              | false => rfl
              | true =>
                obtain ⟨a, ha, e'⟩ := (hob _).mp b2
                have := h2 a.bk _ (hG.2.2 a ha) hsq
                rw [Pm.ap_bk, a.pa_eq.mpr e'.symm, hsb] at this
                cases this
            · refine ⟨b1, ⟨b2, ?_⟩, b3⟩
              cases hsq : s.testBit (x.ap l) with
              | false => rfl
              | true => rw [(hbit _).mpr (Or.inl hsq)] at b4; cases b4
          · rintro ⟨b1, ⟨b2, b4⟩, b3⟩
            cases hoq : o.testBit (x.ap l) with
            | true => exact Or.inl ⟨b1, hoq, b3⟩
            | false =>
              refine Or.inr ⟨b1, ⟨b2, ?_⟩, b3⟩
              rw [Nat.testBit_or, b4, hoq]; rfl
        · have e5 : nI m - nI l = zK (m + 16 - l) := zK_sub m (by omega) l (by omega)
          rw [if_pos (show (if false = true then (1 : Int32) else 0) = 0 from rfl), nI_1, bd_e eo, cell_is, gd_t (inb_n (by omega) (by omega)), cl_n (by omega), (T.2.2.1 l i hl hb (by omega)).1]
          simp only [lT]
          rw [e5, bd_e e1, bc_is o ho, pk_mul, nI_add, ni_or, bd2_e rfl, nI_1, e, Nat.add_assoc]
/-- the turns of a tower that leave m points, of which those that are one or move a point below l -/
def Mb (R : Nat → Nat) (C : Nat → Nat → Pm) (m l : Nat) (x : Pm) : Prop := Lv R C 0 x ∧ fx x 8 = m ∧ (x = .one ∨ ∃ j, j < l ∧ x.ap j ≠ j)
theorem still_out (T : Tow R C fl cells back reach filled fc) (hc : Cl R C) (hF : 50000 ≤ F) {m : Nat} (hm : m ≤ 8) : ∀ (d l f N : Nat), l + d = 8 → d < f → Hc (Mb R C m l) N → ∃ N2, Hc (Mb R C m 8) N2 ∧ mX4_turnsThatLeave_L14 F (nI m) cells reach filled fc f (nI N) (nI l) = some (nI N2)
  | 0, l, f, N, hl, hf, h => by
    obtain ⟨f, rfl⟩ : ∃ g, f = g + 1 := ⟨f - 1, by omega⟩
    have : l = 8 := by omega
    subst this
    exact ⟨N, h, by rw [mX4_turnsThatLeave_L14_s, if_pos ge8]⟩
  | d + 1, l, f, N, hl, hf, h => by
    obtain ⟨f, rfl⟩ : ∃ g, f = g + 1 := ⟨f - 1, by omega⟩
    have hl8 : l < 8 := by omega
    obtain ⟨N1, c1, e1⟩ := still_in T hc hF hl8 hm (7 - l) (l + 1) F N 0 (by omega) (by omega) (by omega) (by omega) (fun q hq => by rw [Nat.zero_testBit] at hq; cases hq) (fun a q _ hq => by rw [Nat.zero_testBit] at hq; cases hq) (fun q a1 a2 => by omega)
    have key : ∀ x, Mv R C l m (fun q => l < q ∧ (0 : Nat).testBit q = false) x ↔ Lv R C l x ∧ x.ap l ≠ l ∧ fx x 8 = m := fun x => by
      constructor
      · rintro ⟨b1, ⟨b2, -⟩, b3⟩
        exact ⟨b1, by omega, b3⟩
      · rintro ⟨b1, b2, b3⟩
        have := T.1.ge hl8 ((Lv_sift T.1 hl8).mp b1).1
        exact ⟨b1, ⟨by omega, Nat.zero_testBit _⟩, b3⟩
    have c2 : Hc (Mb R C m (l + 1)) (N + N1) := by
      refine (h.or c1 (fun x hx hy => ?_)).congr (fun x => ?_)
      · obtain ⟨b1, b2, b3⟩ := (key x).mp hy
        rcases hx.2.2 with rfl | ⟨j, hj, hn⟩
        · exact b2 rfl
        · exact hn (Lv_fix T.1 (by omega) b1 hj)
      · constructor
        · rintro (⟨b1, b2, b3⟩ | hy)
          · exact ⟨b1, b2, b3.imp id (fun ⟨j, hj, hn⟩ => ⟨j, by omega, hn⟩)⟩
          · obtain ⟨b1, b2, b3⟩ := (key x).mp hy
            exact ⟨Lv_mono T.1 (Nat.zero_le l) (by omega) b1, b3, Or.inr ⟨l, by omega, b2⟩⟩
        · rintro ⟨b1, b2, b3⟩
          by_cases hlow : x = .one ∨ ∃ j, j < l ∧ x.ap j ≠ j
          · exact Or.inl ⟨b1, b2, hlow⟩
          · right
            refine (key x).mpr ⟨(Lv_iff T.1 (by omega)).mpr ⟨b1, fun j hj => Classical.byContradiction fun hn => hlow (Or.inr ⟨j, hj, hn⟩)⟩, ?_, b2⟩
            rcases b3 with b3 | ⟨j, hj, hn⟩
            · exact absurd (Or.inl b3) hlow
            · by_cases e : j = l
              · subst e; exact hn
              · exact absurd (Or.inr ⟨j, by omega, hn⟩) hlow
    obtain ⟨N2, c3, e3⟩ := still_out T hc hF hm d (l + 1) f (N + N1) (by omega) (by omega) c2
    refine ⟨N2, c3, ?_⟩
    rw [mX4_turnsThatLeave_L14_s, if_neg (le8 hl8)]
    simp only [lT]
    rw [nI_1, bd_e (show mX4_turnsThatLeave_L28 F (nI m) (nI l) cells reach filled fc F (nI N) 0 (nI (l + 1)) = _ from e1), e3]
theorem still_is (T : Tow R C fl cells back reach filled fc) (hc : Cl R C) (hF : 50000 ≤ F) {m : Nat} (hm : m ≤ 8) : ∃ N, Hc (fun x => Lv R C 0 x ∧ fx x 8 = m) N ∧ mX4_turnsThatLeave F cells reach filled fc (nI m) = some (nI N) := by
  have f1 : fx .one 8 = 8 := by decide
  have h0 : Hc (Mb R C m 0) (if m = 8 then 1 else 0) := by
    by_cases e : m = 8
    · rw [if_pos e]
      refine Hc.single .one (fun x => ?_)
      constructor
      · rintro ⟨-, -, b3 | ⟨j, hj, -⟩⟩
        · exact b3
        · omega
      · rintro rfl
        exact ⟨Lv_one T.1 (Nat.zero_le 8), by rw [f1, e], Or.inl rfl⟩
    · rw [if_neg e]
      refine Hc.none (fun x ⟨_, b2, b3⟩ => ?_)
      rcases b3 with rfl | ⟨j, hj, -⟩
      · rw [f1] at b2; exact e b2.symm
      · omega
  obtain ⟨N, c, e⟩ := still_out T hc hF hm 8 0 F _ (by omega) (by omega) h0
  refine ⟨N, c.congr (fun x => ?_), ?_⟩
  · constructor
    · exact fun h => ⟨h.1, h.2.1⟩
    · rintro ⟨b1, b2⟩
      refine ⟨b1, b2, ?_⟩
      by_cases ho : x = .one
      · exact Or.inl ho
      · right
        apply Classical.byContradiction
        intro hn
        exact ho (Pm.ext8 fun j hj => Classical.byContradiction fun h => hn ⟨j, hj, h⟩)
  · unfold mX4_turnsThatLeave
    simp only [lT]
    have e2 : (if nI m = 8 then (1 : Int32) else 0) = nI (if m = 8 then 1 else 0) := by
      by_cases em : m = 8
      · rw [if_pos em, if_pos (by rw [em]; rfl)]; rfl
      · rw [if_neg em, if_neg (show ¬ nI m = (8 : Int32) from fun h => em ((nI_eq (b := 8) (by omega) (by omega)).mp h))]; rfl
    rw [e2, bd_e (show mX4_turnsThatLeave_L14 F (nI m) cells reach filled fc F (nI (if m = 8 then 1 else 0)) 0 = _ from e)]
end STI
