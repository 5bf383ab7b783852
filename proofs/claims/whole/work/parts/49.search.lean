/-! ===== search, gather ===== -/
/-- ahead in order -/
def Lx (x y : Pm) : Prop := ∃ i, i < 8 ∧ (∀ j, j < i → x.ap j = y.ap j) ∧ x.ap i < y.ap i
theorem Lx.irrefl {x : Pm} : ¬ Lx x x := fun ⟨_, _, _, h⟩ => by omega
theorem Lx.trans {x y z : Pm} (h : Lx x y) (h2 : Lx y z) : Lx x z := by
  obtain ⟨i, hi, a1, a2⟩ := h
  obtain ⟨j, hj, b1, b2⟩ := h2
  rcases Nat.lt_trichotomy i j with h | h | h
  · exact ⟨i, hi, fun k hk => (a1 k hk).trans (b1 k (by omega)), by rw [← b1 i h]; exact a2⟩
  · subst h
    exact ⟨i, hi, fun k hk => (a1 k hk).trans (b1 k hk), by omega⟩
  · exact ⟨j, hj, fun k hk => (a1 k (by omega)).trans (b1 k hk), by rw [a1 j h]; exact b2⟩
theorem Lx.total (x y : Pm) : Lx x y ∨ x = y ∨ Lx y x := by
  by_cases h : x = y
  · exact Or.inr (Or.inl h)
  · have : ∃ i, i < 8 ∧ x.ap i ≠ y.ap i := by
      apply Classical.byContradiction
      intro hc
      exact h (Pm.ext8 fun i hi => Classical.byContradiction fun hn => hc ⟨i, hi, hn⟩)
    obtain ⟨i, ⟨hi, hn⟩, hl⟩ := pk_least _ this
    have heq : ∀ j, j < i → x.ap j = y.ap j := fun j hj => Classical.byContradiction fun hn => hl j hj ⟨by omega, hn⟩
    rcases Nat.lt_or_gt_of_ne hn with h1 | h1
    · exact Or.inl ⟨i, hi, heq, h1⟩
    · exact Or.inr (Or.inr ⟨i, hi, fun j hj => (heq j hj).symm, h1⟩)
/-- what levels from l on make of what is above, and fits -/
def SS (R : Nat → Nat) (C : Nat → Nat → Pm) (fit : Pm → Nat → Prop) (l : Nat) (v x : Pm) : Prop := ∃ u, Lv R C l u ∧ x = u.th v ∧ ∀ k, l ≤ k → k < 8 → fit x k
def SR (S : Pm → Prop) (r : Option Int32) : Prop := (∃ x, S x ∧ (∀ y, S y → y = x ∨ Lx x y) ∧ r = some (cdp x)) ∨ ((∀ x, ¬ S x) ∧ r = some 0)
section SEA
variable {R : Nat → Nat} {C : Nat → Nat → Pm} {fit : Pm → Nat → Prop}
theorem SS_low (T : TwOk R C) {l : Nat} (hl : l ≤ 8) {v x : Pm} (h : SS R C fit l v x) {j : Nat} (hj : j < l) : x.ap j = v.ap j := by
  obtain ⟨u, hu, rfl, -⟩ := h
  rw [Pm.ap_th, Lv_fix T hl hu hj]
theorem SS_s (T : TwOk R C) (hloc : ∀ x y l, (∀ j, j ≤ l → x.ap j = y.ap j) → (fit x l ↔ fit y l)) {l : Nat} (hl : l < 8) {v x : Pm} : SS R C fit l v x ↔ ∃ p, (R l).testBit p = true ∧ fit ((C l p).th v) l ∧ SS R C fit (l + 1) ((C l p).th v) x := by
  constructor
  · rintro ⟨u, hu, rfl, hf⟩
    obtain ⟨p, b, hp, hb, rfl⟩ := (Lv_s hl).mp hu
    refine ⟨p, hp, ?_, b, hb, by rw [Pm.th_assoc], fun k h1 h2 => hf k (by omega) h2⟩
    refine (hloc _ _ l (fun j hj => ?_)).mp (hf l (Nat.le_refl l) hl)
    rw [Pm.ap_th, Pm.ap_th, Pm.ap_th, Lv_fix T (i := l + 1) (by omega) hb (by omega)]
  · rintro ⟨p, hp, hf, b, hb, rfl, hk⟩
    refine ⟨b.th (C l p), (Lv_s hl).mpr ⟨p, b, hp, hb, rfl⟩, by rw [Pm.th_assoc], fun k h1 h2 => ?_⟩
    by_cases e : k = l
    · subst e
      refine (hloc _ _ k (fun j hj => ?_)).mpr hf
      rw [Pm.ap_th, Lv_fix T (i := k + 1) (by omega) hb (by omega)]
    · exact hk k (by omega) h2
theorem SS_at (T : TwOk R C) {l p : Nat} (hl : l < 8) (hp : (R l).testBit p = true) {v x : Pm} (h : SS R C fit (l + 1) ((C l p).th v) x) : x.ap l = v.ap p := by
  rw [SS_low T (by omega) h (by omega), Pm.ap_th, T.at hl hp]
variable {fl : List (Nat × Nat)} {cells back reach filled : Nat → Int32} {fc : Int32}
theorem step_is (T : Tow R C fl cells back reach filled fc) {F : Nat} (hF : 50000 ≤ F) {l p : Nat} (hl : l < 8) (hp : (R l).testBit p = true) (v : Pm) : mX4_step F cells (nI l) (cdp v) (nI p) = some (cdp ((C l p).th v)) := by
  unfold mX4_step
  have h8 := T.1.lt hl hp
  by_cases e : p = l
  · subst e
    rw [if_pos rfl, T.1.self hl, Pm.one_th]
  · rw [if_neg (fun h => e ((nI_eq (by omega) (by omega)).mp h)), cell_is, gd_t (inb_n (by omega) (by omega)), cl_n (by omega), (T.2.2.1 l p hl hp e).1, bd_e (chain_is hF _ _)]
/-- the wish answers as fit says -/
def Wsh (F wk : Nat) (wa wb : Int32) (uback ureach umakers : Nat → Int32) (umc : Int32) (fit : Pm → Nat → Prop) : Prop := (∀ x y l, (∀ j, j ≤ l → x.ap j = y.ap j) → (fit x l ↔ fit y l)) ∧ ∀ x l, l < 8 → (fit x l ∧ mW_fits F wk wa wb uback ureach umakers umc (cdp x) (nI l) = some 1) ∨ (¬ fit x l ∧ mW_fits F wk wa wb uback ureach umakers umc (cdp x) (nI l) = some 0)
variable {F wk : Nat} {wa wb : Int32} {uback ureach umakers : Nat → Int32} {umc : Int32}
theorem search_L (T : Tow R C fl cells back reach filled fc) (hF : 50000 ≤ F) (hw : Wsh F wk wa wb uback ureach umakers umc fit) {l : Nat} (hl : l < 8) (v : Pm) (zrec : Int32 → Int32 → Option Int32) (hrec : ∀ v, SR (SS R C fit (l + 1) v) (zrec (nI (l + 1)) (cdp v))) : ∀ (d i f : Nat), i + d = 8 → d < f → (∀ x, SS R C fit l v x → i ≤ x.ap l) → SR (SS R C fit l v) (mX4_search_L17 zrec F wk (nI l) (cdp v) (cdp v.bk) cells reach wa wb uback ureach umakers umc f (nI i))
  | 0, i, f, hi, hf, hno => by
    obtain ⟨f, rfl⟩ : ∃ g, f = g + 1 := ⟨f - 1, by omega⟩
    have : i = 8 := by omega
    subst this
    right
    refine ⟨fun x hx => ?_, by rw [mX4_search_L17_s, if_pos ge8]⟩
    have h1 := hno x hx
    have h2 := x.ap_lt hl
    omega
  | d + 1, i, f, hi, hf, hno => by
    obtain ⟨f, rfl⟩ : ∃ g, f = g + 1 := ⟨f - 1, by omega⟩
    have hi8 : i < 8 := by omega
    have hp8 := v.pa_lt hi8
    have go := search_L T hF hw hl v zrec hrec d (i + 1) f (by omega) (by omega)
    rw [mX4_search_L17_s, if_neg (le8 hi8), cdp_im _ hi8, Pm.ap_bk]
    simp only [lT]
    rw [T.rch hl (by omega), nI_1]
    have hup : (∀ x, SS R C fit l v x → x.ap l ≠ i) → ∀ x, SS R C fit l v x → i + 1 ≤ x.ap l := fun h x hx => by
      have h1 := h x hx
      have h2 := hno x hx
      omega
    have hpt : ∀ x, SS R C fit l v x → x.ap l = i → ∃ hb : (R l).testBit (v.pa i) = true, fit ((C l (v.pa i)).th v) l ∧ SS R C fit (l + 1) ((C l (v.pa i)).th v) x := fun x hx e => by
      obtain ⟨p, hp, h1, h2⟩ := (SS_s T.1 hw.1 hl).mp hx
      have h3 := SS_at T.1 hl hp h2
      have h4 : p = v.pa i := by rw [← v.ap_eq]; omega
      subst h4
      exact ⟨hp, h1, h2⟩
    cases hb : (R l).testBit (v.pa i) with
    | false =>
      rw [if_neg (by decide), bd_s, if_pos rfl]
      refine go (hup fun x hx e => ?_)
      obtain ⟨hb2, -⟩ := hpt x hx e
      rw [hb] at hb2
      cases hb2
    | true =>
      rw [if_pos rfl, bd_s, if_neg (by decide), bd_e (step_is T hF hl hb v)]
      rcases hw.2 ((C l (v.pa i)).th v) l hl with ⟨hfit, e⟩ | ⟨hfit, e⟩
      · rw [bd_e e, if_neg (by decide)]
        rcases hrec ((C l (v.pa i)).th v) with ⟨x, hx, hmin, e2⟩ | ⟨hnone, e2⟩
        · rw [nI_1 l, bd_e e2, bd_s, if_neg (cdp_ne0 x)]
          left
          have hxS : SS R C fit l v x := (SS_s T.1 hw.1 hl).mpr ⟨_, hb, hfit, hx⟩
          have hxi : x.ap l = i := by rw [SS_at T.1 hl hb hx, Pm.ap_pa]
          refine ⟨x, hxS, fun y hy => ?_, rfl⟩
          by_cases hyi : y.ap l = i
          · obtain ⟨-, -, h3⟩ := hpt y hy hyi
            exact hmin y h3
          · right
            have h1 := hno y hy
            refine ⟨l, hl, fun j hj => ?_, by omega⟩
            rw [SS_low T.1 (by omega) hxS hj, SS_low T.1 (by omega) hy hj]
        · rw [nI_1 l, bd_e e2, bd_s, if_pos rfl]
          refine go (hup fun x hx e => ?_)
          obtain ⟨-, -, h3⟩ := hpt x hx e
          exact hnone x h3
      · rw [bd_e e, if_pos rfl, bd_s, if_pos rfl]
        refine go (hup fun x hx e => ?_)
        obtain ⟨-, h3, -⟩ := hpt x hx e
        exact hfit h3
theorem search_is (T : Tow R C fl cells back reach filled fc) (hF : 50000 ≤ F) (hw : Wsh F wk wa wb uback ureach umakers umc fit) : ∀ (d l g : Nat), l + d = 8 → d < g → ∀ v, SR (SS R C fit l v) (mX4_search F wk cells reach wa wb uback ureach umakers umc g (nI l) (cdp v))
  | 0, l, g, hl, hg, v => by
    obtain ⟨g, rfl⟩ : ∃ x, g = x + 1 := ⟨g - 1, by omega⟩
    have : l = 8 := by omega
    subst this
    left
    refine ⟨v, ⟨.one, Lv_8.mpr rfl, (Pm.one_th v).symm, fun k h1 h2 => by omega⟩, fun y hy => Or.inl ?_, by rw [mX4_search_s, if_neg (by decide)]⟩
    obtain ⟨u, hu, rfl, -⟩ := hy
    rw [Lv_8.mp hu, Pm.one_th]
  | d + 1, l, g, hl, hg, v => by
    obtain ⟨g, rfl⟩ : ∃ x, g = x + 1 := ⟨g - 1, by omega⟩
    rw [mX4_search_s, if_pos (show nI l < (8 : Int32) from nI_lt (b := 8) (by omega) (by omega)), bd_e (reverse_is hF v)]
    exact search_L T hF hw (by omega) v _ (search_is T hF hw d (l + 1) g (by omega) (by omega)) 8 0 F (by omega) (by omega) (fun x _ => Nat.zero_le _)
theorem firstThat_is (T : Tow R C fl cells back reach filled fc) (hF : 50000 ≤ F) (hw : Wsh F wk wa wb uback ureach umakers umc fit) : SR (fun x => Lv R C 0 x ∧ ∀ k, k < 8 → fit x k) (mX4_firstThat F wk cells reach wa wb uback ureach umakers umc) := by
  have h := search_is T hF hw 8 0 9 (by omega) (by omega) .one
  rw [cdp_one] at h
  have e : SS R C fit 0 .one = (fun x => Lv R C 0 x ∧ ∀ k, k < 8 → fit x k) := funext fun x => propext ⟨fun ⟨u, hu, e, hf⟩ => by
    rw [Pm.th_one] at e
    subst e
    exact ⟨hu, fun k hk => hf k (Nat.zero_le k) hk⟩, fun ⟨h1, h2⟩ => ⟨x, h1, (Pm.th_one x).symm, fun k _ hk => h2 k hk⟩⟩
  rw [← e]
  unfold mX4_firstThat
  rcases h with ⟨x, h1, h2, h3⟩ | ⟨h1, h3⟩
  · exact Or.inl ⟨x, h1, h2, by rw [bd_e (show mX4_search F wk cells reach wa wb uback ureach umakers umc 9 0 1985229328 = _ from h3)]⟩
  · exact Or.inr ⟨h1, by rw [bd_e (show mX4_search F wk cells reach wa wb uback ureach umakers umc 9 0 1985229328 = _ from h3)]⟩
theorem searchCell_is (T : Tow R C fl cells back reach filled fc) (hF : 50000 ≤ F) (hw : Wsh F wk wa wb uback ureach umakers umc fit) {l p : Nat} (hl : l < 8) (hlp : l < p) (hp : (R l).testBit p = true) : SR (fun x => fit (C l p) l ∧ SS R C fit (l + 1) (C l p) x) (mX4_searchCell F wk cells reach wa wb uback ureach umakers umc (nI l) (nI p)) := by
  unfold mX4_searchCell
  have h8 := T.1.lt hl hp
  rw [cell_is, gd_t (inb_n (by omega) (by omega)), cl_n (by omega), (T.2.2.1 l p hl hp (by omega)).1]
  simp only [lT]
  rcases hw.2 (C l p) l hl with ⟨hfit, e⟩ | ⟨hfit, e⟩
  · rw [bd_e e, if_neg (by decide), nI_1]
    rcases search_is T hF hw (7 - l) (l + 1) 9 (by omega) (by omega) (C l p) with ⟨x, h1, h2, h3⟩ | ⟨h1, h3⟩
    · exact Or.inl ⟨x, ⟨hfit, h1⟩, fun y hy => h2 y hy.2, by rw [bd_e h3]⟩
    · exact Or.inr ⟨fun x hx => h1 x hx.2, by rw [bd_e h3]⟩
  · rw [bd_e e, if_pos rfl]
    exact Or.inr ⟨fun x hx => hfit hx.1, rfl⟩
end SEA
/-- what the wish says of whole turns -/
def Whl (fit : Pm → Nat → Prop) (W : Pm → Prop) : Prop := (∀ x, W x → ∀ l, l < 8 → fit x l) ∧ ∀ x l0, l0 < 8 → (∀ j, j < l0 → x.ap j = j) → (∀ l, l0 ≤ l → l < 8 → fit x l) → W x
theorem TG.rchs {mq : List Pm} {t : TW} (h : TG mq t) {l p : Nat} (hl : l < 8) (hp : p < 8) : ((∃ k, GL mq k ∧ (∀ j, j < l → k.ap j = j) ∧ k.ap l = p) ∧ mX4_reaches t.2.2.1 (nI l) (nI p) = some 1) ∨ (¬ (∃ k, GL mq k ∧ (∀ j, j < l → k.ap j = j) ∧ k.ap l = p) ∧ mX4_reaches t.2.2.1 (nI l) (nI p) = some 0) := by
  obtain ⟨R, C, fl, T, hc, hG, hI, hm, hn⟩ := h
  rw [T.rch hl (by omega)]
  cases hb : (R l).testBit p with
  | true =>
    left
    exact ⟨⟨C l p, (hG _).mpr (Lv_mono T.1 (Nat.zero_le l) (by omega) (Lv_cell T.1 hl hb)), fun j hj => T.1.fix hl hb hj, T.1.at hl hb⟩, rfl⟩
  | false =>
    right
    refine ⟨fun ⟨k, h1, h2, h3⟩ => ?_, rfl⟩
    have := ((Lv_sift T.1 hl).mp ((Lv_iff T.1 (by omega)).mpr ⟨(hG k).mp h1, h2⟩)).1
    rw [h3, hb] at this
    cases this
section GAT
variable {fm : List Pm} {tf0 : TW} {fit : Pm → Nat → Prop} {W : Pm → Prop} {F wk : Nat} {wa wb : Int32} {uback ureach umakers : Nat → Int32} {umc : Int32}
/-- one place of a level: whether a turn that is wished goes there -/
theorem cellFor_is (hfm : TG fm tf0) (hF : 50000 ≤ F) (hw : Wsh F wk wa wb uback ureach umakers umc fit) (hW : Whl fit W) {l p : Nat} (hl : l < 8) (hlp : l < p) (hp : p < 8) (hr : ∃ k, GL fm k ∧ (∀ j, j < l → k.ap j = j) ∧ k.ap l = p) : (∃ x, (GL fm x ∧ W x) ∧ (∀ j, j < l → x.ap j = j) ∧ x.ap l = p ∧ mX4_searchCell F wk tf0.1 tf0.2.2.1 wa wb uback ureach umakers umc (nI l) (nI p) = some (cdp x)) ∨ ((∀ x, GL fm x → W x → (∀ j, j < l → x.ap j = j) → x.ap l ≠ p) ∧ mX4_searchCell F wk tf0.1 tf0.2.2.1 wa wb uback ureach umakers umc (nI l) (nI p) = some 0) := by
  obtain ⟨R, C, fl, T, hc, hG, hI, hm, hn⟩ := hfm
  have hb : (R l).testBit p = true := by
    obtain ⟨k, h1, h2, h3⟩ := hr
    have := ((Lv_sift T.1 hl).mp ((Lv_iff T.1 (by omega)).mpr ⟨(hG k).mp h1, h2⟩)).1
    rwa [h3] at this
  rcases searchCell_is T hF hw hl hlp hb with ⟨x, ⟨h1, u, hu, rfl, hf⟩, -, e⟩ | ⟨h1, e⟩
  · left
    have hx : Lv R C l (u.th (C l p)) := (Lv_s hl).mpr ⟨p, u, hb, hu, rfl⟩
    have hxl := (Lv_iff T.1 (by omega)).mp hx
    have hat : (u.th (C l p)).ap l = p := by rw [Pm.ap_th, Lv_fix T.1 (i := l + 1) (by omega) hu (by omega), T.1.at hl hb]
    refine ⟨_, ⟨(hG _).mpr hxl.1, hW.2 _ l hl hxl.2 (fun k h2 h3 => ?_)⟩, hxl.2, hat, e⟩
    by_cases ek : k = l
    · subst ek
      refine (hw.1 _ _ k (fun j hj => ?_)).mpr h1
      rw [Pm.ap_th, Lv_fix T.1 (i := k + 1) (by omega) hu (by omega)]
    · exact hf k (by omega) h3
  · right
    refine ⟨fun x hx hwx hfx hat => h1 x ?_, e⟩
    have hxl : Lv R C l x := (Lv_iff T.1 (by omega)).mpr ⟨(hG x).mp hx, hfx⟩
    obtain ⟨q, u, hq, hu, rfl⟩ := (Lv_s hl).mp hxl
    have h2 : q = p := by rw [← hat, Pm.ap_th, Lv_fix T.1 (i := l + 1) (by omega) hu (by omega), T.1.at hl hq]
    subst h2
    refine ⟨?_, u, hu, rfl, fun k _ hk => hW.1 _ hwx k hk⟩
    refine (hw.1 _ _ l (fun j hj => ?_)).mp (hW.1 _ hwx l hl)
    rw [Pm.ap_th, Lv_fix T.1 (i := l + 1) (by omega) hu (by omega)]
theorem gather_in (hfm : TG fm tf0) (hF : 50000 ≤ F) (hw : Wsh F wk wa wb uback ureach umakers umc fit) (hW : Whl fit W) (hH : Grp (fun x => GL fm x ∧ W x)) {l : Nat} (hl : l < 8) : ∀ (d p f : Nat) (mq : List Pm) (t : TW), TG mq t → p + d = 8 → d < f → l < p → (∀ x, x ∈ mq → GL fm x ∧ W x) → (∀ a, GL fm a → W a → (∀ j, j ≤ l → a.ap j = j) → GL mq a) → (∀ a, GL fm a → W a → (∀ j, j < l → a.ap j = j) → l < a.ap l → a.ap l < p → GL mq a) → ∃ t2 mr, mX4_gather_L16 F wk (nI l) tf0.1 tf0.2.2.1 wa wb uback ureach umakers umc f (nI p) t.1 t.2.1 t.2.2.1 t.2.2.2.1 t.2.2.2.2.1 t.2.2.2.2.2.1 t.2.2.2.2.2.2 = some t2 ∧ TG mr t2 ∧ (∀ x, x ∈ mr → GL fm x ∧ W x) ∧ (∀ a, GL fm a → W a → (∀ j, j < l → a.ap j = j) → GL mr a)
  | 0, p, f, mq, t, h, hp, hf, hlp, a1, a2, a3 => by
    obtain ⟨f, rfl⟩ : ∃ g, f = g + 1 := ⟨f - 1, by omega⟩
    have : p = 8 := by omega
    subst this
    refine ⟨t, mq, by rw [mX4_gather_L16_s, if_pos ge8], h, a1, fun a h1 h2 h3 => ?_⟩
    have hge : l ≤ a.ap l := by
      apply Classical.byContradiction
      intro hc
      have := a.inj (h3 (a.ap l) (by omega))
      omega
    by_cases e : a.ap l = l
    · exact a2 a h1 h2 (fun j hj => by
        by_cases ej : j = l
        · subst ej; exact e
        · exact h3 j (by omega))
    · exact a3 a h1 h2 h3 (by omega) (a.ap_lt hl)
  | d + 1, p, f, mq, t, h, hp, hf, hlp, a1, a2, a3 => by
    obtain ⟨f, rfl⟩ : ∃ g, f = g + 1 := ⟨f - 1, by omega⟩
    have hp8 : p < 8 := by omega
    have hsub : ∀ k, GL mq k → GL fm k ∧ W k := fun k hk => Gen.least hH a1 hk
    -- what goes on with a list nr that has all that goes to p
    have go : ∀ nr tr, TG nr tr → (∀ x, x ∈ nr → GL fm x ∧ W x) → (∀ x, GL mq x → GL nr x) → (∀ a, GL fm a → W a → (∀ j, j < l → a.ap j = j) → a.ap l = p → GL nr a) → ∃ t2 mr, mX4_gather_L16 F wk (nI l) tf0.1 tf0.2.2.1 wa wb uback ureach umakers umc f (nI (p + 1)) tr.1 tr.2.1 tr.2.2.1 tr.2.2.2.1 tr.2.2.2.2.1 tr.2.2.2.2.2.1 tr.2.2.2.2.2.2 = some t2 ∧ TG mr t2 ∧ (∀ x, x ∈ mr → GL fm x ∧ W x) ∧ (∀ a, GL fm a → W a → (∀ j, j < l → a.ap j = j) → GL mr a) := by
      intro nr tr hr b1 b2 b3
      refine gather_in hfm hF hw hW hH hl d (p + 1) f nr tr hr (by omega) (by omega) (by omega) b1 (fun a h1 h2 h3 => b2 a (a2 a h1 h2 h3)) (fun a h1 h2 h3 h4 h5 => ?_)
      by_cases e : a.ap l = p
      · exact b3 a h1 h2 h3 e
      · exact b2 a (a3 a h1 h2 h3 h4 (by omega))
    -- one turn that goes to p is enough
    have enough : ∀ (nr : List Pm) (k : Pm), (∀ x, GL mq x → GL nr x) → GL nr k → (GL fm k ∧ W k) → (∀ j, j < l → k.ap j = j) → k.ap l = p → ∀ a, GL fm a → W a → (∀ j, j < l → a.ap j = j) → a.ap l = p → GL nr a := by
      intro nr k b2 hk hkH hkf hkp a h1 h2 h3 h4
      have h5 : GL fm (a.th k.bk) ∧ W (a.th k.bk) := hH.2.1 _ _ ⟨h1, h2⟩ (hH.2.2 _ hkH)
      have h6 : ∀ j, j ≤ l → (a.th k.bk).ap j = j := fun j hj => by
        rw [Pm.ap_th, Pm.ap_bk, Pm.pa_eq]
        by_cases e : j = l
        · subst e; omega
        · rw [h3 j (by omega), hkf j (by omega)]
      have h7 := (GL.grp nr).2.1 _ _ (b2 _ (a2 _ h5.1 h5.2 h6)) hk
      rwa [Pm.th_can_bk] at h7
    rw [mX4_gather_L16_s, if_neg (le8 hp8), nI_1]
    rcases hfm.rchs hl hp8 with ⟨hex, e1⟩ | ⟨hno, e1⟩
    · rw [bd_e e1, if_neg (by decide)]
      rcases h.rchs hl hp8 with ⟨⟨k, hk, hkf, hkp⟩, e2⟩ | ⟨hno2, e2⟩
      · rw [bd_e e2, if_neg (by decide)]
        obtain ⟨t2, mr, e, h3⟩ := go mq t h a1 (fun _ hx => hx) (enough mq k (fun _ hx => hx) hk (hsub k hk) hkf hkp)
        exact ⟨t2, mr, e, h3⟩
      · rw [bd_e e2, if_pos rfl]
        rcases cellFor_is hfm hF hw hW hl hlp hp8 hex with ⟨x, hx, hxf, hxp, e3⟩ | ⟨hnone, e3⟩
        · rw [bd_e e3, if_neg (cdp_ne0 x)]
          obtain ⟨z, ⟨c2, b2, r2, f2, n2, k2, m2⟩, e4, h4, -⟩ := join_is h hF x
          rw [bd8_e e4]
          obtain ⟨t2, mr, e, h3⟩ := go (jn mq x) _ h4 (fun y hy => (jn_mem hy).elim (a1 y) (fun e => e ▸ hx)) (fun y hy => GL_jn_mono hy) (enough _ x (fun y hy => GL_jn_mono hy) (GL_jn_self mq x) hx hxf hxp)
          exact ⟨t2, mr, e, h3⟩
        · rw [bd_e e3, if_pos rfl]
          obtain ⟨t2, mr, e, h3⟩ := go mq t h a1 (fun _ hx => hx) (fun a b1 b2 b3 b4 => absurd b4 (hnone a b1 b2 b3))
          exact ⟨t2, mr, e, h3⟩
    · rw [bd_e e1, if_pos rfl]
      obtain ⟨t2, mr, e, h3⟩ := go mq t h a1 (fun _ hx => hx) (fun a b1 b2 b3 b4 => absurd ⟨a, b1, b3, b4⟩ hno)
      exact ⟨t2, mr, e, h3⟩
theorem gather_L (hfm : TG fm tf0) (hF : 50000 ≤ F) (hw : Wsh F wk wa wb uback ureach umakers umc fit) (hW : Whl fit W) (hH : Grp (fun x => GL fm x ∧ W x)) : ∀ (l f : Nat) (mq : List Pm) (t : TW), TG mq t → l < 8 → l + 1 < f → (∀ x, x ∈ mq → GL fm x ∧ W x) → (∀ a, GL fm a → W a → (∀ j, j ≤ l → a.ap j = j) → GL mq a) → ∃ t2 mr, mX4_gather_L7 F wk tf0.1 tf0.2.2.1 wa wb uback ureach umakers umc f (nI l) t.1 t.2.1 t.2.2.1 t.2.2.2.1 t.2.2.2.2.1 t.2.2.2.2.2.1 t.2.2.2.2.2.2 = some t2 ∧ TG mr t2 ∧ (∀ x, x ∈ mr → GL fm x ∧ W x) ∧ (∀ a, GL fm a → W a → GL mr a) := by
  intro l
  induction l with
  | zero =>
    intro f mq t h hl hf a1 a2
    obtain ⟨f, rfl⟩ : ∃ g, f = g + 2 := ⟨f - 2, by omega⟩
    obtain ⟨⟨c2, b2, r2, f2, n2, k2, m2⟩, mr, e, h2, b1, b3⟩ := gather_in hfm hF hw hW hH (l := 0) (by omega) 7 1 F mq t h (by omega) (by omega) (by omega) a1 a2 (fun a _ _ _ h4 h5 => by omega)
    refine ⟨_, mr, ?_, h2, b1, fun a h3 h4 => b3 a h3 h4 (fun j hj => by omega)⟩
    rw [mX4_gather_L7_s, if_neg (by decide)]
    simp only [lT]
    rw [bd7_e (show mX4_gather_L16 F wk (nI 0) tf0.1 tf0.2.2.1 wa wb uback ureach umakers umc F (nI 0 + 1) t.1 t.2.1 t.2.2.1 t.2.2.2.1 t.2.2.2.2.1 t.2.2.2.2.2.1 t.2.2.2.2.2.2 = _ from e), mX4_gather_L7_s, if_pos (by decide)]
  | succ l ih =>
    intro f mq t h hl hf a1 a2
    obtain ⟨f, rfl⟩ : ∃ g, f = g + 1 := ⟨f - 1, by omega⟩
    obtain ⟨⟨c2, b2, r2, f2, n2, k2, m2⟩, m1, e, h2, b1, b3⟩ := gather_in hfm hF hw hW hH (l := l + 1) (by omega) (6 - l) (l + 2) F mq t h (by omega) (by omega) (by omega) a1 a2 (fun a _ _ _ h4 h5 => by omega)
    obtain ⟨t3, mr, e3, h3, c1, c2'⟩ := ih f m1 _ h2 (by omega) (by omega) b1 (fun a h3 h4 h5 => b3 a h3 h4 (fun j hj => h5 j (by omega)))
    refine ⟨t3, mr, ?_, h3, c1, c2'⟩
    rw [mX4_gather_L7_s, if_neg (nI_pos (by omega))]
    simp only [lT]
    rw [nI_1, bd7_e e, pk_m1]
    exact e3
theorem gather_is (hfm : TG fm tf0) (hF : 50000 ≤ F) (hw : Wsh F wk wa wb uback ureach umakers umc fit) (hW : Whl fit W) (hH : Grp (fun x => GL fm x ∧ W x)) (t : TW) : ∃ t2 mr, mX4_gather F wk t.1 t.2.1 t.2.2.1 t.2.2.2.1 t.2.2.2.2.1 t.2.2.2.2.2.1 t.2.2.2.2.2.2 tf0.1 tf0.2.2.1 wa wb uback ureach umakers umc = some t2 ∧ TG mr t2 ∧ ∀ a, GL mr a ↔ GL fm a ∧ W a := by
  obtain ⟨r1, e1, h1⟩ := clear_is hF t.1 t.2.1 t.2.2.1 t.2.2.2.1 t.2.2.2.2.1 t.2.2.2.2.2.1 t.2.2.2.2.2.2
  obtain ⟨⟨c2, b2, r2, f2, n2, k2, m2⟩, mr, e, h2, b1, b2'⟩ := gather_L hfm hF hw hW hH 7 F [] _ h1 (by omega) (by omega) (fun x hx => absurd hx List.not_mem_nil) (fun a _ _ h3 => (GL_nil a).mpr (Pm.ext8 fun j hj => h3 j (by omega)))
  refine ⟨_, mr, ?_, h2, fun a => ⟨fun ha => Gen.least hH b1 ha, fun ha => b2' a ha.1 ha.2⟩⟩
  unfold mX4_gather
  rw [bd3_e e1, bd7_e (show mX4_gather_L7 F wk tf0.1 tf0.2.2.1 wa wb uback ureach umakers umc F 7 t.1 t.2.1 r1 t.2.2.2.1 0 t.2.2.2.2.2.1 0 = _ from e)]
end GAT
