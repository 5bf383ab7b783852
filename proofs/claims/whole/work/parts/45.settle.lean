/-! ===== a tower in its arrays: settle, spread, join ===== -/
def prs : List (Nat × Nat) := [(0,1),(0,2),(0,3),(0,4),(0,5),(0,6),(0,7),(1,2),(1,3),(1,4),(1,5),(1,6),(1,7),(2,3),(2,4),(2,5),(2,6),(2,7),(3,4),(3,5),(3,6),(3,7),(4,5),(4,6),(4,7),(5,6),(5,7),(6,7)]
theorem prs_in : ∀ p, p < 8 → ∀ i, i < p → (i, p) ∈ prs := by decide
theorem prs_len : prs.length = 28 := rfl
theorem prs_nd : prs.Nodup := by decide
theorem prs_of : ∀ x, x ∈ prs → x.1 < x.2 ∧ x.2 < 8 := by decide
/-- the arrays hold the tower; fl: the filled cells in their order -/
def Rep (R : Nat → Nat) (C : Nat → Nat → Pm) (fl : List (Nat × Nat)) (cells back reach filled : Nat → Int32) (fc : Int32) : Prop :=
  (∀ i, i < 8 → reach i = nI (R i)) ∧ (∀ i p, i < 8 → (R i).testBit p = true → p ≠ i → cells (8 * i + p) = cdp (C i p) ∧ back (8 * i + p) = cdp (C i p).bk) ∧ fc = nI fl.length ∧ (∀ k x, fl[k]? = some x → filled k = nI (8 * x.1 + x.2)) ∧ (∀ i p, (i, p) ∈ fl ↔ i < 8 ∧ (R i).testBit p = true ∧ p ≠ i) ∧ fl.Nodup
def Tow (R : Nat → Nat) (C : Nat → Nat → Pm) (fl : List (Nat × Nat)) (cells back reach filled : Nat → Int32) (fc : Int32) : Prop := TwOk R C ∧ Rep R C fl cells back reach filled fc
section TWS
variable {R : Nat → Nat} {C : Nat → Nat → Pm} {fl : List (Nat × Nat)} {cells back reach filled : Nat → Int32} {fc : Int32}
theorem Tow.mem (T : Tow R C fl cells back reach filled fc) {i p : Nat} (h : (i, p) ∈ fl) : i < p ∧ p < 8 ∧ (R i).testBit p = true := by
  obtain ⟨h1, h2, h3⟩ := (T.2.2.2.2.2.1 i p).mp h
  have h4 := T.1.ge h1 h2
  exact ⟨by omega, T.1.lt h1 h2, h2⟩
theorem Tow.sub (T : Tow R C fl cells back reach filled fc) : ∀ x, x ∈ fl → x ∈ prs := fun x hx => by
  obtain ⟨h1, h2, -⟩ := T.mem (i := x.1) (p := x.2) hx
  exact prs_in x.2 h2 x.1 h1
theorem Tow.len (T : Tow R C fl cells back reach filled fc) : fl.length ≤ 28 := nd_le fl prs T.2.2.2.2.2.2 T.sub
theorem Tow.room (T : Tow R C fl cells back reach filled fc) {i p : Nat} (hip : i < p) (hp : p < 8) (hn : (R i).testBit p = false) : fl.length < 28 := by
  have h1 : (i, p) ∉ fl := fun h => by
    have := (T.mem h).2.2
    rw [hn] at this
    cases this
  have h2 := nd_le ((i, p) :: fl) prs (List.nodup_cons.mpr ⟨h1, T.2.2.2.2.2.2⟩) (fun x hx => by
    rcases List.mem_cons.mp hx with rfl | hx
    · exact prs_in p hp i hip
    · exact T.sub x hx)
  rw [List.length_cons, prs_len] at h2
  exact h2
theorem Tow.full (T : Tow R C fl cells back reach filled fc) (h : 28 ≤ fl.length) {i p : Nat} (hip : i ≤ p) (hp : p < 8) : (R i).testBit p = true := by
  by_cases e : i = p
  · subst e; exact T.1.bit hp
  · apply Classical.byContradiction
    intro hc
    have := T.room (i := i) (p := p) (by omega) hp (by simpa using hc)
    omega
theorem Tow.rch (T : Tow R C fl cells back reach filled fc) {l p : Nat} (hl : l < 8) (hp : p < 31) : mX4_reaches reach (nI l) (nI p) = some (if (R l).testBit p then 1 else 0) := reaches_is T.2.1 (fun i hi => (T.1 i hi).1) hl hp
theorem sf_low (T : TwOk R C) {a : Pm} {l : Nat} (hl : l < 8) (hs : SfOk R C l a) : l ≤ (sf C l a).ap l := by
  apply Classical.byContradiction
  intro hc
  have h1 := sf_fix T (by omega) hs ((sf C l a).ap l) (by omega)
  have h2 := (sf C l a).inj h1
  omega
theorem sf_in (T : TwOk R C) {G : Pm → Prop} (hG : Grp G) (hC : ∀ i p, i < 8 → (R i).testBit p = true → G (C i p)) {a : Pm} (ha : G a) : ∀ {l : Nat}, l ≤ 8 → SfOk R C l a → G (sf C l a)
  | 0, _, _ => ha
  | l + 1, hl, hs => hG.2.1 _ _ (sf_in T hG hC ha (l := l) (by omega) (hs.down (by omega))) (hG.2.2 _ (hC l _ (by omega) (hs l (by omega))))
/-- one level taken off, as the loops do it -/
theorem sf_step (T : Tow R C fl cells back reach filled fc) {F : Nat} (hF : 50000 ≤ F) {a : Pm} {l : Nat} (hl : l < 8) (hb : (R l).testBit ((sf C l a).ap l) = true) : (if nI ((sf C l a).ap l) = nI l then some (cdp (sf C l a)) else gd (inb (nI (8 * l + (sf C l a).ap l)) 64) (bd (mX6_chain F (cdp (sf C l a)) (back (nI (8 * l + (sf C l a).ap l)).toNatClampNeg)) (fun zr => some zr))) = some (cdp (sf C (l + 1) a)) := by
  have h8 := T.1.lt hl hb
  by_cases e : (sf C l a).ap l = l
  · rw [if_pos (by rw [e]), sf_s, e, T.1.self hl]
    rfl
  · rw [if_neg (fun h => e ((nI_eq (by omega) (by omega)).mp h)), gd_t (inb_n (by omega) (by omega)), cl_n (by omega), (T.2.2.1 l _ hl hb e).2, bd_e (chain_is hF _ _), sf_s]
theorem Rep.up (T : Tow R C fl cells back reach filled fc) {i p : Nat} {x : Pm} (hi : i < 8) (hip : i < p) (hp : p < 8) (hn : (R i).testBit p = false) : Rep (upR R i p) (upC C i p x) (fl ++ [(i, p)]) (upd cells (8 * i + p) (cdp x)) (upd back (8 * i + p) (cdp x.bk)) (upd reach i (nI (R i ||| 2 ^ p))) (upd filled fl.length (nI (8 * i + p))) (nI (fl.length + 1)) := by
  obtain ⟨h1, h2, h3, h4, h5, h6⟩ := T.2
  refine ⟨fun k hk => ?_, fun k r hk hr hrk => ?_, ?_, fun k y hy => ?_, fun k r => ?_, ?_⟩
  · unfold upR
    by_cases e : k = i
    · subst e; rw [pk_us, if_pos rfl]
    · rw [pk_un e, if_neg e]; exact h1 k hk
  · by_cases e : k = i ∧ r = p
    · obtain ⟨rfl, rfl⟩ := e
      rw [pk_us, pk_us, upC_same]; exact ⟨rfl, rfl⟩
    · have hr2 : (R k).testBit r = true := by
        rw [upR_bit, Bool.or_eq_true] at hr
        rcases hr with hr | hr
        · exact hr
        · simp only [Bool.and_eq_true, decide_eq_true_eq] at hr
          exact absurd hr e
      have hr8 := T.1.lt hk hr2
      have hne : 8 * k + r ≠ 8 * i + p := by omega
      rw [pk_un hne, pk_un hne, upC_ne e]
      exact h2 k r hk hr2 hrk
  · rw [List.length_append]; rfl
  · by_cases hk : k < fl.length
    · rw [List.getElem?_append_left hk] at hy
      rw [pk_un (by omega)]
      exact h4 k y hy
    · rw [List.getElem?_append_right (by omega)] at hy
      have hk2 : k - fl.length = 0 := by
        apply Classical.byContradiction
        intro hc
        obtain ⟨m, hm⟩ : ∃ m, k - fl.length = m + 1 := ⟨k - fl.length - 1, by omega⟩
        rw [hm] at hy
        simp at hy
      have hk3 : k = fl.length := by omega
      subst hk3
      rw [hk2] at hy
      have : y = (i, p) := by simpa using hy.symm
      subst this
      rw [pk_us]
  · rw [List.mem_append, h5, List.mem_singleton, upR_bit, Bool.or_eq_true, Bool.and_eq_true, decide_eq_true_iff, decide_eq_true_iff]
    constructor
    · rintro (⟨a1, a2, a3⟩ | e)
      · exact ⟨a1, Or.inl a2, a3⟩
      · have e1 : k = i := congrArg Prod.fst e
        have e2 : r = p := congrArg Prod.snd e
        subst e1; subst e2
        exact ⟨hi, Or.inr ⟨rfl, rfl⟩, by omega⟩
    · rintro ⟨a1, a2 | ⟨rfl, rfl⟩, a3⟩
      · exact Or.inl ⟨a1, a2, a3⟩
      · exact Or.inr rfl
  · refine List.pairwise_append.mpr ⟨h6, List.pairwise_singleton _ _, fun a ha b hb e => ?_⟩
    rw [List.mem_singleton] at hb
    subst e
    subst hb
    have := (T.mem ha).2.2
    rw [hn] at this
    cases this
theorem settle_L (T : Tow R C fl cells back reach filled fc) {F : Nat} (hF : 50000 ≤ F) (a : Pm) : ∀ (d l f : Nat), l + d = 8 → d < f → SfOk R C l a →
    (Lv R C 0 a ∧ mX4_settle_L4 F cells back reach filled fc f (cdp (sf C l a)) (nI l) = some (cells, back, reach, filled, fc)) ∨
    (∃ i p, i < 8 ∧ i < p ∧ p < 8 ∧ (R i).testBit p = false ∧ SfOk R C i a ∧ (sf C i a).ap i = p ∧ mX4_settle_L4 F cells back reach filled fc f (cdp (sf C l a)) (nI l) = some (upd cells (8 * i + p) (cdp (sf C i a)), upd back (8 * i + p) (cdp (sf C i a).bk), upd reach i (nI (R i ||| 2 ^ p)), upd filled fl.length (nI (8 * i + p)), nI (fl.length + 1)))
  | 0, l, f, hl, hf, hs => by
    obtain ⟨f, rfl⟩ : ∃ g, f = g + 1 := ⟨f - 1, by omega⟩
    have : l = 8 := by omega
    subst this
    left
    rw [mX4_settle_L4_s, if_pos ge8]
    exact ⟨(Lv_sf T.1).mpr hs, rfl⟩
  | d + 1, l, f, hl, hf, hs => by
    obtain ⟨f, rfl⟩ : ∃ g, f = g + 1 := ⟨f - 1, by omega⟩
    have hl8 : l < 8 := by omega
    rw [mX4_settle_L4_s, if_neg (le8 hl8)]
    by_cases e1 : sf C l a = .one
    · left
      rw [if_pos (cdp_is1.mpr e1)]
      refine ⟨(sf_Lv T.1 (by omega) hs).mpr ?_, rfl⟩
      rw [e1]
      exact Lv_one T.1 (by omega)
    · have hp8 := (sf C l a).ap_lt hl8
      rw [if_neg (fun h => e1 (cdp_is1.mp h)), cdp_im _ hl8]
      simp only [lT]
      rw [cell_is, T.rch hl8 (by omega)]
      cases hb : (R l).testBit ((sf C l a).ap l) with
      | true =>
        rw [if_pos rfl, bd_s, if_neg (by decide), bd_e (sf_step T hF hl8 hb), nI_1]
        refine settle_L T hF a d (l + 1) f (by omega) (by omega) (fun k hk => ?_)
        by_cases e : k = l
        · subst e; exact hb
        · exact hs k (by omega)
      | false =>
        right
        have hlow := sf_low T.1 hl8 hs
        have hne : l ≠ (sf C l a).ap l := fun e => by
          rw [← e, T.1.bit hl8] at hb
          cases hb
        have hroom := T.room (i := l) (p := (sf C l a).ap l) (by omega) hp8 hb
        refine ⟨l, (sf C l a).ap l, hl8, by omega, hp8, hb, hs, rfl, ?_⟩
        rw [if_neg (by decide), bd_s, if_pos rfl, gd_t (inb_n (by omega) (by omega)), cl_n (by omega), bd_e (reverse_is hF _), gd_t (inb_n (by omega) (by omega)), gd_t (inb_n hl8 (by omega)), gd_t (inb_n hl8 (by omega)), cl_n (by omega), T.2.1 l hl8, one_shl (by omega), ni_or, T.2.2.2.1, if_neg (show ¬ (28 : Int32) ≤ _ from nI_ge (b := 28) hroom (by omega)), gd_t (inb_n hroom (by omega)), cl_n (by omega), nI_1]
/-- the pair of the k-th and the m-th filled cell is settled -/
def Pr (R : Nat → Nat) (C : Nat → Nat → Pm) (fl : List (Nat × Nat)) (k m : Nat) : Prop := ∀ x y, fl[k]? = some x → fl[m]? = some y → (x.1 ≤ y.1 → Lv R C 0 ((C x.1 x.2).th (C y.1 y.2))) ∧ (y.1 ≤ x.1 → Lv R C 0 ((C y.1 y.2).th (C x.1 x.2)))
/-- the tower has grown by nothing but turns of each group that has its turns and a -/
def Grw (R : Nat → Nat) (C : Nat → Nat → Pm) (fl : List (Nat × Nat)) (R2 : Nat → Nat) (C2 : Nat → Nat → Pm) (fl2 : List (Nat × Nat)) (X : Pm → Prop) : Prop :=
  Ext R C R2 C2 ∧ (∃ more, fl2 = fl ++ more) ∧ ∀ G, Grp G → (∀ i p, i < 8 → (R i).testBit p = true → G (C i p)) → (∀ a, X a → G a) → ∀ i p, i < 8 → (R2 i).testBit p = true → G (C2 i p)
theorem Grw.refl {X : Pm → Prop} : Grw R C fl R C fl X := ⟨Ext.refl, ⟨[], (List.append_nil fl).symm⟩, fun _ _ h _ => h⟩
end TWS
theorem Grw.trans {R R2 R3 : Nat → Nat} {C C2 C3 : Nat → Nat → Pm} {fl fl2 fl3 : List (Nat × Nat)} {X Y : Pm → Prop} (h : Grw R C fl R2 C2 fl2 X) (h2 : Grw R2 C2 fl2 R3 C3 fl3 Y) : Grw R C fl R3 C3 fl3 (fun a => X a ∨ Y a) := by
  obtain ⟨h3, ⟨m1, e1⟩, h4⟩ := h
  obtain ⟨h5, ⟨m2, e2⟩, h6⟩ := h2
  refine ⟨h3.trans h5, ⟨m1 ++ m2, by rw [e2, e1, List.append_assoc]⟩, fun G hG hC hX => ?_⟩
  exact h6 G hG (h4 G hG hC (fun a ha => hX a (Or.inl ha))) (fun a ha => hX a (Or.inr ha))
/-- what is put in is of the tower's own -/
theorem Grw.own {R R2 : Nat → Nat} {C C2 : Nat → Nat → Pm} {fl fl2 : List (Nat × Nat)} {X Y : Pm → Prop} (h : Grw R C fl R2 C2 fl2 X) (hX : ∀ a, X a → ∀ G, Grp G → (∀ i p, i < 8 → (R i).testBit p = true → G (C i p)) → (∀ a, Y a → G a) → G a) : Grw R C fl R2 C2 fl2 Y := by
  obtain ⟨h1, h2, h3⟩ := h
  exact ⟨h1, h2, fun G hG hC hY => h3 G hG hC (fun a ha => hX a ha G hG hC hY)⟩
theorem Pr.up {R R2 : Nat → Nat} {C C2 : Nat → Nat → Pm} {fl fl2 : List (Nat × Nat)} {X : Pm → Prop} {cells back reach filled : Nat → Int32} {fc : Int32} (T : Tow R C fl cells back reach filled fc) (h : Grw R C fl R2 C2 fl2 X) {k m : Nat} (hk : k < fl.length) (hm : m < fl.length) (hp : Pr R C fl k m) : Pr R2 C2 fl2 k m := by
  obtain ⟨h1, ⟨more, rfl⟩, -⟩ := h
  intro x y hx hy
  rw [List.getElem?_append_left hk] at hx
  rw [List.getElem?_append_left hm] at hy
  have mx := T.mem (i := x.1) (p := x.2) (List.mem_of_getElem? hx)
  have my := T.mem (i := y.1) (p := y.2) (List.mem_of_getElem? hy)
  rw [(h1 x.1 x.2 (by omega) mx.2.2).2, (h1 y.1 y.2 (by omega) my.2.2).2]
  obtain ⟨p1, p2⟩ := hp x y hx hy
  exact ⟨fun h => h1.Lv (by omega) (p1 h), fun h => h1.Lv (by omega) (p2 h)⟩
theorem settle_is {R : Nat → Nat} {C : Nat → Nat → Pm} {fl : List (Nat × Nat)} {cells back reach filled : Nat → Int32} {fc : Int32} (T : Tow R C fl cells back reach filled fc) {F : Nat} (hF : 50000 ≤ F) (a : Pm) : ∃ R2 C2 fl2 c2 b2 r2 f2 n2, mX4_settle F cells back reach filled fc (cdp a) = some (c2, b2, r2, f2, n2) ∧ Tow R2 C2 fl2 c2 b2 r2 f2 n2 ∧ Grw R C fl R2 C2 fl2 (fun x => x = a) ∧ Lv R2 C2 0 a ∧ ((Lv R C 0 a ∧ R2 = R ∧ C2 = C ∧ fl2 = fl ∧ c2 = cells ∧ b2 = back ∧ r2 = reach ∧ f2 = filled ∧ n2 = fc) ∨ (¬ Lv R C 0 a ∧ fl2.length = fl.length + 1)) := by
  unfold mX4_settle
  rcases settle_L T hF a 8 0 F (by omega) (by omega) (fun k hk => by omega) with ⟨h1, h2⟩ | ⟨i, p, hi, hip, hp, hn, hs, hx, h2⟩
  · exact ⟨R, C, fl, cells, back, reach, filled, fc, h2, T, Grw.refl, h1, Or.inl ⟨h1, rfl, rfl, rfl, rfl, rfl, rfl, rfl, rfl⟩⟩
  · have hext : Ext R C (upR R i p) (upC C i p (sf C i a)) := up_ext hn
    have hok : TwOk (upR R i p) (upC C i p (sf C i a)) := up_ok T.1 hi hip hp hn (fun j hj => sf_fix T.1 (by omega) hs j hj) hx
    refine ⟨upR R i p, upC C i p (sf C i a), fl ++ [(i, p)], _, _, _, _, _, h2, ⟨hok, Rep.up T hi hip hp hn⟩, ⟨hext, ⟨_, rfl⟩, fun G hG hC ha k r hk hr => ?_⟩, ?_, Or.inr ⟨fun hL => ?_, by rw [List.length_append]; rfl⟩⟩
    · by_cases e : k = i ∧ r = p
      · obtain ⟨rfl, rfl⟩ := e
        rw [upC_same]
        exact sf_in T.1 hG hC (ha a rfl) (by omega) hs
      · rw [upC_ne e]
        rw [upR_bit, Bool.or_eq_true] at hr
        rcases hr with hr | hr
        · exact hC k r hk hr
        · simp only [Bool.and_eq_true, decide_eq_true_eq] at hr
          exact absurd hr e
    · rw [sf_Lv hok (l := i) (by omega) (hext.ok (by omega) hs), hext.sf (by omega) hs]
      have := Lv_cell hok (i := i) (p := p) hi (by rw [upR_bit]; simp)
      rwa [upC_same] at this
    · have := Lv_ok T.1 hL (l := i + 1) (by omega) i (by omega)
      rw [hx, hn] at this
      cases this
