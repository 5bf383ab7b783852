/-! ===== spread, and join ===== -/
theorem half {R : Nat → Nat} {C : Nat → Nat → Pm} {fl : List (Nat × Nat)} {cells back reach filled : Nat → Int32} {fc : Int32} (T : Tow R C fl cells back reach filled fc) {F : Nat} (hF : 50000 ≤ F) {i p j r : Nat} (hx : (i, p) ∈ fl) (hy : (j, r) ∈ fl) : ∃ R2 C2 fl2 c2 b2 r2 f2 n2, (if mX4_levelOf (nI (8 * j + r)) < mX4_levelOf (nI (8 * i + p)) then some (cells, back, reach, filled, fc) else gd (inb (nI (8 * i + p)) 64) (gd (inb (nI (8 * j + r)) 64) (bd (mX6_chain F (cells (nI (8 * i + p)).toNatClampNeg) (cells (nI (8 * j + r)).toNatClampNeg)) (fun zr => bd5 (mX4_settle F cells back reach filled fc zr) (fun c b e g n => some (c, b, e, g, n)))))) = some (c2, b2, r2, f2, n2) ∧ Tow R2 C2 fl2 c2 b2 r2 f2 n2 ∧ Grw R C fl R2 C2 fl2 (fun _ => False) ∧ (i ≤ j → Lv R2 C2 0 ((C i p).th (C j r))) := by
  have mx := T.mem hx
  have my := T.mem hy
  rw [level_is (by omega) my.2.1, level_is (by omega) mx.2.1]
  by_cases h : j < i
  · exact ⟨R, C, fl, cells, back, reach, filled, fc, by rw [if_pos (nI_lt h (by omega))], T, Grw.refl, fun h2 => by omega⟩
  · obtain ⟨R2, C2, fl2, c2, b2, r2, f2, n2, e, T2, hG, hL, -⟩ := settle_is T hF ((C i p).th (C j r))
    refine ⟨R2, C2, fl2, c2, b2, r2, f2, n2, ?_, T2, hG.own (fun a ha G hG hC _ => by rw [ha]; exact hG.2.1 _ _ (hC i p (by omega) mx.2.2) (hC j r (by omega) my.2.2)), fun _ => hL⟩
    rw [if_neg (nI_nlt (by omega) (by omega)), gd_t (inb_n (by omega) (by omega)), gd_t (inb_n (by omega) (by omega)), cl_n (by omega), cl_n (by omega), (T.2.2.1 i p (by omega) mx.2.2 (by omega)).1, (T.2.2.1 j r (by omega) my.2.2 (by omega)).1, bd_e (chain_is hF _ _), bd5_e e]
theorem Grw.sub {R R2 : Nat → Nat} {C C2 : Nat → Nat → Pm} {fl fl2 : List (Nat × Nat)} {X Y : Pm → Prop} (h : Grw R C fl R2 C2 fl2 X) (hX : ∀ a, X a → Y a) : Grw R C fl R2 C2 fl2 Y := h.own (fun a ha _ _ _ hY => hY a (hX a ha))
theorem Grw.get {R R2 : Nat → Nat} {C C2 : Nat → Nat → Pm} {fl fl2 : List (Nat × Nat)} {X : Pm → Prop} (h : Grw R C fl R2 C2 fl2 X) {k : Nat} {x : Nat × Nat} (hk : fl[k]? = some x) : fl2[k]? = some x := by
  obtain ⟨-, ⟨more, rfl⟩, -⟩ := h
  rw [List.getElem?_append_left (List.getElem?_eq_some_iff.mp hk).1]
  exact hk
theorem Grw.len {R R2 : Nat → Nat} {C C2 : Nat → Nat → Pm} {fl fl2 : List (Nat × Nat)} {X : Pm → Prop} (h : Grw R C fl R2 C2 fl2 X) : fl.length ≤ fl2.length := by
  obtain ⟨-, ⟨more, rfl⟩, -⟩ := h
  rw [List.length_append]
  omega
theorem spread_in {F : Nat} (hF : 50000 ≤ F) {k i p : Nat} : ∀ (d m f : Nat) (R : Nat → Nat) (C : Nat → Nat → Pm) (fl : List (Nat × Nat)) (cells back reach filled : Nat → Int32) (fc : Int32), Tow R C fl cells back reach filled fc → fl[k]? = some (i, p) → m + d = k + 1 → d < f → (∀ j, j < m → Pr R C fl k j) → ∃ R2 C2 fl2 c2 b2 r2 f2 n2, mX4_spreadFrom_L29 F (nI k) (nI (8 * i + p)) f (nI m) cells back reach filled fc = some (c2, b2, r2, f2, n2) ∧ Tow R2 C2 fl2 c2 b2 r2 f2 n2 ∧ Grw R C fl R2 C2 fl2 (fun _ => False) ∧ ∀ j, j ≤ k → Pr R2 C2 fl2 k j
  | 0, m, f, R, C, fl, cells, back, reach, filled, fc, T, hk, hm, hf, hd => by
    obtain ⟨f, rfl⟩ : ∃ g, f = g + 1 := ⟨f - 1, by omega⟩
    have h1 := (List.getElem?_eq_some_iff.mp hk).1
    have h2 := T.len
    exact ⟨R, C, fl, cells, back, reach, filled, fc, by rw [mX4_spreadFrom_L29_s, if_pos (nI_lt (by omega) (by omega))], T, Grw.refl, fun j hj => hd j (by omega)⟩
  | d + 1, m, f, R, C, fl, cells, back, reach, filled, fc, T, hk, hm, hf, hd => by
    obtain ⟨f, rfl⟩ : ∃ g, f = g + 1 := ⟨f - 1, by omega⟩
    have h1 := (List.getElem?_eq_some_iff.mp hk).1
    have h2 := T.len
    obtain ⟨y, hy⟩ : ∃ y, fl[m]? = some y := ⟨fl[m]'(by omega), List.getElem?_eq_getElem (by omega)⟩
    obtain ⟨j, r⟩ := y
    have mx := List.mem_of_getElem? hk
    have my := List.mem_of_getElem? hy
    obtain ⟨R2, C2, fl2, c2, b2, r2, f2, n2, e2, T2, G2, L2⟩ := half T hF mx my
    obtain ⟨R3, C3, fl3, c3, b3, r3, f3, n3, e3, T3, G3, L3⟩ := half T2 hF (List.mem_of_getElem? (G2.get hy)) (List.mem_of_getElem? (G2.get hk))
    have G13 := (G2.trans G3).sub (Y := fun _ => False) (fun a ha => ha.elim id id)
    have hPr : ∀ m', m' < m + 1 → Pr R3 C3 fl3 k m' := by
      intro m' hm'
      by_cases e : m' = m
      · subst e
        intro x y hx hy'
        rw [G13.get hk] at hx
        rw [G13.get hy] at hy'
        cases hx
        cases hy'
        have tx := T.mem mx
        have ty := T.mem my
        have ex := (G2.1 i p (by omega) tx.2.2)
        have ey := (G2.1 j r (by omega) ty.2.2)
        have fx := (G13.1 i p (by omega) tx.2.2)
        have fy := (G13.1 j r (by omega) ty.2.2)
        refine ⟨fun h => ?_, fun h => ?_⟩
        · rw [fx.2, fy.2]
          exact G3.1.Lv (by omega) (L2 h)
        · rw [fx.2, fy.2]
          have := L3 h
          rwa [ex.2, ey.2] at this
      · exact (hd m' (by omega)).up T G13 h1 (by omega)
    obtain ⟨R4, C4, fl4, c4, b4, r4, f4, n4, e4, T4, G4, P4⟩ := spread_in hF d (m + 1) f R3 C3 fl3 c3 b3 r3 f3 n3 T3 (G13.get hk) (by omega) (by omega) hPr
    refine ⟨R4, C4, fl4, c4, b4, r4, f4, n4, ?_, T4, (G13.trans G4).sub (fun a ha => ha.elim id id), P4⟩
    rw [mX4_spreadFrom_L29_s, if_neg (nI_nlt (by omega) (by omega)), gd_t (inb_n (by omega) (by omega)), cl_n (by omega), T.2.2.2.2.1 m (j, r) hy]
    simp only [lT]
    rw [bd5_e e2, bd5_e e3, nI_1, e4]
theorem Lv_all {R : Nat → Nat} {C : Nat → Nat → Pm} (T : TwOk R C) (h : ∀ i p, i ≤ p → p < 8 → (R i).testBit p = true) : ∀ (d i : Nat), i + d = 8 → ∀ a : Pm, (∀ j, j < i → a.ap j = j) → Lv R C i a
  | 0, i, hi, a, ha => by
    have : i = 8 := by omega
    subst this
    exact Lv_8.mpr (Pm.ext8 fun j hj => ha j hj)
  | d + 1, i, hi, a, ha => by
    have h1 : i ≤ a.ap i := by
      apply Classical.byContradiction
      intro hc
      have h1 := a.inj (ha (a.ap i) (by omega))
      omega
    have h2 := a.ap_lt (show i < 8 by omega)
    have h3 := h i _ h1 h2
    refine (Lv_sift T (by omega)).mpr ⟨h3, Lv_all T h d (i + 1) (by omega) _ (fun j hj => ?_)⟩
    rw [Pm.ap_th, Pm.ap_bk, Pm.pa_eq]
    by_cases e : j = i
    · subst e; rw [T.at (by omega) h3]
    · rw [ha j (by omega), T.fix (by omega) h3 (by omega)]
theorem Cl_full {R : Nat → Nat} {C : Nat → Nat → Pm} (T : TwOk R C) (h : ∀ i p, i ≤ p → p < 8 → (R i).testBit p = true) : Cl R C := fun i p j r hij hj hp hr => Lv_all T h (8 - i) i (by omega) _ (fun t ht => by rw [Pm.ap_th, T.fix (by omega) hp ht, T.fix hj hr (by omega)])
theorem Cl_of {R : Nat → Nat} {C : Nat → Nat → Pm} {fl : List (Nat × Nat)} {cells back reach filled : Nat → Int32} {fc : Int32} (T : Tow R C fl cells back reach filled fc) (h : ∀ k m, m ≤ k → k < fl.length → Pr R C fl k m) : Cl R C := by
  intro i p j r hij hj hp hr
  by_cases e1 : p = i
  · subst e1
    rw [T.1.self (by omega), Pm.one_th]
    exact Lv_mono T.1 hij (by omega) (Lv_cell T.1 hj hr)
  · by_cases e2 : r = j
    · subst e2
      rw [T.1.self (by omega), Pm.th_one]
      exact Lv_cell T.1 (by omega) hp
    · have mx := (T.2.2.2.2.2.1 i p).mpr ⟨by omega, hp, e1⟩
      have my := (T.2.2.2.2.2.1 j r).mpr ⟨by omega, hr, e2⟩
      obtain ⟨k, hk⟩ := List.getElem?_of_mem mx
      obtain ⟨m, hm⟩ := List.getElem?_of_mem my
      have lk := (List.getElem?_eq_some_iff.mp hk).1
      have lm := (List.getElem?_eq_some_iff.mp hm).1
      have h0 : Lv R C 0 ((C i p).th (C j r)) := by
        by_cases hmk : m ≤ k
        · exact (h k m hmk lk (i, p) (j, r) hk hm).1 hij
        · exact (h m k (by omega) lm (j, r) (i, p) hm hk).2 hij
      exact (Lv_iff T.1 (by omega)).mpr ⟨h0, fun t ht => by rw [Pm.ap_th, T.1.fix (by omega) hp ht, T.1.fix hj hr (by omega)]⟩
theorem spread_out {F : Nat} (hF : 50000 ≤ F) : ∀ (d k f : Nat) (R : Nat → Nat) (C : Nat → Nat → Pm) (fl : List (Nat × Nat)) (cells back reach filled : Nat → Int32) (fc : Int32), Tow R C fl cells back reach filled fc → k + d = 28 → d < f → (∀ k' m, m ≤ k' → k' < k → k' < fl.length → Pr R C fl k' m) → ∃ R2 C2 fl2 c2 b2 r2 f2 n2, mX4_spreadFrom_L2 F f (nI k) cells back reach filled fc = some (c2, b2, r2, f2, n2) ∧ Tow R2 C2 fl2 c2 b2 r2 f2 n2 ∧ Grw R C fl R2 C2 fl2 (fun _ => False) ∧ Cl R2 C2
  | 0, k, f, R, C, fl, cells, back, reach, filled, fc, T, hk, hf, hd => by
    obtain ⟨f, rfl⟩ : ∃ g, f = g + 1 := ⟨f - 1, by omega⟩
    have h2 := T.len
    exact ⟨R, C, fl, cells, back, reach, filled, fc, by rw [mX4_spreadFrom_L2_s, T.2.2.2.1, if_pos (nI_le (by omega) (by omega))], T, Grw.refl, Cl_of T (fun k' m hm hk' => hd k' m hm (by omega) hk')⟩
  | d + 1, k, f, R, C, fl, cells, back, reach, filled, fc, T, hk, hf, hd => by
    obtain ⟨f, rfl⟩ : ∃ g, f = g + 1 := ⟨f - 1, by omega⟩
    have h2 := T.len
    by_cases h3 : fl.length ≤ k
    · exact ⟨R, C, fl, cells, back, reach, filled, fc, by rw [mX4_spreadFrom_L2_s, T.2.2.2.1, if_pos (nI_le h3 (by omega))], T, Grw.refl, Cl_of T (fun k' m hm hk' => hd k' m hm (by omega) hk')⟩
    · by_cases h4 : 28 ≤ fl.length
      · exact ⟨R, C, fl, cells, back, reach, filled, fc, by rw [mX4_spreadFrom_L2_s, T.2.2.2.1, if_neg (nI_ge (by omega) (by omega)), if_pos (show (28 : Int32) ≤ _ from nI_le (a := 28) h4 (by omega))], T, Grw.refl, Cl_full T.1 (fun i p => T.full h4)⟩
      · obtain ⟨y, hy⟩ : ∃ y, fl[k]? = some y := ⟨fl[k]'(by omega), List.getElem?_eq_getElem (by omega)⟩
        obtain ⟨i, p⟩ := y
        obtain ⟨R2, C2, fl2, c2, b2, r2, f2, n2, e2, T2, G2, P2⟩ := spread_in hF (k + 1) 0 F R C fl cells back reach filled fc T hy (by omega) (by omega) (fun j hj => by omega)
        obtain ⟨R3, C3, fl3, c3, b3, r3, f3, n3, e3, T3, G3, L3⟩ := spread_out hF d (k + 1) f R2 C2 fl2 c2 b2 r2 f2 n2 T2 (by omega) (by omega) (fun k' m hm hk' hl => by
          by_cases e : k' = k
          · subst e; exact P2 m hm
          · exact (hd k' m hm (by omega) (by omega)).up T G2 (by omega) (by omega))
        refine ⟨R3, C3, fl3, c3, b3, r3, f3, n3, ?_, T3, (G2.trans G3).sub (fun a ha => ha.elim id id), L3⟩
        rw [mX4_spreadFrom_L2_s]
        rw [show (if fc ≤ nI k then some (cells, back, reach, filled, fc) else if 28 ≤ fc then some (cells, back, reach, filled, fc) else gd (inb (nI k) 28) (lT (filled (nI k).toNatClampNeg) (fun zx3 => bd5 (mX4_spreadFrom_L29 F (nI k) zx3 F 0 cells back reach filled fc) (fun cells_1 back_1 reach_1 filled_1 fc_1 => mX4_spreadFrom_L2 F f (nI k + 1) cells_1 back_1 reach_1 filled_1 fc_1)))) = gd (inb (nI k) 28) (lT (filled (nI k).toNatClampNeg) (fun zx3 => bd5 (mX4_spreadFrom_L29 F (nI k) zx3 F 0 cells back reach filled fc) (fun cells_1 back_1 reach_1 filled_1 fc_1 => mX4_spreadFrom_L2 F f (nI k + 1) cells_1 back_1 reach_1 filled_1 fc_1))) from by rw [T.2.2.2.1, if_neg (nI_ge (by omega) (by omega)), if_neg (show ¬ (28 : Int32) ≤ _ from nI_ge (b := 28) (by omega) (by omega))]]
        rw [gd_t (inb_n (by omega) (by omega)), cl_n (by omega), T.2.2.2.2.1 k (i, p) hy]
        simp only [lT]
        rw [bd5_e (show mX4_spreadFrom_L29 F (nI k) (nI (8 * (i, p).1 + (i, p).2)) F 0 cells back reach filled fc = _ from e2), nI_1, e3]
/-! how many the levels make -/
def tfD (R : Nat → Nat) : Nat → Nat
  | 0 => 1
  | d + 1 => ct (R (7 - d)).testBit 8 * tfD R d
def tf (R : Nat → Nat) (i : Nat) : Nat := tfD R (8 - i)
theorem tf_s (R : Nat → Nat) {i : Nat} (hi : i < 8) : tf R i = ct (R i).testBit 8 * tf R (i + 1) := by
  unfold tf
  obtain ⟨d, hd⟩ : ∃ d, 8 - i = d + 1 := ⟨7 - i, by omega⟩
  have h1 : 8 - (i + 1) = d := by omega
  have h2 : 7 - d = i := by omega
  rw [hd, h1, tfD, h2]
theorem tf_8 (R : Nat → Nat) : tf R 8 = 1 := rfl
theorem tf_hc {R : Nat → Nat} {C : Nat → Nat → Pm} (T : TwOk R C) : ∀ (d i : Nat), i + d = 8 → Hc (Lv R C i) (tf R i)
  | 0, i, hi => by
    have : i = 8 := by omega
    subst this
    exact Hc.single .one (fun a => Lv_8)
  | d + 1, i, hi => by
    have ih := tf_hc T d (i + 1) (by omega)
    rw [tf_s R (by omega), ← sm_ite]
    refine (Hc.sum (n := 8) (P := fun p a => (R i).testBit p = true ∧ ∃ b, Lv R C (i + 1) b ∧ a = b.th (C i p)) (fun p hp => ?_) (fun p q hp hq a ha hb => ?_)).congr (fun a => ?_)
    · cases hb : (R i).testBit p with
      | true => exact (ih.map (fun b => b.th (C i p)) (fun x y _ _ e => Pm.rc e)).congr (fun a => ⟨fun h => ⟨rfl, h⟩, fun h => h.2⟩)
      | false => exact Hc.none (fun a h => by cases h.1)
    · have key : ∀ p, ((R i).testBit p = true ∧ ∃ b, Lv R C (i + 1) b ∧ a = b.th (C i p)) → a.ap i = p := by
        rintro p ⟨hp', b, hb', e⟩
        rw [e, Pm.ap_th, Lv_fix T (i := i + 1) (by omega) hb' (by omega), T.at (by omega) hp']
      rw [← key p ha, ← key q hb]
    · rw [Lv_s (by omega)]
      constructor
      · rintro ⟨p, hp, h1, b, h2, h3⟩
        exact ⟨p, b, h1, h2, h3⟩
      · rintro ⟨p, b, h1, h2, h3⟩
        exact ⟨p, T.lt (by omega) h1, h1, b, h2, h3⟩
theorem tf_is {R : Nat → Nat} {C : Nat → Nat → Pm} (T : TwOk R C) {i : Nat} (hi : i ≤ 8) : Hc (Lv R C i) (tf R i) := tf_hc T (8 - i) i (by omega)
theorem tf_pos {R : Nat → Nat} {C : Nat → Nat → Pm} (T : TwOk R C) {i : Nat} (hi : i ≤ 8) : 0 < tf R i := by
  have := (Hc.single (P := fun a : Pm => a = .one) .one (fun _ => Iff.rfl)).le (tf_is T hi) (fun a h => h ▸ Lv_one T hi)
  omega
theorem ct_hi : ∀ s, s < 256 → ∀ i, i < 8 → (∀ p, p < 8 → s.testBit p = true → i ≤ p) → ct s.testBit 8 ≤ 8 - i := by
  intro s hs i hi h
  have h1 : ct s.testBit i = 0 := by
    have : ct s.testBit i = ct (fun _ => false) i := ct_congr (fun k hk => by
      cases hb : s.testBit k with
      | true => have := h k (by omega) hb; omega
      | false => rfl)
    rw [this]
    clear this h
    induction i with
    | zero => rfl
    | succ i ih => rw [ct_s, ih (by omega)]; rfl
  have key : ∀ d, i + d ≤ 8 → ct s.testBit (i + d) ≤ d := by
    intro d
    induction d with
    | zero => intro _; rw [Nat.add_zero, h1]; omega
    | succ d ih =>
      intro hd
      have := ih (by omega)
      rw [← Nat.add_assoc, ct_s]
      split <;> omega
  have := key (8 - i) (by omega)
  rwa [show i + (8 - i) = 8 by omega] at this
def fac : Nat → Nat
  | 0 => 1
  | n + 1 => (n + 1) * fac n
theorem tf_le {R : Nat → Nat} {C : Nat → Nat → Pm} (T : TwOk R C) : ∀ (d i : Nat), i + d = 8 → tf R i ≤ fac d
  | 0, i, hi => by
    have : i = 8 := by omega
    subst this
    exact Nat.le_refl 1
  | d + 1, i, hi => by
    have ih := tf_le T d (i + 1) (by omega)
    rw [tf_s R (by omega), fac]
    have h1 := ct_hi (R i) (T i (by omega)).1 i (by omega) (fun p _ hp => T.ge (by omega) hp)
    exact Nat.mul_le_mul (by omega) ih
theorem tf_40320 {R : Nat → Nat} {C : Nat → Nat → Pm} (T : TwOk R C) {i : Nat} (hi : i ≤ 8) : tf R i ≤ 40320 := by
  have h0 := (tf_is T hi).le (tf_is T (Nat.zero_le 8)) (fun a ha => Lv_mono T (Nat.zero_le i) hi ha)
  have h1 : tf R 0 ≤ fac 8 := tf_le T 8 0 (by omega)
  have h2 : fac 8 = 40320 := by decide
  omega
