/-! ===== the wishes ===== -/
theorem int_ite_eq {a b : Bool} : ((if a then (1 : Int32) else 0) = (if b then (1 : Int32) else 0)) ↔ a = b := by cases a <;> cases b <;> decide
/-- carries a set onto a set -/
theorem wish0 (F : Nat) {s1 s2 : Nat} (h1 : s1 < 256) (h2 : s2 < 256) (uback ureach umakers : Nat → Int32) (umc : Int32) : Wsh F 0 (nI s1) (nI s2) uback ureach umakers umc (fun x l => s1.testBit l = s2.testBit (x.ap l)) := by
  refine ⟨fun x y l h => by dsimp only; rw [h l (Nat.le_refl l)], fun x l hl => ?_⟩
  have h8 := x.ap_lt hl
  unfold mW_fits
  rw [if_pos rfl]
  unfold mX0_fits
  rw [cdp_im x hl, bit_is (by omega) (by omega), bit_is (by omega) (by omega)]
  by_cases h : s1.testBit l = s2.testBit (x.ap l)
  · exact Or.inl ⟨h, by rw [if_pos (int_ite_eq.mpr h)]⟩
  · exact Or.inr ⟨h, by rw [if_neg (fun e => h (int_ite_eq.mp e))]⟩
theorem ims_eq {x : Pm} {s1 s2 : Nat} (h2 : s2 < 256) : ims x s1 = s2 ↔ ∀ l, l < 8 → s1.testBit l = s2.testBit (x.ap l) := by
  constructor
  · intro e l hl
    rw [← e, ims_bit x s1 (x.ap_lt hl), x.pa_ap]
  · intro h
    refine set_ext (ims_lt x s1) h2 fun j hj => ?_
    rw [ims_bit x s1 hj, h _ (x.pa_lt hj), x.ap_pa]
theorem whole0 {s : Nat} (h : s < 256) : Whl (fun x l => s.testBit l = s.testBit (x.ap l)) (fun x => ims x s = s) := by
  refine ⟨fun x hx => (ims_eq h).mp hx, fun x l0 hl0 hf hk => (ims_eq h).mpr fun l hl => ?_⟩
  by_cases h1 : l < l0
  · rw [hf l h1]
  · exact hk l (by omega) hl
theorem ims_th (a b : Pm) (s : Nat) : ims (a.th b) s = ims b (ims a s) := set_ext (ims_lt _ _) (ims_lt _ _) fun j hj => by
  rw [ims_bit _ _ hj, ims_bit _ _ hj, ims_bit _ _ (b.pa_lt hj)]
  rfl
theorem ims_one {s : Nat} (h : s < 256) : ims .one s = s := set_ext (ims_lt _ _) h fun j hj => by rw [ims_bit _ _ hj]; rfl
theorem grp0 {s : Nat} (h : s < 256) : Grp (fun x => ims x s = s) := Grp.of_mul (ims_one h) (fun a b ha hb => by rw [ims_th, ha, hb])
/-- leaves each point of a set -/
theorem wish2 (F : Nat) {s : Nat} (h : s < 256) (wb : Int32) (uback ureach umakers : Nat → Int32) (umc : Int32) : Wsh F 2 (nI s) wb uback ureach umakers umc (fun x l => x.ap l = l ∨ (s.testBit l = false ∧ s.testBit (x.ap l) = false)) := by
  refine ⟨fun x y l h => by dsimp only; rw [h l (Nat.le_refl l)], fun x l hl => ?_⟩
  have h8 := x.ap_lt hl
  unfold mW_fits
  rw [if_neg (by decide), if_neg (by decide), if_pos rfl]
  unfold mX2_fits
  simp only [lT]
  rw [cdp_im x hl, pk_shrN (by omega) _ l (sh_1 l (by omega)), pk_shrN (by omega) _ (x.ap l) (sh_1 _ (by omega)), ni_or, pk_andN (by
    have a1 := Nat.div_le_self s (2 ^ l)
    have a2 := Nat.div_le_self s (2 ^ x.ap l)
    have := Nat.or_lt_two_pow (n := 8) (x := s / 2 ^ l) (y := s / 2 ^ x.ap l) (by omega) (by omega)
    omega) 1 (by decide)]
  have key : nI ((s / 2 ^ l ||| s / 2 ^ x.ap l) % 2 ^ 1) = 0 ↔ (s.testBit l = false ∧ s.testBit (x.ap l) = false) := by
    have e0 : ∀ y, (y % 2 ^ 1 = 0) ↔ y.testBit 0 = false := fun y => by
      have h1 : y.testBit 0 = decide (y / 2 ^ 0 % 2 = 1) := Nat.testBit_eq_decide_div_mod_eq
      rw [h1, decide_eq_false_iff_not, Nat.pow_zero, Nat.div_one, Nat.pow_one]
      omega
    rw [show (0 : Int32) = nI 0 from rfl, nI_eq (by omega) (by omega), e0, Nat.testBit_or, Nat.testBit_div_two_pow, Nat.testBit_div_two_pow, Nat.zero_add, Nat.zero_add, Bool.or_eq_false_iff]
  by_cases e : x.ap l = l
  · exact Or.inl ⟨Or.inl e, by rw [if_pos (by rw [e])]⟩
  · rw [if_neg (fun h => e ((nI_eq (by omega) (by omega)).mp h))]
    by_cases hb : s.testBit l = false ∧ s.testBit (x.ap l) = false
    · exact Or.inl ⟨Or.inr hb, by rw [if_pos (key.mpr hb)]⟩
    · exact Or.inr ⟨fun h => h.elim e hb, by rw [if_neg (fun h => hb (key.mp h))]⟩
theorem whole2 {s : Nat} : Whl (fun x l => x.ap l = l ∨ (s.testBit l = false ∧ s.testBit (x.ap l) = false)) (fun x => ∀ i, i < 8 → s.testBit i = true → x.ap i = i) := by
  refine ⟨fun x hx l hl => ?_, fun x l0 hl0 hf hk i hi hb => ?_⟩
  · by_cases e : x.ap l = l
    · exact Or.inl e
    · right
      constructor
      · cases hb : s.testBit l with
        | true => exact absurd (hx l hl hb) e
        | false => rfl
      · cases hb : s.testBit (x.ap l) with
        | true => exact absurd (x.inj (hx _ (x.ap_lt hl) hb)) e
        | false => rfl
  · by_cases h1 : i < l0
    · exact hf i h1
    · rcases hk i (by omega) hi with h | h
      · exact h
      · rw [hb] at h; cases h.1
theorem grp2 (s : Nat) : Grp (fun x : Pm => ∀ i, i < 8 → s.testBit i = true → x.ap i = i) := Grp.of_mul (fun _ _ _ => rfl) (fun a b ha hb i hi h => by rw [Pm.ap_th, ha i hi h, hb i hi h])
/-- is in a tower -/
theorem wish3 {um : List Pm} {u : TW} (hu : TG um u) {F : Nat} (hF : 50000 ≤ F) (wa wb : Int32) (umakers : Nat → Int32) (umc : Int32) : Wsh F 3 wa wb u.2.1 u.2.2.1 umakers umc (fun x l => ∃ g, GL um g ∧ ∀ j, j < l + 1 → g.ap j = x.ap j) := by
  refine ⟨fun x y l h => ?_, fun x l hl => ?_⟩
  · constructor
    · rintro ⟨g, h1, h2⟩
      exact ⟨g, h1, fun j hj => by rw [h2 j hj, h j (by omega)]⟩
    · rintro ⟨g, h1, h2⟩
      exact ⟨g, h1, fun j hj => by rw [h2 j hj, h j (by omega)]⟩
  · obtain ⟨R, C, fl, T, hc, hG, hI, hm, hn⟩ := hu
    unfold mW_fits
    rw [if_neg (by decide), if_neg (by decide), if_neg (by decide)]
    unfold mX3_fits
    have hiff : SfOk R C (l + 1) x ↔ ∃ g, GL um g ∧ ∀ j, j < l + 1 → g.ap j = x.ap j := by
      rw [SfOk_iff T.1 (by omega)]
      exact ⟨fun ⟨g, h1, h2⟩ => ⟨g, (hG g).mpr h1, h2⟩, fun ⟨g, h1, h2⟩ => ⟨g, (hG g).mp h1, h2⟩⟩
    rcases holdsStart_is T hF x hl with ⟨h1, e⟩ | ⟨h1, e⟩
    · exact Or.inl ⟨hiff.mp h1, by rw [bd_e e, gd_t isb_1]⟩
    · exact Or.inr ⟨fun h => h1 (hiff.mpr h), by rw [bd_e e, gd_t isb_0]⟩
theorem whole3 {um : List Pm} : Whl (fun x l => ∃ g, GL um g ∧ ∀ j, j < l + 1 → g.ap j = x.ap j) (GL um) := by
  refine ⟨fun x hx l hl => ⟨x, hx, fun _ _ => rfl⟩, fun x l0 hl0 hf hk => ?_⟩
  obtain ⟨g, h1, h2⟩ := hk 7 (by omega) (by omega)
  rw [← Pm.ext8 (a := g) (b := x) (fun i hi => h2 i (by omega))]
  exact h1
/-- commutes with the makers -/
def Ag (x y : Pm) (l : Nat) : Prop := ∀ p, p ≤ l → y.ap p ≤ l → x.ap (y.ap p) = y.ap (x.ap p)
theorem agree_L (x y : Pm) {l : Nat} (hl : l < 8) : ∀ (d p f : Nat), p + d = l + 1 → d < f → (∀ q, q < p → y.ap q ≤ l → x.ap (y.ap q) = y.ap (x.ap q)) → (Ag x y l ∧ mX1_agree_L2 (cdp x) (cdp y) (nI l) f (nI p) = some 1) ∨ (¬ Ag x y l ∧ mX1_agree_L2 (cdp x) (cdp y) (nI l) f (nI p) = some 0)
  | 0, p, f, hp, hf, h => by
    obtain ⟨f, rfl⟩ : ∃ g, f = g + 1 := ⟨f - 1, by omega⟩
    left
    exact ⟨fun q hq hy => h q (by omega) hy, by rw [mX1_agree_L2_s, if_pos (nI_lt (by omega) (by omega))]⟩
  | d + 1, p, f, hp, hf, h => by
    obtain ⟨f, rfl⟩ : ∃ g, f = g + 1 := ⟨f - 1, by omega⟩
    have hp8 : p < 8 := by omega
    have hy8 := y.ap_lt hp8
    have hx8 := x.ap_lt hp8
    have hxy8 := x.ap_lt hy8
    have hyx8 := y.ap_lt hx8
    rw [mX1_agree_L2_s, if_neg (nI_nlt (by omega) (by omega)), cdp_im y hp8]
    simp only [lT]
    rw [nI_1, cdp_im x hp8, cdp_im x hy8, cdp_im y hx8]
    by_cases h1 : l < y.ap p
    · rw [if_pos (nI_lt h1 (by omega))]
      refine agree_L x y hl d (p + 1) f (by omega) (by omega) (fun q hq hy => ?_)
      by_cases e : q = p
      · subst e; omega
      · exact h q (by omega) hy
    · rw [if_neg (nI_nlt (by omega) (by omega))]
      by_cases h2 : x.ap (y.ap p) = y.ap (x.ap p)
      · rw [if_pos (by rw [h2])]
        refine agree_L x y hl d (p + 1) f (by omega) (by omega) (fun q hq hy => ?_)
        by_cases e : q = p
        · subst e; exact h2
        · exact h q (by omega) hy
      · rw [if_neg (fun e => h2 ((nI_eq (by omega) (by omega)).mp e))]
        exact Or.inr ⟨fun hA => h2 (hA p (by omega) (by omega)), rfl⟩
theorem commutes_L {um : List Pm} {umakers : Nat → Int32} {umc : Int32} (hu : Row um umakers umc) {F : Nat} (hF : 50000 ≤ F) (x : Pm) {l : Nat} (hl : l < 8) : ∀ (d k f : Nat), k + d = um.length → d < f → ((∀ y, Fr um k y → Ag x y l) ∧ mX1_fits_L2 F (cdp x) (nI l) umakers umc f (nI k) = some 1) ∨ ((∃ y, Fr um k y ∧ ¬ Ag x y l) ∧ mX1_fits_L2 F (cdp x) (nI l) umakers umc f (nI k) = some 0)
  | 0, k, f, hk, hf => by
    obtain ⟨f, rfl⟩ : ∃ g, f = g + 1 := ⟨f - 1, by omega⟩
    have hlu := hu.2.2
    exact Or.inl ⟨fun y hy => absurd hy (Fr_end (by omega)), by rw [mX1_fits_L2_s, hu.2.1, if_pos (nI_le (by omega) (by omega))]⟩
  | d + 1, k, f, hk, hf => by
    obtain ⟨f, rfl⟩ : ∃ g, f = g + 1 := ⟨f - 1, by omega⟩
    have hlu := hu.2.2
    obtain ⟨y, hy⟩ : ∃ y, um[k]? = some y := ⟨um[k]'(by omega), List.getElem?_eq_getElem (by omega)⟩
    rw [mX1_fits_L2_s, hu.2.1, if_neg (nI_ge (by omega) (by omega)), ← hu.2.1, gd_t (inb_n (by omega) (by omega)), cl_n (by omega), hu.1 k y hy, nI_1]
    unfold mX1_agree
    rcases agree_L x y hl (l + 1) 0 F (by omega) (by omega) (fun q hq => by omega) with ⟨h1, e⟩ | ⟨h1, e⟩
    · rw [bd_e (show mX1_agree_L2 (cdp x) (cdp y) (nI l) F 0 = _ from e), if_neg (by decide)]
      rcases commutes_L hu hF x hl d (k + 1) f (by omega) (by omega) with ⟨h2, e2⟩ | ⟨⟨z, hz, hn⟩, e2⟩
      · exact Or.inl ⟨fun z hz => ((Fr_s hy).mp hz).elim (fun e => e ▸ h1) (h2 z), e2⟩
      · exact Or.inr ⟨⟨z, (Fr_s hy).mpr (Or.inr hz), hn⟩, e2⟩
    · rw [bd_e (show mX1_agree_L2 (cdp x) (cdp y) (nI l) F 0 = _ from e), if_pos rfl]
      exact Or.inr ⟨⟨y, (Fr_s hy).mpr (Or.inl rfl), h1⟩, rfl⟩
theorem wish1 {um : List Pm} {umakers : Nat → Int32} {umc : Int32} (hu : Row um umakers umc) {F : Nat} (hF : 50000 ≤ F) (wa wb : Int32) (uback ureach : Nat → Int32) : Wsh F 1 wa wb uback ureach umakers umc (fun x l => ∀ y, y ∈ um → Ag x y l) := by
  have hlu := hu.2.2
  refine ⟨fun x z l h => ?_, fun x l hl => ?_⟩
  · have key : ∀ x z : Pm, (∀ j, j ≤ l → x.ap j = z.ap j) → (∀ y, y ∈ um → Ag x y l) → ∀ y, y ∈ um → Ag z y l := fun x z h hx y hy p hp hyp => by
      rw [← h p hp, ← h _ hyp]
      exact hx y hy p hp hyp
    exact ⟨key x z h, key z x (fun j hj => (h j hj).symm)⟩
  · unfold mW_fits
    rw [if_neg (by decide), if_pos rfl]
    unfold mX1_fits
    rcases commutes_L hu hF x hl um.length 0 F (by omega) (by omega) with ⟨h, e⟩ | ⟨⟨y, hy, hn⟩, e⟩
    · exact Or.inl ⟨fun y hy => h y (Fr_0.mpr hy), e⟩
    · exact Or.inr ⟨fun h => hn (h y (Fr_0.mp hy)), e⟩
theorem whole1 {um : List Pm} : Whl (fun x l => ∀ y, y ∈ um → Ag x y l) (fun x => ∀ y, y ∈ um → x.th y = y.th x) := by
  refine ⟨fun x hx l hl y hy p hp hyp => ?_, fun x l0 hl0 hf hk y hy => ?_⟩
  · have := congrArg (fun z => Pm.ap z p) (hx y hy)
    exact this.symm
  · exact Pm.ext8 fun i hi => (hk 7 (by omega) (by omega) y hy i (by omega) (by have := y.ap_lt hi; omega)).symm
theorem grp1 (X : Pm → Prop) : Grp (fun x => ∀ y, X y → x.th y = y.th x) := Grp.of_mul (fun y _ => by rw [Pm.one_th, Pm.th_one]) (fun a b ha hb y hy => by rw [Pm.th_assoc, hb y hy, ← Pm.th_assoc, ha y hy, Pm.th_assoc])
/-- with the makers is with all -/
theorem comm_gen {X : Pm → Prop} {x : Pm} (h : ∀ y, X y → x.th y = y.th x) {y : Pm} (hy : Gen X y) : x.th y = y.th x := by
  refine hy (fun y => x.th y = y.th x) (Grp.of_mul (by rw [Pm.one_th, Pm.th_one]) (fun a b ha hb => ?_)) h
  rw [← Pm.th_assoc, ha, Pm.th_assoc, hb, Pm.th_assoc]
/-! ===== orbits ===== -/
theorem ct_sub_lt {s t : Nat} (hs : s < 256) (ht : t < 256) (h : ∀ j, s.testBit j = true → t.testBit j = true) (hne : s ≠ t) : ct s.testBit 8 < ct t.testBit 8 := by
  have h1 := (ct_hc s.testBit 8).le (ct_hc t.testBit 8) (fun x hx => ⟨hx.1, h x hx.2⟩)
  rcases Nat.lt_or_ge (ct s.testBit 8) (ct t.testBit 8) with h2 | h2
  · exact h2
  · have h3 : ct s.testBit 8 = ct t.testBit 8 := by omega
    exfalso
    apply hne
    have h4 := ct_hc s.testBit 8
    rw [h3] at h4
    refine set_ext hs ht fun j hj => ?_
    cases hb : t.testBit j with
    | true => exact (h4.full (ct_hc t.testBit 8) (fun x hx => ⟨hx.1, h x hx.2⟩) (x := j) ⟨hj, hb⟩).2
    | false =>
      cases hb2 : s.testBit j with
      | true => rw [h j hb2] at hb; cases hb
      | false => rfl
section ORB
variable {R : Nat → Nat} {C : Nat → Nat → Pm} {fl : List (Nat × Nat)} {cells back reach filled : Nat → Int32} {fc : Int32} {F : Nat}
/-- a round over the cells: it grows, within what the levels reach; if it stays it is closed -/
theorem orbit_in (T : Tow R C fl cells back reach filled fc) (hF : 50000 ≤ F) {l : Nat} (hl : l ≤ 8) (P : Nat → Prop) (hP : ∀ i p q, l ≤ i → i < 8 → (R i).testBit p = true → P q → P ((C i p).ap q)) : ∀ (d k f s : Nat), k + d = fl.length → d < f → s < 256 → (∀ j, s.testBit j = true → P j) → ∃ s2, mX4_orbitFrom_L29 F (nI l) cells filled fc f (nI s) (nI k) = some (nI s2) ∧ s2 < 256 ∧ (∀ j, s2.testBit j = true → P j) ∧ (∀ j, s.testBit j = true → s2.testBit j = true) ∧ (s2 = s → ∀ m x, k ≤ m → fl[m]? = some x → l ≤ x.1 → ∀ q, s.testBit q = true → s.testBit ((C x.1 x.2).ap q) = true)
  | 0, k, f, s, hk, hf, hs, hsP => by
    obtain ⟨f, rfl⟩ : ∃ g, f = g + 1 := ⟨f - 1, by omega⟩
    have hlen := T.len
    exact ⟨s, by rw [mX4_orbitFrom_L29_s, T.2.2.2.1, if_pos (nI_le (by omega) (by omega))], hs, hsP, fun _ h => h, fun _ m x hm hx => by have := (List.getElem?_eq_some_iff.mp hx).1; omega⟩
  | d + 1, k, f, s, hk, hf, hs, hsP => by
    obtain ⟨f, rfl⟩ : ∃ g, f = g + 1 := ⟨f - 1, by omega⟩
    have hlen := T.len
    obtain ⟨⟨i, p⟩, hx⟩ : ∃ y, fl[k]? = some y := ⟨fl[k]'(by omega), List.getElem?_eq_getElem (by omega)⟩
    have mx := T.mem (List.mem_of_getElem? hx)
    have hne : ∀ A B : Option Int32, (if fc ≤ nI k then A else B) = B := fun A B => by rw [T.2.2.2.1, if_neg (nI_ge (by omega) (by omega))]
    rw [mX4_orbitFrom_L29_s, hne, gd_t (inb_n (by omega) (by omega)), cl_n (by omega), T.2.2.2.2.1 k (i, p) hx, level_is (by omega) mx.2.1, nI_1]
    by_cases hil : i < l
    · rw [if_pos (nI_lt hil (by omega)), bd_s]
      obtain ⟨s2, e, h1, h2, h3, h4⟩ := orbit_in T hF hl P hP d (k + 1) f s (by omega) (by omega) hs hsP
      refine ⟨s2, e, h1, h2, h3, fun e2 m x hm hxm hlx => ?_⟩
      by_cases em : m = k
      · subst em
        rw [hx] at hxm
        cases hxm
        have : l ≤ i := hlx
        omega
      · exact h4 e2 m x (by omega) hxm hlx
    · rw [if_neg (nI_nlt (by omega) (by omega)), gd_t (inb_n (by omega) (by omega)), gd_t (inb_n (by show 8 * i + p < 64; omega) (by omega)), cl_n (by show 8 * i + p < _; omega), (T.2.2.1 i p (by omega) mx.2.2 (by omega)).1, bd_e (ims_is hF _ hs)]
      simp only [lT]
      rw [ni_or, bd_s]
      have hu : s ||| ims (C i p) s < 256 := Nat.or_lt_two_pow (n := 8) hs (ims_lt _ _)
      have hbit : ∀ j, (s ||| ims (C i p) s).testBit j = true ↔ s.testBit j = true ∨ (j < 8 ∧ s.testBit ((C i p).pa j) = true) := by
        intro j
        rw [Nat.testBit_or, Bool.or_eq_true]
        unfold ims
        rw [bsn_bit, Bool.and_eq_true, decide_eq_true_iff]
      obtain ⟨s2, e, h1, h2, h3, h4⟩ := orbit_in T hF hl P hP d (k + 1) f (s ||| ims (C i p) s) (by omega) (by omega) hu (fun j hj => by
        rcases (hbit j).mp hj with h | ⟨h0, h⟩
        · exact hsP j h
        · have := hP i p _ (by omega) (by omega) mx.2.2 (hsP _ h)
          rwa [Pm.ap_pa] at this)
      refine ⟨s2, e, h1, h2, fun j hj => h3 j ((hbit j).mpr (Or.inl hj)), fun e2 m x hm hxm hlx => ?_⟩
      have hsame : s ||| ims (C i p) s = s := by
        refine set_ext hu hs fun j hj => ?_
        cases hb : s.testBit j with
        | true => exact (hbit j).mpr (Or.inl hb)
        | false =>
          cases hb2 : (s ||| ims (C i p) s).testBit j with
          | true => rw [← e2, h3 j hb2] at hb; cases hb
          | false => rfl
      by_cases em : m = k
      · subst em
        rw [hx] at hxm
        cases hxm
        intro q hq
        have hq8 := set_lt hs hq
        have : (s ||| ims (C i p) s).testBit ((C i p).ap q) = true := (hbit _).mpr (Or.inr ⟨(C i p).ap_lt hq8, by rw [Pm.pa_ap]; exact hq⟩)
        rwa [hsame] at this
      · have := h4 (e2.trans hsame.symm) m x (by omega) hxm hlx
        rwa [hsame] at this
/-- the set has been found: closed under the cells from a level on -/
def OrbC (R : Nat → Nat) (C : Nat → Nat → Pm) (l s : Nat) : Prop := ∀ i p q, l ≤ i → i < 8 → (R i).testBit p = true → s.testBit q = true → s.testBit ((C i p).ap q) = true
theorem orbit_out (T : Tow R C fl cells back reach filled fc) (hF : 50000 ≤ F) {l : Nat} (hl : l ≤ 8) (P : Nat → Prop) (hP : ∀ i p q, l ≤ i → i < 8 → (R i).testBit p = true → P q → P ((C i p).ap q)) : ∀ (d r f s b : Nat), r + d = 8 → d < f → s < 256 → b < 256 → (∀ j, s.testBit j = true → P j) → (r < ct s.testBit 8 ∨ OrbC R C l s) → (s = b → OrbC R C l s) → ∃ s2, mX4_orbitFrom_L10 F (nI l) cells filled fc f (nI s) (nI b) (nI r) = some (nI s2) ∧ s2 < 256 ∧ (∀ j, s2.testBit j = true → P j) ∧ (∀ j, s.testBit j = true → s2.testBit j = true) ∧ OrbC R C l s2
  | 0, r, f, s, b, hr, hf, hs, hb, hsP, h1, h2 => by
    obtain ⟨f, rfl⟩ : ∃ g, f = g + 1 := ⟨f - 1, by omega⟩
    have : r = 8 := by omega
    subst this
    refine ⟨s, by rw [mX4_orbitFrom_L10_s, if_pos ge8], hs, hsP, fun _ h => h, ?_⟩
    rcases h1 with h1 | h1
    · have := ct_le s.testBit 8
      omega
    · exact h1
  | d + 1, r, f, s, b, hr, hf, hs, hb, hsP, h1, h2 => by
    obtain ⟨f, rfl⟩ : ∃ g, f = g + 1 := ⟨f - 1, by omega⟩
    rw [mX4_orbitFrom_L10_s, if_neg (le8 (by omega))]
    by_cases e : s = b
    · exact ⟨s, by rw [if_pos (by rw [e])], hs, hsP, fun _ h => h, h2 e⟩
    · rw [if_neg (fun h => e ((nI_eq (by omega) (by omega)).mp h))]
      have hlen := T.len
      obtain ⟨s2, e2, a1, a2, a3, a4⟩ := orbit_in T hF hl P hP fl.length 0 F s (by omega) (by omega) hs hsP
      have hc : s2 = s → OrbC R C l s := fun e3 i p q hi hi8 hp hq => by
        by_cases ep : p = i
        · subst ep
          rw [T.1.self hi8]; exact hq
        · obtain ⟨m, hm⟩ := List.getElem?_of_mem ((T.2.2.2.2.2.1 i p).mpr ⟨hi8, hp, ep⟩)
          exact a4 e3 m (i, p) (Nat.zero_le m) hm hi q hq
      obtain ⟨s3, e3, b1, b2, b3, b4⟩ := orbit_out T hF hl P hP d (r + 1) f s2 s (by omega) (by omega) a1 hs a2 (by
        by_cases e4 : s2 = s
        · right; rw [e4]; exact hc e4
        · have := ct_sub_lt hs a1 a3 (fun h => e4 h.symm)
          rcases h1 with h1 | h1
          · left; omega
          · exfalso
            -- closed already: nothing is added
            apply e4
            refine set_ext a1 hs fun j hj => ?_
            cases hb1 : s.testBit j with
            | true => exact a3 j hb1
            | false =>
              obtain ⟨s4, e5, c1, c2, -, -⟩ := orbit_in T hF hl (fun j => s.testBit j = true) (fun i p q hi hi8 hp hq => h1 i p q hi hi8 hp hq) fl.length 0 F s (by omega) (by omega) hs (fun _ h => h)
              rw [e2] at e5
              have e6 : s2 = s4 := (nI_eq (by omega) (by omega)).mp (Option.some.inj e5)
              cases hb2 : s2.testBit j with
              | true => rw [e6] at hb2; rw [c2 j hb2] at hb1; cases hb1
              | false => rfl) (fun e4 => by rw [e4]; exact hc e4)
      refine ⟨s3, ?_, b1, b2, fun j hj => b3 j (a3 j hj), b4⟩
      rw [bd_e (show mX4_orbitFrom_L29 F (nI l) cells filled fc F (nI s) 0 = _ from e2), nI_1]
      exact e3
theorem OrbC.Lv {l s : Nat} (h : OrbC R C l s) : ∀ (d i : Nat), i + d = 8 → l ≤ i → ∀ a, Lv R C i a → ∀ q, s.testBit q = true → s.testBit (a.ap q) = true
  | 0, i, hi, hl, a, ha, q, hq => by
    have : i = 8 := by omega
    subst this
    rw [Lv_8.mp ha]; exact hq
  | d + 1, i, hi, hl, a, ha, q, hq => by
    obtain ⟨p, b, hp, hb, rfl⟩ := (Lv_s (by omega)).mp ha
    rw [Pm.ap_th]
    exact h i p _ hl (by omega) hp (OrbC.Lv h d (i + 1) (by omega) (by omega) b hb q hq)
/-- the points to which the levels from l on carry a point -/
theorem orbitFrom_is (T : Tow R C fl cells back reach filled fc) (hc : Cl R C) (hF : 50000 ≤ F) {l p : Nat} (hl : l ≤ 8) (hp : p < 8) : ∃ s, mX4_orbitFrom F cells filled fc (nI l) (nI p) = some (nI s) ∧ s < 256 ∧ ∀ q, s.testBit q = true ↔ ∃ a, Lv R C l a ∧ a.ap p = q := by
  have hG := Lv_grp T.1 hc hl
  have h2p : 2 ^ p < 256 := Nat.pow_lt_pow_right (n := 8) (by decide) hp
  have hb1 : ∀ j, (2 ^ p).testBit j = true ↔ j = p := fun j => by
    rw [Nat.testBit_two_pow, decide_eq_true_iff]
    exact eq_comm
  obtain ⟨s, e, h1, h2, h3, h4⟩ := orbit_out T hF hl (fun q => ∃ a, Lv R C l a ∧ a.ap p = q) (fun i r q hi hi8 hr ⟨a, ha, e⟩ => ⟨a.th (C i r), hG.2.1 _ _ ha (Lv_mono T.1 hi (by omega) (Lv_cell T.1 hi8 hr)), by rw [Pm.ap_th, e]⟩) 8 0 F (2 ^ p) 0 (by omega) (by omega) h2p (by omega) (fun j hj => ⟨.one, hG.1, ((hb1 j).mp hj).symm⟩) (Or.inl (by
    have := (Hc.single (P := fun x => x = p) p (fun _ => Iff.rfl)).le (ct_hc (2 ^ p).testBit 8) (fun x hx => ⟨by omega, (hb1 x).mpr hx⟩)
    omega)) (fun e => by have := Nat.two_pow_pos p; omega)
  refine ⟨s, ?_, h1, fun q => ⟨h2 q, fun ⟨a, ha, e⟩ => ?_⟩⟩
  · unfold mX4_orbitFrom
    simp only [lT]
    rw [one_shl (by omega), bd_e (show mX4_orbitFrom_L10 F (nI l) cells filled fc F (nI (2 ^ p)) 0 0 = _ from e)]
  · rw [← e]
    exact OrbC.Lv h4 (8 - l) l (by omega) (Nat.le_refl l) a ha p (h3 p ((hb1 p).mpr rfl))
end ORB
