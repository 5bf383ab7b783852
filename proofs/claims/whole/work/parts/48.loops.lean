/-! ===== holds, turnsFrom, joinAll, closeUnder, becomeCarried, becomeDown, isWithin, staysUnder ===== -/
theorem holdsStart_L {R : Nat → Nat} {C : Nat → Nat → Pm} {fl : List (Nat × Nat)} {cells back reach filled : Nat → Int32} {fc : Int32} (T : Tow R C fl cells back reach filled fc) {F : Nat} (hF : 50000 ≤ F) (a : Pm) {m : Nat} (hm : m < 8) : ∀ (d l f : Nat), l + d = m + 1 → d < f → SfOk R C l a → (SfOk R C (m + 1) a ∧ mX4_holdsStart_L5 F (nI m) back reach f (cdp (sf C l a)) (nI l) = some 1) ∨ (¬ SfOk R C (m + 1) a ∧ mX4_holdsStart_L5 F (nI m) back reach f (cdp (sf C l a)) (nI l) = some 0)
  | 0, l, f, hl, hf, hs => by
    obtain ⟨f, rfl⟩ : ∃ g, f = g + 1 := ⟨f - 1, by omega⟩
    have : l = m + 1 := by omega
    subst this
    left
    refine ⟨hs, ?_⟩
    rw [mX4_holdsStart_L5_s, if_pos (nI_lt (by omega) (by omega))]
  | d + 1, l, f, hl, hf, hs => by
    obtain ⟨f, rfl⟩ : ∃ g, f = g + 1 := ⟨f - 1, by omega⟩
    have hl8 : l < 8 := by omega
    have hp8 := (sf C l a).ap_lt hl8
    rw [mX4_holdsStart_L5_s, if_neg (nI_nlt (by omega) (by omega)), if_neg (le8 hl8), cdp_im _ hl8]
    simp only [lT]
    rw [cell_is, T.rch hl8 (by omega)]
    cases hb : (R l).testBit ((sf C l a).ap l) with
    | true =>
      rw [if_pos rfl, bd_s, if_neg (by decide), bd_e (sf_step T hF hl8 hb), nI_1]
      refine holdsStart_L T hF a hm d (l + 1) f (by omega) (by omega) (fun k hk => ?_)
      by_cases e : k = l
      · subst e; exact hb
      · exact hs k (by omega)
    | false =>
      right
      refine ⟨fun h => ?_, by rw [if_neg (by decide), bd_s, if_pos rfl]⟩
      have := h l (by omega)
      rw [hb] at this
      cases this
theorem holdsStart_is {R : Nat → Nat} {C : Nat → Nat → Pm} {fl : List (Nat × Nat)} {cells back reach filled : Nat → Int32} {fc : Int32} (T : Tow R C fl cells back reach filled fc) {F : Nat} (hF : 50000 ≤ F) (a : Pm) {m : Nat} (hm : m < 8) : (SfOk R C (m + 1) a ∧ mX4_holdsStart F back reach (cdp a) (nI m) = some 1) ∨ (¬ SfOk R C (m + 1) a ∧ mX4_holdsStart F back reach (cdp a) (nI m) = some 0) :=
  holdsStart_L T hF a hm (m + 1) 0 F (by omega) (by omega) (fun k hk => by omega)
theorem holds_is {mq : List Pm} {t : TW} (h : TG mq t) {F : Nat} (hF : 50000 ≤ F) (a : Pm) : (GL mq a ∧ mX4_holds F t.2.1 t.2.2.1 (cdp a) = some 1) ∨ (¬ GL mq a ∧ mX4_holds F t.2.1 t.2.2.1 (cdp a) = some 0) := by
  obtain ⟨R, C, fl, T, hc, hG, hI, hm, hn⟩ := h
  unfold mX4_holds
  rcases holdsStart_is T hF a (m := 7) (by omega) with ⟨h1, h2⟩ | ⟨h1, h2⟩
  · left
    refine ⟨(hG a).mpr ((Lv_sf T.1).mpr h1), ?_⟩
    rw [bd_e (show mX4_holdsStart F t.2.1 t.2.2.1 (cdp a) 7 = _ from h2), gd_t isb_1]
  · right
    refine ⟨fun h => h1 ((Lv_sf T.1).mp ((hG a).mp h)), ?_⟩
    rw [bd_e (show mX4_holdsStart F t.2.1 t.2.2.1 (cdp a) 7 = _ from h2), gd_t isb_0]
theorem turnsFrom_L {R : Nat → Nat} {reach : Nat → Int32} (hr : ∀ i, i < 8 → reach i = nI (R i)) (hR : ∀ i, i < 8 → R i < 256) : ∀ (d i f x : Nat), i + d = 8 → d < f → mX4_turnsFrom_L4 reach f (nI x) (nI i) = some (nI (x * tf R i))
  | 0, i, f, x, hi, hf => by
    obtain ⟨f, rfl⟩ : ∃ g, f = g + 1 := ⟨f - 1, by omega⟩
    have : i = 8 := by omega
    subst this
    rw [mX4_turnsFrom_L4_s, if_pos ge8, tf_8, Nat.mul_one]
  | d + 1, i, f, x, hi, hf => by
    obtain ⟨f, rfl⟩ : ∃ g, f = g + 1 := ⟨f - 1, by omega⟩
    rw [mX4_turnsFrom_L4_s, if_neg (le8 (by omega)), gd_t (inb_n (by omega) (by omega)), cl_n (by omega), hr i (by omega), bc_is _ (hR i (by omega))]
    simp only [lT]
    rw [pk_mul, nI_1, turnsFrom_L hr hR d (i + 1) f _ (by omega) (by omega), tf_s R (i := i) (by omega), Nat.mul_assoc]
theorem turnsFrom_is {R : Nat → Nat} {C : Nat → Nat → Pm} {fl : List (Nat × Nat)} {cells back reach filled : Nat → Int32} {fc : Int32} (T : Tow R C fl cells back reach filled fc) {F : Nat} (hF : 50000 ≤ F) {i : Nat} (hi : i ≤ 8) : mX4_turnsFrom F reach (nI i) = some (nI (tf R i)) := by
  unfold mX4_turnsFrom
  have h := turnsFrom_L T.2.1 (fun i hi => (T.1 i hi).1) (8 - i) i F 1 (by omega) (by omega)
  rw [Nat.one_mul] at h
  rw [bd_e (show mX4_turnsFrom_L4 reach F 1 (nI i) = _ from h)]
/-- a list of turns in a row of ints -/
def Row (um : List Pm) (umakers : Nat → Int32) (umc : Int32) : Prop := (∀ k x, um[k]? = some x → umakers k = cdp x) ∧ umc = nI um.length ∧ um.length ≤ 15
theorem TG.row {mq : List Pm} {t : TW} (h : TG mq t) : Row mq t.2.2.2.2.2.1 t.2.2.2.2.2.2 := ⟨fun _ _ hx => h.maker hx, h.mc, h.len⟩
theorem get_or {α : Type} (L : List α) (k : Nat) : (L.length ≤ k) ∨ ∃ x, k < L.length ∧ L[k]? = some x := by
  by_cases h : k < L.length
  · exact Or.inr ⟨L[k], h, List.getElem?_eq_getElem h⟩
  · exact Or.inl (by omega)
/-- from a place on -/
def Fr (L : List Pm) (k : Nat) (y : Pm) : Prop := ∃ j, k ≤ j ∧ L[j]? = some y
theorem Fr_0 {L : List Pm} {y : Pm} : Fr L 0 y ↔ y ∈ L := ⟨fun ⟨_, _, h⟩ => List.mem_of_getElem? h, fun h => (List.getElem?_of_mem h).elim fun j hj => ⟨j, Nat.zero_le j, hj⟩⟩
theorem Fr_end {L : List Pm} {k : Nat} (h : L.length ≤ k) {y : Pm} : ¬ Fr L k y := fun ⟨j, hj, e⟩ => by
  have := (List.getElem?_eq_some_iff.mp e).1
  omega
theorem Fr_s {L : List Pm} {k : Nat} {x : Pm} (h : L[k]? = some x) {y : Pm} : Fr L k y ↔ y = x ∨ Fr L (k + 1) y := by
  constructor
  · rintro ⟨j, hj, e⟩
    by_cases h1 : j = k
    · subst h1; rw [h] at e; exact Or.inl (Option.some.inj e).symm
    · exact Or.inr ⟨j, by omega, e⟩
  · rintro (rfl | ⟨j, hj, e⟩)
    · exact ⟨k, Nat.le_refl k, h⟩
    · exact ⟨j, by omega, e⟩
/-- a list that comes of another by joining turns of X -/
def Jnd (mq mr : List Pm) (X : Pm → Prop) : Prop := (∃ more, mr = mq ++ more) ∧ (∀ x, X x → GL mr x) ∧ ∀ K, Grp K → (∀ x, x ∈ mq → K x) → (∀ x, X x → K x) → ∀ x, x ∈ mr → K x
theorem Jnd.refl {mq : List Pm} {X : Pm → Prop} (h : ∀ x, ¬ X x) : Jnd mq mq X := ⟨⟨[], (List.append_nil _).symm⟩, fun x hx => absurd hx (h x), fun _ _ h _ => h⟩
theorem Jnd.jn (mq : List Pm) (a : Pm) : Jnd mq (jn mq a) (fun x => x = a) := ⟨jn_pre mq a, fun x hx => hx ▸ GL_jn_self mq a, fun K _ h1 h2 x hx => (jn_mem hx).elim (h1 x) (h2 x)⟩
theorem Jnd.mono {mq mr : List Pm} {X : Pm → Prop} (h : Jnd mq mr X) {x : Pm} (hx : GL mq x) : GL mr x := by
  obtain ⟨⟨more, e⟩, -, -⟩ := h
  rw [e]
  exact GL_pre more hx
theorem Jnd.get {mq mr : List Pm} {X : Pm → Prop} (h : Jnd mq mr X) {k : Nat} {x : Pm} (hk : mq[k]? = some x) : mr[k]? = some x := by
  obtain ⟨⟨more, rfl⟩, -, -⟩ := h
  rw [List.getElem?_append_left (List.getElem?_eq_some_iff.mp hk).1]
  exact hk
theorem Jnd.trans {mq mr ms : List Pm} {X Y Z : Pm → Prop} (h : Jnd mq mr X) (h2 : Jnd mr ms Y) (hZ : ∀ x, Z x ↔ X x ∨ Y x) : Jnd mq ms Z := by
  have hm : ∀ {x}, GL mr x → GL ms x := fun hx => h2.mono hx
  obtain ⟨⟨m1, e1⟩, h3, h4⟩ := h
  obtain ⟨⟨m2, e2⟩, h5, h6⟩ := h2
  refine ⟨⟨m1 ++ m2, by rw [e2, e1, List.append_assoc]⟩, fun x hx => ?_, fun K hK a1 a2 => ?_⟩
  · rcases (hZ x).mp hx with hx | hx
    · exact hm (h3 x hx)
    · exact h5 x hx
  · exact h6 K hK (h4 K hK a1 (fun x hx => a2 x ((hZ x).mpr (Or.inl hx)))) (fun x hx => a2 x ((hZ x).mpr (Or.inr hx)))
theorem Jnd.gen {mq mr : List Pm} {X : Pm → Prop} (h : Jnd mq mr X) (a : Pm) : GL mr a ↔ Gen (fun y => y ∈ mq ∨ X y) a := by
  have h0 := @Jnd.mono mq mr X h
  obtain ⟨-, h2, h3⟩ := h
  refine ⟨Gen.mono (h3 _ (Gen.grp _) (fun x hx => Gen.of (Or.inl hx)) (fun x hx => Gen.of (Or.inr hx))), Gen.mono (fun y hy => ?_)⟩
  rcases hy with hy | hy
  · exact h0 (GL.of hy)
  · exact h2 y hy
theorem joinAll_L {um : List Pm} {umakers : Nat → Int32} {umc : Int32} (hu : Row um umakers umc) {F : Nat} (hF : 50000 ≤ F) : ∀ (d k f : Nat) (mq : List Pm) (t : TW), TG mq t → k + d = um.length → d < f → ∃ t2 mr, mX4_joinAll_L2 F umakers umc f (nI k) t.1 t.2.1 t.2.2.1 t.2.2.2.1 t.2.2.2.2.1 t.2.2.2.2.2.1 t.2.2.2.2.2.2 = some t2 ∧ TG mr t2 ∧ Jnd mq mr (Fr um k)
  | 0, k, f, mq, t, h, hk, hf => by
    obtain ⟨f, rfl⟩ : ∃ g, f = g + 1 := ⟨f - 1, by omega⟩
    have hl := hu.2.2
    exact ⟨t, mq, by rw [mX4_joinAll_L2_s, hu.2.1, if_pos (nI_le (by omega) (by omega))], h, Jnd.refl fun x => Fr_end (by omega)⟩
  | d + 1, k, f, mq, t, h, hk, hf => by
    obtain ⟨f, rfl⟩ : ∃ g, f = g + 1 := ⟨f - 1, by omega⟩
    have hl := hu.2.2
    obtain ⟨x, hx⟩ : ∃ x, um[k]? = some x := ⟨um[k]'(by omega), List.getElem?_eq_getElem (by omega)⟩
    obtain ⟨z, ⟨c2, b2, r2, f2, n2, k2, m2⟩, e2, h2, -⟩ := join_is h hF x
    obtain ⟨t3, mr, e3, h3, j3⟩ := joinAll_L hu hF d (k + 1) f _ _ h2 (by omega) (by omega)
    refine ⟨t3, mr, ?_, h3, (Jnd.jn mq x).trans j3 (fun y => Fr_s hx)⟩
    rw [mX4_joinAll_L2_s, hu.2.1, if_neg (nI_ge (by omega) (by omega)), ← hu.2.1, gd_t (inb_n (by omega) (by omega)), cl_n (by omega), hu.1 k x hx, bd8_e e2, nI_1]
    exact e3
theorem joinAll_is {um : List Pm} {umakers : Nat → Int32} {umc : Int32} (hu : Row um umakers umc) {F : Nat} (hF : 50000 ≤ F) {mq : List Pm} {t : TW} (h : TG mq t) : ∃ t2 mr, mX4_joinAll F t.1 t.2.1 t.2.2.1 t.2.2.2.1 t.2.2.2.2.1 t.2.2.2.2.2.1 t.2.2.2.2.2.2 umakers umc = some t2 ∧ TG mr t2 ∧ ∀ a, GL mr a ↔ Gen (fun y => y ∈ mq ∨ y ∈ um) a := by
  have hl := hu.2.2
  obtain ⟨⟨c2, b2, r2, f2, n2, k2, m2⟩, mr, e, h2, j⟩ := joinAll_L hu hF um.length 0 F mq t h (by omega) (by omega)
  refine ⟨_, mr, ?_, h2, fun a => ?_⟩
  · unfold mX4_joinAll
    rw [bd7_e (show mX4_joinAll_L2 F umakers umc F 0 t.1 t.2.1 t.2.2.1 t.2.2.2.1 t.2.2.2.2.1 t.2.2.2.2.2.1 t.2.2.2.2.2.2 = _ from e)]
  · rw [j.gen]
    refine Gen.congr (fun y hy => Gen.of ?_) (fun y hy => Gen.of ?_) a
    · exact hy.imp id Fr_0.mp
    · exact hy.imp id Fr_0.mpr
theorem closeUnder_in {um : List Pm} {umakers : Nat → Int32} {umc : Int32} (hu : Row um umakers umc) {F : Nat} (hF : 50000 ≤ F) {k : Nat} {x : Pm} : ∀ (d s f : Nat) (mq : List Pm) (t : TW), TG mq t → mq[k]? = some x → s + d = um.length → d < f → ∃ t2 mr, mX4_closeUnder_L18 F (nI k) umakers umc f (nI s) t.1 t.2.1 t.2.2.1 t.2.2.2.1 t.2.2.2.2.1 t.2.2.2.2.2.1 t.2.2.2.2.2.2 = some t2 ∧ TG mr t2 ∧ Jnd mq mr (fun y => ∃ z, Fr um s z ∧ y = x.cj z)
  | 0, s, f, mq, t, h, hk, hs, hf => by
    obtain ⟨f, rfl⟩ : ∃ g, f = g + 1 := ⟨f - 1, by omega⟩
    have hl := hu.2.2
    exact ⟨t, mq, by rw [mX4_closeUnder_L18_s, hu.2.1, if_pos (nI_le (by omega) (by omega))], h, Jnd.refl fun y ⟨z, hz, _⟩ => Fr_end (by omega) hz⟩
  | d + 1, s, f, mq, t, h, hk, hs, hf => by
    obtain ⟨f, rfl⟩ : ∃ g, f = g + 1 := ⟨f - 1, by omega⟩
    have hl := hu.2.2
    have hlm := h.len
    have hk1 := (List.getElem?_eq_some_iff.mp hk).1
    obtain ⟨z, hz⟩ : ∃ z, um[s]? = some z := ⟨um[s]'(by omega), List.getElem?_eq_getElem (by omega)⟩
    obtain ⟨w, ⟨c2, b2, r2, f2, n2, k2, m2⟩, e2, h2, -⟩ := join_is h hF (x.cj z)
    have j2 := Jnd.jn mq (x.cj z)
    obtain ⟨t3, mr, e3, h3, j3⟩ := closeUnder_in hu hF d (s + 1) f _ _ h2 (j2.get hk) (by omega) (by omega)
    refine ⟨t3, mr, ?_, h3, j2.trans j3 (fun y => ?_)⟩
    · rw [mX4_closeUnder_L18_s, hu.2.1, if_neg (nI_ge (by omega) (by omega)), ← hu.2.1, gd_t (inb_n (by omega) (by omega)), gd_t (inb_n (by omega) (by omega)), cl_n (by omega), cl_n (by omega), h.maker hk, hu.1 s z hz, bd_e (carried_is hF _ _), bd8_e e2, nI_1]
      exact e3
    · constructor
      · rintro ⟨v, hv, e⟩
        rcases (Fr_s hz).mp hv with rfl | hv
        · exact Or.inl e
        · exact Or.inr ⟨v, hv, e⟩
      · rintro (e | ⟨v, hv, e⟩)
        · exact ⟨z, (Fr_s hz).mpr (Or.inl rfl), e⟩
        · exact ⟨v, (Fr_s hz).mpr (Or.inr hv), e⟩
/-- all makers from a place on go in under the turns of um -/
theorem closeUnder_L {um : List Pm} {umakers : Nat → Int32} {umc : Int32} (hu : Row um umakers umc) {F : Nat} (hF : 50000 ≤ F) : ∀ (d k f : Nat) (mq : List Pm) (t : TW), TG mq t → k + d = 16 → d < f → (∀ j x z, j < k → mq[j]? = some x → z ∈ um → GL mq (x.cj z)) → ∃ t2 mr, mX4_closeUnder_L2 F umakers umc f (nI k) t.1 t.2.1 t.2.2.1 t.2.2.2.1 t.2.2.2.2.1 t.2.2.2.2.2.1 t.2.2.2.2.2.2 = some t2 ∧ TG mr t2 ∧ (∃ more, mr = mq ++ more) ∧ (∀ x z, x ∈ mr → z ∈ um → GL mr (x.cj z)) ∧ ∀ K, Grp K → (∀ x, x ∈ mq → K x) → (∀ a z, K a → z ∈ um → K (a.cj z)) → ∀ x, x ∈ mr → K x
  | 0, k, f, mq, t, h, hk, hf, hd => by
    obtain ⟨f, rfl⟩ : ∃ g, f = g + 1 := ⟨f - 1, by omega⟩
    have hlm := h.len
    refine ⟨t, mq, by rw [mX4_closeUnder_L2_s, h.mc, if_pos (nI_le (by omega) (by omega)), ← h.mc], h, ⟨[], (List.append_nil _).symm⟩, fun x z hx hz => ?_, fun K _ h1 _ => h1⟩
    obtain ⟨j, hj⟩ := List.getElem?_of_mem hx
    exact hd j x z (by have := (List.getElem?_eq_some_iff.mp hj).1; omega) hj hz
  | d + 1, k, f, mq, t, h, hk, hf, hd => by
    obtain ⟨f, rfl⟩ : ∃ g, f = g + 1 := ⟨f - 1, by omega⟩
    have hlm := h.len
    have hl := hu.2.2
    rcases get_or mq k with hge | ⟨x, hlt, hx⟩
    · refine ⟨t, mq, by rw [mX4_closeUnder_L2_s, h.mc, if_pos (nI_le hge (by omega)), ← h.mc], h, ⟨[], (List.append_nil _).symm⟩, fun x z hx hz => ?_, fun K _ h1 _ => h1⟩
      obtain ⟨j, hj⟩ := List.getElem?_of_mem hx
      exact hd j x z (by have := (List.getElem?_eq_some_iff.mp hj).1; omega) hj hz
    · obtain ⟨⟨c2, b2, r2, f2, n2, k2, m2⟩, m1, e2, h2, j2⟩ := closeUnder_in hu hF um.length 0 F mq t h hx (by omega) (by omega)
      obtain ⟨t3, mr, e3, h3, ⟨more, p3⟩, c3, l3⟩ := closeUnder_L hu hF d (k + 1) f m1 _ h2 (by omega) (by omega) (fun j y z hj hy hz => by
        by_cases e : j = k
        · subst e
          have : y = x := by rw [j2.get hx] at hy; exact (Option.some.inj hy).symm
          subst this
          exact j2.2.1 _ ⟨z, Fr_0.mpr hz, rfl⟩
        · obtain ⟨y', hy'⟩ : ∃ y', mq[j]? = some y' := ⟨mq[j]'(by omega), List.getElem?_eq_getElem (by omega)⟩
          have : y = y' := by rw [j2.get hy'] at hy; exact (Option.some.inj hy).symm
          subst this
          exact j2.mono (hd j y z (by omega) hy' hz))
      obtain ⟨m0, p0⟩ := j2.1
      refine ⟨t3, mr, ?_, h3, ⟨m0 ++ more, by rw [p3, p0, List.append_assoc]⟩, c3, fun K hK a1 a2 => ?_⟩
      · rw [mX4_closeUnder_L2_s, h.mc, if_neg (nI_ge hlt (by omega)), if_neg (show ¬ (16 : Int32) ≤ nI k from nI_ge (b := 16) (by omega) (by omega)), ← h.mc, bd7_e (show mX4_closeUnder_L18 F (nI k) umakers umc F 0 t.1 t.2.1 t.2.2.1 t.2.2.2.1 t.2.2.2.2.1 t.2.2.2.2.2.1 t.2.2.2.2.2.2 = _ from e2), nI_1]
        exact e3
      · refine l3 K hK (j2.2.2 K hK a1 (fun y ⟨z, hz, e⟩ => ?_)) a2
        rw [e]
        exact a2 x z (a1 x (List.mem_of_getElem? hx)) (List.mem_of_getElem? hz.choose_spec.2)
/-- what is closed so is the least group of that kind -/
theorem nc_of {mq mr um : List Pm} (h1 : ∃ more, mr = mq ++ more) (h2 : ∀ x z, x ∈ mr → z ∈ um → GL mr (x.cj z)) (h3 : ∀ K, Grp K → (∀ x, x ∈ mq → K x) → (∀ a z, K a → z ∈ um → K (a.cj z)) → ∀ x, x ∈ mr → K x) : IsNC (fun x => x ∈ mq) (fun x => x ∈ um) (GL mr) := by
  obtain ⟨more, e⟩ := h1
  refine ⟨GL.grp mr, fun a ha => GL.of (by rw [e]; exact List.mem_append.mpr (Or.inl ha)), fun t x ht hx => ?_, fun K hK a1 a2 a ha => ?_⟩
  · exact Gen.cj (GL.grp mr) (fun y hy => h2 y x hy hx) ht
  · exact Gen.least hK (h3 K hK a1 a2) ha
theorem closeUnder_is {um : List Pm} {umakers : Nat → Int32} {umc : Int32} (hu : Row um umakers umc) {F : Nat} (hF : 50000 ≤ F) {mq : List Pm} {t : TW} (h : TG mq t) : ∃ t2 mr, mX4_closeUnder F t.1 t.2.1 t.2.2.1 t.2.2.2.1 t.2.2.2.2.1 t.2.2.2.2.2.1 t.2.2.2.2.2.2 umakers umc = some t2 ∧ TG mr t2 ∧ IsNC (fun x => x ∈ mq) (fun x => x ∈ um) (GL mr) := by
  obtain ⟨⟨c2, b2, r2, f2, n2, k2, m2⟩, mr, e, h2, p, c, l⟩ := closeUnder_L hu hF 16 0 F mq t h (by omega) (by omega) (fun j x z hj => by omega)
  refine ⟨_, mr, ?_, h2, nc_of p c l⟩
  unfold mX4_closeUnder
  rw [bd7_e (show mX4_closeUnder_L2 F umakers umc F 0 t.1 t.2.1 t.2.2.1 t.2.2.2.1 t.2.2.2.2.1 t.2.2.2.2.2.1 t.2.2.2.2.2.2 = _ from e)]
theorem becomeCarried_L {um : List Pm} {umakers : Nat → Int32} {umc : Int32} (hu : Row um umakers umc) {F : Nat} (hF : 50000 ≤ F) (p : Pm) : ∀ (d k f : Nat) (mq : List Pm) (t : TW), TG mq t → k + d = um.length → d < f → ∃ t2 mr, mX4_becomeCarried_L6 F (cdp p) umakers umc f (nI k) t.1 t.2.1 t.2.2.1 t.2.2.2.1 t.2.2.2.2.1 t.2.2.2.2.2.1 t.2.2.2.2.2.2 = some t2 ∧ TG mr t2 ∧ Jnd mq mr (fun y => ∃ z, Fr um k z ∧ y = z.cj p)
  | 0, k, f, mq, t, h, hk, hf => by
    obtain ⟨f, rfl⟩ : ∃ g, f = g + 1 := ⟨f - 1, by omega⟩
    have hl := hu.2.2
    exact ⟨t, mq, by rw [mX4_becomeCarried_L6_s, hu.2.1, if_pos (nI_le (by omega) (by omega))], h, Jnd.refl fun x ⟨z, hz, _⟩ => Fr_end (by omega) hz⟩
  | d + 1, k, f, mq, t, h, hk, hf => by
    obtain ⟨f, rfl⟩ : ∃ g, f = g + 1 := ⟨f - 1, by omega⟩
    have hl := hu.2.2
    obtain ⟨x, hx⟩ : ∃ x, um[k]? = some x := ⟨um[k]'(by omega), List.getElem?_eq_getElem (by omega)⟩
    obtain ⟨z, ⟨c2, b2, r2, f2, n2, k2, m2⟩, e2, h2, -⟩ := join_is h hF (x.cj p)
    obtain ⟨t3, mr, e3, h3, j3⟩ := becomeCarried_L hu hF p d (k + 1) f _ _ h2 (by omega) (by omega)
    refine ⟨t3, mr, ?_, h3, (Jnd.jn mq (x.cj p)).trans j3 (fun y => ?_)⟩
    · rw [mX4_becomeCarried_L6_s, hu.2.1, if_neg (nI_ge (by omega) (by omega)), ← hu.2.1, gd_t (inb_n (by omega) (by omega)), cl_n (by omega), hu.1 k x hx, bd_e (carried_is hF _ _), bd8_e e2, nI_1]
      exact e3
    · constructor
      · rintro ⟨v, hv, e⟩
        rcases (Fr_s hx).mp hv with rfl | hv
        · exact Or.inl e
        · exact Or.inr ⟨v, hv, e⟩
      · rintro (e | ⟨v, hv, e⟩)
        · exact ⟨x, (Fr_s hx).mpr (Or.inl rfl), e⟩
        · exact ⟨v, (Fr_s hx).mpr (Or.inr hv), e⟩
theorem becomeCarried_is {um : List Pm} {umakers : Nat → Int32} {umc : Int32} (hu : Row um umakers umc) {F : Nat} (hF : 50000 ≤ F) (p : Pm) (t : TW) : ∃ t2 mr, mX4_becomeCarried F t.1 t.2.1 t.2.2.1 t.2.2.2.1 t.2.2.2.2.1 t.2.2.2.2.2.1 t.2.2.2.2.2.2 umakers umc (cdp p) = some t2 ∧ TG mr t2 ∧ ∀ a, GL mr a ↔ GL um (a.cj p.bk) := by
  have hl := hu.2.2
  obtain ⟨r1, e1, h1⟩ := clear_is hF t.1 t.2.1 t.2.2.1 t.2.2.2.1 t.2.2.2.2.1 t.2.2.2.2.2.1 t.2.2.2.2.2.2
  obtain ⟨⟨c2, b2, r2, f2, n2, k2, m2⟩, mr, e, h2, j⟩ := becomeCarried_L hu hF p um.length 0 F [] _ h1 (by omega) (by omega)
  refine ⟨_, mr, ?_, h2, fun a => ?_⟩
  · unfold mX4_becomeCarried
    rw [bd3_e e1, bd7_e (show mX4_becomeCarried_L6 F (cdp p) umakers umc F 0 t.1 t.2.1 r1 t.2.2.2.1 0 t.2.2.2.2.2.1 0 = _ from e)]
  · rw [j.gen]
    constructor
    · refine Gen.least ((GL.grp um).cjs p.bk) (fun y hy => ?_)
      rcases hy with hy | ⟨z, hz, e⟩
      · exact absurd hy List.not_mem_nil
      · rw [e, Pm.cj_back]; exact GL.of (Fr_0.mp hz)
    · intro ha
      have := Gen.cj (N := Gen (fun y => y ∈ [] ∨ ∃ z, Fr um 0 z ∧ y = z.cj p)) (Gen.grp _) (s := p) (fun x hx => Gen.of (Or.inr ⟨x, Fr_0.mpr hx, rfl⟩)) ha
      rwa [Pm.cj_back'] at this
theorem becomeDown_in {um : List Pm} {umakers : Nat → Int32} {umc : Int32} (hu : Row um umakers umc) {F : Nat} (hF : 50000 ≤ F) {s : Nat} {x : Pm} (hx : um[s]? = some x) : ∀ (d k f : Nat) (mq : List Pm) (t : TW), TG mq t → k + d = s → d < f → ∃ t2 mr, mX4_becomeDown_L16 F (nI s) umakers f (nI k) t.1 t.2.1 t.2.2.1 t.2.2.2.1 t.2.2.2.2.1 t.2.2.2.2.2.1 t.2.2.2.2.2.2 = some t2 ∧ TG mr t2 ∧ Jnd mq mr (fun y => ∃ j z, k ≤ j ∧ j < s ∧ um[j]? = some z ∧ y = x.cm z)
  | 0, k, f, mq, t, h, hk, hf => by
    obtain ⟨f, rfl⟩ : ∃ g, f = g + 1 := ⟨f - 1, by omega⟩
    have hl := hu.2.2
    have hs := (List.getElem?_eq_some_iff.mp hx).1
    exact ⟨t, mq, by rw [mX4_becomeDown_L16_s, if_pos (nI_le (by omega) (by omega))], h, Jnd.refl fun y ⟨j, z, h1, h2, _⟩ => by omega⟩
  | d + 1, k, f, mq, t, h, hk, hf => by
    obtain ⟨f, rfl⟩ : ∃ g, f = g + 1 := ⟨f - 1, by omega⟩
    have hl := hu.2.2
    have hs := (List.getElem?_eq_some_iff.mp hx).1
    obtain ⟨z, hz⟩ : ∃ z, um[k]? = some z := ⟨um[k]'(by omega), List.getElem?_eq_getElem (by omega)⟩
    obtain ⟨w, ⟨c2, b2, r2, f2, n2, k2, m2⟩, e2, h2, -⟩ := join_is h hF (x.cm z)
    obtain ⟨t3, mr, e3, h3, j3⟩ := becomeDown_in hu hF hx d (k + 1) f _ _ h2 (by omega) (by omega)
    refine ⟨t3, mr, ?_, h3, (Jnd.jn mq (x.cm z)).trans j3 (fun y => ?_)⟩
    · rw [mX4_becomeDown_L16_s, if_neg (nI_ge (by omega) (by omega)), gd_t (inb_n (by omega) (by omega)), gd_t (inb_n (by omega) (by omega)), cl_n (by omega), cl_n (by omega), hu.1 s x hx, hu.1 k z hz, bd_e (commutator_is hF _ _), bd8_e e2, nI_1]
      exact e3
    · constructor
      · rintro ⟨j, v, h1, h2, hv, e⟩
        by_cases hj : j = k
        · subst hj; rw [hz] at hv; cases hv; exact Or.inl e
        · exact Or.inr ⟨j, v, by omega, h2, hv, e⟩
      · rintro (e | ⟨j, v, h1, h2, hv, e⟩)
        · exact ⟨k, z, Nat.le_refl k, by omega, hz, e⟩
        · exact ⟨j, v, by omega, h2, hv, e⟩
theorem becomeDown_L {um : List Pm} {umakers : Nat → Int32} {umc : Int32} (hu : Row um umakers umc) {F : Nat} (hF : 50000 ≤ F) : ∀ (d s f : Nat) (mq : List Pm) (t : TW), TG mq t → s + d = um.length → d < f → ∃ t2 mr, mX4_becomeDown_L6 F umakers umc f (nI s) t.1 t.2.1 t.2.2.1 t.2.2.2.1 t.2.2.2.2.1 t.2.2.2.2.2.1 t.2.2.2.2.2.2 = some t2 ∧ TG mr t2 ∧ Jnd mq mr (fun y => ∃ i j x z, s ≤ i ∧ j < i ∧ um[i]? = some x ∧ um[j]? = some z ∧ y = x.cm z)
  | 0, k, f, mq, t, h, hk, hf => by
    obtain ⟨f, rfl⟩ : ∃ g, f = g + 1 := ⟨f - 1, by omega⟩
    have hl := hu.2.2
    exact ⟨t, mq, by rw [mX4_becomeDown_L6_s, hu.2.1, if_pos (nI_le (by omega) (by omega))], h, Jnd.refl fun y ⟨i, j, x, z, h1, h2, h3, _⟩ => by have := (List.getElem?_eq_some_iff.mp h3).1; omega⟩
  | d + 1, k, f, mq, t, h, hk, hf => by
    obtain ⟨f, rfl⟩ : ∃ g, f = g + 1 := ⟨f - 1, by omega⟩
    have hl := hu.2.2
    obtain ⟨x, hx⟩ : ∃ x, um[k]? = some x := ⟨um[k]'(by omega), List.getElem?_eq_getElem (by omega)⟩
    obtain ⟨⟨c2, b2, r2, f2, n2, k2, m2⟩, m1, e2, h2, j2⟩ := becomeDown_in hu hF hx k 0 F mq t h (by omega) (by omega)
    obtain ⟨t3, mr, e3, h3, j3⟩ := becomeDown_L hu hF d (k + 1) f _ _ h2 (by omega) (by omega)
    refine ⟨t3, mr, ?_, h3, j2.trans j3 (fun y => ?_)⟩
    · rw [mX4_becomeDown_L6_s, hu.2.1, if_neg (nI_ge (by omega) (by omega)), ← hu.2.1, bd7_e (show mX4_becomeDown_L16 F (nI k) umakers F 0 t.1 t.2.1 t.2.2.1 t.2.2.2.1 t.2.2.2.2.1 t.2.2.2.2.2.1 t.2.2.2.2.2.2 = _ from e2), nI_1]
      exact e3
    · constructor
      · rintro ⟨i, j, u, v, h1, h2, hu', hv, e⟩
        by_cases hj : i = k
        · subst hj; rw [hx] at hu'; cases hu'; exact Or.inl ⟨j, v, Nat.zero_le j, h2, hv, e⟩
        · exact Or.inr ⟨i, j, u, v, by omega, h2, hu', hv, e⟩
      · rintro (⟨j, v, h1, h2, hv, e⟩ | ⟨i, j, u, v, h1, h2, hu', hv, e⟩)
        · exact ⟨k, j, x, v, Nat.le_refl k, h2, hx, hv, e⟩
        · exact ⟨i, j, u, v, by omega, h2, hu', hv, e⟩
theorem becomeDown_is {um : List Pm} {umakers : Nat → Int32} {umc : Int32} (hu : Row um umakers umc) {F : Nat} (hF : 50000 ≤ F) (t : TW) : ∃ t2 mr, mX4_becomeDown F t.1 t.2.1 t.2.2.1 t.2.2.2.1 t.2.2.2.2.1 t.2.2.2.2.2.1 t.2.2.2.2.2.2 umakers umc = some t2 ∧ TG mr t2 ∧ ∀ a, GL mr a ↔ Dn (GL um) a := by
  have hl := hu.2.2
  obtain ⟨r1, e1, h1⟩ := clear_is hF t.1 t.2.1 t.2.2.1 t.2.2.2.1 t.2.2.2.2.1 t.2.2.2.2.2.1 t.2.2.2.2.2.2
  obtain ⟨⟨c2, b2, r2, f2, n2, k2, m2⟩, m1, e, h2, j⟩ := becomeDown_L hu hF um.length 0 F [] _ h1 (by omega) (by omega)
  obtain ⟨⟨c3, b3, r3, f3, n3, k3, m3⟩, mr, e3, h3, nc⟩ := closeUnder_is hu hF h2
  refine ⟨_, mr, ?_, h3, fun a => ?_⟩
  · unfold mX4_becomeDown
    rw [bd3_e e1, bd7_e (show mX4_becomeDown_L6 F umakers umc F 0 t.1 t.2.1 r1 t.2.2.2.1 0 t.2.2.2.2.2.1 0 = _ from e), bd7_e e3]
  · have hC : ∀ y, (∃ i k x z, 0 ≤ i ∧ k < i ∧ um[i]? = some x ∧ um[k]? = some z ∧ y = x.cm z) → GL mr y := fun y hy => Gen.least (GL.grp mr) (fun z hz => nc.2.1 z hz) (j.2.1 y hy)
    refine Dn.of (X := fun x => x ∈ um) (C := fun y => ∃ i k x z, 0 ≤ i ∧ k < i ∧ um[i]? = some x ∧ um[k]? = some z ∧ y = x.cm z) (N := GL mr) (fun c ⟨i, k, x, z, _, _, hx, hz, e⟩ => ⟨x, z, Gen.of (List.mem_of_getElem? hx), Gen.of (List.mem_of_getElem? hz), e⟩) (fun x y hx hy => ?_) ⟨GL.grp mr, hC, nc.2.2.1, fun K hK a1 a2 => ?_⟩ a
    · obtain ⟨i, hi⟩ := List.getElem?_of_mem hx
      obtain ⟨k, hk⟩ := List.getElem?_of_mem hy
      rcases Nat.lt_trichotomy k i with h | h | h
      · exact hC _ ⟨i, k, x, y, Nat.zero_le i, h, hi, hk, rfl⟩
      · subst h
        rw [hi] at hk
        cases hk
        rw [Pm.cm_self]; exact (GL.grp mr).1
      · rw [Pm.cm_swap]
        exact (GL.grp mr).2.2 _ (hC _ ⟨k, i, y, x, Nat.zero_le k, h, hk, hi, rfl⟩)
    · exact nc.2.2.2 K hK (j.2.2 K hK (fun x hx => absurd hx List.not_mem_nil) a1) a2
theorem isWithin_L {mq um : List Pm} {t u : TW} (hq : Row mq t.2.2.2.2.2.1 t.2.2.2.2.2.2) (hu : TG um u) {F : Nat} (hF : 50000 ≤ F) : ∀ (d k f : Nat), k + d = mq.length → d < f → ((∀ y, Fr mq k y → GL um y) ∧ mX4_isWithin_L2 F t.2.2.2.2.2.1 t.2.2.2.2.2.2 u.2.1 u.2.2.1 f (nI k) = some 1) ∨ ((∃ y, Fr mq k y ∧ ¬ GL um y) ∧ mX4_isWithin_L2 F t.2.2.2.2.2.1 t.2.2.2.2.2.2 u.2.1 u.2.2.1 f (nI k) = some 0)
  | 0, k, f, hk, hf => by
    obtain ⟨f, rfl⟩ : ∃ g, f = g + 1 := ⟨f - 1, by omega⟩
    have hl := hq.2.2
    left
    exact ⟨fun y hy => absurd hy (Fr_end (by omega)), by rw [mX4_isWithin_L2_s, hq.2.1, if_pos (nI_le (by omega) (by omega))]⟩
  | d + 1, k, f, hk, hf => by
    obtain ⟨f, rfl⟩ : ∃ g, f = g + 1 := ⟨f - 1, by omega⟩
    have hl := hq.2.2
    obtain ⟨x, hx⟩ : ∃ x, mq[k]? = some x := ⟨mq[k]'(by omega), List.getElem?_eq_getElem (by omega)⟩
    rw [mX4_isWithin_L2_s, hq.2.1, if_neg (nI_ge (by omega) (by omega)), ← hq.2.1, gd_t (inb_n (by omega) (by omega)), cl_n (by omega), hq.1 k x hx]
    rcases holds_is hu hF x with ⟨h1, e⟩ | ⟨h1, e⟩
    · rw [bd_e e, if_neg (by decide), nI_1]
      rcases isWithin_L hq hu hF d (k + 1) f (by omega) (by omega) with ⟨h2, e2⟩ | ⟨⟨y, hy, hn⟩, e2⟩
      · left
        exact ⟨fun y hy => ((Fr_s hx).mp hy).elim (fun e => e ▸ h1) (h2 y), e2⟩
      · right
        exact ⟨⟨y, (Fr_s hx).mpr (Or.inr hy), hn⟩, e2⟩
    · right
      rw [bd_e e, if_pos rfl]
      exact ⟨⟨x, (Fr_s hx).mpr (Or.inl rfl), h1⟩, rfl⟩
theorem isWithin_is {mq um : List Pm} {t u : TW} (ht : TG mq t) (hu : TG um u) {F : Nat} (hF : 50000 ≤ F) : ((∀ y, GL mq y → GL um y) ∧ mX4_isWithin F t.2.2.2.2.2.1 t.2.2.2.2.2.2 u.2.1 u.2.2.1 = some 1) ∨ (¬ (∀ y, GL mq y → GL um y) ∧ mX4_isWithin F t.2.2.2.2.2.1 t.2.2.2.2.2.2 u.2.1 u.2.2.1 = some 0) := by
  have hl := ht.len
  unfold mX4_isWithin
  rcases isWithin_L ht.row hu hF mq.length 0 F (by omega) (by omega) with ⟨h, e⟩ | ⟨⟨y, hy, hn⟩, e⟩
  · exact Or.inl ⟨fun y hy => Gen.least (GL.grp um) (fun x hx => h x (Fr_0.mpr hx)) hy, e⟩
  · exact Or.inr ⟨fun h => hn (h y (GL.of (Fr_0.mp hy))), e⟩
theorem staysUnder_in {mq um : List Pm} {t : TW} {umakers : Nat → Int32} {umc : Int32} (ht : TG mq t) (hu : Row um umakers umc) {F : Nat} (hF : 50000 ≤ F) {k : Nat} {x : Pm} (hx : mq[k]? = some x) : ∀ (d s f : Nat), s + d = um.length → d < f → ((∀ z, Fr um s z → GL mq (x.cj z)) ∧ mX4_staysUnder_L12 F (nI k) t.2.1 t.2.2.1 t.2.2.2.2.2.1 umakers umc f (nI s) = some none) ∨ ((∃ z, Fr um s z ∧ ¬ GL mq (x.cj z)) ∧ mX4_staysUnder_L12 F (nI k) t.2.1 t.2.2.1 t.2.2.2.2.2.1 umakers umc f (nI s) = some (some 0))
  | 0, s, f, hs, hf => by
    obtain ⟨f, rfl⟩ : ∃ g, f = g + 1 := ⟨f - 1, by omega⟩
    have hl := hu.2.2
    left
    exact ⟨fun y hy => absurd hy (Fr_end (by omega)), by rw [mX4_staysUnder_L12_s, hu.2.1, if_pos (nI_le (by omega) (by omega))]⟩
  | d + 1, s, f, hs, hf => by
    obtain ⟨f, rfl⟩ : ∃ g, f = g + 1 := ⟨f - 1, by omega⟩
    have hl := hu.2.2
    have hlm := ht.len
    have hk := (List.getElem?_eq_some_iff.mp hx).1
    obtain ⟨z, hz⟩ : ∃ z, um[s]? = some z := ⟨um[s]'(by omega), List.getElem?_eq_getElem (by omega)⟩
    rw [mX4_staysUnder_L12_s, hu.2.1, if_neg (nI_ge (by omega) (by omega)), ← hu.2.1, gd_t (inb_n (by omega) (by omega)), gd_t (inb_n (by omega) (by omega)), cl_n (by omega), cl_n (by omega), ht.maker hx, hu.1 s z hz, bd_e (carried_is hF _ _)]
    rcases holds_is ht hF (x.cj z) with ⟨h1, e⟩ | ⟨h1, e⟩
    · rw [bd_e e, if_neg (by decide), nI_1]
      rcases staysUnder_in ht hu hF hx d (s + 1) f (by omega) (by omega) with ⟨h2, e2⟩ | ⟨⟨y, hy, hn⟩, e2⟩
      · left
        exact ⟨fun y hy => ((Fr_s hz).mp hy).elim (fun e => e ▸ h1) (h2 y), e2⟩
      · right
        exact ⟨⟨y, (Fr_s hz).mpr (Or.inr hy), hn⟩, e2⟩
    · right
      rw [bd_e e, if_pos rfl]
      exact ⟨⟨z, (Fr_s hz).mpr (Or.inl rfl), h1⟩, rfl⟩
theorem staysUnder_L {mq um : List Pm} {t : TW} {umakers : Nat → Int32} {umc : Int32} (ht : TG mq t) (hu : Row um umakers umc) {F : Nat} (hF : 50000 ≤ F) : ∀ (d k f : Nat), k + d = mq.length → d < f → ((∀ x z, Fr mq k x → z ∈ um → GL mq (x.cj z)) ∧ mX4_staysUnder_L2 F t.2.1 t.2.2.1 t.2.2.2.2.2.1 t.2.2.2.2.2.2 umakers umc f (nI k) = some 1) ∨ ((∃ x z, Fr mq k x ∧ z ∈ um ∧ ¬ GL mq (x.cj z)) ∧ mX4_staysUnder_L2 F t.2.1 t.2.2.1 t.2.2.2.2.2.1 t.2.2.2.2.2.2 umakers umc f (nI k) = some 0)
  | 0, k, f, hk, hf => by
    obtain ⟨f, rfl⟩ : ∃ g, f = g + 1 := ⟨f - 1, by omega⟩
    have hl := ht.len
    left
    exact ⟨fun y z hy => absurd hy (Fr_end (by omega)), by rw [mX4_staysUnder_L2_s, ht.mc, if_pos (nI_le (by omega) (by omega))]⟩
  | d + 1, k, f, hk, hf => by
    obtain ⟨f, rfl⟩ : ∃ g, f = g + 1 := ⟨f - 1, by omega⟩
    have hl := ht.len
    have hl2 := hu.2.2
    obtain ⟨x, hx⟩ : ∃ x, mq[k]? = some x := ⟨mq[k]'(by omega), List.getElem?_eq_getElem (by omega)⟩
    rw [mX4_staysUnder_L2_s, ht.mc, if_neg (nI_ge (by omega) (by omega)), ← ht.mc]
    rcases staysUnder_in ht hu hF hx um.length 0 F (by omega) (by omega) with ⟨h1, e⟩ | ⟨⟨z, hz, hn⟩, e⟩
    · rw [bd_e (show mX4_staysUnder_L12 F (nI k) t.2.1 t.2.2.1 t.2.2.2.2.2.1 umakers umc F 0 = _ from e), oc_none, nI_1]
      rcases staysUnder_L ht hu hF d (k + 1) f (by omega) (by omega) with ⟨h2, e2⟩ | ⟨⟨y, z, hy, hz, hn⟩, e2⟩
      · left
        exact ⟨fun y z hy hz => ((Fr_s hx).mp hy).elim (fun e => e ▸ h1 z (Fr_0.mpr hz)) (fun hy => h2 y z hy hz), e2⟩
      · right
        exact ⟨⟨y, z, (Fr_s hx).mpr (Or.inr hy), hz, hn⟩, e2⟩
    · right
      rw [bd_e (show mX4_staysUnder_L12 F (nI k) t.2.1 t.2.2.1 t.2.2.2.2.2.1 umakers umc F 0 = _ from e), oc_some]
      exact ⟨⟨x, z, (Fr_s hx).mpr (Or.inl rfl), Fr_0.mp hz, hn⟩, rfl⟩
/-- normal: it goes into itself under the turns of another -/
theorem staysUnder_is {mq um : List Pm} {t : TW} {umakers : Nat → Int32} {umc : Int32} (ht : TG mq t) (hu : Row um umakers umc) {F : Nat} (hF : 50000 ≤ F) : ((∀ x z, GL mq x → GL um z → GL mq (x.cj z)) ∧ mX4_staysUnder F t.2.1 t.2.2.1 t.2.2.2.2.2.1 t.2.2.2.2.2.2 umakers umc = some 1) ∨ (¬ (∀ x z, GL mq x → GL um z → GL mq (x.cj z)) ∧ mX4_staysUnder F t.2.1 t.2.2.1 t.2.2.2.2.2.1 t.2.2.2.2.2.2 umakers umc = some 0) := by
  have hl := ht.len
  unfold mX4_staysUnder
  rcases staysUnder_L ht hu hF mq.length 0 F (by omega) (by omega) with ⟨h, e⟩ | ⟨⟨x, z, hx, hz, hn⟩, e⟩
  · refine Or.inl ⟨fun x z hx hz => ?_, e⟩
    exact hz _ Grp.nrm (fun y hy a ha => Gen.cj (GL.grp mq) (fun w hw => h w y (Fr_0.mpr hw) hy) ha) x hx
  · exact Or.inr ⟨fun h => hn (h x z (GL.of (Fr_0.mp hx)) (GL.of hz)), e⟩
