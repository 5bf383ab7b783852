/-! ===== makers ===== -/
/-- the group of the turns of a list -/
def GL (mq : List Pm) : Pm → Prop := Gen (fun x => x ∈ mq)
theorem GL.grp (mq : List Pm) : Grp (GL mq) := Gen.grp _
theorem GL.of {mq : List Pm} {x : Pm} (h : x ∈ mq) : GL mq x := Gen.of h
theorem GL_nil (a : Pm) : GL [] a ↔ a = .one := Gen.none (fun x h => List.not_mem_nil h) a
noncomputable def jn (mq : List Pm) (a : Pm) : List Pm := @ite _ (GL mq a) (Classical.propDecidable _) mq (mq ++ [a])
theorem jn_in {mq : List Pm} {a : Pm} (h : GL mq a) : jn mq a = mq := by
  unfold jn
  exact if_pos h
theorem jn_out {mq : List Pm} {a : Pm} (h : ¬ GL mq a) : jn mq a = mq ++ [a] := by
  unfold jn
  exact if_neg h
theorem jn_two (mq : List Pm) (a : Pm) : (GL mq a ∧ jn mq a = mq) ∨ (¬ GL mq a ∧ jn mq a = mq ++ [a]) := by
  by_cases h : GL mq a
  · exact Or.inl ⟨h, jn_in h⟩
  · exact Or.inr ⟨h, jn_out h⟩
theorem jn_pre (mq : List Pm) (a : Pm) : ∃ more, jn mq a = mq ++ more := by
  rcases jn_two mq a with ⟨-, e⟩ | ⟨-, e⟩
  · exact ⟨[], by rw [e, List.append_nil]⟩
  · exact ⟨[a], e⟩
theorem jn_mem {mq : List Pm} {a x : Pm} (h : x ∈ jn mq a) : x ∈ mq ∨ x = a := by
  rcases jn_two mq a with ⟨-, e⟩ | ⟨-, e⟩
  · rw [e] at h; exact Or.inl h
  · rw [e, List.mem_append, List.mem_singleton] at h; exact h
theorem jn_sub {mq : List Pm} {a x : Pm} (h : x ∈ mq) : x ∈ jn mq a := by
  obtain ⟨more, e⟩ := jn_pre mq a
  rw [e]
  exact List.mem_append.mpr (Or.inl h)
theorem GL_mono {mq nk : List Pm} (h : ∀ x, x ∈ mq → x ∈ nk) {a : Pm} (ha : GL mq a) : GL nk a := Gen.sub h ha
theorem GL_pre {mq : List Pm} (more : List Pm) {a : Pm} (ha : GL mq a) : GL (mq ++ more) a := GL_mono (fun _ h => List.mem_append.mpr (Or.inl h)) ha
theorem GL_jn (mq : List Pm) (a x : Pm) : GL (jn mq a) x ↔ Gen (fun y => y ∈ mq ∨ y = a) x := by
  rcases jn_two mq a with ⟨h, e⟩ | ⟨h, e⟩
  · rw [e]
    refine Gen.congr (fun y hy => Gen.of (Or.inl hy)) (fun y hy => ?_) x
    rcases hy with hy | hy
    · exact Gen.of hy
    · rw [hy]; exact h
  · rw [e]
    refine Gen.congr (fun y hy => Gen.of ?_) (fun y hy => Gen.of ?_) x
    · rwa [List.mem_append, List.mem_singleton] at hy
    · rwa [List.mem_append, List.mem_singleton]
theorem GL_jn_self (mq : List Pm) (a : Pm) : GL (jn mq a) a := (GL_jn mq a a).mpr (Gen.of (Or.inr rfl))
theorem GL_jn_mono {mq : List Pm} {a x : Pm} (h : GL mq x) : GL (jn mq a) x := GL_mono (fun _ => jn_sub) h
/-- each maker is new -/
def Ind (mq : List Pm) : Prop := ∀ k x, mq[k]? = some x → ¬ GL (mq.take k) x
theorem Ind_nil : Ind [] := fun k x h => by simp at h
theorem Ind.snoc {mq : List Pm} {a : Pm} (h : Ind mq) (ha : ¬ GL mq a) : Ind (mq ++ [a]) := fun k x hx => by
  by_cases hk : k < mq.length
  · rw [List.getElem?_append_left hk] at hx
    rw [List.take_append_of_le_length (by omega)]
    exact h k x hx
  · rw [List.getElem?_append_right (by omega)] at hx
    have hk2 : k = mq.length := by
      apply Classical.byContradiction
      intro hc
      obtain ⟨m, hm⟩ : ∃ m, k - mq.length = m + 1 := ⟨k - mq.length - 1, by omega⟩
      rw [hm] at hx
      simp at hx
    subst hk2
    rw [Nat.sub_self] at hx
    have : x = a := by simpa using hx.symm
    subst this
    rw [List.take_left]
    exact ha
theorem Ind.jn {mq : List Pm} (h : Ind mq) (a : Pm) : Ind (jn mq a) := by
  rcases jn_two mq a with ⟨h1, e⟩ | ⟨h1, e⟩
  · rw [e]; exact h
  · rw [e]; exact h.snoc h1
theorem Ind.take {mq : List Pm} (h : Ind mq) (n : Nat) : Ind (mq.take n) := fun k x hx => by
  rw [List.getElem?_take] at hx
  split at hx
  · rename_i hk
    rw [List.take_take, Nat.min_eq_left (by omega)]
    exact h k x hx
  · cases hx
/-! the tower of all turns -/
def Pm.tr (i p : Nat) (hi : i < 8) (hp : p < 8) : Pm := ⟨(fun k => if k = i then p else if k = p then i else k, fun k => if k = i then p else if k = p then i else k), fun k => by dsimp only; split <;> split <;> (try split) <;> omega, fun k => by dsimp only; split <;> split <;> (try split) <;> omega, fun k hk => by dsimp only; split <;> (try split) <;> omega⟩
theorem Pm.tr_ap {i p : Nat} (hi : i < 8) (hp : p < 8) (k : Nat) : (Pm.tr i p hi hp).ap k = if k = i then p else if k = p then i else k := rfl
def allR (i : Nat) : Nat := bsn (fun p => decide (i ≤ p)) 8
def allC (i p : Nat) : Pm := if h : i < 8 ∧ p < 8 then Pm.tr i p h.1 h.2 else .one
theorem all_bit {i p : Nat} : (allR i).testBit p = true ↔ i ≤ p ∧ p < 8 := by
  unfold allR
  rw [bsn_bit, Bool.and_eq_true, decide_eq_true_iff, decide_eq_true_iff]
  exact And.comm
theorem all_ok : TwOk allR allC := fun i hi => by
  refine ⟨bsn_lt _ 8, all_bit.mpr ⟨Nat.le_refl i, hi⟩, fun p hp => (all_bit.mp hp).1, ?_, fun p hp => ?_⟩
  · unfold allC
    rw [dif_pos ⟨hi, hi⟩]
    exact Pm.ext fun k => by
      rw [Pm.tr_ap, Pm.ap_one]
      split
      · omega
      · rfl
  · obtain ⟨h1, h2⟩ := all_bit.mp hp
    unfold allC
    rw [dif_pos ⟨hi, h2⟩]
    refine ⟨fun j hj => ?_, ?_⟩
    · rw [Pm.tr_ap, if_neg (by omega), if_neg (by omega)]
    · rw [Pm.tr_ap, if_pos rfl]
theorem all_tf : tf allR 0 = 40320 := by decide +kernel
theorem pm_all : Hc (fun _ : Pm => True) 40320 := by
  have h := tf_is all_ok (Nat.zero_le 8)
  rw [all_tf] at h
  exact h.congr (fun a => ⟨fun _ => trivial, fun _ => Lv_all all_ok (fun i p h1 h2 => all_bit.mpr ⟨h1, h2⟩) 8 0 (by omega) a (fun j hj => by omega)⟩)
theorem pm_some (P : Pm → Prop) : ∃ j, j ≤ 40320 ∧ Hc P j := pm_all.filt (fun _ _ => trivial)
theorem Ind.pow : ∀ (n : Nat) {mq : List Pm} {k : Nat}, mq.length = n → Ind mq → Hc (GL mq) k → 2 ^ mq.length ≤ k
  | 0, mq, k, hn, h, hk => by
    rw [hn]
    exact (Hc.single (P := fun a : Pm => a = .one) .one (fun _ => Iff.rfl)).le hk (fun a e => e ▸ (GL.grp mq).1)
  | n + 1, mq, k, hn, h, hk => by
    obtain ⟨j, -, hj⟩ := pm_some (GL (mq.take n))
    have hl : (mq.take n).length = n := by rw [List.length_take]; omega
    have ih := Ind.pow n hl (h.take n) hj
    obtain ⟨x, hx⟩ : ∃ x, mq[n]? = some x := ⟨mq[n]'(by omega), List.getElem?_eq_getElem (by omega)⟩
    have h1 := h n x hx
    have h2 := (GL.grp (mq.take n)).double (GL.grp mq) (fun a ha => GL_mono (fun y hy => List.mem_of_mem_take hy) ha) (GL.of (List.mem_of_getElem? hx)) h1 hj hk
    rw [hn, Nat.pow_succ]
    rw [hl] at ih
    omega
theorem Ind.len {mq : List Pm} (h : Ind mq) : mq.length ≤ 15 := by
  obtain ⟨k, hk, hc⟩ := pm_some (GL mq)
  have h1 := Ind.pow mq.length rfl h hc
  apply Classical.byContradiction
  intro hn
  have h2 : 2 ^ 16 ≤ 2 ^ mq.length := Nat.pow_le_pow_right (by decide) (by omega)
  omega
/-- a tower of the group of a list of makers -/
def TG (mq : List Pm) (t : TW) : Prop := ∃ R C fl, Tow R C fl t.1 t.2.1 t.2.2.1 t.2.2.2.1 t.2.2.2.2.1 ∧ Cl R C ∧ (∀ a, GL mq a ↔ Lv R C 0 a) ∧ Ind mq ∧ (∀ k x, mq[k]? = some x → t.2.2.2.2.2.1 k = cdp x) ∧ t.2.2.2.2.2.2 = nI mq.length
theorem TG.ind {mq : List Pm} {t : TW} (h : TG mq t) : Ind mq := h.choose_spec.choose_spec.choose_spec.2.2.2.1
theorem TG.len {mq : List Pm} {t : TW} (h : TG mq t) : mq.length ≤ 15 := h.ind.len
theorem TG.mc {mq : List Pm} {t : TW} (h : TG mq t) : t.2.2.2.2.2.2 = nI mq.length := h.choose_spec.choose_spec.choose_spec.2.2.2.2.2
theorem TG.maker {mq : List Pm} {t : TW} (h : TG mq t) {k : Nat} {x : Pm} (hx : mq[k]? = some x) : t.2.2.2.2.2.1 k = cdp x := h.choose_spec.choose_spec.choose_spec.2.2.2.2.1 k x hx
theorem join_is {mq : List Pm} {t : TW} (h : TG mq t) {F : Nat} (hF : 50000 ≤ F) (a : Pm) : ∃ (z : Int32) (t2 : TW), mX4_join F t.1 t.2.1 t.2.2.1 t.2.2.2.1 t.2.2.2.2.1 t.2.2.2.2.2.1 t.2.2.2.2.2.2 (cdp a) = some (z, t2) ∧ TG (jn mq a) t2 ∧ ((GL mq a ∧ z = 0) ∨ (¬ GL mq a ∧ z = 1)) := by
  have hlen := h.len
  obtain ⟨R, C, fl, T, hc, hG, hI, hm, hn⟩ := h
  obtain ⟨cells, back, reach, filled, fc, makers, mc⟩ := t
  dsimp only at T hm hn ⊢
  obtain ⟨R2, C2, fl2, c2, b2, r2, f2, n2, e2, T2, G2, L2, h2⟩ := settle_is T hF a
  unfold mX4_join
  rw [bd5_e e2]
  have hl := T.len
  have hl2 := T2.len
  rcases h2 with ⟨hL, rfl, rfl, rfl, rfl, rfl, rfl, rfl, rfl⟩ | ⟨hL, hlen2⟩
  · have hg := (hG a).mpr hL
    refine ⟨0, (_, _, _, _, _, makers, mc), by rw [if_pos rfl], ?_, Or.inl ⟨hg, rfl⟩⟩
    rw [jn_in hg]
    exact ⟨_, _, _, T, hc, hG, hI, hm, hn⟩
  · have hg : ¬ GL mq a := fun hg => hL ((hG a).mp hg)
    obtain ⟨R3, C3, fl3, c3, b3, r3, f3, n3, e3, T3, G3, L3⟩ := spread_out hF (28 - fl.length) fl.length F R2 C2 fl2 c2 b2 r2 f2 n2 T2 (by omega) (by omega) (fun k m hmk hk hk2 => by
      refine Pr.up T G2 hk (by omega) (fun x y hx hy => ?_)
      have mx := T.mem (i := x.1) (p := x.2) (List.mem_of_getElem? hx)
      have my := T.mem (i := y.1) (p := y.2) (List.mem_of_getElem? hy)
      exact ⟨fun h => Lv_mono T.1 (Nat.zero_le _) (by omega) (hc x.1 x.2 y.1 y.2 h (by omega) mx.2.2 my.2.2), fun h => Lv_mono T.1 (Nat.zero_le _) (by omega) (hc y.1 y.2 x.1 x.2 h (by omega) my.2.2 mx.2.2)⟩)
    have G13 := G2.trans G3
    refine ⟨1, (c3, b3, r3, f3, n3, upd makers mq.length (cdp a), nI (mq.length + 1)), ?_, ?_, Or.inr ⟨hg, rfl⟩⟩
    · rw [if_neg (fun e => by
        rw [T.2.2.2.1, T2.2.2.2.1, nI_eq (by omega) (by omega)] at e
        omega), hn, if_neg (show ¬ (16 : Int32) ≤ _ from nI_ge (b := 16) (by omega) (by omega)), gd_t (inb_n (by omega) (by omega)), cl_n (by omega)]
      simp only [lT]
      rw [nI_1]
      show bd5 (mX4_spreadFrom F c2 b2 r2 f2 n2 fc) _ = _
      unfold mX4_spreadFrom
      rw [T.2.2.2.1, bd5_e e3]
      rfl
    · rw [jn_out hg]
      refine ⟨R3, C3, fl3, T3, L3, fun x => ?_, hI.snoc hg, fun k x hx => ?_, by rw [List.length_append]; rfl⟩
      · constructor
        · refine Gen.least (Lv_grp T3.1 L3 (Nat.zero_le 8)) (fun y hy => ?_)
          rw [List.mem_append, List.mem_singleton] at hy
          rcases hy with hy | hy
          · exact G13.1.Lv (Nat.zero_le 8) ((hG y).mp (GL.of hy))
          · rw [hy]; exact G3.1.Lv (Nat.zero_le 8) L2
        · have hcells := G13.2.2 (GL (mq ++ [a])) (GL.grp _) (fun i p hi hp => GL_pre [a] ((hG _).mpr (Lv_mono T.1 (Nat.zero_le i) (by omega) (Lv_cell T.1 hi hp)))) (fun y hy => by
            rcases hy with hy | hy
            · rw [hy]; exact GL.of (List.mem_append.mpr (Or.inr (List.mem_singleton.mpr rfl)))
            · exact hy.elim)
          have key : ∀ (d i : Nat), i + d = 8 → ∀ y, Lv R3 C3 i y → GL (mq ++ [a]) y := by
            intro d
            induction d with
            | zero =>
              intro i hi y hy
              have : i = 8 := by omega
              subst this
              rw [Lv_8.mp hy]
              exact (GL.grp _).1
            | succ d ih =>
              intro i hi y hy
              obtain ⟨p, b, hp, hb, rfl⟩ := (Lv_s (by omega)).mp hy
              exact (GL.grp _).2.1 _ _ (ih (i + 1) (by omega) b hb) (hcells i p (by omega) hp)
          exact key 8 0 (by omega) x
      · by_cases hk : k < mq.length
        · rw [List.getElem?_append_left hk] at hx
          show upd makers mq.length (cdp a) k = cdp x
          rw [pk_un (by omega)]
          exact hm k x hx
        · rw [List.getElem?_append_right (by omega)] at hx
          have hk2 : k = mq.length := by
            apply Classical.byContradiction
            intro hc
            obtain ⟨m, hm⟩ : ∃ m, k - mq.length = m + 1 := ⟨k - mq.length - 1, by omega⟩
            rw [hm] at hx
            simp at hx
          subst hk2
          rw [Nat.sub_self] at hx
          have : x = a := by simpa using hx.symm
          subst this
          show upd makers mq.length (cdp x) mq.length = cdp x
          rw [pk_us]
/-- the tower that has one alone -/
theorem clear_L : ∀ (d i f : Nat) (reach : Nat → Int32), i + d = 8 → d < f → (∀ k, k < i → reach k = nI (2 ^ k)) → ∃ r2, mX4_clear_L2 f (nI i) reach = some r2 ∧ ∀ k, k < 8 → r2 k = nI (2 ^ k)
  | 0, i, f, reach, hi, hf, hr => by
    obtain ⟨f, rfl⟩ : ∃ g, f = g + 1 := ⟨f - 1, by omega⟩
    have : i = 8 := by omega
    subst this
    exact ⟨reach, by rw [mX4_clear_L2_s, if_pos ge8], hr⟩
  | d + 1, i, f, reach, hi, hf, hr => by
    obtain ⟨f, rfl⟩ : ∃ g, f = g + 1 := ⟨f - 1, by omega⟩
    obtain ⟨r2, e, h⟩ := clear_L d (i + 1) f (upd reach i (nI (2 ^ i))) (by omega) (by omega) (fun k hk => by
      by_cases e : k = i
      · subst e; rw [pk_us]
      · rw [pk_un e]; exact hr k (by omega))
    refine ⟨r2, ?_, h⟩
    rw [mX4_clear_L2_s, if_neg (le8 (by omega)), gd_t (inb_n (by omega) (by omega)), cl_n (by omega), one_shl (by omega), nI_1]
    exact e
theorem clear_is {F : Nat} (hF : 50000 ≤ F) (cells back reach filled : Nat → Int32) (fc : Int32) (makers : Nat → Int32) (mc : Int32) : ∃ r2, mX4_clear F reach fc mc = some (r2, 0, 0) ∧ TG [] (cells, back, r2, filled, 0, makers, 0) := by
  obtain ⟨r2, e, h⟩ := clear_L 8 0 F reach (by omega) (by omega) (fun k hk => by omega)
  have hb : ∀ i p, (2 ^ i).testBit p = true ↔ p = i := by
    intro i p
    rw [Nat.testBit_two_pow, decide_eq_true_iff]
    exact eq_comm
  have T : TwOk (fun i => 2 ^ i) (fun _ _ => .one) := fun i hi => by
    have h1 : 2 ^ i < 2 ^ 8 := Nat.pow_lt_pow_right (by decide) hi
    refine ⟨h1, (hb i i).mpr rfl, fun p hp => ?_, rfl, fun p hp => ⟨fun j hj => rfl, ?_⟩⟩
    · have := (hb i p).mp hp; omega
    · exact ((hb i p).mp hp).symm
  have hc : Cl (fun i => 2 ^ i) (fun _ _ => .one) := fun i p j r hij hj hp hr => by rw [Pm.th_one]; exact Lv_one T (by omega)
  refine ⟨r2, ?_, fun i => 2 ^ i, fun _ _ => .one, [], ⟨T, h, fun i p hi hp hn => absurd ((hb i p).mp hp) hn, rfl, fun k x hx => by simp at hx, fun i p => ?_, List.Pairwise.nil⟩, hc, fun a => ?_, Ind_nil, fun k x hx => by simp at hx, rfl⟩
  · unfold mX4_clear
    rw [bd_e (show mX4_clear_L2 F 0 reach = _ from e)]
  · constructor
    · exact fun h => absurd h List.not_mem_nil
    · rintro ⟨-, h1, h2⟩
      exact absurd ((hb i p).mp h1) h2
  · rw [GL_nil]
    constructor
    · rintro rfl; exact Lv_one T (Nat.zero_le 8)
    · have key : ∀ (d i : Nat), i + d = 8 → ∀ y, Lv (fun i => 2 ^ i) (fun _ _ => .one) i y → y = .one := by
        intro d
        induction d with
        | zero =>
          intro i hi y hy
          have : i = 8 := by omega
          subst this
          exact Lv_8.mp hy
        | succ d ih =>
          intro i hi y hy
          obtain ⟨p, b, hp, hb, rfl⟩ := (Lv_s (by omega)).mp hy
          rw [ih (i + 1) (by omega) b hb]; rfl
      exact key 8 0 (by omega) a
