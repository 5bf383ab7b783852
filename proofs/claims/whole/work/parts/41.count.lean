/-! ===== how many there are ===== -/
def Hc {α : Type} (P : α → Prop) (k : Nat) : Prop := ∃ L : List α, L.Nodup ∧ (∀ x, x ∈ L ↔ P x) ∧ L.length = k
theorem nd_le {α : Type} : ∀ (L M : List α), L.Nodup → (∀ x, x ∈ L → x ∈ M) → L.length ≤ M.length
  | [], M, _, _ => Nat.zero_le _
  | x :: L, M, hn, hs => by
    obtain ⟨s, t, rfl⟩ := List.append_of_mem (hs x (List.mem_cons_self ..))
    obtain ⟨h1, h2⟩ := List.nodup_cons.mp hn
    have ih := nd_le L (s ++ t) h2 (fun y hy => by
      have h3 := hs y (List.mem_cons_of_mem x hy)
      rcases List.mem_append.mp h3 with h | h
      · exact List.mem_append.mpr (Or.inl h)
      · rcases List.mem_cons.mp h with h | h
        · exact absurd (h ▸ hy) h1
        · exact List.mem_append.mpr (Or.inr h))
    simp only [List.length_append, List.length_cons] at ih ⊢
    omega
theorem Hc.le {α : Type} {P Q : α → Prop} {j k : Nat} (hP : Hc P j) (hQ : Hc Q k) (h : ∀ x, P x → Q x) : j ≤ k := by
  obtain ⟨L, h1, h2, rfl⟩ := hP
  obtain ⟨M, h3, h4, rfl⟩ := hQ
  exact nd_le L M h1 (fun x hx => (h4 x).mpr (h x ((h2 x).mp hx)))
theorem Hc.uniq {α : Type} {P : α → Prop} {j k : Nat} (h1 : Hc P j) (h2 : Hc P k) : j = k := Nat.le_antisymm (h1.le h2 fun _ h => h) (h2.le h1 fun _ h => h)
theorem Hc.congr {α : Type} {P Q : α → Prop} {k : Nat} (h : ∀ x, P x ↔ Q x) (hP : Hc P k) : Hc Q k := by
  obtain ⟨L, h1, h2, h3⟩ := hP
  exact ⟨L, h1, fun x => (h2 x).trans (h x), h3⟩
theorem Hc.none {α : Type} {P : α → Prop} (h : ∀ x, ¬ P x) : Hc P 0 := ⟨[], List.Pairwise.nil, fun x => ⟨fun hx => absurd hx List.not_mem_nil, fun hx => absurd hx (h x)⟩, rfl⟩
theorem Hc.single {α : Type} {P : α → Prop} (a : α) (h : ∀ x, P x ↔ x = a) : Hc P 1 := ⟨[a], List.pairwise_singleton _ _, fun x => by rw [List.mem_singleton]; exact (h x).symm, rfl⟩
theorem Hc.or {α : Type} {P Q : α → Prop} {j k : Nat} (hP : Hc P j) (hQ : Hc Q k) (hd : ∀ x, P x → ¬ Q x) : Hc (fun x => P x ∨ Q x) (j + k) := by
  obtain ⟨L, h1, h2, rfl⟩ := hP
  obtain ⟨M, h3, h4, rfl⟩ := hQ
  refine ⟨L ++ M, List.pairwise_append.mpr ⟨h1, h3, fun a ha b hb e => ?_⟩, fun x => by rw [List.mem_append, h2, h4], List.length_append⟩
  subst e
  exact hd a ((h2 a).mp ha) ((h4 a).mp hb)
theorem Hc.map {α β : Type} {P : α → Prop} {k : Nat} (f : α → β) (hf : ∀ x y, P x → P y → f x = f y → x = y) (hP : Hc P k) : Hc (fun y => ∃ x, P x ∧ y = f x) k := by
  obtain ⟨L, h1, h2, rfl⟩ := hP
  refine ⟨L.map f, List.pairwise_map.mpr (List.Pairwise.imp_of_mem (fun {a b} ha hb hab e => hab (hf a b ((h2 a).mp ha) ((h2 b).mp hb) e)) h1), fun y => ?_, List.length_map ..⟩
  rw [List.mem_map]
  exact ⟨fun ⟨x, hx, e⟩ => ⟨x, (h2 x).mp hx, e.symm⟩, fun ⟨x, hx, e⟩ => ⟨x, (h2 x).mpr hx, e.symm⟩⟩
theorem Hc.bij {α β : Type} {P : α → Prop} {Q : β → Prop} {k : Nat} (f : α → β) (hf : ∀ x y, P x → P y → f x = f y → x = y) (hPQ : ∀ x, P x → Q (f x)) (hQP : ∀ y, Q y → ∃ x, P x ∧ y = f x) (hP : Hc P k) : Hc Q k :=
  (hP.map f hf).congr fun y => ⟨fun ⟨x, hx, e⟩ => e ▸ hPQ x hx, hQP y⟩
theorem Hc.filt {α : Type} {P Q : α → Prop} {k : Nat} (hQ : Hc Q k) (h : ∀ x, P x → Q x) : ∃ j, j ≤ k ∧ Hc P j := by
  obtain ⟨L, h1, h2, rfl⟩ := hQ
  have d : DecidablePred P := fun x => Classical.propDecidable (P x)
  refine ⟨(L.filter (fun x => decide (P x))).length, List.length_filter_le .., L.filter (fun x => decide (P x)), List.Pairwise.filter _ h1, fun x => ?_, rfl⟩
  rw [List.mem_filter, h2, decide_eq_true_iff]
  exact ⟨fun h => h.2, fun hx => ⟨h x hx, hx⟩⟩
/-- as many of a part as of all: the part is all -/
theorem Hc.full {α : Type} {P Q : α → Prop} {k : Nat} (hP : Hc P k) (hQ : Hc Q k) (h : ∀ x, P x → Q x) {x : α} (hx : Q x) : P x := by
  apply Classical.byContradiction
  intro hc
  have h1 := (hP.or (Hc.single (P := fun y => y = x) x (fun _ => Iff.rfl)) (fun y hy e => hc (e ▸ hy))).le hQ (fun y hy => by
    rcases hy with hy | hy
    · exact h y hy
    · exact hy ▸ hx)
  omega
/-- sums over a list -/
def smL {β : Type} (k : β → Nat) : List β → Nat
  | [] => 0
  | b :: I => k b + smL k I
theorem smL_const {β : Type} (c : Nat) : ∀ I : List β, smL (fun _ => c) I = I.length * c
  | [] => by rw [List.length_nil, Nat.zero_mul]; rfl
  | b :: I => by show c + smL _ I = _; rw [smL_const c I, List.length_cons, Nat.succ_mul, Nat.add_comm]
theorem smL_congr {β : Type} {j k : β → Nat} : ∀ {I : List β}, (∀ b, b ∈ I → j b = k b) → smL j I = smL k I
  | [], _ => rfl
  | b :: I, h => by show j b + smL j I = k b + smL k I; rw [h b (List.mem_cons_self ..), smL_congr (I := I) fun c hc => h c (List.mem_cons_of_mem b hc)]
theorem smL_app {β : Type} (k : β → Nat) : ∀ I J : List β, smL k (I ++ J) = smL k I + smL k J
  | [], J => by show smL k J = 0 + smL k J; omega
  | b :: I, J => by show k b + smL k (I ++ J) = k b + smL k I + smL k J; rw [smL_app k I J]; omega
theorem Hc.many {α β : Type} {P : β → α → Prop} {k : β → Nat} : ∀ {I : List β}, I.Nodup → (∀ b, b ∈ I → Hc (P b) (k b)) → (∀ b c, b ∈ I → c ∈ I → ∀ x, P b x → P c x → b = c) → Hc (fun x => ∃ b, b ∈ I ∧ P b x) (smL k I)
  | [], _, _, _ => Hc.none fun x ⟨b, hb, _⟩ => absurd hb List.not_mem_nil
  | b :: I, hn, h, hd => by
    obtain ⟨h1, h2⟩ := List.nodup_cons.mp hn
    have ih := Hc.many (P := P) (k := k) h2 (fun c hc => h c (List.mem_cons_of_mem b hc)) (fun c d hc hd' x hx hy => hd c d (List.mem_cons_of_mem b hc) (List.mem_cons_of_mem b hd') x hx hy)
    refine ((h b (List.mem_cons_self ..)).or ih (fun x hx ⟨c, hc, hy⟩ => ?_)).congr (fun x => ?_)
    · have := hd b c (List.mem_cons_self ..) (List.mem_cons_of_mem b hc) x hx hy
      exact h1 (this ▸ hc)
    · constructor
      · rintro (hx | ⟨c, hc, hx⟩)
        · exact ⟨b, List.mem_cons_self .., hx⟩
        · exact ⟨c, List.mem_cons_of_mem b hc, hx⟩
      · rintro ⟨c, hc, hx⟩
        rcases List.mem_cons.mp hc with rfl | hc
        · exact Or.inl hx
        · exact Or.inr ⟨c, hc, hx⟩
/-! how many numbers below n -/
def ct (p : Nat → Bool) : Nat → Nat
  | 0 => 0
  | n + 1 => ct p n + (if p n then 1 else 0)
theorem ct_s (p : Nat → Bool) (n : Nat) : ct p (n + 1) = ct p n + (if p n then 1 else 0) := rfl
theorem ct_le (p : Nat → Bool) : ∀ n, ct p n ≤ n
  | 0 => Nat.le_refl 0
  | n + 1 => by have := ct_le p n; rw [ct_s]; split <;> omega
theorem ct_congr {p q : Nat → Bool} : ∀ {n : Nat}, (∀ k, k < n → p k = q k) → ct p n = ct q n
  | 0, _ => rfl
  | n + 1, h => by rw [ct_s, ct_s, ct_congr (n := n) (fun k hk => h k (by omega)), h n (by omega)]
theorem ct_hc (p : Nat → Bool) : ∀ n, Hc (fun k => k < n ∧ p k = true) (ct p n)
  | 0 => Hc.none fun x h => by omega
  | n + 1 => by
    rw [ct_s]
    cases hp : p n with
    | true =>
      rw [if_pos rfl]
      refine ((ct_hc p n).or (Hc.single (P := fun y => y = n) n (fun _ => Iff.rfl)) (fun x hx e => by omega)).congr (fun x => ?_)
      constructor
      · rintro (⟨h1, h2⟩ | h)
        · exact ⟨by omega, h2⟩
        · exact ⟨by omega, h ▸ hp⟩
      · rintro ⟨h1, h2⟩
        by_cases hx : x = n
        · exact Or.inr hx
        · exact Or.inl ⟨by omega, h2⟩
    | false =>
      rw [if_neg (by decide)]
      refine (ct_hc p n).congr (fun x => ?_)
      constructor
      · rintro ⟨h1, h2⟩
        exact ⟨by omega, h2⟩
      · rintro ⟨h1, h2⟩
        by_cases hx : x = n
        · subst hx; rw [hp] at h2; cases h2
        · exact ⟨by omega, h2⟩
theorem ct_mono (p : Nat → Bool) {m n : Nat} (h : m ≤ n) : ct p m ≤ ct p n := (ct_hc p m).le (ct_hc p n) fun x hx => ⟨by omega, hx.2⟩
theorem ct_lt {p : Nat → Bool} {m n : Nat} (h : m < n) (hp : p m = true) : ct p m < ct p n := by
  have h1 : ct p (m + 1) = ct p m + 1 := by rw [ct_s, hp, if_pos rfl]
  have h2 := ct_mono p (show m + 1 ≤ n from h)
  omega
/-- two of one number of lower ones are one -/
theorem ct_inj {p : Nat → Bool} {i j : Nat} (hi : p i = true) (hj : p j = true) (e : ct p i = ct p j) : i = j := by
  rcases Nat.lt_trichotomy i j with h | h | h
  · have := ct_lt h hi; omega
  · exact h
  · have := ct_lt h hj; omega
/-- sums of numbers below n -/
def sm (f : Nat → Nat) : Nat → Nat
  | 0 => 0
  | n + 1 => sm f n + f n
theorem sm_s (f : Nat → Nat) (n : Nat) : sm f (n + 1) = sm f n + f n := rfl
theorem sm_congr {f g : Nat → Nat} : ∀ {n : Nat}, (∀ k, k < n → f k = g k) → sm f n = sm g n
  | 0, _ => rfl
  | n + 1, h => by rw [sm_s, sm_s, sm_congr (n := n) (fun k hk => h k (by omega)), h n (by omega)]
theorem sm_zero : ∀ n, sm (fun _ => 0) n = 0
  | 0 => rfl
  | n + 1 => by rw [sm_s, sm_zero n]
theorem sm_add (f g : Nat → Nat) : ∀ n, sm (fun k => f k + g k) n = sm f n + sm g n
  | 0 => rfl
  | n + 1 => by rw [sm_s, sm_s, sm_s, sm_add f g n]; omega
theorem sm_ite (p : Nat → Bool) (c : Nat) : ∀ n, sm (fun k => if p k then c else 0) n = ct p n * c
  | 0 => by rw [ct, Nat.zero_mul]; rfl
  | n + 1 => by rw [sm_s, sm_ite p c n, ct_s, Nat.add_mul]; split <;> simp
theorem Hc.sum {α : Type} {P : Nat → α → Prop} {f : Nat → Nat} : ∀ {n : Nat}, (∀ k, k < n → Hc (P k) (f k)) → (∀ j k, j < n → k < n → ∀ x, P j x → P k x → j = k) → Hc (fun x => ∃ k, k < n ∧ P k x) (sm f n)
  | 0, _, _ => Hc.none fun x ⟨k, hk, _⟩ => by omega
  | n + 1, h, hd => by
    have ih := Hc.sum (P := P) (f := f) (n := n) (fun k hk => h k (by omega)) (fun j k hj hk => hd j k (by omega) (by omega))
    refine (ih.or (h n (by omega)) (fun x ⟨k, hk, hx⟩ hy => ?_)).congr (fun x => ?_)
    · have := hd k n (by omega) (by omega) x hx hy
      omega
    · constructor
      · rintro (⟨k, hk, hx⟩ | hx)
        · exact ⟨k, by omega, hx⟩
        · exact ⟨n, by omega, hx⟩
      · rintro ⟨k, hk, hx⟩
        by_cases e : k = n
        · exact Or.inr (e ▸ hx)
        · exact Or.inl ⟨k, by omega, hx⟩
/-- a greater group is at least twice as great -/
theorem Grp.double {G H : Pm → Prop} {j k : Nat} (hG : Grp G) (hH : Grp H) (h : ∀ a, G a → H a) {x : Pm} (hx : H x) (hn : ¬ G x) (cG : Hc G j) (cH : Hc H k) : 2 * j ≤ k := by
  have h1 := cG.map (fun a => a.th x) (fun a b _ _ e => Pm.rc e)
  have h2 := (cG.or h1 (fun a ha ⟨b, hb, e⟩ => hn (by rw [e] at ha; exact (hG.lc hb).mp ha))).le cH (fun a ha => by
    rcases ha with ha | ⟨b, hb, e⟩
    · exact h a ha
    · rw [e]; exact hH.2.1 _ _ (h b hb) hx)
  omega
