/-! ===== the class's whole world: the object, its shelf, its two rows of towers, twelve towers ===== -/
abbrev TW : Type := (Nat → Int32) × (Nat → Int32) × (Nat → Int32) × (Nat → Int32) × Int32 × (Nat → Int32) × Int32
abbrev wTt (cI : ClassId) (ad : Nat → Nat) (t : TW) : va_W := wT cI ad t.1 t.2.1 t.2.2.1 t.2.2.2.1 t.2.2.2.2.1 t.2.2.2.2.2.1 t.2.2.2.2.2.2
def wTL (cI : ClassId) (ta : Nat → Nat → Nat) (tw : Nat → TW) : Nat → va_W
  | 0 => []
  | k + 1 => wTL cI ta tw k ++ wTt cI (ta k) (tw k)
abbrev wG (ta : Nat → Nat → Nat) (cI cT : ClassId) (ga : Nat → Nat) (shelf : Nat → Int32) (np ng cur : Int32) (tw : Nat → TW) : va_W :=
  (ga 0, .inr (5, [.ref (ga 1), .ref (ga 2), .ref (ga 3), .int np, .int ng, .int cur])) :: (ga 1, .inl (cI, 8, .inl shelf)) :: (ga 2, .inl (cT, 10, .inr (.inr (.inr (.inr (fun i => some (ta i 0))))))) :: (ga 3, .inl (cT, 2, .inr (.inr (.inr (.inr (fun i => some (ta (10 + i) 0))))))) :: wTL cI ta tw 12
/-- the addresses of the towers below k, and of the whole -/
def adT (ta : Nat → Nat → Nat) : Nat → List Nat
  | 0 => []
  | k + 1 => adT ta k ++ [ta k 0, ta k 1, ta k 2, ta k 3, ta k 4, ta k 5]
def adG (ta : Nat → Nat → Nat) (ga : Nat → Nat) : List Nat := ga 0 :: ga 1 :: ga 2 :: ga 3 :: adT ta 12
theorem wTL_ad (cI : ClassId) (ta : Nat → Nat → Nat) (tw : Nat → TW) : ∀ k, (wTL cI ta tw k).map Prod.fst = adT ta k
  | 0 => rfl
  | k + 1 => by
    show ((wTL cI ta tw k) ++ wTt cI (ta k) (tw k)).map Prod.fst = adT ta k ++ _
    rw [List.map_append, wTL_ad cI ta tw k]
    rfl
theorem wG_ad {ta : Nat → Nat → Nat} {cI cT : ClassId} {ga : Nat → Nat} {shelf : Nat → Int32} {np ng cur : Int32} {tw : Nat → TW} : (wG ta cI cT ga shelf np ng cur tw).map Prod.fst = adG ta ga := by
  show ga 0 :: ga 1 :: ga 2 :: ga 3 :: (wTL cI ta tw 12).map Prod.fst = _
  rw [wTL_ad]
  rfl
def upT (tw : Nat → TW) (k : Nat) (t : TW) : Nat → TW := fun j => if j = k then t else tw j
theorem upT_same {tw : Nat → TW} {k : Nat} {t : TW} : upT tw k t k = t := by simp [upT]
theorem upT_ne {tw : Nat → TW} {k j : Nat} {t : TW} (h : j ≠ k) : upT tw k t j = tw j := by simp [upT, h]
/-- a world as its members -/
theorem va_P_mem {D : va_G} {ws : va_W} {H : Heap} : va_P D vwCl ws H ↔ ∀ q ∈ ws, va_at D vwCl q H := by
  constructor
  · intro h q hq
    obtain ⟨k, hk⟩ := List.getElem?_of_mem hq
    exact h k q hk
  · intro h k q hk
    exact h q (List.mem_of_getElem? hk)
theorem wTL_mem {cI : ClassId} {ta : Nat → Nat → Nat} {tw : Nat → TW} {q : Nat × va_E} : ∀ {n : Nat}, q ∈ wTL cI ta tw n ↔ ∃ k, k < n ∧ q ∈ wTt cI (ta k) (tw k)
  | 0 => by
    constructor
    · intro h; exact absurd h List.not_mem_nil
    · rintro ⟨k, hk, -⟩; omega
  | n + 1 => by
    show q ∈ wTL cI ta tw n ++ wTt cI (ta n) (tw n) ↔ _
    rw [List.mem_append, wTL_mem (n := n)]
    constructor
    · rintro (⟨k, hk, h⟩ | h)
      · exact ⟨k, by omega, h⟩
      · exact ⟨n, by omega, h⟩
    · rintro ⟨k, hk, h⟩
      rcases Nat.lt_or_ge k n with c | c
      · exact Or.inl ⟨k, c, h⟩
      · have : k = n := by omega
        subst this
        exact Or.inr h
theorem adT_mem {ta : Nat → Nat → Nat} {a : Nat} : ∀ {n : Nat}, a ∈ adT ta n ↔ ∃ k, k < n ∧ a ∈ [ta k 0, ta k 1, ta k 2, ta k 3, ta k 4, ta k 5]
  | 0 => by
    constructor
    · intro h; exact absurd h List.not_mem_nil
    · rintro ⟨k, hk, -⟩; omega
  | n + 1 => by
    show a ∈ adT ta n ++ [ta n 0, ta n 1, ta n 2, ta n 3, ta n 4, ta n 5] ↔ _
    rw [List.mem_append, adT_mem (n := n)]
    constructor
    · rintro (⟨k, hk, h⟩ | h)
      · exact ⟨k, by omega, h⟩
      · exact ⟨n, by omega, h⟩
    · rintro ⟨k, hk, h⟩
      rcases Nat.lt_or_ge k n with c | c
      · exact Or.inl ⟨k, c, h⟩
      · have : k = n := by omega
        subst this
        exact Or.inr h
/-- a tower of the whole -/
theorem wG_T {D : va_G} {ta : Nat → Nat → Nat} {cI cT : ClassId} {ga : Nat → Nat} {shelf : Nat → Int32} {np ng cur : Int32} {tw : Nat → TW} {H : Heap} (h : va_P D vwCl (wG ta cI cT ga shelf np ng cur tw) H) {k : Nat} (hk : k < 12) : va_P D vwCl (wTt cI (ta k) (tw k)) H := by
  rw [va_P_mem] at h ⊢
  intro q hq
  exact h q (List.mem_cons_of_mem _ (List.mem_cons_of_mem _ (List.mem_cons_of_mem _ (List.mem_cons_of_mem _ (wTL_mem.mpr ⟨k, hk, hq⟩)))))
theorem tg_in_mem {ws : va_W} {q : Nat} : tg_in ws q ↔ q ∈ ws.map Prod.fst := by
  constructor
  · rintro ⟨k, e, hk⟩
    exact List.mem_map.mpr ⟨(q, e), List.mem_of_getElem? hk, rfl⟩
  · intro h
    obtain ⟨x, hx, he⟩ := List.mem_map.mp h
    obtain ⟨k, hk⟩ := List.getElem?_of_mem hx
    exact ⟨k, x.2, by rw [hk, ← he]⟩
theorem tg_in_T {cI : ClassId} {ta : Nat → Nat → Nat} {k : Nat} {t : TW} {q : Nat} : tg_in (wTt cI (ta k) t) q ↔ q ∈ [ta k 0, ta k 1, ta k 2, ta k 3, ta k 4, ta k 5] := tg_in_mem
/-- apart, by the list of the addresses -/
theorem nodup_of_D {A : Nat → Prop} {ws : va_W} (h : va_D A ws) : (ws.map Prod.fst).Nodup := by
  rw [List.nodup_iff_pairwise_ne, List.pairwise_iff_getElem]
  intro i j hi hj hij e
  have hl : (ws.map Prod.fst).length = ws.length := List.length_map ..
  have hj' : j < ws.length := by omega
  have hi' : i < ws.length := by omega
  rw [List.getElem_map, List.getElem_map] at e
  have := h.1 i j ws[i] ws[j] (List.getElem?_eq_getElem hi') (List.getElem?_eq_getElem hj') e
  omega
theorem D_of_nodup {A : Nat → Prop} {ws : va_W} (h : (ws.map Prod.fst).Nodup) (hA : ∀ q ∈ ws.map Prod.fst, A q) : va_D A ws := by
  rw [List.nodup_iff_pairwise_ne, List.pairwise_iff_getElem] at h
  have hl : (ws.map Prod.fst).length = ws.length := List.length_map ..
  have key : ∀ (i j : Nat) (p q : Nat × va_E), ws[i]? = some p → ws[j]? = some q → p.1 = q.1 → ¬ i < j := by
    intro i j p q hi hj hpq hij
    obtain ⟨hi1, hi2⟩ := List.getElem?_eq_some_iff.mp hi
    obtain ⟨hj1, hj2⟩ := List.getElem?_eq_some_iff.mp hj
    have := h i j (by omega) (by omega) hij
    rw [List.getElem_map, List.getElem_map, hi2, hj2] at this
    exact this hpq
  refine ⟨fun i j p q hi hj hpq => ?_, fun k q hk => hA q.1 (List.mem_map.mpr ⟨q, List.mem_of_getElem? hk, rfl⟩)⟩
  have h1 := key i j p q hi hj hpq
  have h2 := key j i q p hj hi hpq.symm
  omega
theorem tg_DD.nd {A : Nat → Prop} {L : List Nat} (h : tg_DD A L) : L.Nodup ∧ ∀ a ∈ L, A a := by
  have e : (L.map (fun a => ((a, .inr (0, [])) : Nat × va_E))).map Prod.fst = L := by
    rw [List.map_map]
    exact List.map_id' L
  have hD := h _ e
  refine ⟨?_, fun a ha => ?_⟩
  · have := nodup_of_D hD
    rwa [e] at this
  · obtain ⟨k, hk⟩ := List.getElem?_of_mem ha
    exact hD.2 k (a, .inr (0, [])) (by rw [List.getElem?_map, hk]; rfl)
theorem tg_DD.mk {A : Nat → Prop} {L : List Nat} (h : L.Nodup) (hA : ∀ a ∈ L, A a) : tg_DD A L := fun ws he => D_of_nodup (by rw [he]; exact h) (by rw [he]; exact hA)
abbrev six (ta : Nat → Nat → Nat) (k : Nat) : List Nat := [ta k 0, ta k 1, ta k 2, ta k 3, ta k 4, ta k 5]
theorem adT_apart {ta : Nat → Nat → Nat} : ∀ {n : Nat}, (adT ta n).Nodup → (∀ k, k < n → (six ta k).Nodup) ∧ ∀ i j, i < n → j < n → i ≠ j → ∀ a, a ∈ six ta i → a ∉ six ta j
  | 0, _ => ⟨fun k hk => by omega, fun i j hi => by omega⟩
  | n + 1, h => by
    have h' : (adT ta n ++ six ta n).Nodup := h
    rw [List.nodup_append] at h'
    obtain ⟨h1, h2, h3⟩ := h'
    obtain ⟨g1, g2⟩ := adT_apart h1
    refine ⟨fun k hk => ?_, fun i j hi hj hij a ha hb => ?_⟩
    · rcases Nat.lt_or_ge k n with c | c
      · exact g1 k c
      · have : k = n := by omega
        subst this
        exact h2
    · rcases Nat.lt_or_ge i n with c | c
      · rcases Nat.lt_or_ge j n with d | d
        · exact g2 i j c d hij a ha hb
        · have : j = n := by omega
          subst this
          exact h3 a (adT_mem.mpr ⟨i, c, ha⟩) a hb rfl
      · have : i = n := by omega
        subst this
        exact h3 a (adT_mem.mpr ⟨j, by omega, hb⟩) a ha rfl
theorem adG_nd {ta : Nat → Nat → Nat} {ga : Nat → Nat} (h : (adG ta ga).Nodup) : (adT ta 12).Nodup ∧ ∀ i, i < 4 → ga i ∉ adT ta 12 := by
  unfold adG at h
  simp only [List.nodup_cons, List.mem_cons, not_or] at h
  obtain ⟨⟨-, -, -, a0⟩, ⟨-, -, a1⟩, ⟨-, a2⟩, a3, hn⟩ := h
  refine ⟨hn, fun i hi => ?_⟩
  match i, hi with
  | 0, _ => exact a0
  | 1, _ => exact a1
  | 2, _ => exact a2
  | 3, _ => exact a3
theorem adT_inG {ta : Nat → Nat → Nat} {ga : Nat → Nat} {a : Nat} (h : a ∈ adT ta 12) : a ∈ adG ta ga := List.mem_cons_of_mem _ (List.mem_cons_of_mem _ (List.mem_cons_of_mem _ (List.mem_cons_of_mem _ h)))
/-- one tower of the whole is apart, and lies in A -/
theorem wG_DT {A : Nat → Prop} {ta : Nat → Nat → Nat} {ga : Nat → Nat} (h : tg_DD A (adG ta ga)) {k : Nat} (hk : k < 12) {cI : ClassId} {t : TW} : va_D A (wTt cI (ta k) t) := by
  obtain ⟨h1, h2⟩ := h.nd
  exact D_of_nodup ((adT_apart (adG_nd h1).1).1 k hk) (fun q hq => h2 q (adT_inG (adT_mem.mpr ⟨k, hk, hq⟩)))
theorem wG_apart {A : Nat → Prop} {ta : Nat → Nat → Nat} {ga : Nat → Nat} (h : tg_DD A (adG ta ga)) {k j : Nat} (hk : k < 12) (hj : j < 12) (hkj : k ≠ j) {cI cJ : ClassId} {t u : TW} : ∀ q, tg_in (wTt cI (ta j) u) q → ¬ tg_in (wTt cJ (ta k) t) q := by
  intro q h1 h2
  exact (adT_apart (adG_nd h.nd.1).1).2 k j hk hj hkj q (tg_in_T.mp h2) (tg_in_T.mp h1)
/-- behind a call that wrote one tower alone -/
theorem wG_put {D : va_G} {A : Nat → Prop} {ta : Nat → Nat → Nat} {cI cT : ClassId} {ga : Nat → Nat} {shelf : Nat → Int32} {np ng cur : Int32} {tw : Nat → TW} {H H1 : Heap} (h : va_P D vwCl (wG ta cI cT ga shelf np ng cur tw) H) (hDD : tg_DD A (adG ta ga)) {k : Nat} (hk : k < 12) {t0 t : TW} (hf : ∀ q : Nat, q < H.size → ¬ tg_in (wTt cI (ta k) t0) q → H1[q]? = H[q]?) (ht : va_P D vwCl (wTt cI (ta k) t) H1) : va_P D vwCl (wG ta cI cT ga shelf np ng cur (upT tw k t)) H1 := by
  obtain ⟨n1, n2⟩ := adG_nd hDD.nd.1
  have ap := (adT_apart n1).2
  have main : ∀ i, i < 4 → ¬ tg_in (wTt cI (ta k) t0) (ga i) := fun i hi z => n2 i hi (adT_mem.mpr ⟨k, hk, tg_in_T.mp z⟩)
  have keep : ∀ q ∈ wG ta cI cT ga shelf np ng cur tw, ¬ tg_in (wTt cI (ta k) t0) q.1 → va_at D vwCl q H1 := fun q hq hn => by
    have h1 := va_P_mem.mp h q hq
    exact h1.kept (hf q.1 h1.lt hn)
  rw [va_P_mem]
  intro q hq
  rcases List.mem_cons.mp hq with e | hq
  · subst e; exact keep _ List.mem_cons_self (main 0 (by omega))
  rcases List.mem_cons.mp hq with e | hq
  · subst e; exact keep _ (List.mem_cons_of_mem _ List.mem_cons_self) (main 1 (by omega))
  rcases List.mem_cons.mp hq with e | hq
  · subst e; exact keep _ (List.mem_cons_of_mem _ (List.mem_cons_of_mem _ List.mem_cons_self)) (main 2 (by omega))
  rcases List.mem_cons.mp hq with e | hq
  · subst e; exact keep _ (List.mem_cons_of_mem _ (List.mem_cons_of_mem _ (List.mem_cons_of_mem _ List.mem_cons_self))) (main 3 (by omega))
  obtain ⟨j, hj, hm⟩ := wTL_mem.mp hq
  by_cases c : j = k
  · subst c
    rw [upT_same] at hm
    exact va_P_mem.mp ht q hm
  · rw [upT_ne c] at hm
    refine keep q (List.mem_cons_of_mem _ (List.mem_cons_of_mem _ (List.mem_cons_of_mem _ (List.mem_cons_of_mem _ (wTL_mem.mpr ⟨j, hj, hm⟩))))) (fun z => ?_)
    have hq1 : q.1 ∈ six ta j := List.mem_map.mpr ⟨q, hm, rfl⟩
    exact ap j k hj hk c q.1 hq1 (tg_in_T.mp z)
