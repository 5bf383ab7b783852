theorem inb_lt {i : Int32} {n : Nat} (h : inb i n = true) : Int32.toNatClampNeg i < n := Nat.not_le.mp fun q => inb_in h (Or.inr q)
def neb (a b : Nat) : Bool := decide (a ≠ b)
theorem neb_el {a b : Nat} (h : neb a b = true) : a ≠ b := by
  unfold neb at h
  simpa using h
theorem neb_of {a b : Nat} (h : a ≠ b) : neb a b = true := by
  unfold neb
  simpa using h
/-- a row of eight ints alone -/
abbrev wA (cI : ClassId) (ad : Nat → Nat) (row : Nat → Int32) : va_W := [(ad 0, .inl (cI, 8, .inl row))]
/-- behind a call that wrote the shelf alone -/
theorem wG_shelf {D : va_G} {A : Nat → Prop} {ta : Nat → Nat → Nat} {cI cT : ClassId} {ga : Nat → Nat} {shelf sh : Nat → Int32} {np ng cur : Int32} {tw : Nat → TW} {H H1 : Heap} (h : va_P D vwCl (wG ta cI cT ga shelf np ng cur tw) H) (hDD : tg_DD A (adG ta ga)) (hf : ∀ q : Nat, q < H.size → ¬ tg_in (wA cI (fun _ => ga 1) shelf) q → H1[q]? = H[q]?) (ht : va_P D vwCl (wA cI (fun _ => ga 1) sh) H1) : va_P D vwCl (wG ta cI cT ga sh np ng cur tw) H1 := by
  have hn := hDD.nd.1
  have hn2 := adG_nd hn
  unfold adG at hn
  simp only [List.nodup_cons, List.mem_cons, not_or] at hn
  obtain ⟨⟨a01, a02, a03, -⟩, ⟨a12, a13, -⟩, -⟩ := hn
  have ne : ∀ a, a ≠ ga 1 → ¬ tg_in (wA cI (fun _ => ga 1) shelf) a := fun a ha z => by
    have := tg_in_mem.mp z
    simp only [List.map_cons, List.map_nil, List.mem_singleton] at this
    exact ha this
  have keep : ∀ q ∈ wG ta cI cT ga shelf np ng cur tw, q.1 ≠ ga 1 → va_at D vwCl q H1 := fun q hq hne => by
    have h1 := va_P_mem.mp h q hq
    exact h1.kept (hf q.1 h1.lt (ne q.1 hne))
  rw [va_P_mem]
  intro q hq
  rcases List.mem_cons.mp hq with e | hq
  · subst e; exact keep _ List.mem_cons_self a01
  rcases List.mem_cons.mp hq with e | hq
  · subst e; exact va_P_mem.mp ht _ List.mem_cons_self
  rcases List.mem_cons.mp hq with e | hq
  · subst e; exact keep _ (List.mem_cons_of_mem _ (List.mem_cons_of_mem _ List.mem_cons_self)) (fun z => a12 z.symm)
  rcases List.mem_cons.mp hq with e | hq
  · subst e; exact keep _ (List.mem_cons_of_mem _ (List.mem_cons_of_mem _ (List.mem_cons_of_mem _ List.mem_cons_self))) (fun z => a13 z.symm)
  · refine keep q (List.mem_cons_of_mem _ (List.mem_cons_of_mem _ (List.mem_cons_of_mem _ (List.mem_cons_of_mem _ hq)))) (fun z => ?_)
    obtain ⟨j, hj, hm⟩ := wTL_mem.mp hq
    have hq1 : q.1 ∈ six ta j := List.mem_map.mpr ⟨q, hm, rfl⟩
    exact hn2.2 1 (by omega) (adT_mem.mpr ⟨j, hj, z ▸ hq1⟩)
theorem wG_Dsh {A : Nat → Prop} {ta : Nat → Nat → Nat} {ga : Nat → Nat} (h : tg_DD A (adG ta ga)) {cI : ClassId} {row : Nat → Int32} : va_D A (wA cI (fun _ => ga 1) row) := by
  refine D_of_nodup ?_ ?_
  · simp
  · intro q hq
    simp only [List.map_cons, List.map_nil, List.mem_singleton] at hq
    rw [hq]
    exact h.nd.2 _ (List.mem_cons_of_mem _ List.mem_cons_self)
theorem tg_shP {D : va_G} {ta : Nat → Nat → Nat} {cI cT : ClassId} {ga : Nat → Nat} {shelf : Nat → Int32} {np ng cur : Int32} {tw : Nat → TW} {H : Heap} (h : va_P D vwCl (wG ta cI cT ga shelf np ng cur tw) H) : va_P D vwCl (wA cI (fun _ => ga 1) shelf) H := h.sub [1] rfl
