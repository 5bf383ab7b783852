theorem tg_one {a q : Nat} {e : va_E} (h : tg_in [(a, e)] q) : q = a := by
  have := tg_in_mem.mp h
  simpa using this
theorem wG_one {ta : Nat → Nat → Nat} {ga : Nat → Nat} {a : Nat} (h : ∀ q, q ∈ adG ta ga → q ≠ a) {e : va_E} : ∀ q, q ∈ adG ta ga → ¬ tg_in [(a, e)] q := fun q hq z => h q hq (tg_one z)
theorem wG_new1 {A : Nat → Prop} {ta : Nat → Nat → Nat} {cI cT : ClassId} {ga : Nat → Nat} {shelf : Nat → Int32} {np ng cur : Int32} {tw : Nat → TW} {a : Nat} {e : va_E} (h : va_D A (wG ta cI cT ga shelf np ng cur tw ++ [(a, e)])) : ∀ q, q ∈ adG ta ga → q ≠ a := fun q hq z => wG_new h q hq (by subst z; exact ⟨0, e, rfl⟩)
