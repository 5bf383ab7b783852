/-- a method's start, that may write the world ws and reads the world wo, which is apart from it -/
def tg_PMo (D : va_G) (tys : List (ClassId × FieldType)) (av : List Value) (ws wo : va_W) : Array Value → State → Prop := va_Pc av (fun U => va_P D vwCl ws U.heap ∧ va_P D vwCl wo U.heap ∧ va_K D vwCl tys U ∧ NW U ∧ va_D (fun _ => True) ws ∧ ∀ q, tg_in wo q → ¬ tg_in ws q)
theorem tg_PMo_blind {D : va_G} {tys : List (ClassId × FieldType)} {av : List Value} {ws wo : va_W} : FrameBlind (tg_PMo D tys av ws wo) := fun a U g mk q => by
  obtain ⟨q0, qP, qO, qK, qN, qD, qA⟩ := q
  exact ⟨q0, qP, qO, va_K.moved (u := U) (U := U.calling g mk a) (Vm.Alike.refl U.vm) qK, qN.calling, qD, qA⟩
section TGO
variable {p : Program} {l : Launch} {e : Env} {R : Room} {s : State} {m : MethodId} {args : Array Value} {below : List Frame} {meth : Method} {c : Code} {H : Heap} {locs : List Loc} {cells slots : Nat} {Q : State → Prop}
variable {D : va_G} {tys : List (ClassId × FieldType)}
theorem tg_preVMo {ws wo : va_W} {As : List Value} {b q0 ci : Nat} {r : vw_C} {fs : List Value} {B : Nat → Prop} (hP : va_P D vwCl ws H) (hD : va_D B ws) (hPo : va_P D vwCl wo H) (hoA : ∀ q, tg_in wo q → ¬ tg_in ws q) (hK : va_K D vwCl tys s) (hN : NW s) (hc : vwCl[ci]? = some r) (he : ws[q0]? = some (b, .inr (ci, fs))) : PreV s H r.1 b (tg_PMo D tys (.ref b :: As) ws wo) As :=
  ⟨tg_PMo_blind, va_recv hK hP hc he, fun U hU hW => ⟨rfl, by rw [hU]; exact hP, by rw [hU]; exact hPo, va_K.moved hW.alike hK, hN.warm hW, hD.weaken (fun _ _ _ _ => trivial), hoA⟩⟩
end TGO
/-- what a loop that may return said: its answer, or to go on -/
def oc {α : Type} (o : Option α) (k : Option α) : Option α := match o with
  | some r => some r
  | none => k
theorem oc_none {α : Type} {k : Option α} : oc none k = k := rfl
theorem oc_some {α : Type} {r : α} {k : Option α} : oc (some r) k = some r := rfl
def bd8 {α β γ δ ε ζ η θ ι : Type} (x : Option (α × β × γ × δ × ε × ζ × η × θ)) (f : α → β → γ → δ → ε → ζ → η → θ → Option ι) : Option ι := match x with
  | none => none
  | some (a, b, c, d, e, g, k, j) => f a b c d e g k j
theorem bd8_el {α β γ δ ε ζ η θ ι : Type} {x : Option (α × β × γ × δ × ε × ζ × η × θ)} {f : α → β → γ → δ → ε → ζ → η → θ → Option ι} {r : ι} (h : bd8 x f = some r) : ∃ a b c d e g k j, x = some (a, b, c, d, e, g, k, j) ∧ f a b c d e g k j = some r := by
  cases x with
  | none => cases h
  | some a => exact ⟨a.1, a.2.1, a.2.2.1, a.2.2.2.1, a.2.2.2.2.1, a.2.2.2.2.2.1, a.2.2.2.2.2.2.1, a.2.2.2.2.2.2.2, rfl, h⟩
theorem bd8_e {α β γ δ ε ζ η θ ι : Type} {x : Option (α × β × γ × δ × ε × ζ × η × θ)} {a : α} {b : β} {c : γ} {d : δ} {e : ε} {g : ζ} {k : η} {j : θ} {f : α → β → γ → δ → ε → ζ → η → θ → Option ι} (h : x = some (a, b, c, d, e, g, k, j)) : bd8 x f = f a b c d e g k j := by rw [h]; rfl
