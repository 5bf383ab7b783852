/-! the words of the mirrors: a guard, a step that may fail, a named value -/
def gd {α : Type} (b : Bool) (x : Option α) : Option α := if b = true then x else none
theorem gd_el {α : Type} {b : Bool} {x : Option α} {r : α} (h : gd b x = some r) : b = true ∧ x = some r := by
  unfold gd at h
  split at h
  · exact ⟨by assumption, h⟩
  · cases h
theorem gd_t {α : Type} {b : Bool} {x : Option α} (h : b = true) : gd b x = x := by rw [gd, if_pos h]
def bd {α β : Type} (x : Option α) (f : α → Option β) : Option β := match x with
  | none => none
  | some a => f a
theorem bd_el {α β : Type} {x : Option α} {f : α → Option β} {r : β} (h : bd x f = some r) : ∃ a, x = some a ∧ f a = some r := by
  cases x with
  | none => cases h
  | some a => exact ⟨a, rfl, h⟩
theorem bd_s {α β : Type} {a : α} {f : α → Option β} : bd (some a) f = f a := rfl
theorem bd_e {α β : Type} {x : Option α} {a : α} {f : α → Option β} (h : x = some a) : bd x f = f a := by rw [h]; rfl
def bd2 {α β γ : Type} (x : Option (α × β)) (f : α → β → Option γ) : Option γ := match x with
  | none => none
  | some (a, b) => f a b
theorem bd2_el {α β γ : Type} {x : Option (α × β)} {f : α → β → Option γ} {r : γ} (h : bd2 x f = some r) : ∃ a b, x = some (a, b) ∧ f a b = some r := by
  cases x with
  | none => cases h
  | some a => exact ⟨a.1, a.2, rfl, h⟩
theorem bd2_e {α β γ : Type} {x : Option (α × β)} {a : α} {b : β} {f : α → β → Option γ} (h : x = some (a, b)) : bd2 x f = f a b := by rw [h]; rfl
def bd3 {α β γ δ : Type} (x : Option (α × β × γ)) (f : α → β → γ → Option δ) : Option δ := match x with
  | none => none
  | some (a, b, c) => f a b c
theorem bd3_el {α β γ δ : Type} {x : Option (α × β × γ)} {f : α → β → γ → Option δ} {r : δ} (h : bd3 x f = some r) : ∃ a b c, x = some (a, b, c) ∧ f a b c = some r := by
  cases x with
  | none => cases h
  | some a => exact ⟨a.1, a.2.1, a.2.2, rfl, h⟩
theorem bd3_e {α β γ δ : Type} {x : Option (α × β × γ)} {a : α} {b : β} {c : γ} {f : α → β → γ → Option δ} (h : x = some (a, b, c)) : bd3 x f = f a b c := by rw [h]; rfl
def bd4 {α β γ δ ε : Type} (x : Option (α × β × γ × δ)) (f : α → β → γ → δ → Option ε) : Option ε := match x with
  | none => none
  | some (a, b, c, d) => f a b c d
theorem bd4_el {α β γ δ ε : Type} {x : Option (α × β × γ × δ)} {f : α → β → γ → δ → Option ε} {r : ε} (h : bd4 x f = some r) : ∃ a b c d, x = some (a, b, c, d) ∧ f a b c d = some r := by
  cases x with
  | none => cases h
  | some a => exact ⟨a.1, a.2.1, a.2.2.1, a.2.2.2, rfl, h⟩
theorem bd4_e {α β γ δ ε : Type} {x : Option (α × β × γ × δ)} {a : α} {b : β} {c : γ} {d : δ} {f : α → β → γ → δ → Option ε} (h : x = some (a, b, c, d)) : bd4 x f = f a b c d := by rw [h]; rfl
def bd5 {α β γ δ ε ζ : Type} (x : Option (α × β × γ × δ × ε)) (f : α → β → γ → δ → ε → Option ζ) : Option ζ := match x with
  | none => none
  | some (a, b, c, d, e) => f a b c d e
theorem bd5_el {α β γ δ ε ζ : Type} {x : Option (α × β × γ × δ × ε)} {f : α → β → γ → δ → ε → Option ζ} {r : ζ} (h : bd5 x f = some r) : ∃ a b c d e, x = some (a, b, c, d, e) ∧ f a b c d e = some r := by
  cases x with
  | none => cases h
  | some a => exact ⟨a.1, a.2.1, a.2.2.1, a.2.2.2.1, a.2.2.2.2, rfl, h⟩
theorem bd5_e {α β γ δ ε ζ : Type} {x : Option (α × β × γ × δ × ε)} {a : α} {b : β} {c : γ} {d : δ} {e : ε} {f : α → β → γ → δ → ε → Option ζ} (h : x = some (a, b, c, d, e)) : bd5 x f = f a b c d e := by rw [h]; rfl
def bd6 {α β γ δ ε ζ η : Type} (x : Option (α × β × γ × δ × ε × ζ)) (f : α → β → γ → δ → ε → ζ → Option η) : Option η := match x with
  | none => none
  | some (a, b, c, d, e, g) => f a b c d e g
theorem bd6_el {α β γ δ ε ζ η : Type} {x : Option (α × β × γ × δ × ε × ζ)} {f : α → β → γ → δ → ε → ζ → Option η} {r : η} (h : bd6 x f = some r) : ∃ a b c d e g, x = some (a, b, c, d, e, g) ∧ f a b c d e g = some r := by
  cases x with
  | none => cases h
  | some a => exact ⟨a.1, a.2.1, a.2.2.1, a.2.2.2.1, a.2.2.2.2.1, a.2.2.2.2.2, rfl, h⟩
theorem bd6_e {α β γ δ ε ζ η : Type} {x : Option (α × β × γ × δ × ε × ζ)} {a : α} {b : β} {c : γ} {d : δ} {e : ε} {g : ζ} {f : α → β → γ → δ → ε → ζ → Option η} (h : x = some (a, b, c, d, e, g)) : bd6 x f = f a b c d e g := by rw [h]; rfl
def bd7 {α β γ δ ε ζ η θ : Type} (x : Option (α × β × γ × δ × ε × ζ × η)) (f : α → β → γ → δ → ε → ζ → η → Option θ) : Option θ := match x with
  | none => none
  | some (a, b, c, d, e, g, k) => f a b c d e g k
theorem bd7_el {α β γ δ ε ζ η θ : Type} {x : Option (α × β × γ × δ × ε × ζ × η)} {f : α → β → γ → δ → ε → ζ → η → Option θ} {r : θ} (h : bd7 x f = some r) : ∃ a b c d e g k, x = some (a, b, c, d, e, g, k) ∧ f a b c d e g k = some r := by
  cases x with
  | none => cases h
  | some a => exact ⟨a.1, a.2.1, a.2.2.1, a.2.2.2.1, a.2.2.2.2.1, a.2.2.2.2.2.1, a.2.2.2.2.2.2, rfl, h⟩
theorem bd7_e {α β γ δ ε ζ η θ : Type} {x : Option (α × β × γ × δ × ε × ζ × η)} {a : α} {b : β} {c : γ} {d : δ} {e : ε} {g : ζ} {k : η} {f : α → β → γ → δ → ε → ζ → η → Option θ} (h : x = some (a, b, c, d, e, g, k)) : bd7 x f = f a b c d e g k := by rw [h]; rfl
def lT {α β : Type} (x : α) (f : α → β) : β := f x
theorem lT_el {α β : Type} {x : α} {f : α → β} {r : β} (h : lT x f = r) : ∃ v, v = x ∧ f v = r := ⟨x, rfl, h⟩
def inb (i : Int32) (n : Nat) : Bool := !(decide (i < 0) || decide (n ≤ i.toNatClampNeg))
theorem inb_in {i : Int32} {n : Nat} (h : inb i n = true) : vp_in i n := by
  unfold inb at h
  unfold vp_in
  simpa using h
theorem inb_of {i : Int32} {n : Nat} (h : vp_in i n) : inb i n = true := by
  unfold vp_in at h
  unfold inb
  simpa using h
def nzb (y : Int32) : Bool := !(decide (y = 0))
theorem nzb_el {y : Int32} (h : nzb y = true) : ¬ y = 0 := by
  unfold nzb at h
  simpa using h
theorem nzb_of {y : Int32} (h : ¬ y = 0) : nzb y = true := by
  unfold nzb
  simpa using h
/-! the links between classes of one nest, and the abstract method: they hold at every state -/
def nwL : List Cond := [.methodLinkNest RX6 22 yX4_init RX6, .fieldLinkNest RX1 19 RX4 "makers" "[I" RX6, .fieldLinkNest RX1 13 RX4 "makerCount" "I" RX6, .methodLinkNest RX4 76 yX6_image RX6, .methodLinkNest RX4 123 yX6_reverse RX6, .methodLinkNest RX4 82 yX6_chain RX6, .methodLinkNest RX3 1 yX5_init RX6, .declares ⟨RX5, "fits", "(II)Z"⟩, .methodLinkNest RX0 16 yX6_image RX6, .methodLinkNest RX1 27 yX6_image RX6, .methodLinkNest RX2 13 yX6_image RX6, .methodLinkNest RX4 51 yX6_carried RX6, .methodLinkNest RX2 1 yX5_init RX6, .methodLinkNest RX0 1 yX5_init RX6, .methodLinkNest RX1 1 yX5_init RX6, .methodLinkNest RX4 58 yX6_commutator RX6]
def NW (U : State) : Prop := ∀ w ∈ nwL, va_Nw w U
theorem NW.warm {s U : State} (hW : s.WarmedH U.vm) (h : NW s) : NW U := by
  have t : ∀ w ∈ nwL, (va_Nw w s → va_Nw w U) := by
    unfold nwL
    refine List.forall_mem_cons.mpr ⟨va_Nw.warmM hW, ?_⟩
    refine List.forall_mem_cons.mpr ⟨va_Nw.warmF hW, ?_⟩
    refine List.forall_mem_cons.mpr ⟨va_Nw.warmF hW, ?_⟩
    refine List.forall_mem_cons.mpr ⟨va_Nw.warmM hW, ?_⟩
    refine List.forall_mem_cons.mpr ⟨va_Nw.warmM hW, ?_⟩
    refine List.forall_mem_cons.mpr ⟨va_Nw.warmM hW, ?_⟩
    refine List.forall_mem_cons.mpr ⟨va_Nw.warmM hW, ?_⟩
    refine List.forall_mem_cons.mpr ⟨va_Nw.warmD hW, ?_⟩
    refine List.forall_mem_cons.mpr ⟨va_Nw.warmM hW, ?_⟩
    refine List.forall_mem_cons.mpr ⟨va_Nw.warmM hW, ?_⟩
    refine List.forall_mem_cons.mpr ⟨va_Nw.warmM hW, ?_⟩
    refine List.forall_mem_cons.mpr ⟨va_Nw.warmM hW, ?_⟩
    refine List.forall_mem_cons.mpr ⟨va_Nw.warmM hW, ?_⟩
    refine List.forall_mem_cons.mpr ⟨va_Nw.warmM hW, ?_⟩
    refine List.forall_mem_cons.mpr ⟨va_Nw.warmM hW, ?_⟩
    refine List.forall_mem_cons.mpr ⟨va_Nw.warmM hW, ?_⟩
    exact fun _ h => absurd h List.not_mem_nil
  exact fun w hw => t w hw (h w hw)
theorem NW.calling {U : State} {g : JFrame} {mk : MethodId} {a : Array Value} (h : NW U) : NW (U.calling g mk a) := by
  have t : ∀ w ∈ nwL, w.onTables = true := by decide +kernel
  exact fun w hw => va_Nw.same (t w hw) (rfl : U.vm = (U.calling g mk a).vm) (h w hw)
/-! the forms of the contracts -/
/-- the addresses of a world -/
def tg_in (ws : va_W) (q : Nat) : Prop := ∃ (k : Nat) (e : va_E), ws[k]? = some (q, e)
/-- a method's start, that reads the world ws -/
def tg_P (D : va_G) (tys : List (ClassId × FieldType)) (av : List Value) (ws : va_W) : Array Value → State → Prop := va_Pc av (fun U => va_P D vwCl ws U.heap ∧ va_K D vwCl tys U ∧ NW U)
/-- a method's start, that may write the world ws -/
def tg_PM (D : va_G) (tys : List (ClassId × FieldType)) (av : List Value) (ws : va_W) : Array Value → State → Prop := va_Pc av (fun U => va_P D vwCl ws U.heap ∧ va_K D vwCl tys U ∧ NW U ∧ va_D (fun _ => True) ws)
theorem tg_P_blind {D : va_G} {tys : List (ClassId × FieldType)} {av : List Value} {ws : va_W} : FrameBlind (tg_P D tys av ws) := fun a U g mk q => by
  obtain ⟨q0, qP, qK, qN⟩ := q
  exact ⟨q0, qP, va_K.moved (u := U) (U := U.calling g mk a) (Vm.Alike.refl U.vm) qK, qN.calling⟩
theorem tg_PM_blind {D : va_G} {tys : List (ClassId × FieldType)} {av : List Value} {ws : va_W} : FrameBlind (tg_PM D tys av ws) := fun a U g mk q => by
  obtain ⟨q0, qP, qK, qN, qD⟩ := q
  exact ⟨q0, qP, va_K.moved (u := U) (U := U.calling g mk a) (Vm.Alike.refl U.vm) qK, qN.calling, qD⟩
/-- a method that only reads: an int, a long, nothing -/
def tg_Ri (r : Int32) : Array Value → State → Outcome → State → Prop := fun _ st oc t => oc = .returned (some (.int r)) ∧ t.heap = st.heap
def tg_Rl (r : Int64) : Array Value → State → Outcome → State → Prop := fun _ st oc t => oc = .returned (some (.long r)) ∧ t.heap = st.heap
/-- a method that writes the world ws, and makes nothing: ws' comes of it -/
def tg_Mi (D : va_G) (ws ws' : va_W) (r : Int32) : Array Value → State → Outcome → State → Prop := fun _ st oc t => oc = .returned (some (.int r)) ∧ va_P D vwCl ws' t.heap ∧ va_F (tg_in ws) st t
def tg_Mv (D : va_G) (ws ws' : va_W) : Array Value → State → Outcome → State → Prop := fun _ st oc t => oc = .returned none ∧ va_P D vwCl ws' t.heap ∧ va_F (tg_in ws) st t
theorem tg_D {A : Nat → Prop} {ws : va_W} (h : va_D A ws) : va_D (tg_in ws) ws := ⟨h.1, fun k q hk => ⟨k, q.2, hk⟩⟩
section TG
variable {p : Program} {l : Launch} {e : Env} {R : Room} {s : State} {m : MethodId} {args : Array Value} {below : List Frame} {meth : Method} {c : Code} {H : Heap} {locs : List Loc} {cells slots : Nat} {Q : State → Prop}
variable {pc : Nat} {ls : Array Slot} {rest st0 : List Value} {a : Array Value} {A0 : Nat → Prop} {H0 : Heap} {D : va_G} {tys : List (ClassId × FieldType)}
theorem tg_preS {ws : va_W} {As : List Value} (hP : va_P D vwCl ws H) (hK : va_K D vwCl tys s) (hN : NW s) : PreS s H (tg_P D tys As ws) As :=
  ⟨tg_P_blind, fun U hU hW => ⟨rfl, by rw [hU]; exact hP, va_K.moved hW.alike hK, hN.warm hW⟩⟩
theorem tg_preSM {ws : va_W} {As : List Value} {B : Nat → Prop} (hP : va_P D vwCl ws H) (hD : va_D B ws) (hK : va_K D vwCl tys s) (hN : NW s) : PreS s H (tg_PM D tys As ws) As :=
  ⟨tg_PM_blind, fun U hU hW => ⟨rfl, by rw [hU]; exact hP, va_K.moved hW.alike hK, hN.warm hW, hD.weaken (fun _ _ _ _ => trivial)⟩⟩
theorem tg_preV {ws : va_W} {As : List Value} {b q0 ci : Nat} {r : vw_C} {fs : List Value} (hP : va_P D vwCl ws H) (hK : va_K D vwCl tys s) (hN : NW s) (hc : vwCl[ci]? = some r) (he : ws[q0]? = some (b, .inr (ci, fs))) : PreV s H r.1 b (tg_P D tys (.ref b :: As) ws) As :=
  ⟨tg_P_blind, va_recv hK hP hc he, fun U hU hW => ⟨rfl, by rw [hU]; exact hP, va_K.moved hW.alike hK, hN.warm hW⟩⟩
theorem tg_preVM {ws : va_W} {As : List Value} {b q0 ci : Nat} {r : vw_C} {fs : List Value} {B : Nat → Prop} (hP : va_P D vwCl ws H) (hD : va_D B ws) (hK : va_K D vwCl tys s) (hN : NW s) (hc : vwCl[ci]? = some r) (he : ws[q0]? = some (b, .inr (ci, fs))) : PreV s H r.1 b (tg_PM D tys (.ref b :: As) ws) As :=
  ⟨tg_PM_blind, va_recv hK hP hc he, fun U hU hW => ⟨rfl, by rw [hU]; exact hP, va_K.moved hW.alike hK, hN.warm hW, hD.weaken (fun _ _ _ _ => trivial)⟩⟩
theorem tg_cRi {r : Int32} (hr : va_Run p l e R s m args below meth c H locs cells slots 0 0 (F0 m pc ls st0) rest (tg_Ri r a) (fun _ => False)) (kk : W p l e R s m args below meth c H locs cells slots Q (F0 m (pc + 3) ls (.int r :: rest))) : W p l e R s m args below meth c H locs cells slots Q (F0 m pc ls st0) := by
  intro T hT X
  obtain ⟨v, st₀, t, T', L, h0, X', hL, e1, -, ⟨hv, hh⟩, st⟩ := hr T hT X
  cases hv
  obtain ⟨t2, a1, b1⟩ := kk T' (by rw [e1, hh, h0]) (Stand.forget X' (fun q h => (hL q h).elim))
  exact ⟨t2, st t2 a1, b1⟩
theorem tg_cRl {r : Int64} (hr : va_Run p l e R s m args below meth c H locs cells slots 0 0 (F0 m pc ls st0) rest (tg_Rl r a) (fun _ => False)) (kk : W p l e R s m args below meth c H locs cells slots Q (F0 m (pc + 3) ls (.long r :: rest))) : W p l e R s m args below meth c H locs cells slots Q (F0 m pc ls st0) := by
  intro T hT X
  obtain ⟨v, st₀, t, T', L, h0, X', hL, e1, -, ⟨hv, hh⟩, st⟩ := hr T hT X
  cases hv
  obtain ⟨t2, a1, b1⟩ := kk T' (by rw [e1, hh, h0]) (Stand.forget X' (fun q h => (hL q h).elim))
  exact ⟨t2, st t2 a1, b1⟩
theorem tg_cMi {ws ws' : va_W} {r : Int32} (hr : va_Run p l e R s m args below meth c H locs cells slots 0 0 (F0 m pc ls st0) rest (tg_Mi D ws ws' r a) (tg_in ws)) (hS : va_S A0 H0 H locs) (hA : ∀ q, tg_in ws q → A0 q)
    (kk : ∀ (H1 : Heap) (locs1 : List Loc), (∀ q : Nat, q < H.size → ¬ tg_in ws q → H1[q]? = H[q]?) → va_P D vwCl ws' H1 → va_S A0 H0 H1 locs1 → W p l e R s m args below meth c H1 locs1 cells slots Q (F0 m (pc + 3) ls (.int r :: rest))) : W p l e R s m args below meth c H locs cells slots Q (F0 m pc ls st0) := by
  intro T hT X
  obtain ⟨v, st₀, t, T', L, h0, X', hL, e1, -, ⟨hv, hp, hz, hk⟩, st⟩ := hr T hT X
  cases hv
  rw [h0] at hz hk
  obtain ⟨t2, a1, b1⟩ := kk T'.heap (locs ++ L) (fun q h1 h2 => by rw [e1]; exact hk q h1 h2) (by rw [e1]; exact hp)
    ⟨Nat.le_trans hS.1 (by rw [e1]; exact hz), fun q h1 h2 => by rw [e1, hk q (Nat.lt_of_lt_of_le h1 hS.1) (fun z => h2 (hA q z))]; exact hS.2.1 q h1 h2, fun q hq => by
      rcases List.mem_append.mp hq with h | h
      · exact hS.2.2 q h
      · exact hA _ (hL q h)⟩ T' rfl X'
  exact ⟨t2, st t2 a1, b1⟩
theorem tg_cMv {ws ws' : va_W} (hr : va_Run p l e R s m args below meth c H locs cells slots 0 0 (F0 m pc ls st0) rest (tg_Mv D ws ws' a) (tg_in ws)) (hS : va_S A0 H0 H locs) (hA : ∀ q, tg_in ws q → A0 q)
    (kk : ∀ (H1 : Heap) (locs1 : List Loc), (∀ q : Nat, q < H.size → ¬ tg_in ws q → H1[q]? = H[q]?) → va_P D vwCl ws' H1 → va_S A0 H0 H1 locs1 → W p l e R s m args below meth c H1 locs1 cells slots Q (F0 m (pc + 3) ls rest)) : W p l e R s m args below meth c H locs cells slots Q (F0 m pc ls st0) := by
  intro T hT X
  obtain ⟨v, st₀, t, T', L, h0, X', hL, e1, -, ⟨hv, hp, hz, hk⟩, st⟩ := hr T hT X
  cases hv
  rw [h0] at hz hk
  obtain ⟨t2, a1, b1⟩ := kk T'.heap (locs ++ L) (fun q h1 h2 => by rw [e1]; exact hk q h1 h2) (by rw [e1]; exact hp)
    ⟨Nat.le_trans hS.1 (by rw [e1]; exact hz), fun q h1 h2 => by rw [e1, hk q (Nat.lt_of_lt_of_le h1 hS.1) (fun z => h2 (hA q z))]; exact hS.2.1 q h1 h2, fun q hq => by
      rcases List.mem_append.mp hq with h | h
      · exact hS.2.2 q h
      · exact hA _ (hL q h)⟩ T' rfl X'
  exact ⟨t2, st t2 a1, b1⟩
theorem tg_top {x y : Int32} (h : y = x) (k : W p l e R s m args below meth c H locs cells slots Q (F0 m pc ls (.int y :: rest))) : W p l e R s m args below meth c H locs cells slots Q (F0 m pc ls (.int x :: rest)) := h ▸ k
theorem tg_topl {x y : Int64} (h : y = x) (k : W p l e R s m args below meth c H locs cells slots Q (F0 m pc ls (.long y :: rest))) : W p l e R s m args below meth c H locs cells slots Q (F0 m pc ls (.long x :: rest)) := h ▸ k
end TG
/-- the fixed facts of a method's walk -/
def tg_C (p : Program) (s : State) (m : MethodId) (meth : Method) (c : Code) (args : Array Value) (cc : ByteArray) (own : String) (Ts : List Cond) (nL : Nat) (D : va_G) (tys : List (ClassId × FieldType)) : Prop :=
  p.tables.exec = Jvm.exec ∧ c.code = cc ∧ c.maxLocals = nL ∧ s.vm.findClass own = some m.cls ∧ (∀ w ∈ Ts, w.before args s = true) ∧ va_K D vwCl tys s ∧ NW s
theorem tg_Da {A : Nat → Prop} {ws ws' : va_W} (h : va_D A ws) (he : ws.map Prod.fst = ws'.map Prod.fst) : va_D A ws' := by
  have key : ∀ (k : Nat) (q : Nat × va_E), ws'[k]? = some q → ∃ q0, ws[k]? = some q0 ∧ q0.1 = q.1 := by
    intro k q hk
    have h1 : (ws'.map Prod.fst)[k]? = some q.1 := by rw [List.getElem?_map, hk]; rfl
    rw [← he, List.getElem?_map] at h1
    cases h2 : ws[k]? with
    | none => rw [h2] at h1; cases h1
    | some q0 => rw [h2] at h1; exact ⟨q0, rfl, Option.some.inj h1⟩
  refine ⟨fun i j x y hi hj hxy => ?_, fun k q hk => ?_⟩
  · obtain ⟨x0, h1, h2⟩ := key i x hi
    obtain ⟨y0, h3, h4⟩ := key j y hj
    exact h.1 i j x0 y0 h1 h3 (h2.trans (hxy.trans h4.symm))
  · obtain ⟨q0, h1, h2⟩ := key k q hk
    rw [← h2]
    exact h.2 k q0 h1
theorem tg_inA {A : Nat → Prop} {ws : va_W} (h : va_D A ws) : ∀ q, tg_in ws q → A q := fun _ ⟨k, e, hk⟩ => h.2 k (_, e) hk
theorem tg_nil {D : va_G} {H : Heap} : va_P D vwCl [] H := fun k q h => by simp at h
def isb (v : Int32) : Bool := decide (v = 0) || decide (v = 1)
theorem isb_n {v : Int32} (h : isb v = true) : narrow .boolean (.int v) = .int v := by
  unfold isb at h
  simp only [Bool.or_eq_true, decide_eq_true_eq] at h
  rcases h with h | h <;> subst h <;> rfl
theorem isb_0 : isb 0 = true := by decide
theorem isb_1 : isb 1 = true := by decide
theorem isb_el {v : Int32} (h : isb v = true) : v = 0 ∨ v = 1 := by
  unfold isb at h
  simpa using h
theorem tg_ro {A : Nat → Prop} {H0 H : Heap} {locs : List Loc} {D : va_G} {ws : va_W} (h : va_P D vwCl ws H0) (hA : ∀ q, tg_in ws q → ¬ A q) (hS : va_S A H0 H locs) : va_P D vwCl ws H :=
  h.kept (fun k q hk => hS.2.1 q.1 (h k q hk).lt (hA q.1 ⟨k, q.2, hk⟩))
theorem tg_appL {D : va_G} {ws wo : va_W} {H : Heap} (h : va_P D vwCl (ws ++ wo) H) : va_P D vwCl ws H := fun k q hk => h k q (by rw [List.getElem?_append_left (List.getElem?_eq_some_iff.mp hk).1]; exact hk)
theorem tg_appR {D : va_G} {ws wo : va_W} {H : Heap} (h : va_P D vwCl (ws ++ wo) H) : va_P D vwCl wo H := fun k q hk => h (ws.length + k) q (by rw [List.getElem?_append_right (Nat.le_add_right _ _), Nat.add_sub_cancel_left]; exact hk)
theorem nw_X6_22 : Cond.methodLinkNest RX6 22 yX4_init RX6 ∈ nwL := List.mem_of_getElem? (i := 0) rfl
theorem nw_X1_19 : Cond.fieldLinkNest RX1 19 RX4 "makers" "[I" RX6 ∈ nwL := List.mem_of_getElem? (i := 1) rfl
theorem nw_X1_13 : Cond.fieldLinkNest RX1 13 RX4 "makerCount" "I" RX6 ∈ nwL := List.mem_of_getElem? (i := 2) rfl
theorem nw_X4_76 : Cond.methodLinkNest RX4 76 yX6_image RX6 ∈ nwL := List.mem_of_getElem? (i := 3) rfl
theorem nw_X4_123 : Cond.methodLinkNest RX4 123 yX6_reverse RX6 ∈ nwL := List.mem_of_getElem? (i := 4) rfl
theorem nw_X4_82 : Cond.methodLinkNest RX4 82 yX6_chain RX6 ∈ nwL := List.mem_of_getElem? (i := 5) rfl
theorem nw_X3_1 : Cond.methodLinkNest RX3 1 yX5_init RX6 ∈ nwL := List.mem_of_getElem? (i := 6) rfl
theorem nw_dec : Cond.declares ⟨RX5, "fits", "(II)Z"⟩ ∈ nwL := List.mem_of_getElem? (i := 7) rfl
theorem nw_X0_16 : Cond.methodLinkNest RX0 16 yX6_image RX6 ∈ nwL := List.mem_of_getElem? (i := 8) rfl
theorem nw_X1_27 : Cond.methodLinkNest RX1 27 yX6_image RX6 ∈ nwL := List.mem_of_getElem? (i := 9) rfl
theorem nw_X2_13 : Cond.methodLinkNest RX2 13 yX6_image RX6 ∈ nwL := List.mem_of_getElem? (i := 10) rfl
theorem nw_X4_51 : Cond.methodLinkNest RX4 51 yX6_carried RX6 ∈ nwL := List.mem_of_getElem? (i := 11) rfl
theorem nw_X2_1 : Cond.methodLinkNest RX2 1 yX5_init RX6 ∈ nwL := List.mem_of_getElem? (i := 12) rfl
theorem nw_X0_1 : Cond.methodLinkNest RX0 1 yX5_init RX6 ∈ nwL := List.mem_of_getElem? (i := 13) rfl
theorem nw_X1_1 : Cond.methodLinkNest RX1 1 yX5_init RX6 ∈ nwL := List.mem_of_getElem? (i := 14) rfl
theorem nw_X4_58 : Cond.methodLinkNest RX4 58 yX6_commutator RX6 ∈ nwL := List.mem_of_getElem? (i := 15) rfl
/-! the worlds -/
/-- the reference's cells: the object, and its arrays -/
abbrev wM (cI cZ : ClassId) (ad : Nat → Nat) (n many : Int32) (image : Nat → Int32) (turn : Int32) (shelf : Nat → Int32) (groups : Int32) (inn now makers makerMany queue : Nat → Int32) : va_W := [(ad 0, .inr (6, [.int n, .int many, .ref (ad 1), .int turn, .ref (ad 2), .int groups, .ref (ad 3), .ref (ad 4), .ref (ad 5), .ref (ad 6), .ref (ad 7)])), (ad 1, .inl (cI, 322560, .inl image)), (ad 2, .inl (cI, 8, .inl shelf)), (ad 3, .inl (cZ, 524160, .inl inn)), (ad 4, .inl (cI, 8, .inl now)), (ad 5, .inl (cI, 416, .inl makers)), (ad 6, .inl (cI, 13, .inl makerMany)), (ad 7, .inl (cI, 40320, .inl queue))]
/-- a tower's cells -/
abbrev wT (cI : ClassId) (ad : Nat → Nat) (cells back reach filled : Nat → Int32) (fc : Int32) (makers : Nat → Int32) (mc : Int32) : va_W := [(ad 0, .inr (4, [.ref (ad 1), .ref (ad 2), .ref (ad 3), .ref (ad 4), .int fc, .ref (ad 5), .int mc])), (ad 1, .inl (cI, 64, .inl cells)), (ad 2, .inl (cI, 64, .inl back)), (ad 3, .inl (cI, 8, .inl reach)), (ad 4, .inl (cI, 28, .inl filled)), (ad 5, .inl (cI, 16, .inl makers))]
theorem sw4 {x : Int32} (h0 : ¬ x = 0) (h1 : ¬ x = 1) (h2 : ¬ x = 2) (h3 : ¬ x = 3) : x.toInt < 0 ∨ 3 < x.toInt := by
  have k : ∀ y : Int32, ¬ x = y → x.toInt ≠ y.toInt := fun y h e => h (Int32.toInt_inj.mp e)
  have k0 : x.toInt ≠ 0 := k 0 h0
  have k1 : x.toInt ≠ 1 := k 1 h1
  have k2 : x.toInt ≠ 2 := k 2 h2
  have k3 : x.toInt ≠ 3 := k 3 h3
  omega
/-- any world at these addresses is apart, and lies in A -/
def tg_DD (A : Nat → Prop) (L : List Nat) : Prop := ∀ ws : va_W, ws.map Prod.fst = L → va_D A ws
theorem tg_DD.of {A : Nat → Prop} {ws : va_W} {L : List Nat} (h : va_D A ws) (e : ws.map Prod.fst = L) : tg_DD A L := fun _ he => tg_Da h (e.trans he.symm)
