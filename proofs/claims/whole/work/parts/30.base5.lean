/-! a call that may make one cell, and the wish that it makes -/
def tg_PN (D : va_G) (tys : List (ClassId × FieldType)) (av : List Value) (ws : va_W) (sz : Nat) : Array Value → State → Prop := va_Pc av (fun U => U.heap.size = sz ∧ va_P D vwCl ws U.heap ∧ va_K D vwCl tys U ∧ NW U ∧ va_D (fun _ => True) ws)
def tg_Ni (D : va_G) (ws ws' : va_W) (sz : Nat) (r : Int32) : Array Value → State → Outcome → State → Prop := fun _ st oc t => oc = .returned (some (.int r)) ∧ va_P D vwCl ws' t.heap ∧ va_F (va_A ws sz) st t
theorem tg_PN_blind {D : va_G} {tys : List (ClassId × FieldType)} {av : List Value} {ws : va_W} {sz : Nat} : FrameBlind (tg_PN D tys av ws sz) := fun a U g mk q => by
  obtain ⟨q0, qz, qP, qK, qN, qD⟩ := q
  exact ⟨q0, qz, qP, va_K.moved (u := U) (U := U.calling g mk a) (Vm.Alike.refl U.vm) qK, qN.calling, qD⟩
theorem tg_in_app {a b : va_W} {q : Nat} (h : tg_in (a ++ b) q) : tg_in a q ∨ tg_in b q := by
  rw [tg_in_mem, List.map_append, List.mem_append] at h
  rcases h with h | h
  · exact Or.inl (tg_in_mem.mpr h)
  · exact Or.inr (tg_in_mem.mpr h)
theorem tg_or {a b : va_W} {P : Nat → Prop} (h1 : ∀ q, tg_in a q → ¬ P q) (h2 : ∀ q, tg_in b q → ¬ P q) : ∀ q, tg_in (a ++ b) q → ¬ P q := fun q h => (tg_in_app h).elim (h1 q) (h2 q)
theorem tg_keep {D : va_G} {ws wc : va_W} {H H1 : Heap} (h : va_P D vwCl ws H) (hx : ∀ q, tg_in ws q → ¬ tg_in wc q) (hf : ∀ q : Nat, q < H.size → ¬ tg_in wc q → H1[q]? = H[q]?) : va_P D vwCl ws H1 :=
  h.kept (fun k q hk => hf q.1 (h k q hk).lt (hx q.1 ⟨k, q.2, hk⟩))
theorem tg_appX {A : Nat → Prop} {ws wo : va_W} (h : va_D A (ws ++ wo)) : ∀ q, tg_in ws q → ¬ tg_in wo q := by
  intro q h1 h2
  have hn := nodup_of_D h
  rw [List.map_append, List.nodup_append] at hn
  exact hn.2.2 q (tg_in_mem.mp h1) q (tg_in_mem.mp h2) rfl
theorem tg_appXT {A : Nat → Prop} {ta : Nat → Nat → Nat} {ga : Nat → Nat} (hx : ∀ q, q ∈ adG ta ga → ¬ A q) {k : Nat} (hk : k < 12) {cI : ClassId} {t : TW} : ∀ q, tg_in (wTt cI (ta k) t) q → ¬ A q := fun q h => hx q (adT_inG (adT_mem.mpr ⟨k, hk, tg_in_T.mp h⟩))
theorem wG_new {A : Nat → Prop} {ta : Nat → Nat → Nat} {cI cT : ClassId} {ga : Nat → Nat} {shelf : Nat → Int32} {np ng cur : Int32} {tw : Nat → TW} {wo : va_W} (h : va_D A (wG ta cI cT ga shelf np ng cur tw ++ wo)) : ∀ q, q ∈ adG ta ga → ¬ tg_in wo q := fun q hq => tg_appX h q (tg_in_mem.mpr (by rw [wG_ad]; exact hq))
theorem wG_newT {ta : Nat → Nat → Nat} {ga : Nat → Nat} {wo : va_W} (hx : ∀ q, q ∈ adG ta ga → ¬ tg_in wo q) {k : Nat} (hk : k < 12) {cI : ClassId} {t : TW} : ∀ q, tg_in wo q → ¬ tg_in (wTt cI (ta k) t) q := fun q h1 h2 => hx q (adT_inG (adT_mem.mpr ⟨k, hk, tg_in_T.mp h2⟩)) h1
theorem wG_keep {D : va_G} {ta : Nat → Nat → Nat} {cI cT : ClassId} {ga : Nat → Nat} {shelf : Nat → Int32} {np ng cur : Int32} {tw : Nat → TW} {wo : va_W} {H H1 : Heap} (h : va_P D vwCl (wG ta cI cT ga shelf np ng cur tw) H) (hx : ∀ q, q ∈ adG ta ga → ¬ tg_in wo q) (hf : ∀ q : Nat, q < H.size → ¬ tg_in wo q → H1[q]? = H[q]?) : va_P D vwCl (wG ta cI cT ga shelf np ng cur tw) H1 :=
  tg_keep h (fun q hq => hx q (by have := tg_in_mem.mp hq; rwa [wG_ad] at this)) hf
theorem tg_newD {A : Nat → Prop} {ws : va_W} {q : Nat} {e e' : va_E} (h : va_D A (ws ++ [(q, e)])) : va_D A [(q, e')] := by
  refine D_of_nodup (by simp) (fun a ha => ?_)
  simp only [List.map_cons, List.map_nil, List.mem_singleton] at ha
  subst ha
  exact h.2 ws.length (a, e) (by rw [List.getElem?_append_right (Nat.le_refl _), Nat.sub_self]; rfl)
theorem wW_P0 {D : va_G} {cI : ClassId} {od wd : Nat → Nat} {wa wb : Int32} {uc ub ur uf : Nat → Int32} {ufc : Int32} {um : Nat → Int32} {umc : Int32} {H : Heap} (h : va_P D vwCl (wC0 wd wa wb) H) : va_P D vwCl (wW 0 od cI wd wa wb uc ub ur uf ufc um umc) H := h
theorem wW_P1 {D : va_G} {cI : ClassId} {od wd : Nat → Nat} {wa wb : Int32} {uc ub ur uf : Nat → Int32} {ufc : Int32} {um : Nat → Int32} {umc : Int32} {H : Heap} (h : va_P D vwCl (wC1 od wd) H) (h2 : va_P D vwCl (wT cI od uc ub ur uf ufc um umc) H) : va_P D vwCl (wW 1 od cI wd wa wb uc ub ur uf ufc um umc) H := va_P.app h h2
theorem wW_P2 {D : va_G} {cI : ClassId} {od wd : Nat → Nat} {wa wb : Int32} {uc ub ur uf : Nat → Int32} {ufc : Int32} {um : Nat → Int32} {umc : Int32} {H : Heap} (h : va_P D vwCl (wC2 wd wa) H) : va_P D vwCl (wW 2 od cI wd wa wb uc ub ur uf ufc um umc) H := h
theorem wW_P3 {D : va_G} {cI : ClassId} {od wd : Nat → Nat} {wa wb : Int32} {uc ub ur uf : Nat → Int32} {ufc : Int32} {um : Nat → Int32} {umc : Int32} {H : Heap} (h : va_P D vwCl (wC3 od wd) H) (h2 : va_P D vwCl (wT cI od uc ub ur uf ufc um umc) H) : va_P D vwCl (wW 3 od cI wd wa wb uc ub ur uf ufc um umc) H := va_P.app h h2
theorem wW_X0 {cI : ClassId} {od wd : Nat → Nat} {wa wb : Int32} {uc ub ur uf : Nat → Int32} {ufc : Int32} {um : Nat → Int32} {umc : Int32} {P : Nat → Prop} (h : ∀ q, tg_in (wC0 wd wa wb) q → ¬ P q) : ∀ q, tg_in (wW 0 od cI wd wa wb uc ub ur uf ufc um umc) q → ¬ P q := h
theorem wW_X1 {cI : ClassId} {od wd : Nat → Nat} {wa wb : Int32} {uc ub ur uf : Nat → Int32} {ufc : Int32} {um : Nat → Int32} {umc : Int32} {P : Nat → Prop} (h : ∀ q, tg_in (wC1 od wd) q → ¬ P q) (h2 : ∀ q, tg_in (wT cI od uc ub ur uf ufc um umc) q → ¬ P q) : ∀ q, tg_in (wW 1 od cI wd wa wb uc ub ur uf ufc um umc) q → ¬ P q := tg_or h h2
theorem wW_X2 {cI : ClassId} {od wd : Nat → Nat} {wa wb : Int32} {uc ub ur uf : Nat → Int32} {ufc : Int32} {um : Nat → Int32} {umc : Int32} {P : Nat → Prop} (h : ∀ q, tg_in (wC2 wd wa) q → ¬ P q) : ∀ q, tg_in (wW 2 od cI wd wa wb uc ub ur uf ufc um umc) q → ¬ P q := h
theorem wW_X3 {cI : ClassId} {od wd : Nat → Nat} {wa wb : Int32} {uc ub ur uf : Nat → Int32} {ufc : Int32} {um : Nat → Int32} {umc : Int32} {P : Nat → Prop} (h : ∀ q, tg_in (wC3 od wd) q → ¬ P q) (h2 : ∀ q, tg_in (wT cI od uc ub ur uf ufc um umc) q → ¬ P q) : ∀ q, tg_in (wW 3 od cI wd wa wb uc ub ur uf ufc um umc) q → ¬ P q := tg_or h h2
/-- a tower copied over another -/
def cpT (t u : TW) : TW := (va_cpy u.1 t.1 0 0 64, va_cpy u.2.1 t.2.1 0 0 64, va_cpy u.2.2.1 t.2.2.1 0 0 8, va_cpy u.2.2.2.1 t.2.2.2.1 0 0 28, u.2.2.2.2.1, va_cpy u.2.2.2.2.2.1 t.2.2.2.2.2.1 0 0 16, u.2.2.2.2.2.2)
theorem wG_D2 {A : Nat → Prop} {ta : Nat → Nat → Nat} {ga : Nat → Nat} (h : tg_DD A (adG ta ga)) {k j : Nat} (hk : k < 12) (hj : j < 12) (hkj : k ≠ j) {cI : ClassId} {t u : TW} : va_D A (wTt cI (ta k) t ++ wTt cI (ta j) u) :=
  (wG_DT h hk).app (wG_DT h hj) (fun i i2 p q hp hq e => wG_apart h hk hj hkj (cI := cI) (cJ := cI) (t := t) (u := u) q.1 ⟨i2, q.2, hq⟩ (e ▸ ⟨i, p.2, hp⟩))
theorem wG_put2 {D : va_G} {A : Nat → Prop} {ta : Nat → Nat → Nat} {cI cT : ClassId} {ga : Nat → Nat} {shelf : Nat → Int32} {np ng cur : Int32} {tw : Nat → TW} {H H1 : Heap} (h : va_P D vwCl (wG ta cI cT ga shelf np ng cur tw) H) (hDD : tg_DD A (adG ta ga)) {k j : Nat} (hk : k < 12) (hj : j < 12) (hkj : k ≠ j) {t0 t : TW} (hf : ∀ q : Nat, q < H.size → ¬ tg_in (wTt cI (ta k) t0 ++ wTt cI (ta j) (tw j)) q → H1[q]? = H[q]?) (ht : va_P D vwCl (wTt cI (ta k) t ++ wTt cI (ta j) (tw j)) H1) : va_P D vwCl (wG ta cI cT ga shelf np ng cur (upT tw k t)) H1 := by
  obtain ⟨n1, n2⟩ := adG_nd hDD.nd.1
  have ap := (adT_apart n1).2
  have keep : ∀ q ∈ wG ta cI cT ga shelf np ng cur tw, q.1 ∉ six ta k → q.1 ∉ six ta j → va_at D vwCl q H1 := fun q hq a1 a2 => by
    have h1 := va_P_mem.mp h q hq
    exact h1.kept (hf q.1 h1.lt (fun z => (tg_in_app z).elim (fun z => a1 (tg_in_T.mp z)) (fun z => a2 (tg_in_T.mp z))))
  have main : ∀ i, i < 4 → ∀ x, x < 12 → ga i ∉ six ta x := fun i hi x hx z => n2 i hi (adT_mem.mpr ⟨x, hx, z⟩)
  rw [va_P_mem]
  intro q hq
  rcases List.mem_cons.mp hq with e | hq
  · subst e; exact keep _ List.mem_cons_self (main 0 (by omega) k hk) (main 0 (by omega) j hj)
  rcases List.mem_cons.mp hq with e | hq
  · subst e; exact keep _ (List.mem_cons_of_mem _ List.mem_cons_self) (main 1 (by omega) k hk) (main 1 (by omega) j hj)
  rcases List.mem_cons.mp hq with e | hq
  · subst e; exact keep _ (List.mem_cons_of_mem _ (List.mem_cons_of_mem _ List.mem_cons_self)) (main 2 (by omega) k hk) (main 2 (by omega) j hj)
  rcases List.mem_cons.mp hq with e | hq
  · subst e; exact keep _ (List.mem_cons_of_mem _ (List.mem_cons_of_mem _ (List.mem_cons_of_mem _ List.mem_cons_self))) (main 3 (by omega) k hk) (main 3 (by omega) j hj)
  obtain ⟨x, hx, hm⟩ := wTL_mem.mp hq
  by_cases c : x = k
  · subst c
    rw [upT_same] at hm
    exact va_P_mem.mp ht q (List.mem_append_left _ hm)
  · rw [upT_ne c] at hm
    by_cases c2 : x = j
    · subst c2
      exact va_P_mem.mp ht q (List.mem_append_right _ hm)
    · have hq1 : q.1 ∈ six ta x := List.mem_map.mpr ⟨q, hm, rfl⟩
      exact keep q (List.mem_cons_of_mem _ (List.mem_cons_of_mem _ (List.mem_cons_of_mem _ (List.mem_cons_of_mem _ (wTL_mem.mpr ⟨x, hx, hm⟩))))) (ap x k hx hk c q.1 hq1) (ap x j hx hj c2 q.1 hq1)
