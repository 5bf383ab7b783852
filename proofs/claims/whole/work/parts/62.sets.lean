/-! ===== the reference's groups ===== -/
theorem ixA (a t : Nat) : (40320 : Int32) * nI a + nI t = nI (40320 * a + t) := by
  show nI 40320 * nI a + nI t = _
  rw [pk_mul, nI_add]
theorem ixM (a t : Nat) : (32 : Int32) * nI a + nI t = nI (32 * a + t) := by
  show nI 32 * nI a + nI t = _
  rw [pk_mul, nI_add]
theorem nar0 : vp_nar .boolean 0 = 0 := by decide
theorem nar1 : vp_nar .boolean 1 = 1 := by decide
/-- the a-th stretch of the row holds the set -/
def RS (n : Nat) (inn : Nat → Int32) (a : Nat) (S : Pm → Prop) : Prop := ∀ x, Sup n x → (S x ∧ inn (40320 * a + rk n x) = 1) ∨ (¬ S x ∧ inn (40320 * a + rk n x) = 0)
def Off (w : Nat) (inn inn2 : Nat → Int32) : Prop := ∀ k, (k < 40320 * w ∨ 40320 * w + 40320 ≤ k) → inn2 k = inn k
theorem Off.refl {w : Nat} {inn : Nat → Int32} : Off w inn inn := fun _ _ => rfl
theorem Off.trans {w : Nat} {i1 i2 i3 : Nat → Int32} (h : Off w i1 i2) (h2 : Off w i2 i3) : Off w i1 i3 := fun k hk => (h2 k hk).trans (h k hk)
theorem Off.upd {w t : Nat} {inn : Nat → Int32} {v : Int32} (ht : t < 40320) : Off w inn (upd inn (40320 * w + t) v) := fun k hk => pk_un (by omega)
theorem RS.off {n w a : Nat} {inn inn2 : Nat → Int32} {S : Pm → Prop} (hn : n ≤ 8) (h : RS n inn a S) (ho : Off w inn inn2) (hne : a ≠ w) : RS n inn2 a S := fun x hx => by
  have h1 := rk_31 hn hx
  rw [ho _ (by omega)]
  exact h x hx
theorem RS.congr {n a : Nat} {inn : Nat → Int32} {S S2 : Pm → Prop} (h : RS n inn a S) (e : ∀ x, Sup n x → (S x ↔ S2 x)) : RS n inn a S2 := fun x hx => by
  rcases h x hx with ⟨h1, h2⟩ | ⟨h1, h2⟩
  · exact Or.inl ⟨(e x hx).mp h1, h2⟩
  · exact Or.inr ⟨fun h => h1 ((e x hx).mpr h), h2⟩
section RSS
variable {F n : Nat} {image : Nat → Int32}
theorem has_is (hn : n ≤ 8) {inn : Nat → Int32} {a : Nat} {S : Pm → Prop} (h : RS n inn a S) (ha : a < 13) {x : Pm} (hx : Sup n x) : (S x ∧ mX7_hasIt inn (nI a) (nI (rk n x)) = some 1) ∨ (¬ S x ∧ mX7_hasIt inn (nI a) (nI (rk n x)) = some 0) := by
  have h1 := rk_31 hn hx
  unfold mX7_hasIt
  rw [ixA, gd_t (inb_n (by omega) (by omega)), cl_n (by omega)]
  rcases h x hx with ⟨h2, e⟩ | ⟨h2, e⟩
  · exact Or.inl ⟨h2, by rw [e, gd_t isb_1]⟩
  · exact Or.inr ⟨h2, by rw [e, gd_t isb_0]⟩
/-- a row written place by place: what stands below r is right -/
def RSb (n : Nat) (inn : Nat → Int32) (a r : Nat) (S : Pm → Prop) : Prop := ∀ x, Sup n x → rk n x < r → (S x ∧ inn (40320 * a + rk n x) = 1) ∨ (¬ S x ∧ inn (40320 * a + rk n x) = 0)
theorem RSb_0 {inn : Nat → Int32} {a : Nat} {S : Pm → Prop} : RSb n inn a 0 S := fun x _ h => by omega
theorem RSb_s (hn : n ≤ 8) {inn : Nat → Int32} {a r : Nat} {S : Pm → Prop} (h : RSb n inn a r S) {x : Pm} (hx : Sup n x) (hr : rk n x = r) {v : Int32} (hv : (S x ∧ v = 1) ∨ (¬ S x ∧ v = 0)) : RSb n (upd inn (40320 * a + r) v) a (r + 1) S := fun y hy hlt => by
  by_cases e : rk n y = r
  · have : y = x := rk_inj hn hy hx (e.trans hr.symm)
    subst this
    rw [e, pk_us]
    exact hv
  · rw [pk_un (by omega)]
    exact h y hy (by omega)
theorem RSb_end {inn : Nat → Int32} {a : Nat} {S : Pm → Prop} (h : RSb n inn a (fac n) S) : RS n inn a S := fun x hx => h x hx (rk_lt x hx)
theorem clear_LR (hn : n ≤ 8) (hT : Tbl n image) {w : Nat} (hw : w < 13) : ∀ (d r f : Nat) (inn : Nat → Int32), r + d = fac n → d < f → RSb n inn w r (fun x => x = .one) → ∃ i2, mX7_clear_L2 (nI w) (nI (fac n)) f (nI r) inn = some i2 ∧ RS n i2 w (fun x => x = .one) ∧ Off w inn i2
  | 0, r, f, inn, hr, hf, h => by
    obtain ⟨f, rfl⟩ : ∃ g, f = g + 1 := ⟨f - 1, by omega⟩
    have hfac := fac_8 hn
    have : r = fac n := by omega
    subst this
    exact ⟨inn, by rw [mX7_clear_L2_s, if_pos (nI_le (Nat.le_refl _) (by omega))], RSb_end h, Off.refl⟩
  | d + 1, r, f, inn, hr, hf, h => by
    obtain ⟨f, rfl⟩ : ∃ g, f = g + 1 := ⟨f - 1, by omega⟩
    have hfac := fac_8 hn
    obtain ⟨x, hx, hxr⟩ := hT.ex (show r < fac n by omega)
    have hv : (x = .one ∧ vp_nar .boolean (if nI r = 0 then (1 : Int32) else 0) = 1) ∨ (¬ x = .one ∧ vp_nar .boolean (if nI r = 0 then (1 : Int32) else 0) = 0) := by
      by_cases e : r = 0
      · left
        refine ⟨(rk_0 hn hx).mp (hxr.trans e), ?_⟩
        rw [if_pos (by rw [e]; rfl), nar1]
      · right
        refine ⟨fun ex => e (by rw [← hxr, ex, rk_one]), ?_⟩
        rw [if_neg (nI_ne0 (by omega) (by omega)), nar0]
    obtain ⟨i2, e2, h2, o2⟩ := clear_LR hn hT hw d (r + 1) f _ (by omega) (by omega) (RSb_s hn h hx hxr hv)
    refine ⟨i2, ?_, h2, (Off.upd (by omega)).trans o2⟩
    rw [mX7_clear_L2_s, if_neg (nI_ge (by omega) (by omega)), lT_x, ixA, gd_t (inb_n (by omega) (by omega)), cl_n (by omega), lT_x, nI_1]
    exact e2
theorem clearR_is (hF : 50000 ≤ F) (hn : n ≤ 8) (hT : Tbl n image) {w : Nat} (hw : w < 13) (inn : Nat → Int32) : ∃ i2, mX7_clear F (nI (fac n)) inn (nI w) = some i2 ∧ RS n i2 w (fun x => x = .one) ∧ Off w inn i2 := by
  have hfac := fac_8 hn
  obtain ⟨i2, e, h, o⟩ := clear_LR hn hT hw (fac n) 0 F inn (by omega) (by omega) RSb_0
  refine ⟨i2, ?_, h, o⟩
  unfold mX7_clear
  rw [bd_e (show mX7_clear_L2 (nI w) (nI (fac n)) F 0 inn = _ from e)]
theorem copy_L (hn : n ≤ 8) (hT : Tbl n image) {v w : Nat} (hv : v < 13) (hw : w < 13) (hvw : v ≠ w) {S : Pm → Prop} : ∀ (d r f : Nat) (inn : Nat → Int32), r + d = fac n → d < f → RS n inn v S → RSb n inn w r S → ∃ i2, mX7_copy_L2 (nI v) (nI w) (nI (fac n)) f (nI r) inn = some i2 ∧ RS n i2 w S ∧ Off w inn i2
  | 0, r, f, inn, hr, hf, hS, h => by
    obtain ⟨f, rfl⟩ : ∃ g, f = g + 1 := ⟨f - 1, by omega⟩
    have hfac := fac_8 hn
    have : r = fac n := by omega
    subst this
    exact ⟨inn, by rw [mX7_copy_L2_s, if_pos (nI_le (Nat.le_refl _) (by omega))], RSb_end h, Off.refl⟩
  | d + 1, r, f, inn, hr, hf, hS, h => by
    obtain ⟨f, rfl⟩ : ∃ g, f = g + 1 := ⟨f - 1, by omega⟩
    have hfac := fac_8 hn
    obtain ⟨x, hx, hxr⟩ := hT.ex (show r < fac n by omega)
    have hval : (S x ∧ vp_nar .boolean (inn (40320 * v + r)) = 1) ∨ (¬ S x ∧ vp_nar .boolean (inn (40320 * v + r)) = 0) := by
      rcases hS x hx with ⟨a1, a2⟩ | ⟨a1, a2⟩
      · rw [hxr] at a2; exact Or.inl ⟨a1, by rw [a2, nar1]⟩
      · rw [hxr] at a2; exact Or.inr ⟨a1, by rw [a2, nar0]⟩
    obtain ⟨i2, e2, h2, o2⟩ := copy_L hn hT hv hw hvw d (r + 1) f (upd inn (40320 * w + r) (vp_nar .boolean (inn (40320 * v + r)))) (by omega) (by omega) (hS.off hn (Off.upd (by omega)) hvw) (RSb_s hn h hx hxr hval)
    refine ⟨i2, ?_, h2, (Off.upd (by omega)).trans o2⟩
    rw [mX7_copy_L2_s, if_neg (nI_ge (by omega) (by omega)), ixA, ixA, gd_t (inb_n (by omega) (by omega)), gd_t (inb_n (by omega) (by omega)), cl_n (by omega), cl_n (by omega), lT_x, nI_1]
    exact e2
theorem copy_is (hF : 50000 ≤ F) (hn : n ≤ 8) (hT : Tbl n image) {v w : Nat} (hv : v < 13) (hw : w < 13) (hvw : v ≠ w) {S : Pm → Prop} {inn : Nat → Int32} (hS : RS n inn v S) : ∃ i2, mX7_copy F (nI (fac n)) inn (nI v) (nI w) = some i2 ∧ RS n i2 w S ∧ Off w inn i2 := by
  have hfac := fac_8 hn
  obtain ⟨i2, e, h, o⟩ := copy_L hn hT hv hw hvw (fac n) 0 F inn (by omega) (by omega) hS RSb_0
  refine ⟨i2, ?_, h, o⟩
  unfold mX7_copy
  rw [bd_e (show mX7_copy_L2 (nI v) (nI w) (nI (fac n)) F 0 inn = _ from e)]
end RSS
/-! the rows that the reference works with: in, now, makers, makerMany, queue -/
abbrev RW : Type := (Nat → Int32) × (Nat → Int32) × (Nat → Int32) × (Nat → Int32) × (Nat → Int32)
/-- the w-th one holds the group of a list of makers -/
def WG (n w : Nat) (mq : List Pm) (s : RW) : Prop := RS n s.1 w (GL mq) ∧ (∀ k x, mq[k]? = some x → s.2.2.1 (32 * w + k) = nI (rk n x)) ∧ s.2.2.2.1 w = nI mq.length ∧ Ind mq ∧ ∀ x, x ∈ mq → Sup n x
/-- only the w-th one has changed -/
def Kp (w : Nat) (s s2 : RW) : Prop := Off w s.1 s2.1 ∧ (∀ k, (k < 32 * w ∨ 32 * w + 32 ≤ k) → s2.2.2.1 k = s.2.2.1 k) ∧ ∀ k, k ≠ w → s2.2.2.2.1 k = s.2.2.2.1 k
theorem Kp.refl {w : Nat} {s : RW} : Kp w s s := ⟨Off.refl, fun _ _ => rfl, fun _ _ => rfl⟩
theorem Kp.trans {w : Nat} {s s2 s3 : RW} (h : Kp w s s2) (h2 : Kp w s2 s3) : Kp w s s3 := ⟨h.1.trans h2.1, fun k hk => (h2.2.1 k hk).trans (h.2.1 k hk), fun k hk => (h2.2.2 k hk).trans (h.2.2 k hk)⟩
theorem WG.len {n w : Nat} {mq : List Pm} {s : RW} (h : WG n w mq s) : mq.length ≤ 15 := h.2.2.2.1.len
theorem WG.sup {n w : Nat} {mq : List Pm} {s : RW} (h : WG n w mq s) {x : Pm} (hx : GL mq x) : Sup n x := Gen.least (Grp.sup n) h.2.2.2.2 hx
theorem WG.kp {n v w : Nat} {mq : List Pm} {s s2 : RW} (hn : n ≤ 8) (h : WG n v mq s) (hk : Kp w s s2) (hne : v ≠ w) : WG n v mq s2 := by
  have hl := h.len
  obtain ⟨h1, h2, h3, h4, h5⟩ := h
  refine ⟨h1.off hn hk.1 hne, fun k x hx => ?_, by rw [hk.2.2 v hne]; exact h3, h4, h5⟩
  have := (List.getElem?_eq_some_iff.mp hx).1
  rw [hk.2.1 _ (by omega)]
  exact h2 k x hx
section BFS
variable {F n : Nat} {image : Nat → Int32}
theorem begin_is (hF : 50000 ≤ F) (hn : n ≤ 8) (hT : Tbl n image) {w : Nat} (hw : w < 13) (s : RW) : ∃ i2 m2, mX7_begin F (nI (fac n)) s.1 s.2.2.2.1 (nI w) = some (i2, m2) ∧ WG n w [] (i2, s.2.1, s.2.2.1, m2, s.2.2.2.2) ∧ Kp w s (i2, s.2.1, s.2.2.1, m2, s.2.2.2.2) := by
  obtain ⟨i2, e, h, o⟩ := clearR_is hF hn hT hw s.1
  refine ⟨i2, upd s.2.2.2.1 w 0, ?_, ⟨h.congr (fun x _ => (GL_nil x).symm), fun k x hx => by simp at hx, pk_us, Ind_nil, fun x hx => absurd hx List.not_mem_nil⟩, o, fun _ _ => rfl, fun k hk => pk_un hk⟩
  unfold mX7_begin
  rw [bd_e e, gd_t (inb_n hw (by omega)), cl_n (by omega), lT_x]
/-- what the queue holds is what the row has -/
def QU (n w : Nat) (Q : List Pm) (inn queue : Nat → Int32) : Prop := RS n inn w (fun x => x ∈ Q) ∧ (∀ k x, Q[k]? = some x → queue k = nI (rk n x)) ∧ Q.Nodup ∧ ∀ x, x ∈ Q → Sup n x
theorem nd_40320 {Q : List Pm} (h : Q.Nodup) : Q.length ≤ 40320 := Hc.le (P := fun x => x ∈ Q) ⟨Q, h, fun _ => Iff.rfl, rfl⟩ pm_all (fun _ _ => trivial)
theorem nd_snoc {Q : List Pm} (h : Q.Nodup) {x : Pm} (hx : x ∉ Q) : (Q ++ [x]).Nodup := List.pairwise_append.mpr ⟨h, List.pairwise_singleton _ _, fun a ha b hb e => by
  rw [List.mem_singleton] at hb
  subst e
  subst hb
  exact hx ha⟩
theorem QU.snoc (hn : n ≤ 8) {w : Nat} {Q : List Pm} {inn queue : Nat → Int32} (h : QU n w Q inn queue) {x : Pm} (hx : Sup n x) (hq : x ∉ Q) : QU n w (Q ++ [x]) (upd inn (40320 * w + rk n x) 1) (upd queue Q.length (nI (rk n x))) := by
  obtain ⟨h1, h2, h3, h4⟩ := h
  refine ⟨fun y hy => ?_, fun k y hy => ?_, nd_snoc h3 hq, fun y hy => ?_⟩
  · by_cases e : y = x
    · subst e
      exact Or.inl ⟨List.mem_append.mpr (Or.inr (List.mem_singleton.mpr rfl)), pk_us⟩
    · have hne : rk n y ≠ rk n x := fun e2 => e (rk_inj hn hy hx e2)
      dsimp only
      rw [pk_un (by omega), List.mem_append, List.mem_singleton]
      rcases h1 y hy with ⟨a1, a2⟩ | ⟨a1, a2⟩
      · exact Or.inl ⟨Or.inl a1, a2⟩
      · exact Or.inr ⟨fun h => h.elim a1 e, a2⟩
  · by_cases hk : k < Q.length
    · rw [List.getElem?_append_left hk] at hy
      rw [pk_un (by omega)]
      exact h2 k y hy
    · have hk2 : k = Q.length := by
        have := (List.getElem?_eq_some_iff.mp hy).1
        rw [List.length_append, List.length_singleton] at this
        omega
      subst hk2
      rw [List.getElem?_append_right (Nat.le_refl _), Nat.sub_self] at hy
      have : y = x := by simpa using hy.symm
      subst this
      exact pk_us
  · rw [List.mem_append, List.mem_singleton] at hy
    rcases hy with hy | hy
    · exact h4 y hy
    · rw [hy]; exact hx
theorem bfs_in (hF : 50000 ≤ F) (hn : n ≤ 8) (hT : Tbl n image) {w : Nat} (hw : w < 13) {mr : List Pm} {makers makerMany : Nat → Int32} (hm : ∀ k x, mr[k]? = some x → makers (32 * w + k) = nI (rk n x)) (hc : makerMany w = nI mr.length) (hl : mr.length ≤ 15) (hs : ∀ x, x ∈ mr → Sup n x) {at0 : Nat} {q : Pm} : ∀ (d k f : Nat) (Q : List Pm) (inn now queue : Nat → Int32), k + d = mr.length → d < f → QU n w Q inn queue → Q[at0]? = some q → (∀ x, x ∈ Q → GL mr x) → ∃ Q2 i2 n2 q2, mX7_join_L63 F (nI w) (nI at0) (nI n) image makers makerMany f (nI Q.length) (nI k) inn now queue = some (nI Q2.length, i2, n2, q2) ∧ QU n w Q2 i2 q2 ∧ (∃ more, Q2 = Q ++ more) ∧ (∀ x, x ∈ Q2 → GL mr x) ∧ (∀ z, Fr mr k z → q.th z ∈ Q2) ∧ Off w inn i2
  | 0, k, f, Q, inn, now, queue, hk, hf, hQ, hq, hG => by
    obtain ⟨f, rfl⟩ : ∃ g, f = g + 1 := ⟨f - 1, by omega⟩
    exact ⟨Q, inn, now, queue, by rw [mX7_join_L63_s, gd_t (inb_n hw (by omega)), cl_n (by omega), hc, if_pos (nI_le (by omega) (by omega))], hQ, ⟨[], (List.append_nil _).symm⟩, hG, fun z hz => absurd hz (Fr_end (by omega)), Off.refl⟩
  | d + 1, k, f, Q, inn, now, queue, hk, hf, hQ, hq, hG => by
    obtain ⟨f, rfl⟩ : ∃ g, f = g + 1 := ⟨f - 1, by omega⟩
    obtain ⟨z, hz⟩ : ∃ z, mr[k]? = some z := ⟨mr[k]'(by omega), List.getElem?_eq_getElem (by omega)⟩
    have hzs := hs z (List.mem_of_getElem? hz)
    have hqs := hQ.2.2.2 q (List.mem_of_getElem? hq)
    have hat := (List.getElem?_eq_some_iff.mp hq).1
    have hQl := nd_40320 hQ.2.2.1
    have hx := hqs.th hzs
    have hxr := rk_31 hn hx
    obtain ⟨now1, e1⟩ := oneThen_is hF hT hn hqs hzs now
    have hne : ∀ (A B : Option (Int32 × (Nat → Int32) × (Nat → Int32) × (Nat → Int32))), (if makerMany w ≤ nI k then A else B) = B := fun A B => by rw [hc, if_neg (nI_ge (by omega) (by omega))]
    rw [mX7_join_L63_s, gd_t (inb_n hw (by omega)), cl_n (by omega), hne, gd_t (inb_n (by omega) (by omega)), ixM, gd_t (inb_n (by omega) (by omega)), cl_n (by omega), cl_n (by omega), hQ.2.1 at0 q hq, hm k z hz, bd2_e e1, nI_1 k]
    rcases has_is hn hQ.1 hw hx with ⟨hin, e2⟩ | ⟨hout, e2⟩
    · rw [bd_e e2, if_neg (by decide), bd3_e rfl]
      obtain ⟨Q2, i2, n2, q2, e3, b1, b2, b3, b4, b5⟩ := bfs_in hF hn hT hw hm hc hl hs d (k + 1) f Q inn now1 queue (by omega) (by omega) hQ hq hG
      refine ⟨Q2, i2, n2, q2, e3, b1, b2, b3, fun y hy => ?_, b5⟩
      rcases (Fr_s hz).mp hy with rfl | hy
      · obtain ⟨more, e⟩ := b2
        rw [e]
        exact List.mem_append.mpr (Or.inl hin)
      · exact b4 y hy
    · have hQ2 := hQ.snoc hn hx hout
      have hQl2 := nd_40320 hQ2.2.2.1
      rw [List.length_append, List.length_singleton] at hQl2
      rw [bd_e e2, if_pos rfl, ixA, gd_t (inb_n (by omega) (by omega)), cl_n (by omega), lT_x, gd_t (inb_n (by omega) (by omega)), cl_n (by omega), lT_x, bd3_e rfl, nI_1, nar1]
      obtain ⟨Q2, i2, n2, q2, e3, b1, b2, b3, b4, b5⟩ := bfs_in hF hn hT hw hm hc hl hs d (k + 1) f (Q ++ [q.th z]) _ now1 _ (by omega) (by omega) hQ2 (by rw [List.getElem?_append_left hat]; exact hq) (fun x hx' => by
        rw [List.mem_append, List.mem_singleton] at hx'
        rcases hx' with hx' | hx'
        · exact hG x hx'
        · rw [hx']; exact (GL.grp mr).2.1 _ _ (hG q (List.mem_of_getElem? hq)) (GL.of (List.mem_of_getElem? hz)))
      rw [List.length_append, List.length_singleton] at e3
      obtain ⟨more, e⟩ := b2
      refine ⟨Q2, i2, n2, q2, e3, b1, ⟨[q.th z] ++ more, by rw [e, List.append_assoc]⟩, b3, fun y hy => ?_, (Off.upd (by omega)).trans b5⟩
      rcases (Fr_s hz).mp hy with rfl | hy
      · rw [e]
        exact List.mem_append.mpr (Or.inl (List.mem_append.mpr (Or.inr (List.mem_singleton.mpr rfl))))
      · exact b4 y hy
theorem bfs_out (hF : 50000 ≤ F) (hn : n ≤ 8) (hT : Tbl n image) {w : Nat} (hw : w < 13) {mr : List Pm} {makers makerMany : Nat → Int32} (hm : ∀ k x, mr[k]? = some x → makers (32 * w + k) = nI (rk n x)) (hc : makerMany w = nI mr.length) (hl : mr.length ≤ 15) (hs : ∀ x, x ∈ mr → Sup n x) : ∀ (d i f : Nat) (Q : List Pm) (inn now queue : Nat → Int32), i + d = 40320 → d < f → QU n w Q inn queue → .one ∈ Q → (∀ x, x ∈ Q → GL mr x) → (∀ j x z, j < i → Q[j]? = some x → z ∈ mr → x.th z ∈ Q) → ∃ i2 n2 q2, mX7_join_L54 F (nI w) (nI n) image makers makerMany f (nI Q.length) (nI i) inn now queue = some (i2, n2, q2) ∧ RS n i2 w (GL mr) ∧ Off w inn i2
  | 0, i, f, Q, inn, now, queue, hi, hf, hQ, h1, hG, hd => by
    obtain ⟨f, rfl⟩ : ∃ g, f = g + 1 := ⟨f - 1, by omega⟩
    have hQl := nd_40320 hQ.2.2.1
    refine ⟨inn, now, queue, by rw [mX7_join_L54_s, if_pos (nI_le (by omega) (by omega))], hQ.1.congr (fun x _ => ⟨hG x, fun hx => ?_⟩), Off.refl⟩
    refine Gen.right h1 (fun a z ha hz => ?_) hx
    obtain ⟨j, hj⟩ := List.getElem?_of_mem ha
    exact hd j a z (by have := (List.getElem?_eq_some_iff.mp hj).1; omega) hj hz
  | d + 1, i, f, Q, inn, now, queue, hi, hf, hQ, h1, hG, hd => by
    obtain ⟨f, rfl⟩ : ∃ g, f = g + 1 := ⟨f - 1, by omega⟩
    have hQl := nd_40320 hQ.2.2.1
    rcases get_or Q i with hge | ⟨q, hlt, hq⟩
    · refine ⟨inn, now, queue, by rw [mX7_join_L54_s, if_pos (nI_le hge (by omega))], hQ.1.congr (fun x _ => ⟨hG x, fun hx => ?_⟩), Off.refl⟩
      refine Gen.right h1 (fun a z ha hz => ?_) hx
      obtain ⟨j, hj⟩ := List.getElem?_of_mem ha
      exact hd j a z (by have := (List.getElem?_eq_some_iff.mp hj).1; omega) hj hz
    · obtain ⟨Q2, i2, n2, q2, e3, b1, ⟨more, b2⟩, b3, b4, b5⟩ := bfs_in hF hn hT hw hm hc hl hs mr.length 0 F Q inn now queue (by omega) (by omega) hQ hq hG
      obtain ⟨i3, n3, q3, e4, c1, c2⟩ := bfs_out hF hn hT hw hm hc hl hs d (i + 1) f Q2 i2 n2 q2 (by omega) (by omega) b1 (by rw [b2]; exact List.mem_append.mpr (Or.inl h1)) b3 (fun j x z hj hx hz => by
        by_cases e : j = i
        · subst e
          rw [b2, List.getElem?_append_left hlt, hq] at hx
          cases hx
          exact b4 z (Fr_0.mpr hz)
        · rw [b2, List.getElem?_append_left (by omega)] at hx
          rw [b2]
          exact List.mem_append.mpr (Or.inl (hd j x z (by omega) hx hz)))
      refine ⟨i3, n3, q3, ?_, c1, b5.trans c2⟩
      rw [mX7_join_L54_s, if_neg (nI_ge hlt (by omega)), bd4_e (show mX7_join_L63 F (nI w) (nI i) (nI n) image makers makerMany F (nI Q.length) 0 inn now queue = _ from e3), nI_1]
      exact e4
theorem joinR_is (hF : 50000 ≤ F) (hn : n ≤ 8) (hT : Tbl n image) {w : Nat} (hw : w < 13) {mq : List Pm} {s : RW} (h : WG n w mq s) {t : Pm} (ht : Sup n t) : ∃ s2, mX7_join F (nI n) (nI (fac n)) image s.1 s.2.1 s.2.2.1 s.2.2.2.1 s.2.2.2.2 (nI w) (nI (rk n t)) = some s2 ∧ WG n w (jn mq t) s2 ∧ Kp w s s2 := by
  have hl := h.len
  obtain ⟨inn, now, makers, makerMany, queue⟩ := s
  obtain ⟨h1, h2, h3, h4, h5⟩ := h
  dsimp only at h1 h2 h3 ⊢
  unfold mX7_join
  rcases has_is hn h1 hw ht with ⟨hin, e⟩ | ⟨hout, e⟩
  · refine ⟨(inn, now, makers, makerMany, queue), by rw [bd_e e, if_neg (by decide)], ?_, Kp.refl⟩
    rw [jn_in hin]
    exact ⟨h1, h2, h3, h4, h5⟩
  · have hI := h4.snoc hout
    have hl2 := hI.len
    rw [List.length_append, List.length_singleton] at hl2
    obtain ⟨i1, e1, c1, o1⟩ := clearR_is hF hn hT hw inn
    have hQ : QU n w [Pm.one] i1 (upd queue 0 0) := ⟨c1.congr (fun x _ => List.mem_singleton.symm), fun k x hx => by
      have hk : k = 0 := by
        have := (List.getElem?_eq_some_iff.mp hx).1
        rw [List.length_singleton] at this
        omega
      subst hk
      have : x = .one := by simpa using hx.symm
      rw [this, rk_one, pk_us]; rfl, List.pairwise_singleton _ _, fun x hx => by rw [List.mem_singleton] at hx; rw [hx]; exact Sup.one n⟩
    have hm2 : ∀ k x, (mq ++ [t])[k]? = some x → upd makers (32 * w + mq.length) (nI (rk n t)) (32 * w + k) = nI (rk n x) := fun k x hx => by
      by_cases hk : k < mq.length
      · rw [List.getElem?_append_left hk] at hx
        rw [pk_un (by omega)]
        exact h2 k x hx
      · have hk2 : k = mq.length := by
          have := (List.getElem?_eq_some_iff.mp hx).1
          rw [List.length_append, List.length_singleton] at this
          omega
        subst hk2
        rw [List.getElem?_append_right (Nat.le_refl _), Nat.sub_self] at hx
        have : x = t := by simpa using hx.symm
        subst this
        exact pk_us
    have hc2 : upd makerMany w (nI (mq.length + 1)) w = nI (mq ++ [t]).length := by rw [pk_us, List.length_append]; rfl
    have hs2 : ∀ x, x ∈ mq ++ [t] → Sup n x := fun x hx => by
      rw [List.mem_append, List.mem_singleton] at hx
      rcases hx with hx | hx
      · exact h5 x hx
      · rw [hx]; exact ht
    obtain ⟨i2, n2, q2, e2, b1, b2⟩ := bfs_out hF hn hT hw hm2 hc2 (by rw [List.length_append, List.length_singleton]; omega) hs2 40320 0 F [Pm.one] i1 now (upd queue 0 0) (by omega) (by omega) hQ (List.mem_singleton.mpr rfl) (fun x hx => by rw [List.mem_singleton] at hx; rw [hx]; exact (GL.grp _).1) (fun j x z hj => by omega)
    refine ⟨(i2, n2, upd makers (32 * w + mq.length) (nI (rk n t)), upd makerMany w (nI (mq.length + 1)), q2), ?_, ?_, o1.trans b2, fun k hk => pk_un (by omega), fun k hk => pk_un hk⟩
    · rw [bd_e e, if_pos rfl, gd_t (inb_n hw (by omega)), cl_n (by omega), h3, ixM, gd_t (inb_n (by omega) (by omega)), cl_n (by omega), lT_x, gd_t (inb_n hw (by omega)), gd_t (inb_n hw (by omega)), lT_x, bd_e e1, gd_t (by decide), lT_x, nI_1, bd3_e (show mX7_join_L54 F (nI w) (nI n) image _ _ F 1 0 i1 now (upd queue (Int32.toNatClampNeg 0) 0) = _ from e2)]
    · rw [jn_out hout]
      exact ⟨b1, hm2, hc2, hI, hs2⟩
end BFS
