/-! ===== made ===== -/
section MDR
variable {F n : Nat} {image : Nat → Int32}
/-- the makers in the reference's row 10: a list that need not be new each -/
def Mkr (n : Nat) (um : List Pm) (makers makerMany : Nat → Int32) : Prop := (∀ k x, um[k]? = some x → makers (32 * 10 + k) = nI (rk n x)) ∧ makerMany 10 = nI um.length ∧ um.length ≤ 15 ∧ ∀ x, x ∈ um → Sup n x
theorem besideR_L (hF : 50000 ≤ F) (hn : n ≤ 8) (hT : Tbl n image) {um : List Pm} {makers makerMany : Nat → Int32} (hu : Mkr n um makers makerMany) {x : Pm} (hx : Sup n x) : ∀ (d k f : Nat) (b : Int32) (now : Nat → Int32), k + d = um.length → d < f → (b = 1 ∨ b = 0) → ∃ v now2, mX7_made_L160 F (nI (rk n x)) (nI n) image makers makerMany f b (nI k) now = some (v, now2) ∧ (((b = 1 ∧ ∀ y, Fr um k y → x.th y = y.th x) ∧ v = 1) ∨ (¬ (b = 1 ∧ ∀ y, Fr um k y → x.th y = y.th x) ∧ v = 0))
  | 0, k, f, b, now, hk, hf, hb => by
    obtain ⟨f, rfl⟩ : ∃ g, f = g + 1 := ⟨f - 1, by omega⟩
    have hl := hu.2.2.1
    refine ⟨b, now, by rw [mX7_made_L160_s, gd_t (by decide), show (Int32.toNatClampNeg 10) = 10 from rfl, hu.2.1, if_pos (nI_le (by omega) (by omega))], ?_⟩
    rcases hb with rfl | rfl
    · exact Or.inl ⟨⟨rfl, fun y hy => absurd hy (Fr_end (by omega))⟩, rfl⟩
    · exact Or.inr ⟨fun h => absurd h.1 (by decide), rfl⟩
  | d + 1, k, f, b, now, hk, hf, hb => by
    obtain ⟨f, rfl⟩ : ∃ g, f = g + 1 := ⟨f - 1, by omega⟩
    have hl := hu.2.2.1
    have hne : ∀ A B : Option (Int32 × (Nat → Int32)), (if makerMany 10 ≤ nI k then A else B) = B := fun A B => by rw [hu.2.1, if_neg (nI_ge (by omega) (by omega))]
    rw [mX7_made_L160_s, gd_t (by decide), show (Int32.toNatClampNeg 10) = 10 from rfl, hne]
    rcases hb with rfl | rfl
    · obtain ⟨y, hy⟩ : ∃ y, um[k]? = some y := ⟨um[k]'(by omega), List.getElem?_eq_getElem (by omega)⟩
      have hys := hu.2.2.2 y (List.mem_of_getElem? hy)
      obtain ⟨o1, e1⟩ := oneThen_is hF hT hn hx hys now
      obtain ⟨o2, e2⟩ := oneThen_is hF hT hn hys hx o1
      have r1 := rk_31 hn (hx.th hys)
      have r2 := rk_31 hn (hys.th hx)
      rw [if_neg one0, ix320, gd_t (inb_n (by omega) (by omega)), cl_n (by omega), hu.1 k y hy, lT_x, bd2_e e1, bd2_e e2, lT_x, nI_1]
      by_cases hc : x.th y = y.th x
      · rw [if_pos (by rw [hc])]
        obtain ⟨v, now2, e, h⟩ := besideR_L hF hn hT hu hx d (k + 1) f 1 o2 (by omega) (by omega) (Or.inl rfl)
        refine ⟨v, now2, e, ?_⟩
        have hiff : ((1 : Int32) = 1 ∧ ∀ y, Fr um k y → x.th y = y.th x) ↔ ((1 : Int32) = 1 ∧ ∀ y, Fr um (k + 1) y → x.th y = y.th x) := ⟨fun h => ⟨rfl, fun z hz => h.2 z ((Fr_s hy).mpr (Or.inr hz))⟩, fun h => ⟨rfl, fun z hz => ((Fr_s hy).mp hz).elim (fun e => e ▸ hc) (h.2 z)⟩⟩
        rw [hiff]; exact h
      · have hne2 : ¬ nI (rk n (x.th y)) = nI (rk n (y.th x)) := fun e => hc (rk_inj hn (hx.th hys) (hys.th hx) ((nI_eq (by omega) (by omega)).mp e))
        rw [if_neg hne2]
        obtain ⟨v, now2, e, h⟩ := besideR_L hF hn hT hu hx d (k + 1) f 0 o2 (by omega) (by omega) (Or.inr rfl)
        refine ⟨v, now2, e, Or.inr ⟨fun h => hc (h.2 y ((Fr_s hy).mpr (Or.inl rfl))), ?_⟩⟩
        rcases h with ⟨h, -⟩ | ⟨-, h⟩
        · exact absurd h.1 (by decide)
        · exact h
    · rw [if_pos zer0]
      exact ⟨0, now, rfl, Or.inr ⟨fun h => absurd h.1 (by decide), rfl⟩⟩
/-- BESIDE and CENTRE in the reference -/
theorem madeR_L (hF : 50000 ≤ F) (hn : n ≤ 8) (hT : Tbl n image) {um : List Pm} {makers makerMany : Nat → Int32} (hu : Mkr n um makers makerMany) {a w : Nat} (ha : a < 10) (hw : w ≠ 2) (hw3 : w < 4) (turn : Int32) {S : Pm → Prop} (hS1 : S .one) : ∀ (d r f : Nat) (inn now : Nat → Int32), r + d = fac n → d < f → RS n inn a S → RSb n inn 12 r (fun x => S x ∧ ∀ y, y ∈ um → x.th y = y.th x) → (∀ x, Sup n x → r ≤ rk n x → inn (40320 * 12 + rk n x) = if rk n x = 0 then 1 else 0) → ∃ i2 now2, mX7_made_L102 F (nI w) (nI a) (nI n) (nI (fac n)) image turn makers makerMany f (nI r) inn now = some (i2, now2) ∧ RS n i2 12 (fun x => S x ∧ ∀ y, y ∈ um → x.th y = y.th x) ∧ Off 12 inn i2
  | 0, r, f, inn, now, hr, hf, hS, h, h0 => by
    obtain ⟨f, rfl⟩ : ∃ g, f = g + 1 := ⟨f - 1, by omega⟩
    have hfac := fac_8 hn
    have : r = fac n := by omega
    subst this
    exact ⟨inn, now, by rw [mX7_made_L102_s, if_pos (nI_le (Nat.le_refl _) (by omega))], RSb_end h, Off.refl⟩
  | d + 1, r, f, inn, now, hr, hf, hS, h, h0 => by
    obtain ⟨f, rfl⟩ : ∃ g, f = g + 1 := ⟨f - 1, by omega⟩
    have hfac := fac_8 hn
    have hl := hu.2.2.1
    obtain ⟨x, hx, hxr⟩ := hT.ex (show r < fac n by omega)
    rw [mX7_made_L102_s, if_neg (nI_ge (by omega) (by omega)), nI_1]
    rcases has_is hn hS (by omega) hx with ⟨hin, e⟩ | ⟨hout, e⟩
    · rw [hxr] at e
      obtain ⟨v, now1, e1, hv⟩ := besideR_L hF hn hT hu hx um.length 0 F 1 now (by omega) (by omega) (Or.inl rfl)
      rw [hxr] at e1
      have hval : ((S x ∧ ∀ y, y ∈ um → x.th y = y.th x) ∧ vp_nar .boolean v = 1) ∨ (¬ (S x ∧ ∀ y, y ∈ um → x.th y = y.th x) ∧ vp_nar .boolean v = 0) := by
        rcases hv with ⟨⟨_, hv⟩, rfl⟩ | ⟨hv, rfl⟩
        · exact Or.inl ⟨⟨hin, fun y hy => hv y (Fr_0.mpr hy)⟩, nar1⟩
        · exact Or.inr ⟨fun h => hv ⟨rfl, fun y hy => h.2 y (Fr_0.mp hy)⟩, nar0⟩
      have hw2 : ¬ nI w = (2 : Int32) := fun e => hw ((nI_eq (b := 2) (by omega) (by omega)).mp e)
      obtain ⟨i2, now2, e2, h2, o2⟩ := madeR_L hF hn hT hu ha hw hw3 turn hS1 d (r + 1) f (upd inn (40320 * 12 + r) (vp_nar .boolean v)) now1 (by omega) (by omega) (hS.off hn (Off.upd (by omega)) (by omega)) (RSb_s hn h hx hxr hval) (fun y hy hle => by rw [pk_un (by omega)]; exact h0 y hy (by omega))
      refine ⟨i2, now2, ?_, h2, (Off.upd (by omega)).trans o2⟩
      rw [bd_e e, if_neg one0, if_neg hw2, bd_e e, if_neg one0, bd2_e (show mX7_made_L160 F (nI r) (nI n) image makers makerMany F 1 0 now = _ from e1), ix483, gd_t (inb_n (by omega) (by omega)), cl_n (by omega), lT_x, bd2_e rfl]
      exact e2
    · rw [hxr] at e
      have hxn : rk n x ≠ 0 := fun e0 => hout ((rk_0 hn hx).mp e0 ▸ hS1)
      have hcell := h0 x hx (by omega)
      rw [if_neg hxn] at hcell
      obtain ⟨i2, now2, e2, h2, o2⟩ := madeR_L hF hn hT hu ha hw hw3 turn hS1 d (r + 1) f inn now (by omega) (by omega) hS (fun y hy hlt => by
        by_cases ey : rk n y = r
        · have := rk_inj hn hy hx (ey.trans hxr.symm)
          subst this
          exact Or.inr ⟨fun h => hout h.1, hcell⟩
        · exact h y hy (by omega)) (fun y hy hle => h0 y hy (by omega))
      refine ⟨i2, now2, ?_, h2, o2⟩
      rw [bd_e e, if_pos zer0, bd_e e, if_pos zer0, bd2_e rfl]
      exact e2
/-- CARRIED in the reference -/
theorem carrR_L (hF : 50000 ≤ F) (hn : n ≤ 8) (hT : Tbl n image) {makers makerMany : Nat → Int32} {a : Nat} (ha : a < 10) {c : Pm} (hc : Sup n c) {S : Pm → Prop} : ∀ (d r f : Nat) (inn now : Nat → Int32), r + d = fac n → d < f → RS n inn a S → RS n inn 12 (fun x => x = .one ∨ ∃ y, Sup n y ∧ S y ∧ rk n y < r ∧ x = y.cj c) → ∃ i2 now2, mX7_made_L102 F (nI 2) (nI a) (nI n) (nI (fac n)) image (nI (rk n c)) makers makerMany f (nI r) inn now = some (i2, now2) ∧ RS n i2 12 (fun x => x = .one ∨ ∃ y, Sup n y ∧ S y ∧ x = y.cj c) ∧ Off 12 inn i2
  | 0, r, f, inn, now, hr, hf, hS, h => by
    obtain ⟨f, rfl⟩ : ∃ g, f = g + 1 := ⟨f - 1, by omega⟩
    have hfac := fac_8 hn
    have : r = fac n := by omega
    subst this
    refine ⟨inn, now, by rw [mX7_made_L102_s, if_pos (nI_le (Nat.le_refl _) (by omega))], h.congr (fun x _ => ?_), Off.refl⟩
    exact ⟨fun h => h.imp id (fun ⟨y, h1, h2, _, h3⟩ => ⟨y, h1, h2, h3⟩), fun h => h.imp id (fun ⟨y, h1, h2, h3⟩ => ⟨y, h1, h2, rk_lt y h1, h3⟩)⟩
  | d + 1, r, f, inn, now, hr, hf, hS, h => by
    obtain ⟨f, rfl⟩ : ∃ g, f = g + 1 := ⟨f - 1, by omega⟩
    have hfac := fac_8 hn
    obtain ⟨x, hx, hxr⟩ := hT.ex (show r < fac n by omega)
    rw [mX7_made_L102_s, if_neg (nI_ge (by omega) (by omega)), nI_1]
    rcases has_is hn hS (by omega) hx with ⟨hin, e⟩ | ⟨hout, e⟩
    · obtain ⟨o1, e1⟩ := carriedR_is hF hT hn hx hc now
      have hxc := hx.cj hc
      have hrc := rk_31 hn hxc
      rw [hxr] at e e1
      obtain ⟨i2, now2, e2, h2, o2⟩ := carrR_L hF hn hT ha hc d (r + 1) f (upd inn (40320 * 12 + rk n (x.cj c)) 1) o1 (by omega) (by omega) (hS.off hn (Off.upd (by omega)) (by omega)) (fun y hy => by
        by_cases ey : y = x.cj c
        · subst ey
          exact Or.inl ⟨Or.inr ⟨x, hx, hin, by omega, rfl⟩, pk_us⟩
        · have hne : rk n y ≠ rk n (x.cj c) := fun e => ey (rk_inj hn hy hxc e)
          rw [pk_un (by omega)]
          rcases h y hy with ⟨h1, h3⟩ | ⟨h1, h3⟩
          · exact Or.inl ⟨h1.imp id (fun ⟨u, k1, k2, k3, k4⟩ => ⟨u, k1, k2, by omega, k4⟩), h3⟩
          · refine Or.inr ⟨fun hh => h1 (hh.imp id (fun ⟨u, k1, k2, k3, k4⟩ => ?_)), h3⟩
            by_cases eu : rk n u = r
            · have := rk_inj hn k1 hx (eu.trans hxr.symm)
              subst this
              exact absurd k4 ey
            · exact ⟨u, k1, k2, by omega, k4⟩)
      refine ⟨i2, now2, ?_, h2, (Off.upd (by omega)).trans o2⟩
      rw [bd_e e, if_neg one0, if_pos (show nI 2 = (2 : Int32) from rfl), bd2_e e1, ix483, gd_t (inb_n (by omega) (by omega)), cl_n (by omega), lT_x, bd2_e rfl, nar1]
      exact e2
    · rw [hxr] at e
      obtain ⟨i2, now2, e2, h2, o2⟩ := carrR_L hF hn hT ha hc d (r + 1) f inn now (by omega) (by omega) hS (h.congr (fun y hy => by
        constructor
        · exact fun h => h.imp id (fun ⟨u, k1, k2, k3, k4⟩ => ⟨u, k1, k2, by omega, k4⟩)
        · refine fun h => h.imp id (fun ⟨u, k1, k2, k3, k4⟩ => ?_)
          by_cases eu : rk n u = r
          · exact absurd (rk_inj hn k1 hx (eu.trans hxr.symm) ▸ k2) hout
          · exact ⟨u, k1, k2, by omega, k4⟩))
      refine ⟨i2, now2, ?_, h2, o2⟩
      rw [bd_e e, if_pos zer0, bd_e e, if_pos zer0, bd2_e rfl]
      exact e2
end MDR
section MDC
variable {F : Nat} {shelf : Nat → Int32} {np ng cur : Int32} {tw : Nat → TW} {rn rmany : Int32} {image : Nat → Int32} {rturn : Int32} {rshelf : Nat → Int32} {rgroups : Int32} {inn : Nat → Int32}
theorem n31 : ¬ nI 3 = (1 : Int32) := by decide
theorem n30 : ¬ nI 3 = (0 : Int32) := by decide
theorem n32 : ¬ nI 3 = (2 : Int32) := by decide
theorem n33 : nI 3 = (3 : Int32) := by decide
theorem n03 : ¬ nI 0 = (3 : Int32) := by decide
theorem n13 : ¬ nI 1 = (3 : Int32) := by decide
theorem n23 : ¬ nI 2 = (3 : Int32) := by decide
theorem n22 : nI 2 = (2 : Int32) := by decide
theorem cl0 : Int32.toNatClampNeg 0 = 0 := rfl
theorem clear12 {n : Nat} (hn : n ≤ 8) {i3 : Nat → Int32} (h : RS n i3 12 (fun x => x = .one)) : ∀ x, Sup n x → i3 (40320 * 12 + rk n x) = if rk n x = 0 then 1 else 0 := fun x hx => by
  rcases h x hx with ⟨h1, e⟩ | ⟨h1, e⟩
  · rw [e, if_pos ((rk_0 hn hx).mpr h1)]
  · rw [e, if_neg (fun e0 => h1 ((rk_0 hn hx).mp e0))]
theorem call_made (hF : 50000 ≤ F) (h : Rl shelf np ng cur tw rn rmany image rturn rshelf rgroups inn) (now makers makerMany queue : Nat → Int32) (w y : Int32) : ∃ (v g1 : Int32) (tw1 : Nat → TW) (g2 : Int32) (s2 : RW), mX6_made F ng cur tw w y = some (v, g1, tw1) ∧ mX7_made F rn rmany image rturn rgroups inn now makers makerMany queue w y = some (v, g2, s2) ∧ Rl shelf np g1 cur tw1 rn rmany image rturn rshelf g2 s2.1 := by
  have h0 := h
  obtain ⟨n, g, c, sh, GS, hA⟩ := h
  have hA' := hA
  obtain ⟨⟨⟨a0, a1⟩, a2, a3, a4, a5⟩, ⟨b1, b2, b3, b4, b5⟩, c1, c2, c3, c4, c5, c6, c7⟩ := hA
  subst b1 b2 b3 c1 c2 c4 c6
  have hfac := fac_8 a1
  unfold mX6_made mX7_made
  rcases way_arg (m := 4) (by omega) (by omega) w with ⟨⟨j, hj, rfl⟩, w1, w2, w3⟩ | ⟨w1, w2⟩
  · have w3' : mX7_isIn (nI j) 0 3 = 1 := w3
    have w2' : ¬ (3 : Int32) < nI j := w2
    rcases grp_arg a2 y with ⟨⟨a, ha, rfl⟩, e1, e2⟩ | ⟨e1, e2⟩
    · rcases full_is a2 with ⟨hg, e5, e6⟩ | ⟨hg, e5, e6⟩
      · obtain ⟨mqa, hTa, hGa⟩ := b5 a ha
        have ca : (nI a).toNatClampNeg = a := cl_n (by omega)
        have cg : (nI g).toNatClampNeg = g := cl_n (by omega)
        have ia : inb (nI a) 10 = true := inb_n (by omega) (by omega)
        have ig : inb (nI g) 10 = true := inb_n (by omega) (by omega)
        have na : neb g a = true := neb_t (by omega)
        have n10' : neb g 10 = true := neb_t (by omega)
        have i02 : inb 0 2 = true := by decide
        rw [if_neg w1, if_neg w2', e1, if_neg one0, e5, if_pos zer0, gd_t ig, w3', if_neg one0, bd_e e2, if_neg one0, if_neg e6, ca, cg, cl0, Nat.add_zero]
        rcases (show j = 0 ∨ j = 1 ∨ j = 2 ∨ j = 3 by omega) with rfl | rfl | rfl | rfl
        · -- BESIDE
          obtain ⟨r1, f1, k1⟩ := clear_is hF (tw 10).1 (tw 10).2.1 (tw 10).2.2.1 (tw 10).2.2.2.1 (tw 10).2.2.2.2.1 (tw 10).2.2.2.2.2.1 (tw 10).2.2.2.2.2.2
          obtain ⟨zz, ⟨x1, x2, x3, x4, x5, x6, x7⟩, f2, k2, -⟩ := join_is k1 hF c
          obtain ⟨⟨d1, d2, d3, d4, d5, d6, d7⟩, mr, f3, h3, g3⟩ := gather_is hTa hF (wish1 k2.row hF 0 0 x2 x3) whole1 ((GL.grp mqa).and (grp1 _)) (tw g)
          obtain ⟨i1, m1, f4, k4, p4⟩ := begin_is hF a1 c3 (w := 10) (by omega) (inn, now, makers, makerMany, queue)
          have q4 := p4.kq a1 (Or.inl rfl)
          obtain ⟨i5, f5, k5, o5⟩ := clearR_is hF a1 c3 (w := 12) (by omega) i1
          have hmk : Mkr n [c] (upd makers 320 (nI (rk n c))) (upd m1 10 1) := ⟨fun k x hx => by
            have hk : k = 0 := by
              have := (List.getElem?_eq_some_iff.mp hx).1
              rw [List.length_singleton] at this
              omega
            subst hk
            have : x = c := by simpa using hx.symm
            subst this
            exact pk_us, pk_us, by rw [List.length_singleton]; omega, fun x hx => by rw [List.mem_singleton] at hx; rw [hx]; exact a3⟩
          have hS5 : RS n i5 a (GS a) := (q4 a _ (by omega) (by omega) (c7 a ha)).off a1 o5 (by omega)
          obtain ⟨i6, n6, f6, k6, o6⟩ := madeR_L hF a1 c3 hmk (a := a) (w := 0) (by omega) (by omega) (by omega) (nI (rk n c)) (a5 a ha).1.1 (fac n) 0 F i5 now (by omega) (by omega) hS5 RSb_0 (fun x hx _ => clear12 a1 k5 x hx)
          obtain ⟨i7, f7, k7, o7⟩ := newGroup_cp (g := g) hF a1 c3 (v := 12) (by omega) hg (by omega) k6
          have hset : ∀ x, GL mr x ↔ (GS a x ∧ ∀ y, y ∈ [c] → x.th y = y.th x) := fun x => by
            rw [g3, hGa]
            refine and_congr_right (fun _ => ⟨fun hh y hy => ?_, fun hh y hy => ?_⟩)
            · rw [List.mem_singleton] at hy
              subst hy
              exact comm_gen hh (GL_jn_self [] y)
            · have : y = c := by
                rcases jn_mem hy with hy | hy
                · exact absurd hy List.not_mem_nil
                · exact hy
              subst this
              exact hh y (List.mem_singleton.mpr rfl)
          refine ⟨nI g, nI (g + 1), upT (upT (upT tw 10 ((tw 10).1, (tw 10).2.1, r1, (tw 10).2.2.2.1, 0, (tw 10).2.2.2.2.2.1, 0)) 10 (x1, x2, x3, x4, x5, x6, x7)) g (d1, d2, d3, d4, d5, d6, d7), nI (g + 1), (i7, n6, upd makers 320 (nI (rk n c)), upd m1 10 1, queue), ?_, ?_, hA'.push hg (Grp.congr hset (GL.grp mr)) (fun x hx => (a5 a ha).2 x hx.1) (fun x hx => by rw [upT_ne (by omega), upT_ne (by omega), upT_ne (by omega)]) (by rw [upT_same]; exact h3) hset (fun x hx => (((q4 x _ (by omega) (by omega) (c7 x hx)).off a1 o5 (by omega)).off a1 o6 (by omega)).off a1 o7 (by omega)) k7⟩
          · rw [if_pos nI_0, gd_t i02, bd3_e f1, lT_x, gd_t i02, upT_same, bd8_e f2, lT_x, gd_t ia, gd_t i02, gd_t na, gd_t n10', upT_ne (show g ≠ 10 by omega), upT_ne (show g ≠ 10 by omega), upT_ne (show a ≠ 10 by omega), upT_ne (show a ≠ 10 by omega), upT_same, bd7_e f3, lT_x, lT_x, nI_1]
          · rw [if_neg n03, bd2_e (show mX7_begin F (nI (fac n)) inn makerMany 10 = _ from f4), if_pos nI_0, gd_t (by decide), lT_x, gd_t (by decide), lT_x, bd5_e rfl, bd_e (show mX7_clear F (nI (fac n)) i1 12 = _ from f5), bd2_e (show mX7_made_L102 F (nI 0) (nI a) (nI n) (nI (fac n)) image (nI (rk n c)) (upd makers (Int32.toNatClampNeg 320) (nI (rk n c))) (upd m1 (Int32.toNatClampNeg 10) 1) F 0 i5 now = _ from f6), bd3_e (show mX7_newGroup F (nI (fac n)) (nI g) i6 12 = _ from f7)]
            rfl
        · -- CENTRE
          obtain ⟨⟨d1, d2, d3, d4, d5, d6, d7⟩, mr, f3, h3, g3⟩ := gather_is hTa hF (wish1 hTa.row hF 0 0 (tw a).2.1 (tw a).2.2.1) whole1 ((GL.grp mqa).and (grp1 _)) (tw g)
          obtain ⟨i1, m1, f4, k4, p4⟩ := begin_is hF a1 c3 (w := 10) (by omega) (inn, now, makers, makerMany, queue)
          have q4 := p4.kq a1 (Or.inl rfl)
          obtain ⟨⟨i8, n8, r8, m8, u8⟩, um, f8, k8, p8, g8⟩ := joinAllR_is hF a1 c3 (w := 10) (a := a) (by omega) (by omega) (by omega) k4 (q4 a _ (by omega) (by omega) (c7 a ha)) (a5 a ha).2
          have q8 := q4.trans (p8.kq a1 (Or.inl rfl))
          obtain ⟨i5, f5, k5, o5⟩ := clearR_is hF a1 c3 (w := 12) (by omega) i8
          have hum : ∀ x, GL um x ↔ GS a x := fun x => (g8 x).trans (gen_nil (a5 a ha).1 x)
          have hmk : Mkr n um r8 m8 := ⟨k8.2.1, k8.2.2.1, k8.len, k8.2.2.2.2⟩
          have hS5 : RS n i5 a (GS a) := (q8 a _ (by omega) (by omega) (c7 a ha)).off a1 o5 (by omega)
          obtain ⟨i6, n6, f6, k6, o6⟩ := madeR_L hF a1 c3 hmk (a := a) (w := 1) (by omega) (by omega) (by omega) (nI (rk n c)) (a5 a ha).1.1 (fac n) 0 F i5 n8 (by omega) (by omega) hS5 RSb_0 (fun x hx _ => clear12 a1 k5 x hx)
          obtain ⟨i7, f7, k7, o7⟩ := newGroup_cp (g := g) hF a1 c3 (v := 12) (by omega) hg (by omega) k6
          have hset : ∀ x, GL mr x ↔ (GS a x ∧ ∀ y, y ∈ um → x.th y = y.th x) := fun x => by
            rw [g3, hGa]
            refine and_congr_right (fun _ => ⟨fun hh y hy => comm_gen hh ((hGa y).mpr ((hum y).mp (GL.of hy))), fun hh y hy => comm_gen hh ((hum y).mpr ((hGa y).mp (GL.of hy)))⟩)
          refine ⟨nI g, nI (g + 1), upT tw g (d1, d2, d3, d4, d5, d6, d7), nI (g + 1), (i7, n6, r8, m8, u8), ?_, ?_, hA'.push hg (Grp.congr hset (GL.grp mr)) (fun x hx => (a5 a ha).2 x hx.1) (fun x hx => upT_ne (by omega)) (by rw [upT_same]; exact h3) hset (fun x hx => (((q8 x _ (by omega) (by omega) (c7 x hx)).off a1 o5 (by omega)).off a1 o6 (by omega)).off a1 o7 (by omega)) k7⟩
          · rw [if_neg n10, if_pos n11, gd_t ia, gd_t ia, gd_t na, gd_t na, bd7_e f3, lT_x, lT_x, nI_1]
          · rw [if_neg n13, bd2_e (show mX7_begin F (nI (fac n)) inn makerMany 10 = _ from f4), if_neg n10, if_pos n11, bd5_e (show mX7_joinAll F (nI n) (nI (fac n)) image i1 now makers m1 queue 10 (nI a) = _ from f8), bd5_e rfl, bd_e (show mX7_clear F (nI (fac n)) i8 12 = _ from f5), bd2_e (show mX7_made_L102 F (nI 1) (nI a) (nI n) (nI (fac n)) image (nI (rk n c)) r8 m8 F 0 i5 n8 = _ from f6), bd3_e (show mX7_newGroup F (nI (fac n)) (nI g) i6 12 = _ from f7)]
        · -- CARRIED
          obtain ⟨⟨d1, d2, d3, d4, d5, d6, d7⟩, mr, f3, h3, g3⟩ := becomeCarried_is hTa.row hF c (tw g)
          obtain ⟨i1, m1, f4, k4, p4⟩ := begin_is hF a1 c3 (w := 10) (by omega) (inn, now, makers, makerMany, queue)
          have q4 := p4.kq a1 (Or.inl rfl)
          obtain ⟨i5, f5, k5, o5⟩ := clearR_is hF a1 c3 (w := 12) (by omega) i1
          have hS5 : RS n i5 a (GS a) := (q4 a _ (by omega) (by omega) (c7 a ha)).off a1 o5 (by omega)
          obtain ⟨i6, n6, f6, k6, o6⟩ := carrR_L (makers := makers) (makerMany := m1) hF a1 c3 (a := a) (by omega) a3 (fac n) 0 F i5 now (by omega) (by omega) hS5 (k5.congr (fun x _ => ⟨Or.inl, fun h => h.elim id (fun ⟨y, _, _, h, _⟩ => by omega)⟩))
          obtain ⟨i7, f7, k7, o7⟩ := newGroup_cp (g := g) hF a1 c3 (v := 12) (by omega) hg (by omega) k6
          have hset : ∀ x, GL mr x ↔ (x = .one ∨ ∃ y, Sup n y ∧ GS a y ∧ x = y.cj c) := fun x => by
            rw [g3, hGa]
            constructor
            · intro hx
              exact Or.inr ⟨x.cj c.bk, (a5 a ha).2 _ hx, hx, (Pm.cj_back' x c).symm⟩
            · rintro (rfl | ⟨y, _, hy, rfl⟩)
              · rw [Pm.cj_one]; exact (a5 a ha).1.1
              · rw [Pm.cj_back]; exact hy
          refine ⟨nI g, nI (g + 1), upT tw g (d1, d2, d3, d4, d5, d6, d7), nI (g + 1), (i7, n6, makers, m1, queue), ?_, ?_, hA'.push hg (Grp.congr hset (GL.grp mr)) (fun x hx => ?_) (fun x hx => upT_ne (by omega)) (by rw [upT_same]; exact h3) hset (fun x hx => (((q4 x _ (by omega) (by omega) (c7 x hx)).off a1 o5 (by omega)).off a1 o6 (by omega)).off a1 o7 (by omega)) k7⟩
          · rw [if_neg n20, if_neg n21, if_pos n22, gd_t ia, gd_t na, bd7_e f3, lT_x, lT_x, nI_1]
          · rw [if_neg n23, bd2_e (show mX7_begin F (nI (fac n)) inn makerMany 10 = _ from f4), if_neg n20, if_neg n21, bd5_e rfl, bd_e (show mX7_clear F (nI (fac n)) i1 12 = _ from f5), bd2_e (show mX7_made_L102 F (nI 2) (nI a) (nI n) (nI (fac n)) image (nI (rk n c)) makers m1 F 0 i5 now = _ from f6), bd3_e (show mX7_newGroup F (nI (fac n)) (nI g) i6 12 = _ from f7)]
          · rcases hx with rfl | ⟨y, hy, _, rfl⟩
            · exact Sup.one n
            · exact hy.cj a3
        · -- DOWN
          obtain ⟨⟨d1, d2, d3, d4, d5, d6, d7⟩, mr, f3, h3, g3⟩ := becomeDown_is hTa.row hF (tw g)
          obtain ⟨⟨i6, n6, r6, m6, u6⟩, f6, k6, q6⟩ := goDown_is hF a1 c3 (a := a) (by omega) (by omega) (by omega) (a5 a ha).1 (a5 a ha).2 (inn, now, makers, makerMany, queue) (c7 a ha)
          obtain ⟨i7, f7, k7, o7⟩ := newGroup_cp (g := g) hF a1 c3 (v := 11) (by omega) hg (by omega) k6
          have hset : ∀ x, GL mr x ↔ Dn (GS a) x := fun x => (g3 x).trans (Dn.congr hGa x)
          refine ⟨nI g, nI (g + 1), upT tw g (d1, d2, d3, d4, d5, d6, d7), nI (g + 1), (i7, n6, r6, m6, u6), ?_, ?_, hA'.push hg (Gen.grp _) (fun x hx => (a5 a ha).2 x (Dn.sub (a5 a ha).1 hx)) (fun x hx => upT_ne (by omega)) (by rw [upT_same]; exact h3) hset (fun x hx => (q6 x _ (by omega) (by omega) (c7 x hx)).off a1 o7 (by omega)) k7⟩
          · rw [if_neg n30, if_neg n31, if_neg n32, gd_t ia, gd_t na, bd7_e f3, lT_x, lT_x, nI_1]
          · rw [if_pos n33, bd5_e f6, bd3_e (show mX7_newGroup F (nI (fac n)) (nI g) i6 11 = _ from f7)]
      · exact ⟨-3, nI g, tw, nI g, (inn, now, makers, makerMany, queue), by rw [if_neg w1, if_neg w2', e1, if_neg one0, e5, if_neg one0], by rw [w3', if_neg one0, bd_e e2, if_neg one0, if_pos e6], h0⟩
    · exact ⟨-2, nI g, tw, nI g, (inn, now, makers, makerMany, queue), by rw [if_neg w1, if_neg w2', e1, if_pos zer0], by rw [w3', if_neg one0, bd_e e2, if_pos zer0], h0⟩
  · refine ⟨-2, nI g, tw, nI g, (inn, now, makers, makerMany, queue), ?_, by rw [show mX7_isIn w 0 3 = 0 from w2, if_pos zer0], h0⟩
    rcases w1 with w1 | ⟨w1, w1'⟩
    · rw [if_pos w1]
    · rw [if_neg w1, if_pos (show (3 : Int32) < w from w1')]
end MDC
