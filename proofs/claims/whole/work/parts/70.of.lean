/-! ===== of, by ===== -/
theorem ix403 (r : Nat) : (403200 : Int32) + nI r = nI (40320 * 10 + r) := by
  show nI 403200 + nI r = _
  rw [nI_add]
theorem ix483 (r : Nat) : (483840 : Int32) + nI r = nI (40320 * 12 + r) := by
  show nI 483840 + nI r = _
  rw [nI_add]
theorem neb_t {a b : Nat} (h : a ≠ b) : neb a b = true := decide_eq_true h
section OFF
variable {F n g : Nat} {image : Nat → Int32} {inn : Nat → Int32}
theorem meetR_L (hn : n ≤ 8) (hT : Tbl n image) {a b : Nat} (ha : a < 10) (hb : b < 10) {S U : Pm → Prop} : ∀ (d r f : Nat) (inn : Nat → Int32), r + d = fac n → d < f → RS n inn a S → RS n inn b U → RSb n inn 10 r (fun x => S x ∧ U x) → ∃ i2, mX7_of_L48 (nI a) (nI b) (nI (fac n)) f (nI r) inn = some i2 ∧ RS n i2 10 (fun x => S x ∧ U x) ∧ Off 10 inn i2
  | 0, r, f, inn, hr, hf, hS, hU, h => by
    obtain ⟨f, rfl⟩ : ∃ g, f = g + 1 := ⟨f - 1, by omega⟩
    have hfac := fac_8 hn
    have : r = fac n := by omega
    subst this
    exact ⟨inn, by rw [mX7_of_L48_s, if_pos (nI_le (Nat.le_refl _) (by omega))], RSb_end h, Off.refl⟩
  | d + 1, r, f, inn, hr, hf, hS, hU, h => by
    obtain ⟨f, rfl⟩ : ∃ g, f = g + 1 := ⟨f - 1, by omega⟩
    have hfac := fac_8 hn
    obtain ⟨x, hx, hxr⟩ := hT.ex (show r < fac n by omega)
    have hval : ∃ zv, bd (mX7_hasIt inn (nI a) (nI r)) (fun zr => (if zr = 0 then (some (0 : Int32)) else (bd (mX7_hasIt inn (nI b) (nI r)) (fun zr_1 => if zr_1 = 0 then (some (0 : Int32)) else (some (1 : Int32)))))) = some zv ∧ (((S x ∧ U x) ∧ vp_nar .boolean zv = 1) ∨ (¬ (S x ∧ U x) ∧ vp_nar .boolean zv = 0)) := by
      rcases has_is hn hS (by omega) hx with ⟨h1, e⟩ | ⟨h1, e⟩
      · rcases has_is hn hU (by omega) hx with ⟨h2, e2⟩ | ⟨h2, e2⟩
        · rw [hxr] at e e2
          exact ⟨1, by rw [bd_e e, if_neg one0, bd_e e2, if_neg one0], Or.inl ⟨⟨h1, h2⟩, nar1⟩⟩
        · rw [hxr] at e e2
          exact ⟨0, by rw [bd_e e, if_neg one0, bd_e e2, if_pos zer0], Or.inr ⟨fun h => h2 h.2, nar0⟩⟩
      · rw [hxr] at e
        exact ⟨0, by rw [bd_e e, if_pos zer0], Or.inr ⟨fun h => h1 h.1, nar0⟩⟩
    obtain ⟨zv, ez, hv⟩ := hval
    obtain ⟨i2, e2, h2, o2⟩ := meetR_L hn hT ha hb d (r + 1) f (upd inn (40320 * 10 + r) (vp_nar .boolean zv)) (by omega) (by omega) (hS.off hn (Off.upd (by omega)) (by omega)) (hU.off hn (Off.upd (by omega)) (by omega)) (RSb_s hn h hx hxr hv)
    refine ⟨i2, ?_, h2, (Off.upd (by omega)).trans o2⟩
    obtain ⟨zr, ezr, ez⟩ := bd_el ez
    rw [mX7_of_L48_s, if_neg (nI_ge (by omega) (by omega)), bd_e ezr, ez, bd_s, ix403, gd_t (inb_n (by omega) (by omega)), cl_n (by omega), lT_x, nI_1]
    exact e2
end OFF
section OFC
variable {F : Nat} {shelf : Nat → Int32} {np ng cur : Int32} {tw : Nat → TW} {rn rmany : Int32} {image : Nat → Int32} {rturn : Int32} {rshelf : Nat → Int32} {rgroups : Int32} {inn : Nat → Int32}
theorem call_of (hF : 50000 ≤ F) (h : Rl shelf np ng cur tw rn rmany image rturn rshelf rgroups inn) (now makers makerMany queue : Nat → Int32) (w y z : Int32) : ∃ (v g1 : Int32) (tw1 : Nat → TW) (g2 : Int32) (s2 : RW), mX6_of F ng tw w y z = some (v, g1, tw1) ∧ mX7_of F rn rmany image rgroups inn now makers makerMany queue w y z = some (v, g2, s2) ∧ Rl shelf np g1 cur tw1 rn rmany image rturn rshelf g2 s2.1 := by
  have h0 := h
  obtain ⟨n, g, c, sh, GS, hA⟩ := h
  have hA' := hA
  obtain ⟨⟨⟨a0, a1⟩, a2, a3, a4, a5⟩, ⟨b1, b2, b3, b4, b5⟩, c1, c2, c3, c4, c5, c6, c7⟩ := hA
  subst b1 b2 b3 c1 c2 c4 c6
  have hfac := fac_8 a1
  unfold mX6_of mX7_of
  rcases way_arg (m := 3) (by omega) (by omega) w with ⟨⟨j, hj, rfl⟩, w1, w2, w3⟩ | ⟨w1, w2⟩
  · have w3' : mX7_isIn (nI j) 0 2 = 1 := w3
    have w2' : ¬ (2 : Int32) < nI j := w2
    rcases grp_arg a2 y with ⟨⟨a, ha, rfl⟩, e1, e2⟩ | ⟨e1, e2⟩
    · rcases grp_arg a2 z with ⟨⟨b, hb, rfl⟩, e3, e4⟩ | ⟨e3, e4⟩
      · rcases full_is a2 with ⟨hg, e5, e6⟩ | ⟨hg, e5, e6⟩
        · obtain ⟨mqa, hTa, hGa⟩ := b5 a ha
          obtain ⟨mqb, hTb, hGb⟩ := b5 b hb
          have ca : (nI a).toNatClampNeg = a := cl_n (by omega)
          have cb : (nI b).toNatClampNeg = b := cl_n (by omega)
          have cg : (nI g).toNatClampNeg = g := cl_n (by omega)
          have ia : inb (nI a) 10 = true := inb_n (by omega) (by omega)
          have ib : inb (nI b) 10 = true := inb_n (by omega) (by omega)
          have ig : inb (nI g) 10 = true := inb_n (by omega) (by omega)
          have na : neb g a = true := neb_t (by omega)
          have nb : neb g b = true := neb_t (by omega)
          rw [if_neg w1, if_neg w2', e1, if_neg one0, e3, if_neg one0, e5, if_pos zer0, gd_t ig, w3', if_neg one0, bd_e e2, if_neg one0, bd_e e4, if_neg one0, if_neg e6, ca, cb, cg]
          rcases (show j = 0 ∨ j = 1 ∨ j = 2 by omega) with rfl | rfl | rfl
          · -- JOIN
            obtain ⟨⟨d1, d2, d3, d4, d5, d6, d7⟩, mr, f1, h1, g1⟩ := joinAll_is hTb.row hF (hTa.cp (tw g))
            obtain ⟨i1, m1, f2, k2, p2⟩ := begin_is hF a1 c3 (w := 10) (by omega) (inn, now, makers, makerMany, queue)
            have q2 := p2.kq a1 (Or.inl rfl)
            obtain ⟨⟨i3, n3, r3, m3, u3⟩, um, f3, k3, p3, g3⟩ := joinAllR_is hF a1 c3 (w := 10) (a := a) (by omega) (by omega) (by omega) k2 (q2 a _ (by omega) (by omega) (c7 a ha)) (a5 a ha).2
            have q3 := q2.trans (p3.kq a1 (Or.inl rfl))
            obtain ⟨⟨i4, n4, r4, m4, u4⟩, vm, f4, k4, p4, g4⟩ := joinAllR_is hF a1 c3 (w := 10) (a := b) (by omega) (by omega) (by omega) k3 (q3 b _ (by omega) (by omega) (c7 b hb)) (a5 b hb).2
            have q4 := q3.trans (p4.kq a1 (Or.inl rfl))
            obtain ⟨i5, f5, r5, o5⟩ := newGroup_cp (g := g) hF a1 c3 (v := 10) (by omega) hg (by omega) k4.1
            have hum : ∀ x, GL um x ↔ GS a x := fun x => (g3 x).trans (gen_nil (a5 a ha).1 x)
            have hset : ∀ x, GL mr x ↔ GL vm x := fun x => by
              rw [g1, g4]
              refine Gen.congr (fun v hv => ?_) (fun v hv => ?_) x
              · rcases hv with hv | hv
                · exact Gen.sub (fun _ h => Or.inl h) ((hum v).mpr ((hGa v).mp (GL.of hv)))
                · exact Gen.of (Or.inr ((hGb v).mp (GL.of hv)))
              · rcases hv with hv | hv
                · exact Gen.sub (fun _ h => Or.inl h) ((hGa v).mpr ((hum v).mp (GL.of hv)))
                · exact Gen.sub (fun _ h => Or.inr h) ((hGb v).mpr hv)
            refine ⟨nI g, nI (g + 1), upT (upT tw g (cpT (tw g) (tw a))) g (d1, d2, d3, d4, d5, d6, d7), nI (g + 1), (i5, n4, r4, m4, u4), ?_, ?_, hA'.push hg (GL.grp vm) (fun x hx => k4.sup hx) (fun x hx => by rw [upT_ne (by omega), upT_ne (by omega)]) (by rw [upT_same]; exact h1) hset (fun x hx => (q4 x _ (by omega) (by omega) (c7 x hx)).off a1 o5 (by omega)) r5⟩
            · rw [if_neg n01, gd_t ia, gd_t na, lT_x, if_pos nI_0, gd_t ib, gd_t nb, upT_same, upT_ne (show b ≠ g by omega), bd7_e f1, lT_x, lT_x, nI_1]
            · rw [if_neg n01, bd2_e (show mX7_begin F (nI (fac n)) inn makerMany 10 = _ from f2), bd5_e (show mX7_joinAll F (nI n) (nI (fac n)) image i1 now makers m1 queue 10 (nI a) = _ from f3), bd5_e (show mX7_joinAll F (nI n) (nI (fac n)) image i3 n3 r3 m3 u3 10 (nI b) = _ from f4), if_pos nI_0, bd3_e (show mX7_newGroup F (nI (fac n)) (nI g) i4 10 = _ from f5)]
          · -- MEET
            obtain ⟨⟨d1, d2, d3, d4, d5, d6, d7⟩, mr, f1, h1, g1⟩ := gather_is hTa hF (wish3 hTb hF 0 0 (tw b).2.2.2.2.2.1 (tw b).2.2.2.2.2.2) whole3 ((GL.grp mqa).and (GL.grp mqb)) (tw g)
            obtain ⟨i2, f2, r2, o2⟩ := meetR_L a1 c3 (a := a) (b := b) (by omega) (by omega) (fac n) 0 F inn (by omega) (by omega) (c7 a ha) (c7 b hb) RSb_0
            obtain ⟨i5, f5, r5, o5⟩ := newGroup_cp (g := g) hF a1 c3 (v := 10) (by omega) hg (by omega) r2
            refine ⟨nI g, nI (g + 1), upT tw g (d1, d2, d3, d4, d5, d6, d7), nI (g + 1), (i5, now, makers, makerMany, queue), ?_, ?_, hA'.push hg ((a5 a ha).1.and (a5 b hb).1) (fun x hx => (a5 a ha).2 x hx.1) (fun x hx => upT_ne (by omega)) (by rw [upT_same]; exact h1) (fun x => by rw [g1, hGa, hGb]) (fun x hx => ((c7 x hx).off a1 o2 (by omega)).off a1 o5 (by omega)) r5⟩
            · rw [if_pos n11, gd_t ia, gd_t ib, gd_t na, gd_t nb, bd7_e f1, lT_x, lT_x, nI_1]
            · rw [if_pos n11, bd_e (show mX7_of_L48 (nI a) (nI b) (nI (fac n)) F 0 inn = _ from f2), bd3_e (show mX7_newGroup F (nI (fac n)) (nI g) i2 10 = _ from f5)]
          · -- CLOSED
            obtain ⟨⟨d1, d2, d3, d4, d5, d6, d7⟩, mr, f1, h1, nc1⟩ := closeUnder_is hTb.row hF (hTa.cp (tw g))
            obtain ⟨i1, m1, f2, k2, p2⟩ := begin_is hF a1 c3 (w := 10) (by omega) (inn, now, makers, makerMany, queue)
            have q2 := p2.kq a1 (Or.inl rfl)
            obtain ⟨⟨i3, n3, r3, m3, u3⟩, um, f3, k3, p3, g3⟩ := joinAllR_is hF a1 c3 (w := 10) (a := a) (by omega) (by omega) (by omega) k2 (q2 a _ (by omega) (by omega) (c7 a ha)) (a5 a ha).2
            have q3 := q2.trans (p3.kq a1 (Or.inl rfl))
            obtain ⟨⟨i4, n4, r4, m4, u4⟩, vm, f4, k4, p4, g4⟩ := joinAllR_is hF a1 c3 (w := 10) (a := b) (by omega) (by omega) (by omega) k3 (q3 b _ (by omega) (by omega) (c7 b hb)) (a5 b hb).2
            have q4 := q3.trans (p4.kq a1 (Or.inl rfl))
            obtain ⟨i6, m6, f6, k6, p6⟩ := begin_is hF a1 c3 (w := 11) (by omega) (i4, n4, r4, m4, u4)
            have q6 := q4.trans (p6.kq a1 (Or.inr rfl))
            obtain ⟨⟨i7, n7, r7, m7, u7⟩, xm, f7, k7, p7, g7⟩ := joinAllR_is hF a1 c3 (w := 11) (a := a) (by omega) (by omega) (by omega) k6 (q6 a _ (by omega) (by omega) (c7 a ha)) (a5 a ha).2
            have q7 := q6.trans (p7.kq a1 (Or.inr rfl))
            have k47 : WG n 10 vm (i7, n7, r7, m7, u7) := (k4.kp a1 p6 (by omega)).kp a1 p7 (by omega)
            obtain ⟨⟨i8, n8, r8, m8, u8⟩, ym, f8, k8, p8, nc2⟩ := closeR_is hF a1 c3 (w := 11) (v := 10) (by omega) (by omega) (by omega) k7 k47
            have q8 := q7.trans (p8.kq a1 (Or.inr rfl))
            obtain ⟨i5, f5, r5, o5⟩ := newGroup_cp (g := g) hF a1 c3 (v := 11) (by omega) hg (by omega) k8.1
            have hum : ∀ x, GL um x ↔ GS a x := fun x => (g3 x).trans (gen_nil (a5 a ha).1 x)
            have hxm : ∀ x, GL xm x ↔ GS a x := fun x => (g7 x).trans (gen_nil (a5 a ha).1 x)
            have hM : ∀ x, GS a x → GL ym x := fun x hx => Gen.least (GL.grp ym) (fun v hv => nc2.2.1 v hv) ((hxm x).mpr hx)
            have hN : ∀ x, GS a x → GL mr x := fun x hx => Gen.least (GL.grp mr) (fun v hv => nc1.2.1 v hv) ((hGa x).mpr hx)
            have hset : ∀ x, GL mr x ↔ GL ym x := IsNC.same nc1 nc2 (fun v hv => hM v ((hGa v).mp (GL.of hv))) (fun v hv => hN v ((hxm v).mp (GL.of hv))) (fun v hv => by
              have : GL vm v := (g4 v).mpr (Gen.of (Or.inr ((hGb v).mp (GL.of hv))))
              exact Gen.sub (fun _ h => Or.inr h) this) (fun v hv => by
              have : Gen (fun y => y ∈ um ∨ GS b y) v := (g4 v).mp (GL.of hv)
              refine Gen.mono (fun u hu => ?_) this
              rcases hu with hu | hu
              · exact Gen.of (Or.inl (hN u ((hum u).mp (GL.of hu))))
              · exact Gen.sub (fun _ h => Or.inr h) ((hGb u).mpr hu))
            refine ⟨nI g, nI (g + 1), upT (upT tw g (cpT (tw g) (tw a))) g (d1, d2, d3, d4, d5, d6, d7), nI (g + 1), (i5, n8, r8, m8, u8), ?_, ?_, hA'.push hg (GL.grp ym) (fun x hx => k8.sup hx) (fun x hx => by rw [upT_ne (by omega), upT_ne (by omega)]) (by rw [upT_same]; exact h1) hset (fun x hx => (q8 x _ (by omega) (by omega) (c7 x hx)).off a1 o5 (by omega)) r5⟩
            · rw [if_neg n21, gd_t ia, gd_t na, lT_x, if_neg n20, gd_t ib, gd_t nb, upT_same, upT_ne (show b ≠ g by omega), bd7_e f1, lT_x, lT_x, nI_1]
            · rw [if_neg n21, bd2_e (show mX7_begin F (nI (fac n)) inn makerMany 10 = _ from f2), bd5_e (show mX7_joinAll F (nI n) (nI (fac n)) image i1 now makers m1 queue 10 (nI a) = _ from f3), bd5_e (show mX7_joinAll F (nI n) (nI (fac n)) image i3 n3 r3 m3 u3 10 (nI b) = _ from f4), if_neg n20, bd2_e (show mX7_begin F (nI (fac n)) i4 m4 11 = _ from f6), bd5_e (show mX7_joinAll F (nI n) (nI (fac n)) image i6 n4 r4 m6 u4 11 (nI a) = _ from f7), bd5_e (show mX7_close F (nI n) (nI (fac n)) image i7 n7 r7 m7 u7 11 10 = _ from f8), bd3_e (show mX7_newGroup F (nI (fac n)) (nI g) i8 11 = _ from f5)]
        · exact ⟨-3, nI g, tw, nI g, (inn, now, makers, makerMany, queue), by rw [if_neg w1, if_neg w2', e1, if_neg one0, e3, if_neg one0, e5, if_neg one0], by rw [w3', if_neg one0, bd_e e2, if_neg one0, bd_e e4, if_neg one0, if_pos e6], h0⟩
      · exact ⟨-2, nI g, tw, nI g, (inn, now, makers, makerMany, queue), by rw [if_neg w1, if_neg w2', e1, if_neg one0, e3, if_pos zer0], by rw [w3', if_neg one0, bd_e e2, if_neg one0, bd_e e4, if_pos zer0], h0⟩
    · exact ⟨-2, nI g, tw, nI g, (inn, now, makers, makerMany, queue), by rw [if_neg w1, if_neg w2', e1, if_pos zer0], by rw [w3', if_neg one0, bd_e e2, if_pos zer0], h0⟩
  · refine ⟨-2, nI g, tw, nI g, (inn, now, makers, makerMany, queue), ?_, by rw [show mX7_isIn w 0 2 = 0 from w2, if_pos zer0], h0⟩
    rcases w1 with w1 | ⟨w1, w1'⟩
    · rw [if_pos w1]
    · rw [if_neg w1, if_pos (show (2 : Int32) < w from w1')]
end OFC
/-! by -/
section BYY
variable {F n : Nat} {image : Nat → Int32}
/-- whether it leaves each point of the set -/
theorem byR_in (hn : n ≤ 8) (hT : Tbl n image) {x : Pm} (hx : Sup n x) {s : Nat} (hs : s < 2 ^ n) : ∀ (d i f : Nat) (b : Int32), i + d = n → d < f → (b = 1 ∨ b = 0) → ∃ v, mX7_by_L72 (nI 0) (nI s) (nI (rk n x)) (nI n) image f b (nI i) = some v ∧ (((b = 1 ∧ ∀ k, i ≤ k → k < n → s.testBit k = true → x.ap k = k) ∧ v = 1) ∨ (¬ (b = 1 ∧ ∀ k, i ≤ k → k < n → s.testBit k = true → x.ap k = k) ∧ v = 0))
  | 0, i, f, b, hi, hf, hb => by
    obtain ⟨f, rfl⟩ : ∃ g, f = g + 1 := ⟨f - 1, by omega⟩
    refine ⟨b, by rw [mX7_by_L72_s, if_pos (nI_le (by omega) (by omega))], ?_⟩
    rcases hb with rfl | rfl
    · exact Or.inl ⟨⟨rfl, fun k h1 h2 => by omega⟩, rfl⟩
    · exact Or.inr ⟨fun h => absurd h.1 (by decide), rfl⟩
  | d + 1, i, f, b, hi, hf, hb => by
    obtain ⟨f, rfl⟩ : ∃ g, f = g + 1 := ⟨f - 1, by omega⟩
    have hin : i < n := by omega
    have h2n : 2 ^ n ≤ 2 ^ 8 := Nat.pow_le_pow_right (by decide) hn
    have hix := rk_ix hn hx hin
    have hxi := hx.lt hin
    rw [mX7_by_L72_s, if_neg (nI_ge hin (by omega)), if_pos nI_0, nI_1]
    rcases hb with rfl | rfl
    · rw [if_neg one0, bit_is (by omega) (by omega)]
      have good : (s.testBit i = true → x.ap i = i) → ∃ v, mX7_by_L72 (nI 0) (nI s) (nI (rk n x)) (nI n) image f 1 (nI (i + 1)) = some v ∧ ((((1 : Int32) = 1 ∧ ∀ k, i ≤ k → k < n → s.testBit k = true → x.ap k = k) ∧ v = 1) ∨ (¬ ((1 : Int32) = 1 ∧ ∀ k, i ≤ k → k < n → s.testBit k = true → x.ap k = k) ∧ v = 0)) := fun hg => by
        obtain ⟨v, e, h⟩ := byR_in hn hT hx hs d (i + 1) f 1 (by omega) (by omega) (Or.inl rfl)
        refine ⟨v, e, ?_⟩
        have hiff : ((1 : Int32) = 1 ∧ ∀ k, i ≤ k → k < n → s.testBit k = true → x.ap k = k) ↔ ((1 : Int32) = 1 ∧ ∀ k, i + 1 ≤ k → k < n → s.testBit k = true → x.ap k = k) := ⟨fun h => ⟨rfl, fun k h1 h2 => h.2 k (by omega) h2⟩, fun h => ⟨rfl, fun k h1 h2 h3 => by
          by_cases e : k = i
          · subst e; exact hg h3
          · exact h.2 k (by omega) h2 h3⟩⟩
        rw [hiff]; exact h
      cases hbit : s.testBit i with
      | false =>
        rw [if_pos (show (if false = true then (1 : Int32) else 0) = 0 from rfl), bd_s]
        exact good (fun h => by rw [hbit] at h; cases h)
      | true =>
        rw [if_neg (show ¬ (if true = true then (1 : Int32) else 0) = 0 from by decide), ix8, gd_t (inb_n hix (by omega)), cl_n (by omega), hT.get hn hx hin]
        by_cases e : x.ap i = i
        · rw [if_pos (by rw [e]), bd_s]
          exact good (fun _ => e)
        · rw [if_neg (fun h => e ((nI_eq (by omega) (by omega)).mp h)), bd_s]
          obtain ⟨v, e2, h⟩ := byR_in hn hT hx hs d (i + 1) f 0 (by omega) (by omega) (Or.inr rfl)
          refine ⟨v, e2, Or.inr ⟨fun h => e (h.2 i (Nat.le_refl i) hin hbit), ?_⟩⟩
          rcases h with ⟨h, -⟩ | ⟨-, h⟩
          · exact absurd h.1 (by decide)
          · exact h
    · rw [if_pos zer0, bd_s]
      obtain ⟨v, e2, h⟩ := byR_in hn hT hx hs d (i + 1) f 0 (by omega) (by omega) (Or.inr rfl)
      refine ⟨v, e2, Or.inr ⟨fun h => absurd h.1 (by decide), ?_⟩⟩
      rcases h with ⟨h, -⟩ | ⟨-, h⟩
      · exact absurd h.1 (by decide)
      · exact h
/-- the wish of a way -/
def byW (w s : Nat) (x : Pm) : Prop := (w = 0 ∧ ∀ i, i < 8 → s.testBit i = true → x.ap i = i) ∨ (w = 1 ∧ ims x s = s)
theorem byR_L (hF : 50000 ≤ F) (hn : n ≤ 8) (hn2 : 2 ≤ n) (hT : Tbl n image) {a g w s : Nat} (ha : a < g) (hg : g < 10) (hw : w < 2) (hs : s < 2 ^ n) {S : Pm → Prop} : ∀ (d r f : Nat) (inn : Nat → Int32), r + d = fac n → d < f → RS n inn a S → RSb n inn g r (fun x => S x ∧ byW w s x) → ∃ i2, mX7_by_L51 F (nI w) (nI a) (nI s) (nI n) (nI (fac n)) image (nI g) f (nI r) inn = some i2 ∧ RS n i2 g (fun x => S x ∧ byW w s x) ∧ Off g inn i2
  | 0, r, f, inn, hr, hf, hS, h => by
    obtain ⟨f, rfl⟩ : ∃ g, f = g + 1 := ⟨f - 1, by omega⟩
    have hfac := fac_8 hn
    have : r = fac n := by omega
    subst this
    exact ⟨inn, by rw [mX7_by_L51_s, if_pos (nI_le (Nat.le_refl _) (by omega))], RSb_end h, Off.refl⟩
  | d + 1, r, f, inn, hr, hf, hS, h => by
    obtain ⟨f, rfl⟩ : ∃ g, f = g + 1 := ⟨f - 1, by omega⟩
    have hfac := fac_8 hn
    have h2n : 2 ^ n ≤ 2 ^ 8 := Nat.pow_le_pow_right (by decide) hn
    obtain ⟨x, hx, hxr⟩ := hT.ex (show r < fac n by omega)
    have hi := ims_lt x s
    have hval : ∃ (hb : Int32) (v1 zv : Int32), mX7_hasIt inn (nI a) (nI r) = some hb ∧ mX7_by_L72 (nI w) (nI s) (nI r) (nI n) image F hb 0 = some v1 ∧ (if v1 = 0 then (some (0 : Int32)) else (if nI w = 0 then (some (1 : Int32)) else (bd (mX7_setOf F (nI n) image (nI r) (nI s)) (fun zr_1 => if zr_1 = nI s then (some (1 : Int32)) else (some (0 : Int32)))))) = some zv ∧ (((S x ∧ byW w s x) ∧ vp_nar .boolean zv = 1) ∨ (¬ (S x ∧ byW w s x) ∧ vp_nar .boolean zv = 0)) := by
      have hset := setOf_is hF hT hn hx hs
      rw [hxr] at hset
      have hh : ∃ hb, mX7_hasIt inn (nI a) (nI r) = some hb ∧ ((S x ∧ hb = 1) ∨ (¬ S x ∧ hb = 0)) := by
        rcases has_is hn hS (by omega) hx with ⟨h1, e⟩ | ⟨h1, e⟩
        · rw [hxr] at e; exact ⟨1, e, Or.inl ⟨h1, rfl⟩⟩
        · rw [hxr] at e; exact ⟨0, e, Or.inr ⟨h1, rfl⟩⟩
      obtain ⟨hb, ehb, hbS⟩ := hh
      rcases (show w = 0 ∨ w = 1 by omega) with rfl | rfl
      · obtain ⟨v, e, hv⟩ := byR_in hn hT hx hs n 0 F hb (by omega) (by omega) (hbS.imp (fun h => h.2) (fun h => h.2))
        rw [hxr] at e
        have hiff : (hb = 1 ∧ ∀ k, 0 ≤ k → k < n → s.testBit k = true → x.ap k = k) ↔ (S x ∧ byW 0 s x) := by
          constructor
          · rintro ⟨h1, h2⟩
            refine ⟨?_, Or.inl ⟨rfl, fun i hi8 hbit => ?_⟩⟩
            · rcases hbS with ⟨hS', _⟩ | ⟨_, e0⟩
              · exact hS'
              · rw [e0] at h1; exact absurd h1 (by decide)
            · by_cases hin : i < n
              · exact h2 i (Nat.zero_le i) hin hbit
              · exact hx i (by omega)
          · rintro ⟨h1, h2⟩
            refine ⟨?_, fun k _ hk hbit => ?_⟩
            · rcases hbS with ⟨_, e1⟩ | ⟨hS', _⟩
              · exact e1
              · exact absurd h1 hS'
            · rcases h2 with ⟨_, h2⟩ | ⟨h2, _⟩
              · exact h2 k (by omega) hbit
              · omega
        rw [hiff] at hv
        rcases hv with ⟨hv, rfl⟩ | ⟨hv, rfl⟩
        · exact ⟨hb, 1, 1, ehb, e, by rw [if_neg one0, if_pos nI_0], Or.inl ⟨hv, nar1⟩⟩
        · exact ⟨hb, 0, 0, ehb, e, by rw [if_pos zer0], Or.inr ⟨hv, nar0⟩⟩
      · have e : mX7_by_L72 (nI 1) (nI s) (nI r) (nI n) image F hb 0 = some hb := by
          obtain ⟨f', rfl⟩ : ∃ g, F = g + 1 := ⟨F - 1, by omega⟩
          rw [mX7_by_L72_s, if_neg (nI_nle (by omega) (by omega)), if_neg n10]
        rcases hbS with ⟨hS', rfl⟩ | ⟨hS', rfl⟩
        · by_cases hs2 : ims x s = s
          · exact ⟨1, 1, 1, ehb, e, by rw [if_neg one0, if_neg n10, bd_e hset, if_pos (by rw [hs2])], Or.inl ⟨⟨hS', Or.inr ⟨rfl, hs2⟩⟩, nar1⟩⟩
          · refine ⟨1, 1, 0, ehb, e, by rw [if_neg one0, if_neg n10, bd_e hset, if_neg (fun h => hs2 ((nI_eq (by omega) (by omega)).mp h))], Or.inr ⟨fun ⟨_, h2⟩ => ?_, nar0⟩⟩
            rcases h2 with ⟨h2, _⟩ | ⟨_, h2⟩
            · omega
            · exact hs2 h2
        · exact ⟨0, 0, 0, ehb, e, by rw [if_pos zer0], Or.inr ⟨fun h => hS' h.1, nar0⟩⟩
    obtain ⟨hb, v1, zv, eh, ev, ez, hv⟩ := hval
    obtain ⟨i2, e2, h2, o2⟩ := byR_L hF hn hn2 hT ha hg hw hs d (r + 1) f (upd inn (40320 * g + r) (vp_nar .boolean zv)) (by omega) (by omega) (hS.off hn (Off.upd (by omega)) (by omega)) (RSb_s hn h hx hxr hv)
    refine ⟨i2, ?_, h2, (Off.upd (by omega)).trans o2⟩
    rw [mX7_by_L51_s, if_neg (nI_ge (by omega) (by omega)), bd_e eh, bd_e ev, ez, bd_s, ixA, gd_t (inb_n (by omega) (by omega)), cl_n (by omega), lT_x, nI_1]
    exact e2
end BYY
section BYC
variable {F : Nat} {shelf : Nat → Int32} {np ng cur : Int32} {tw : Nat → TW} {rn rmany : Int32} {image : Nat → Int32} {rturn : Int32} {rshelf : Nat → Int32} {rgroups : Int32} {inn : Nat → Int32}
theorem call_by (hF : 50000 ≤ F) (h : Rl shelf np ng cur tw rn rmany image rturn rshelf rgroups inn) (w y z : Int32) : ∃ (v g1 : Int32) (tw1 : Nat → TW) (g2 : Int32) (i2 : Nat → Int32), mX6_by F np ng tw w y z = some (v, g1, tw1) ∧ mX7_by F rn rmany image rgroups inn w y z = some (v, g2, i2) ∧ Rl shelf np g1 cur tw1 rn rmany image rturn rshelf g2 i2 := by
  have h0 := h
  obtain ⟨n, g, c, sh, GS, hA⟩ := h
  have hA' := hA
  obtain ⟨⟨⟨a0, a1⟩, a2, a3, a4, a5⟩, ⟨b1, b2, b3, b4, b5⟩, c1, c2, c3, c4, c5, c6, c7⟩ := hA
  subst b1 b2 b3 c1 c2 c4 c6
  have hfac := fac_8 a1
  have h2n : 2 ^ n ≤ 2 ^ 8 := Nat.pow_le_pow_right (by decide) a1
  unfold mX6_by mX7_by
  rcases way_arg (m := 2) (by omega) (by omega) w with ⟨⟨j, hj, rfl⟩, w1, w2, w3⟩ | ⟨w1, w2⟩
  · have w3' : mX7_isIn (nI j) 0 1 = 1 := w3
    have w2' : ¬ (1 : Int32) < nI j := w2
    rcases grp_arg a2 y with ⟨⟨a, ha, rfl⟩, e1, e2⟩ | ⟨e1, e2⟩
    · rcases set_arg a1 z with ⟨⟨s, hs, rfl⟩, e3, e4⟩ | ⟨e3, e4⟩
      · rcases full_is a2 with ⟨hg, e5, e6⟩ | ⟨hg, e5, e6⟩
        · obtain ⟨mqa, hTa, hGa⟩ := b5 a ha
          have hs8 : s < 256 := by omega
          have ca : (nI a).toNatClampNeg = a := cl_n (by omega)
          have cg : (nI g).toNatClampNeg = g := cl_n (by omega)
          have ia : inb (nI a) 10 = true := inb_n (by omega) (by omega)
          have ig : inb (nI g) 10 = true := inb_n (by omega) (by omega)
          have na : neb g a = true := neb_t (by omega)
          obtain ⟨i2, f2, r2, o2⟩ := byR_L hF a1 a0 c3 (a := a) (g := g) ha hg hj hs (fac n) 0 F inn (by omega) (by omega) (c7 a ha) RSb_0
          rw [if_neg w1, if_neg w2', e1, if_neg one0, e3, if_neg one0, e5, if_pos zer0, gd_t ig, gd_t ia, w3', if_neg one0, bd_e e2, if_neg one0, e4, if_neg one0, if_neg e6, ca, cg, gd_t na, bd_e (show mX7_by_L51 F (nI j) (nI a) (nI s) (nI n) (nI (fac n)) image (nI g) F 0 inn = _ from f2), bd3_e (newGroup_no _)]
          rcases (show j = 0 ∨ j = 1 by omega) with rfl | rfl
          · obtain ⟨⟨d1, d2, d3, d4, d5, d6, d7⟩, mr, f1, h1, g1⟩ := gather_is hTa hF (wish2 F hs8 0 (fun _ => 0) (fun _ => 0) (fun _ => 0) 0) whole2 ((GL.grp mqa).and (grp2 s)) (tw g)
            have hset : ∀ x, GL mr x ↔ (GS a x ∧ byW 0 s x) := fun x => by
              rw [g1, hGa]
              exact ⟨fun h => ⟨h.1, Or.inl ⟨rfl, h.2⟩⟩, fun h => ⟨h.1, h.2.elim (fun k => k.2) (fun k => absurd k.1 (by decide))⟩⟩
            refine ⟨nI g, nI (g + 1), upT tw g (d1, d2, d3, d4, d5, d6, d7), nI (g + 1), i2, ?_, rfl, hA'.push hg (Grp.congr hset (GL.grp mr)) (fun x hx => (a5 a ha).2 x hx.1) (fun x hx => upT_ne (by omega)) (by rw [upT_same]; exact h1) hset (fun x hx => (c7 x hx).off a1 o2 (by omega)) r2⟩
            rw [if_pos nI_0, bd7_e f1, lT_x, lT_x, nI_1]
          · obtain ⟨⟨d1, d2, d3, d4, d5, d6, d7⟩, mr, f1, h1, g1⟩ := gather_is hTa hF (wish0 F hs8 hs8 (fun _ => 0) (fun _ => 0) (fun _ => 0) 0) (whole0 hs8) ((GL.grp mqa).and (grp0 hs8)) (tw g)
            have hset : ∀ x, GL mr x ↔ (GS a x ∧ byW 1 s x) := fun x => by
              rw [g1, hGa]
              exact ⟨fun h => ⟨h.1, Or.inr ⟨rfl, h.2⟩⟩, fun h => ⟨h.1, h.2.elim (fun k => absurd k.1 (by decide)) (fun k => k.2)⟩⟩
            refine ⟨nI g, nI (g + 1), upT tw g (d1, d2, d3, d4, d5, d6, d7), nI (g + 1), i2, ?_, rfl, hA'.push hg (Grp.congr hset (GL.grp mr)) (fun x hx => (a5 a ha).2 x hx.1) (fun x hx => upT_ne (by omega)) (by rw [upT_same]; exact h1) hset (fun x hx => (c7 x hx).off a1 o2 (by omega)) r2⟩
            rw [if_neg n10, gd_t ig, gd_t ia, gd_t na, bd7_e f1, lT_x, lT_x, nI_1]
        · exact ⟨-3, nI g, tw, nI g, inn, by rw [if_neg w1, if_neg w2', e1, if_neg one0, e3, if_neg one0, e5, if_neg one0], by rw [w3', if_neg one0, bd_e e2, if_neg one0, e4, if_neg one0, if_pos e6], h0⟩
      · exact ⟨-2, nI g, tw, nI g, inn, by rw [if_neg w1, if_neg w2', e1, if_neg one0, e3, if_pos zer0], by rw [w3', if_neg one0, bd_e e2, if_neg one0, e4, if_pos zer0], h0⟩
    · exact ⟨-2, nI g, tw, nI g, inn, by rw [if_neg w1, if_neg w2', e1, if_pos zer0], by rw [w3', if_neg one0, bd_e e2, if_pos zer0], h0⟩
  · refine ⟨-2, nI g, tw, nI g, inn, ?_, by rw [show mX7_isIn w 0 1 = 0 from w2, if_pos zer0], h0⟩
    rcases w1 with w1 | ⟨w1, w1'⟩
    · rw [if_pos w1]
    · rw [if_neg w1, if_pos (show (1 : Int32) < w from w1')]
end BYC
