/-! ===== the calls that ask ===== -/
theorem TG.size {mq : List Pm} {t : TW} (h : TG mq t) {F : Nat} (hF : 50000 ≤ F) : ∃ N, Hc (GL mq) N ∧ N ≤ 40320 ∧ mX4_turnsFrom F t.2.2.1 0 = some (nI N) := by
  obtain ⟨R, C, fl, T, hc, hG, -⟩ := h
  exact ⟨tf R 0, (tf_is T.1 (Nat.zero_le 8)).congr (fun a => (hG a).symm), tf_40320 T.1 (Nat.zero_le 8), turnsFrom_is T hF (Nat.zero_le 8)⟩
theorem one0 : ¬ (1 : Int32) = 0 := by decide
theorem zer0 : (0 : Int32) = 0 := rfl
theorem n01 : ¬ nI 0 = (1 : Int32) := by decide
theorem n11 : nI 1 = (1 : Int32) := by decide
theorem n10 : ¬ nI 1 = (0 : Int32) := by decide
theorem n20 : ¬ nI 2 = (0 : Int32) := by decide
theorem n21 : ¬ nI 2 = (1 : Int32) := by decide
theorem tr1 : mX6_truth 1 = 1 := by decide
theorem tr0 : mX6_truth 0 = 0 := by decide
section ASKC
variable {F : Nat} {shelf : Nat → Int32} {np ng cur : Int32} {tw : Nat → TW} {rn rmany : Int32} {image : Nat → Int32} {rturn : Int32} {rshelf : Nat → Int32} {rgroups : Int32} {inn : Nat → Int32}
theorem call_size (hF : 50000 ≤ F) (h : Rl shelf np ng cur tw rn rmany image rturn rshelf rgroups inn) (z : Int32) : ∃ v, mX6_size F ng tw z = some v ∧ mX7_size F rmany rgroups inn z = some v := by
  obtain ⟨n, g, c, sh, GS, ⟨⟨a0, a1⟩, a2, a3, a4, a5⟩, ⟨b1, b2, b3, b4, b5⟩, c1, c2, c3, c4, c5, c6, c7⟩ := h
  unfold mX6_size mX7_size
  rw [b2, c6, c2]
  rcases grp_arg a2 z with ⟨⟨a, ha, rfl⟩, e1, e2⟩ | ⟨e1, e2⟩
  · obtain ⟨mq, hT, hG⟩ := b5 a ha
    obtain ⟨N, hN, hN8, e3⟩ := hT.size hF
    obtain ⟨N2, e4, hN2⟩ := sizeOf_is hF a1 c3 (a := a) (by omega) (c7 a ha)
    have : N = N2 := hN.uniq (hN2.congr (fun x => ⟨fun h => (hG x).mpr h.2, fun h => ⟨(a5 a ha).2 x ((hG x).mp h), (hG x).mp h⟩⟩))
    subst this
    refine ⟨nI N, ?_, ?_⟩
    · rw [e1, if_neg one0, gd_t (inb_n (by omega) (by omega)), cl_n (by omega), bd_e e3]
    · rw [bd_e e2, if_neg one0, bd_e e4]
  · exact ⟨-2, by rw [e1, if_pos zer0], by rw [bd_e e2, if_pos zer0]⟩
theorem call_has (hF : 50000 ≤ F) (h : Rl shelf np ng cur tw rn rmany image rturn rshelf rgroups inn) (z : Int32) : ∃ v, mX6_has F ng cur tw z = some v ∧ mX7_has rturn rgroups inn z = some v := by
  obtain ⟨n, g, c, sh, GS, ⟨⟨a0, a1⟩, a2, a3, a4, a5⟩, ⟨b1, b2, b3, b4, b5⟩, c1, c2, c3, c4, c5, c6, c7⟩ := h
  unfold mX6_has mX7_has
  rw [b2, c6, b3, c4]
  rcases grp_arg a2 z with ⟨⟨a, ha, rfl⟩, e1, e2⟩ | ⟨e1, e2⟩
  · obtain ⟨mq, hT, hG⟩ := b5 a ha
    rw [e1, if_neg one0, gd_t (inb_n (by omega) (by omega)), cl_n (by omega), bd_e e2, if_neg one0]
    rcases holds_is hT hF c with ⟨h1, e3⟩ | ⟨h1, e3⟩
    · rcases has_is a1 (c7 a ha) (by omega) a3 with ⟨h2, e4⟩ | ⟨h2, e4⟩
      · exact ⟨1, by rw [bd_e e3, tr1], by rw [bd_e e4, if_neg one0]⟩
      · exact absurd ((hG c).mp h1) h2
    · rcases has_is a1 (c7 a ha) (by omega) a3 with ⟨h2, e4⟩ | ⟨h2, e4⟩
      · exact absurd ((hG c).mpr h2) h1
      · exact ⟨0, by rw [bd_e e3, tr0], by rw [bd_e e4, if_pos zer0]⟩
  · exact ⟨-2, by rw [e1, if_pos zer0], by rw [bd_e e2, if_pos zer0]⟩
theorem call_orbit (hF : 50000 ≤ F) (h : Rl shelf np ng cur tw rn rmany image rturn rshelf rgroups inn) (z w : Int32) : ∃ v, mX6_orbit F np ng tw z w = some v ∧ mX7_orbit F rn rmany image rgroups inn z w = some v := by
  obtain ⟨n, g, c, sh, GS, ⟨⟨a0, a1⟩, a2, a3, a4, a5⟩, ⟨b1, b2, b3, b4, b5⟩, c1, c2, c3, c4, c5, c6, c7⟩ := h
  have hfac := fac_8 a1
  unfold mX6_orbit mX7_orbit
  rw [b1, b2, c6, c1, c2]
  rcases grp_arg a2 z with ⟨⟨a, ha, rfl⟩, e1, e2⟩ | ⟨e1, e2⟩
  · rw [e1, if_neg one0, bd_e e2, if_neg one0]
    rcases pt_arg a1 w with ⟨⟨p, hp, rfl⟩, e3, e4⟩ | ⟨e3, e4⟩
    · obtain ⟨mq, ⟨R, C, fl, T, hc, hL, -⟩, hG⟩ := b5 a ha
      obtain ⟨s, e5, hs, hb⟩ := orbitFrom_is T hc hF (l := 0) (p := p) (Nat.zero_le 8) (by omega)
      obtain ⟨s2, e6, hs2, hb2⟩ := orbitR_L a1 c3 (a := a) (by omega) hp (c7 a ha) (fac n) 0 F 0 (by omega) (by omega) (by omega) (fun q => by
        rw [Nat.zero_testBit]
        exact ⟨fun h => absurd h (by decide), fun ⟨x, _, _, hx, _⟩ => by omega⟩)
      have : s = s2 := set_ext hs hs2 (fun j _ => by
        have : s.testBit j = true ↔ s2.testBit j = true := by
          rw [hb, hb2]
          exact ⟨fun ⟨x, h1, h2⟩ => ⟨x, (a5 a ha).2 x ((hG x).mp ((hL x).mpr h1)), (hG x).mp ((hL x).mpr h1), h2⟩, fun ⟨x, _, h1, h2⟩ => ⟨x, (hL x).mp ((hG x).mpr h1), h2⟩⟩
        exact Bool.eq_iff_iff.mpr this)
      subst this
      refine ⟨nI s, ?_, ?_⟩
      · rw [e3, if_neg one0, gd_t (inb_n (by omega) (by omega)), cl_n (by omega), bd_e (show mX4_orbitFrom F (tw a).1 (tw a).2.2.2.1 (tw a).2.2.2.2.1 0 (nI p) = _ from e5)]
      · rw [e4, if_neg one0, bd_e (show mX7_orbit_L30 (nI a) (nI p) (nI (fac n)) image inn F 0 0 = _ from e6)]
    · exact ⟨-2, by rw [e3, if_pos zer0], by rw [e4, if_pos zer0]⟩
  · exact ⟨-2, by rw [e1, if_pos zer0], by rw [bd_e e2, if_pos zer0]⟩
theorem call_block (hF : 50000 ≤ F) (h : Rl shelf np ng cur tw rn rmany image rturn rshelf rgroups inn) (z w y : Int32) : ∃ v, mX6_block F np ng tw z w y = some v ∧ mX7_block F rn rmany image rgroups inn z w y = some v := by
  obtain ⟨n, g, c, sh, GS, ⟨⟨a0, a1⟩, a2, a3, a4, a5⟩, ⟨b1, b2, b3, b4, b5⟩, c1, c2, c3, c4, c5, c6, c7⟩ := h
  unfold mX6_block mX7_block
  rw [b1, b2, c6, c1, c2]
  rcases grp_arg a2 z with ⟨⟨a, ha, rfl⟩, e1, e2⟩ | ⟨e1, e2⟩
  · rw [e1, if_neg one0, bd_e e2, if_neg one0]
    rcases pt_arg a1 w with ⟨⟨i, hi, rfl⟩, e3, e4⟩ | ⟨e3, e4⟩
    · rw [e3, if_neg one0, e4, if_neg one0]
      rcases pt_arg a1 y with ⟨⟨j, hj, rfl⟩, e5, e6⟩ | ⟨e5, e6⟩
      · obtain ⟨mq, hT, hG⟩ := b5 a ha
        obtain ⟨s, e7, hs, hb⟩ := blockOf_is hF hT (i := i) (j := j) (by omega) (by omega)
        obtain ⟨s2, e8, hs2, hb2⟩ := blockR_is hF a1 c3 (a := a) (by omega) (a5 a ha).1 (a5 a ha).2 (c7 a ha) hi hj
        have hGe : GL mq = GS a := funext fun x => propext (hG x)
        have : s = s2 := set_ext hs hs2 (fun k _ => by
          have : s.testBit k = true ↔ s2.testBit k = true := by rw [hb, hb2, hGe]
          exact Bool.eq_iff_iff.mpr this)
        subst this
        refine ⟨nI s, ?_, ?_⟩
        · rw [e5, if_neg one0, gd_t (inb_n (by omega) (by omega)), cl_n (by omega), bd_e e7]
        · rw [e6, if_neg one0, lT_x, bd_e e8]
      · exact ⟨-2, by rw [e5, if_pos zer0], by rw [e6, if_pos zer0]⟩
    · exact ⟨-2, by rw [e3, if_pos zer0], by rw [e4, if_pos zer0]⟩
  · exact ⟨-2, by rw [e1, if_pos zer0], by rw [bd_e e2, if_pos zer0]⟩
theorem call_still (hF : 50000 ≤ F) (h : Rl shelf np ng cur tw rn rmany image rturn rshelf rgroups inn) (z w : Int32) : ∃ v, mX6_still F np ng tw z w = some v ∧ mX7_still F rn rmany image rgroups inn z w = some v := by
  obtain ⟨n, g, c, sh, GS, ⟨⟨a0, a1⟩, a2, a3, a4, a5⟩, ⟨b1, b2, b3, b4, b5⟩, c1, c2, c3, c4, c5, c6, c7⟩ := h
  have hfac := fac_8 a1
  unfold mX6_still mX7_still
  rw [b1, b2, c6, c1, c2]
  rcases grp_arg a2 z with ⟨⟨a, ha, rfl⟩, e1, e2⟩ | ⟨e1, e2⟩
  · rw [e1, if_neg one0, bd_e e2, if_neg one0]
    have en : nI n = nI (n + 1) - 1 := (nI_pred n).symm
    rcases isIn_is (N := n + 1) (by omega) w with ⟨⟨m, hm, rfl⟩, e4⟩ | ⟨hno, e4⟩
    · rw [← en] at e4
      obtain ⟨mq, ⟨R, C, fl, T, hc, hL, -⟩, hG⟩ := b5 a ha
      obtain ⟨N, hN, e5⟩ := still_is T hc hF (m := m + 8 - n) (by omega)
      obtain ⟨N2, e6, hN2⟩ := stillR_L hF a1 c3 (a := a) (m := m) (by omega) (by omega) (c7 a ha) (fac n) 0 F 0 (by omega) (by omega) cnt_0
      have : N = N2 := hN.uniq (hN2.congr (fun x => by
        constructor
        · rintro ⟨h1, h2, h3⟩
          have := fx_8 a1 h1
          exact ⟨(hL x).mp ((hG x).mpr h2), by omega⟩
        · rintro ⟨h1, h2⟩
          have hx := (hG x).mp ((hL x).mpr h1)
          have hs := (a5 a ha).2 x hx
          have := fx_8 a1 hs
          exact ⟨hs, hx, by omega⟩))
      subst this
      refine ⟨nI N, ?_, ?_⟩
      · rw [if_neg (nI_pos (by omega)), if_pos (nI_le (by omega) (by omega)), gd_t (inb_n (by omega) (by omega)), cl_n (by omega), show (8 : Int32) = nI 8 from rfl, nI_add, pk_sub (by omega), bd_e e5]
      · rw [e4, if_neg one0, bd_e (show mX7_still_L28 F (nI a) (nI m) (nI n) (nI (fac n)) image inn F 0 0 = _ from e6)]
    · rw [← en] at e4
      refine ⟨-2, ?_, by rw [e4, if_pos zer0]⟩
      rcases arg_rng (n + 1) (by omega) w with h1 | h1 | ⟨h1, h2⟩
      · exact absurd h1 hno
      · rw [if_pos h1]
      · have h3 := le_lt (N := n + 1) (by omega) h2
        rw [nI_pred] at h3
        have h4 : ¬ w ≤ nI n := by
          rw [Int32.lt_iff_toInt_lt] at h3
          rw [Int32.le_iff_toInt_le]
          omega
        rw [if_neg h1, if_neg h4]
  · exact ⟨-2, by rw [e1, if_pos zer0], by rw [bd_e e2, if_pos zer0]⟩
theorem call_place (hF : 50000 ≤ F) (h : Rl shelf np ng cur tw rn rmany image rturn rshelf rgroups inn) (z : Int32) : ∃ v, mX6_place F ng cur tw z = some v ∧ mX7_place F rturn rgroups inn z = some v := by
  obtain ⟨n, g, c, sh, GS, ⟨⟨a0, a1⟩, a2, a3, a4, a5⟩, ⟨b1, b2, b3, b4, b5⟩, c1, c2, c3, c4, c5, c6, c7⟩ := h
  have hrk := rk_31 a1 a3
  unfold mX6_place mX7_place
  rw [b2, c6, b3, c4]
  rcases grp_arg a2 z with ⟨⟨a, ha, rfl⟩, e1, e2⟩ | ⟨e1, e2⟩
  · obtain ⟨mq, ⟨R, C, fl, T, hc, hL, -⟩, hG⟩ := b5 a ha
    obtain ⟨N, hN, e5⟩ := ahead_is T hc hF c
    obtain ⟨N2, e6, hN2⟩ := placeR_L a1 c3 (a := a) (by omega) (c7 a ha) (rk_lt c a3) (rk n c) 0 F 0 (by omega) (by omega) cnt_0
    have : N = N2 := hN.uniq (hN2.congr (fun x => by
      constructor
      · rintro ⟨h1, h2, h3⟩
        exact ⟨(hL x).mp ((hG x).mpr h2), (rk_Lx a1 h1 a3).mp h3⟩
      · rintro ⟨h1, h2⟩
        have hx := (hG x).mp ((hL x).mpr h1)
        have hs := (a5 a ha).2 x hx
        exact ⟨hs, hx, (rk_Lx a1 hs a3).mpr h2⟩))
    subst this
    refine ⟨nI N, ?_, ?_⟩
    · rw [e1, if_neg one0, gd_t (inb_n (by omega) (by omega)), cl_n (by omega), bd_e e5]
    · rw [bd_e e2, if_neg one0, bd_e (show mX7_place_L15 (nI a) (nI (rk n c)) inn F 0 0 = _ from e6)]
  · exact ⟨-2, by rw [e1, if_pos zer0], by rw [bd_e e2, if_pos zer0]⟩
theorem call_element (hF : 50000 ≤ F) (h : Rl shelf np ng cur tw rn rmany image rturn rshelf rgroups inn) (z w : Int32) : ∃ v c1 t1, mX6_element F ng cur tw z w = some (v, c1) ∧ mX7_element F rmany rturn rgroups inn z w = some (v, t1) ∧ Rl shelf np ng c1 tw rn rmany image t1 rshelf rgroups inn := by
  have h0 := h
  obtain ⟨n, g, c, sh, GS, hA⟩ := h
  have hA' := hA
  obtain ⟨⟨⟨a0, a1⟩, a2, a3, a4, a5⟩, ⟨b1, b2, b3, b4, b5⟩, c1, c2, c3, c4, c5, c6, c7⟩ := hA
  subst b1 b2 b3 c1 c2 c4 c6
  have hfac := fac_8 a1
  unfold mX6_element mX7_element
  rcases grp_arg a2 z with ⟨⟨a, ha, rfl⟩, e1, e2⟩ | ⟨e1, e2⟩
  · rw [e1, if_neg one0, bd_e e2, if_neg one0]
    by_cases hw : w < 0
    · have hw2 : ¬ 0 ≤ w := by
        rw [Int32.lt_iff_toInt_lt] at hw
        rw [Int32.le_iff_toInt_le]
        omega
      exact ⟨-2, cdp c, nI (rk n c), by rw [if_pos hw], by rw [if_neg hw2], h0⟩
    · have hw2 : 0 ≤ w := by
        rw [Int32.lt_iff_toInt_lt] at hw
        rw [Int32.le_iff_toInt_le]
        omega
      obtain ⟨k, hk, rfl⟩ := nI_of hw
      rw [if_neg hw, if_pos hw2]
      obtain ⟨mq, hTG, hG⟩ := b5 a ha
      obtain ⟨N, hN, hN8, e3⟩ := hTG.size hF
      obtain ⟨R, C, fl, T, hc, hL, -⟩ := hTG
      have hGL : ∀ x, Lv R C 0 x ↔ GS a x := fun x => (hL x).symm.trans (hG x)
      have hNG : Hc (fun x => Sup n x ∧ GS a x) N := hN.congr (fun x => ⟨fun h => ⟨(a5 a ha).2 x ((hG x).mp h), (hG x).mp h⟩, fun h => (hG x).mpr h.2⟩)
      have hNt : N = tf R 0 := hN.uniq ((tf_is T.1 (Nat.zero_le 8)).congr (fun x => (hL x).symm))
      have hr := elementR_L a1 c3 (a := a) (by omega) (c7 a ha) (nI (rk n c)) hk (fac n) 0 F 0 (by omega) (by omega) cnt_0 (Nat.zero_le _)
      rw [Nat.sub_zero] at hr
      rw [gd_t (inb_n (by omega) (by omega)), cl_n (by omega), bd_e e3]
      by_cases hkN : k < N
      · obtain ⟨x, hx, hxk, e4⟩ := turnAt_is T hc hF (k := k) (by omega)
        have hxG := (hGL x).mp hx
        have hxs := (a5 a ha).2 x hxG
        refine ⟨1, cdp x, nI (rk n x), ?_, ?_, hA'.turn hxs⟩
        · rw [if_pos (nI_lt hkN (by omega)), gd_t (inb_n (by omega) (by omega)), bd_e e4]
        · rcases hr with ⟨y, hy, hyG, hyk, e5⟩ | ⟨⟨N2, h2, h3⟩, _⟩
          · have : rk n y = rk n x := by
              -- as many are ahead of both
              have cx : Hc (fun u => Sup n u ∧ GS a u ∧ rk n u < rk n x) k := hxk.congr (fun u => by
                constructor
                · rintro ⟨q1, q2⟩
                  have hu := (hGL u).mp q1
                  have hus := (a5 a ha).2 u hu
                  exact ⟨hus, hu, (rk_Lx a1 hus hxs).mpr q2⟩
                · rintro ⟨q1, q2, q3⟩
                  exact ⟨(hGL u).mpr q2, (rk_Lx a1 q1 hxs).mp q3⟩)
              rcases Nat.lt_trichotomy (rk n y) (rk n x) with hlt | heq | hgt
              · have := (hyk.or (Hc.single (P := fun u => u = y) y (fun _ => Iff.rfl)) (fun u hu e => by subst e; omega)).le cx (fun u hu => by
                  rcases hu with ⟨q1, q2, q3⟩ | rfl
                  · exact ⟨q1, q2, by omega⟩
                  · exact ⟨hy, hyG, hlt⟩)
                omega
              · exact heq
              · have := (cx.or (Hc.single (P := fun u => u = x) x (fun _ => Iff.rfl)) (fun u hu e => by subst e; omega)).le hyk (fun u hu => by
                  rcases hu with ⟨q1, q2, q3⟩ | rfl
                  · exact ⟨q1, q2, by omega⟩
                  · exact ⟨hxs, hxG, hgt⟩)
                omega
            rw [← this]
            exact e5
          · have := hNG.uniq h2
            omega
      · refine ⟨-2, cdp c, nI (rk n c), ?_, ?_, h0⟩
        · rw [if_neg (nI_nlt (by omega) (by omega))]
        · rcases hr with ⟨y, hy, hyG, hyk, e5⟩ | ⟨_, e5⟩
          · exfalso
            have := (hyk.or (Hc.single (P := fun u => u = y) y (fun _ => Iff.rfl)) (fun u hu e => by subst e; omega)).le hNG (fun u hu => by
              rcases hu with ⟨q1, q2, q3⟩ | rfl
              · exact ⟨q1, q2⟩
              · exact ⟨hy, hyG⟩)
            omega
          · exact e5
  · exact ⟨-2, cdp c, nI (rk n c), by rw [e1, if_pos zer0], by rw [bd_e e2, if_pos zer0], h0⟩
theorem call_carry (hF : 50000 ≤ F) (h : Rl shelf np ng cur tw rn rmany image rturn rshelf rgroups inn) (z w y : Int32) : ∃ v c1 t1, mX6_carry F np ng cur tw z w y = some (v, c1) ∧ mX7_carry F rn rmany image rturn rgroups inn z w y = some (v, t1) ∧ Rl shelf np ng c1 tw rn rmany image t1 rshelf rgroups inn := by
  have h0 := h
  obtain ⟨n, g, c, sh, GS, hA⟩ := h
  have hA' := hA
  obtain ⟨⟨⟨a0, a1⟩, a2, a3, a4, a5⟩, ⟨b1, b2, b3, b4, b5⟩, c1, c2, c3, c4, c5, c6, c7⟩ := hA
  subst b1 b2 b3 c1 c2 c4 c6
  have hfac := fac_8 a1
  have h2n : 2 ^ n ≤ 2 ^ 8 := Nat.pow_le_pow_right (by decide) a1
  unfold mX6_carry mX7_carry
  rcases grp_arg a2 z with ⟨⟨a, ha, rfl⟩, e1, e2⟩ | ⟨e1, e2⟩
  · rcases set_arg a1 w with ⟨⟨s1, hs1, rfl⟩, e3, e4⟩ | ⟨e3, e4⟩
    · rcases set_arg a1 y with ⟨⟨s2, hs2, rfl⟩, e5, e6⟩ | ⟨e5, e6⟩
      · obtain ⟨mq, ⟨R, C, fl, T, hc, hL, -⟩, hG⟩ := b5 a ha
        have hGL : ∀ x, Lv R C 0 x ↔ GS a x := fun x => (hL x).symm.trans (hG x)
        have h1 : s1 < 256 := by omega
        have h2 : s2 < 256 := by omega
        have hr := carryR_L hF a1 c3 (a := a) (by omega) hs1 hs2 (c7 a ha) (nI (rk n c)) (fac n) 0 F (by omega) (by omega) (fun x _ _ hx => by omega)
        have l1 := ct_le s1.testBit 8
        have l2 := ct_le s2.testBit 8
        have hL6 : ∀ X, (lT (((1 : Int32) <<< (nI n &&& 31)) - 1) (fun zx4 => bd (mX7_isGroup (nI g) (nI a)) (fun zr => if zr = 0 then (some ((-2 : Int32), nI (rk n c))) else (if (mX7_isIn (nI s1) 0 zx4) = 0 then (some ((-2 : Int32), nI (rk n c))) else (if (mX7_isIn (nI s2) 0 zx4) = 0 then (some ((-2 : Int32), nI (rk n c))) else X))))) = X := fun X => by
          rw [lT_x, bd_e e2, if_neg one0, e4, if_neg one0, e6, if_neg one0]
        rw [hL6, e1, if_neg one0, e3, if_neg one0, e5, if_neg one0, bc_is s1 h1, bc_is s2 h2]
        by_cases hct : ct s1.testBit 8 = ct s2.testBit 8
        · rw [if_pos (by rw [hct]), gd_t (inb_n (by omega) (by omega)), cl_n (by omega)]
          rcases firstThat_is T hF (wish0 F h1 h2 (fun _ => 0) (fun _ => 0) (fun _ => 0) 0) with ⟨x, ⟨hx, hfit⟩, hmin, e7⟩ | ⟨hnone, e7⟩
          · have hxG := (hGL x).mp hx
            have hxs := (a5 a ha).2 x hxG
            have hxS : ims x s1 = s2 := (ims_eq h2).mpr hfit
            rw [bd_e e7, if_neg (cdp_ne0 x)]
            refine ⟨1, cdp x, nI (rk n x), rfl, ?_, hA'.turn hxs⟩
            rcases hr with ⟨u, hu, huG, huS, humin, e8⟩ | ⟨hno, _⟩
            · have hux : u = x := by
                rcases hmin u ⟨(hGL u).mpr huG, (ims_eq h2).mp huS⟩ with e | e
                · exact e
                · have := rk_mono a1 hxs hu e
                  have := humin x hxs hxG hxS
                  omega
              subst hux
              exact e8
            · exact absurd hxS (hno x hxs hxG)
          · rw [bd_e e7, if_pos zer0]
            refine ⟨-1, cdp c, nI (rk n c), rfl, ?_, h0⟩
            rcases hr with ⟨u, hu, huG, huS, humin, e8⟩ | ⟨_, e8⟩
            · exact absurd ⟨(hGL u).mpr huG, (ims_eq h2).mp huS⟩ (hnone u)
            · exact e8
        · rw [if_neg (fun e => hct ((nI_eq (by omega) (by omega)).mp e))]
          refine ⟨-1, cdp c, nI (rk n c), rfl, ?_, h0⟩
          rcases hr with ⟨u, hu, huG, huS, humin, e8⟩ | ⟨_, e8⟩
          · exfalso
            apply hct
            rw [← huS, ct_ims u h1]
          · exact e8
      · exact ⟨-2, cdp c, nI (rk n c), by rw [e1, if_neg one0, e3, if_neg one0, e5, if_pos zer0], by rw [lT_x, bd_e e2, if_neg one0, e4, if_neg one0, e6, if_pos zer0], h0⟩
    · exact ⟨-2, cdp c, nI (rk n c), by rw [e1, if_neg one0, e3, if_pos zer0], by rw [lT_x, bd_e e2, if_neg one0, e4, if_pos zer0], h0⟩
  · exact ⟨-2, cdp c, nI (rk n c), by rw [e1, if_pos zer0], by rw [lT_x, bd_e e2, if_pos zer0], h0⟩
theorem Rl.kq {n g : Nat} {c : Pm} {sh : Nat → Pm} {GS : Nat → Pm → Prop} (h : RlA n g c sh GS shelf np ng cur tw rn rmany image rturn rshelf rgroups inn) {s s2 : RW} (e : s.1 = inn) (hk : Kq n s s2) : Rl shelf np ng cur tw rn rmany image rturn rshelf rgroups s2.1 := by
  obtain ⟨⟨a1, a2, a3, a4, a5⟩, ⟨b1, b2, b3, b4, b5⟩, c1, c2', c3, c4, c5, c6, c7⟩ := h
  exact ⟨n, g, c, sh, GS, ⟨a1, a2, a3, a4, a5⟩, ⟨b1, b2, b3, b4, b5⟩, c1, c2', c3, c4, c5, c6, fun a ha => hk a (GS a) (by omega) (by omega) (by rw [e]; exact c7 a ha)⟩
theorem call_is (hF : 50000 ≤ F) (h : Rl shelf np ng cur tw rn rmany image rturn rshelf rgroups inn) (now makers makerMany queue : Nat → Int32) (w y z : Int32) : ∃ (v : Int32) (s2 : RW), mX6_is F ng tw w y z = some v ∧ mX7_is F rn rmany image rgroups inn now makers makerMany queue w y z = some (v, s2) ∧ Rl shelf np ng cur tw rn rmany image rturn rshelf rgroups s2.1 := by
  have h0 := h
  obtain ⟨n, g, c, sh, GS, hA⟩ := h
  have hA' := hA
  obtain ⟨⟨⟨a0, a1⟩, a2, a3, a4, a5⟩, ⟨b1, b2, b3, b4, b5⟩, c1, c2, c3, c4, c5, c6, c7⟩ := hA
  unfold mX6_is mX7_is
  rcases way_arg (m := 3) (by omega) (by omega) w with ⟨⟨j, hj, rfl⟩, w1, w2, w3⟩ | ⟨w1, w2⟩
  · have w3' : mX7_isIn (nI j) 0 2 = 1 := w3
    rcases grp_arg a2 y with ⟨⟨a, ha, rfl⟩, e1, e2⟩ | ⟨e1, e2⟩
    · rcases grp_arg a2 z with ⟨⟨b, hb, rfl⟩, e3, e4⟩ | ⟨e3, e4⟩
      · obtain ⟨mq, hTa, hGa⟩ := b5 a ha
        obtain ⟨mr, hTb, hGb⟩ := b5 b hb
        have hsub : (∀ x, Sup n x → GS a x → GS b x) ↔ (∀ x, GL mq x → GL mr x) := ⟨fun h x hx => (hGb x).mpr (h x ((a5 a ha).2 x ((hGa x).mp hx)) ((hGa x).mp hx)), fun h x _ hx => (hGb x).mp (h x ((hGa x).mpr hx))⟩
        have hC : ∀ X, (if nI j < 0 then some (-2 : Int32) else (if 2 < nI j then (some (-2 : Int32)) else (if (mX6_isGroup ng (nI a)) = 0 then (some (-2 : Int32)) else (if (mX6_isGroup ng (nI b)) = 0 then (some (-2 : Int32)) else (gd (inb (nI a) 10) (gd (inb (nI b) 10) X)))))) = X := fun X => by
          rw [if_neg w1, if_neg (show ¬ (2 : Int32) < nI j from w2), b2, e1, if_neg one0, e3, if_neg one0, gd_t (inb_n (by omega) (by omega)), gd_t (inb_n (by omega) (by omega))]
        have hR : ∀ X, (if mX7_isIn (nI j) 0 2 = 0 then some ((-2 : Int32), inn, now, makers, makerMany, queue) else bd (mX7_isGroup rgroups (nI a)) (fun zr_1 => if zr_1 = 0 then some ((-2 : Int32), inn, now, makers, makerMany, queue) else bd (mX7_isGroup rgroups (nI b)) (fun zr_2 => if zr_2 = 0 then some ((-2 : Int32), inn, now, makers, makerMany, queue) else X))) = X := fun X => by
          rw [w3', if_neg one0, c6, bd_e e2, if_neg one0, bd_e e4, if_neg one0]
        rw [hC, hR, cl_n (show a < 2 ^ 31 by omega), cl_n (show b < 2 ^ 31 by omega)]
        rcases isWithin_is hTa hTb hF with ⟨hw, e5⟩ | ⟨hw, e5⟩
        · rcases isWithinR_is hF a1 c3 (a := a) (b := b) (by omega) (by omega) (c7 a ha) (c7 b hb) with ⟨hw2, e6⟩ | ⟨hw2, e6⟩
          · rw [bd_e e5, if_neg one0, c2, bd_e e6, if_neg one0]
            rcases (show j = 0 ∨ j = 1 ∨ j = 2 by omega) with rfl | rfl | rfl
            · exact ⟨1, (inn, now, makers, makerMany, queue), by rw [if_neg n01, if_pos nI_0, bd_s, tr1], by rw [if_pos nI_0, bd6_e rfl, if_neg one0], by rw [← c2]; exact h0⟩
            · obtain ⟨v, ⟨i2, n2, k2, m2, q2⟩, e7, hkq, h7⟩ := isNormalR_is hF a1 c3 (a := a) (b := b) (by omega) (by omega) (a5 a ha).1 (a5 b hb).1 (a5 a ha).2 (a5 b hb).2 (inn, now, makers, makerMany, queue) (c7 a ha) (c7 b hb)
              have hRl := Rl.kq hA' (s := (inn, now, makers, makerMany, queue)) rfl hkq
              rw [c2, c1] at hRl
              have hnor : (∀ x y, GL mq x → GL mr y → GL mq (x.cj y)) ↔ (∀ x y, GS a x → GS b y → GS a (x.cj y)) := ⟨fun h x y hx hy => (hGa _).mp (h x y ((hGa x).mpr hx) ((hGb y).mpr hy)), fun h x y hx hy => (hGa _).mpr (h x y ((hGa x).mp hx) ((hGb y).mp hy))⟩
              have e7' : mX7_isNormal F rn (nI (fac n)) image inn now makers makerMany queue (nI a) (nI b) = some (v, i2, n2, k2, m2, q2) := by rw [c1]; exact e7
              rcases staysUnder_is hTa hTb.row hF with ⟨h8, e8⟩ | ⟨h8, e8⟩
              · rcases h7 with ⟨_, rfl⟩ | ⟨h9, _⟩
                · exact ⟨1, (i2, n2, k2, m2, q2), by rw [if_pos n11, gd_t (inb_n (by omega) (by omega)), gd_t (inb_n (by omega) (by omega)), bd_e e8, tr1], by rw [if_neg n10, if_pos n11, bd6_e e7', if_neg one0, bd6_e rfl, if_neg one0], by rw [c1]; exact hRl⟩
                · exact absurd (hnor.mp h8) h9
              · rcases h7 with ⟨h9, _⟩ | ⟨_, rfl⟩
                · exact absurd (hnor.mpr h9) h8
                · exact ⟨0, (i2, n2, k2, m2, q2), by rw [if_pos n11, gd_t (inb_n (by omega) (by omega)), gd_t (inb_n (by omega) (by omega)), bd_e e8, tr0], by rw [if_neg n10, if_pos n11, bd6_e e7', if_pos zer0, bd6_e rfl, if_pos zer0], by rw [c1]; exact hRl⟩
            · obtain ⟨N, hN, hN8, e7⟩ := hTa.size hF
              obtain ⟨M, hM, hM8, e8⟩ := hTb.size hF
              rcases isWithinR_is hF a1 c3 (a := b) (b := a) (by omega) (by omega) (c7 b hb) (c7 a ha) with ⟨hw3, e9⟩ | ⟨hw3, e9⟩
              · have hNM : N = M := hN.uniq (hM.congr (fun x => ⟨fun hx => (hGa x).mpr (hw3 x ((a5 b hb).2 x ((hGb x).mp hx)) ((hGb x).mp hx)), hw x⟩))
                exact ⟨1, (inn, now, makers, makerMany, queue), by rw [if_neg n21, if_neg n20, gd_t (inb_n (by omega) (by omega)), bd_e e7, gd_t (inb_n (by omega) (by omega)), bd_e e8, if_pos (by rw [hNM]), bd_s, tr1], by rw [if_neg n20, if_neg n21, bd_e e9, if_neg one0, bd6_e rfl, if_neg one0], by rw [← c2]; exact h0⟩
              · have hNM : N ≠ M := fun e => by
                  apply hw3
                  intro x _ hx
                  rw [← e] at hM
                  exact (hGa x).mp (hN.full hM hw ((hGb x).mpr hx))
                exact ⟨0, (inn, now, makers, makerMany, queue), by rw [if_neg n21, if_neg n20, gd_t (inb_n (by omega) (by omega)), bd_e e7, gd_t (inb_n (by omega) (by omega)), bd_e e8, if_neg (fun e => hNM ((nI_eq (by omega) (by omega)).mp e)), bd_s, tr0], by rw [if_neg n20, if_neg n21, bd_e e9, if_pos zer0, bd6_e rfl, if_pos zer0], by rw [← c2]; exact h0⟩
          · exact absurd (hsub.mpr hw) hw2
        · rcases isWithinR_is hF a1 c3 (a := a) (b := b) (by omega) (by omega) (c7 a ha) (c7 b hb) with ⟨hw2, e6⟩ | ⟨hw2, e6⟩
          · exact absurd (hsub.mp hw2) hw
          · exact ⟨0, (inn, now, makers, makerMany, queue), by rw [bd_e e5, if_pos zer0], by rw [c2, bd_e e6, if_pos zer0, bd6_e rfl, if_pos zer0], h0⟩
      · exact ⟨-2, (inn, now, makers, makerMany, queue), by rw [if_neg w1, if_neg (show ¬ (2 : Int32) < nI j from w2), b2, e1, if_neg one0, e3, if_pos zer0], by rw [w3', if_neg one0, c6, bd_e e2, if_neg one0, bd_e e4, if_pos zer0], h0⟩
    · exact ⟨-2, (inn, now, makers, makerMany, queue), by rw [if_neg w1, if_neg (show ¬ (2 : Int32) < nI j from w2), b2, e1, if_pos zer0], by rw [w3', if_neg one0, c6, bd_e e2, if_pos zer0], h0⟩
  · refine ⟨-2, (inn, now, makers, makerMany, queue), ?_, by rw [show mX7_isIn w 0 2 = 0 from w2, if_pos zer0], h0⟩
    rcases w1 with w1 | ⟨w1, w1'⟩
    · rw [if_pos w1]
    · rw [if_neg w1, if_pos (show (2 : Int32) < w from w1')]
end ASKC
