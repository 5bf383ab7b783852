/-! ===== the reference: joinAll, close, goDown, isNormal, and counts ===== -/
section REF
variable {F n : Nat} {image : Nat → Int32}
theorem joinAllR_L (hF : 50000 ≤ F) (hn : n ≤ 8) (hT : Tbl n image) {w a : Nat} (hw : w < 13) (ha : a < 13) (haw : a ≠ w) {S : Pm → Prop} : ∀ (d r f : Nat) (mq : List Pm) (s : RW), WG n w mq s → RS n s.1 a S → r + d = fac n → d < f → ∃ s2 mr, mX7_joinAll_L2 F (nI w) (nI a) (nI n) (nI (fac n)) image f (nI r) s.1 s.2.1 s.2.2.1 s.2.2.2.1 s.2.2.2.2 = some s2 ∧ WG n w mr s2 ∧ Kp w s s2 ∧ Jnd mq mr (fun x => Sup n x ∧ S x ∧ r ≤ rk n x)
  | 0, r, f, mq, s, h, hS, hr, hf => by
    obtain ⟨f, rfl⟩ : ∃ g, f = g + 1 := ⟨f - 1, by omega⟩
    have hfac := fac_8 hn
    exact ⟨s, mq, by rw [mX7_joinAll_L2_s, if_pos (nI_le (by omega) (by omega))], h, Kp.refl, Jnd.refl fun x ⟨h1, _, h3⟩ => by have := rk_lt x h1; omega⟩
  | d + 1, r, f, mq, s, h, hS, hr, hf => by
    obtain ⟨f, rfl⟩ : ∃ g, f = g + 1 := ⟨f - 1, by omega⟩
    have hfac := fac_8 hn
    obtain ⟨x, hx, hxr⟩ := hT.ex (show r < fac n by omega)
    rw [mX7_joinAll_L2_s, if_neg (nI_ge (by omega) (by omega)), nI_1]
    rcases has_is hn hS ha hx with ⟨hin, e⟩ | ⟨hout, e⟩
    · obtain ⟨⟨i1, n1, k1, m1, q1⟩, e1, h1, kp1⟩ := joinR_is hF hn hT hw h hx
      rw [hxr] at e e1
      obtain ⟨s2, mr, e2, h2, kp2, j2⟩ := joinAllR_L hF hn hT hw ha haw d (r + 1) f _ _ h1 (hS.off hn kp1.1 haw) (by omega) (by omega)
      refine ⟨s2, mr, by rw [bd_e e, if_neg (by decide), bd5_e e1, bd5_e rfl]; exact e2, h2, kp1.trans kp2, (Jnd.jn mq x).trans j2 (fun y => ?_)⟩
      constructor
      · rintro ⟨b1, b2, b3⟩
        by_cases ey : rk n y = r
        · exact Or.inl (rk_inj hn b1 hx (ey.trans hxr.symm))
        · exact Or.inr ⟨b1, b2, by omega⟩
      · rintro (rfl | ⟨b1, b2, b3⟩)
        · exact ⟨hx, hin, by omega⟩
        · exact ⟨b1, b2, by omega⟩
    · rw [hxr] at e
      obtain ⟨s2, mr, e2, h2, kp2, j2⟩ := joinAllR_L hF hn hT hw ha haw d (r + 1) f mq s h hS (by omega) (by omega)
      refine ⟨s2, mr, by rw [bd_e e, if_pos rfl, bd5_e rfl]; exact e2, h2, kp2, (Jnd.refl (X := fun _ => False) (fun _ h => h)).trans j2 (fun y => ?_)⟩
      constructor
      · rintro ⟨b1, b2, b3⟩
        by_cases ey : rk n y = r
        · exact absurd (rk_inj hn b1 hx (ey.trans hxr.symm) ▸ b2) hout
        · exact Or.inr ⟨b1, b2, by omega⟩
      · rintro (hf | ⟨b1, b2, b3⟩)
        · exact hf.elim
        · exact ⟨b1, b2, by omega⟩
theorem joinAllR_is (hF : 50000 ≤ F) (hn : n ≤ 8) (hT : Tbl n image) {w a : Nat} (hw : w < 13) (ha : a < 13) (haw : a ≠ w) {S : Pm → Prop} {mq : List Pm} {s : RW} (h : WG n w mq s) (hS : RS n s.1 a S) (hsub : ∀ x, S x → Sup n x) : ∃ s2 mr, mX7_joinAll F (nI n) (nI (fac n)) image s.1 s.2.1 s.2.2.1 s.2.2.2.1 s.2.2.2.2 (nI w) (nI a) = some s2 ∧ WG n w mr s2 ∧ Kp w s s2 ∧ ∀ x, GL mr x ↔ Gen (fun y => y ∈ mq ∨ S y) x := by
  have hfac := fac_8 hn
  obtain ⟨⟨i2, n2, k2, m2, q2⟩, mr, e, h2, kp, j⟩ := joinAllR_L hF hn hT hw ha haw (fac n) 0 F mq s h hS (by omega) (by omega)
  refine ⟨_, mr, ?_, h2, kp, fun x => ?_⟩
  · unfold mX7_joinAll
    rw [bd5_e (show mX7_joinAll_L2 F (nI w) (nI a) (nI n) (nI (fac n)) image F 0 s.1 s.2.1 s.2.2.1 s.2.2.2.1 s.2.2.2.2 = _ from e)]
  · rw [j.gen]
    exact Gen.congr (fun y hy => Gen.of (hy.imp id (fun h => h.2.1))) (fun y hy => Gen.of (hy.imp id (fun h => ⟨hsub y h, h, Nat.zero_le _⟩))) x
theorem gen_nil {S : Pm → Prop} (hS : Grp S) (x : Pm) : Gen (fun y => y ∈ ([] : List Pm) ∨ S y) x ↔ S x := ⟨Gen.least hS (fun y hy => hy.elim (fun h => absurd h List.not_mem_nil) id), fun h => Gen.of (Or.inr h)⟩
theorem closeR_in (hF : 50000 ≤ F) (hn : n ≤ 8) (hT : Tbl n image) {w v : Nat} (hw : w < 13) (hv : v < 13) (hvw : v ≠ w) {um : List Pm} {k : Nat} {x : Pm} : ∀ (d i f : Nat) (mq : List Pm) (s : RW), WG n w mq s → WG n v um s → mq[k]? = some x → i + d = um.length → d < f → ∃ s2 mr, mX7_close_L15 F (nI w) (nI v) (nI k) (nI n) (nI (fac n)) image f (nI i) s.1 s.2.1 s.2.2.1 s.2.2.2.1 s.2.2.2.2 = some s2 ∧ WG n w mr s2 ∧ Kp w s s2 ∧ Jnd mq mr (fun y => ∃ z, Fr um i z ∧ y = x.cj z)
  | 0, i, f, mq, s, h, hu, hk, hi, hf => by
    obtain ⟨f, rfl⟩ : ∃ g, f = g + 1 := ⟨f - 1, by omega⟩
    have hl := hu.len
    exact ⟨s, mq, by rw [mX7_close_L15_s, gd_t (inb_n hv (by omega)), cl_n (by omega), hu.2.2.1, if_pos (nI_le (by omega) (by omega))], h, Kp.refl, Jnd.refl fun y ⟨z, hz, _⟩ => Fr_end (by omega) hz⟩
  | d + 1, i, f, mq, s, h, hu, hk, hi, hf => by
    obtain ⟨f, rfl⟩ : ∃ g, f = g + 1 := ⟨f - 1, by omega⟩
    have hl := hu.len
    have hlm := h.len
    have hk1 := (List.getElem?_eq_some_iff.mp hk).1
    obtain ⟨z, hz⟩ : ∃ z, um[i]? = some z := ⟨um[i]'(by omega), List.getElem?_eq_getElem (by omega)⟩
    have hxs := h.2.2.2.2 x (List.mem_of_getElem? hk)
    have hzs := hu.2.2.2.2 z (List.mem_of_getElem? hz)
    obtain ⟨now1, e1⟩ := carriedR_is hF hT hn hxs hzs s.2.1
    have h' : WG n w mq (s.1, now1, s.2.2.1, s.2.2.2.1, s.2.2.2.2) := h
    obtain ⟨⟨i2, n2, k2, m2, q2⟩, e2, h2, kp2⟩ := joinR_is hF hn hT hw h' (hxs.cj hzs)
    have kp2' : Kp w s (i2, n2, k2, m2, q2) := kp2
    have j2 := Jnd.jn mq (x.cj z)
    obtain ⟨s3, mr, e3, h3, kp3, j3⟩ := closeR_in hF hn hT hw hv hvw d (i + 1) f _ _ h2 (hu.kp hn kp2' hvw) (j2.get hk) (by omega) (by omega)
    refine ⟨s3, mr, ?_, h3, kp2'.trans kp3, j2.trans j3 (fun y => ?_)⟩
    · have hne : ∀ A B : Option RW, (if s.2.2.2.1 v ≤ nI i then A else B) = B := fun A B => by rw [hu.2.2.1, if_neg (nI_ge (by omega) (by omega))]
      rw [mX7_close_L15_s, gd_t (inb_n hv (by omega)), cl_n (by omega), hne, ixM, ixM, gd_t (inb_n (by omega) (by omega)), gd_t (inb_n (by omega) (by omega)), cl_n (by omega), cl_n (by omega), h.2.1 k x hk, hu.2.1 i z hz, bd2_e e1, bd5_e e2, nI_1]
      exact e3
    · constructor
      · rintro ⟨u, hu', e⟩
        rcases (Fr_s hz).mp hu' with rfl | hu'
        · exact Or.inl e
        · exact Or.inr ⟨u, hu', e⟩
      · rintro (e | ⟨u, hu', e⟩)
        · exact ⟨z, (Fr_s hz).mpr (Or.inl rfl), e⟩
        · exact ⟨u, (Fr_s hz).mpr (Or.inr hu'), e⟩
theorem closeR_L (hF : 50000 ≤ F) (hn : n ≤ 8) (hT : Tbl n image) {w v : Nat} (hw : w < 13) (hv : v < 13) (hvw : v ≠ w) {um : List Pm} : ∀ (d k f : Nat) (mq : List Pm) (s : RW), WG n w mq s → WG n v um s → k + d = 16 → d < f → (∀ j x z, j < k → mq[j]? = some x → z ∈ um → GL mq (x.cj z)) → ∃ s2 mr, mX7_close_L2 F (nI w) (nI v) (nI n) (nI (fac n)) image f (nI k) s.1 s.2.1 s.2.2.1 s.2.2.2.1 s.2.2.2.2 = some s2 ∧ WG n w mr s2 ∧ Kp w s s2 ∧ (∃ more, mr = mq ++ more) ∧ (∀ x z, x ∈ mr → z ∈ um → GL mr (x.cj z)) ∧ ∀ K, Grp K → (∀ x, x ∈ mq → K x) → (∀ a z, K a → z ∈ um → K (a.cj z)) → ∀ x, x ∈ mr → K x
  | 0, k, f, mq, s, h, hu, hk, hf, hd => by
    obtain ⟨f, rfl⟩ : ∃ g, f = g + 1 := ⟨f - 1, by omega⟩
    have hlm := h.len
    refine ⟨s, mq, by rw [mX7_close_L2_s, gd_t (inb_n hw (by omega)), cl_n (by omega), h.2.2.1, if_pos (nI_le (by omega) (by omega))], h, Kp.refl, ⟨[], (List.append_nil _).symm⟩, fun x z hx hz => ?_, fun K _ h1 _ => h1⟩
    obtain ⟨j, hj⟩ := List.getElem?_of_mem hx
    exact hd j x z (by have := (List.getElem?_eq_some_iff.mp hj).1; omega) hj hz
  | d + 1, k, f, mq, s, h, hu, hk, hf, hd => by
    obtain ⟨f, rfl⟩ : ∃ g, f = g + 1 := ⟨f - 1, by omega⟩
    have hlm := h.len
    have hl := hu.len
    rcases get_or mq k with hge | ⟨x, hlt, hx⟩
    · refine ⟨s, mq, by rw [mX7_close_L2_s, gd_t (inb_n hw (by omega)), cl_n (by omega), h.2.2.1, if_pos (nI_le hge (by omega))], h, Kp.refl, ⟨[], (List.append_nil _).symm⟩, fun x z hx hz => ?_, fun K _ h1 _ => h1⟩
      obtain ⟨j, hj⟩ := List.getElem?_of_mem hx
      exact hd j x z (by have := (List.getElem?_eq_some_iff.mp hj).1; omega) hj hz
    · obtain ⟨⟨i2, n2, k2, m2, q2⟩, m1, e2, h2, kp2, j2⟩ := closeR_in hF hn hT hw hv hvw um.length 0 F mq s h hu hx (by omega) (by omega)
      obtain ⟨s3, mr, e3, h3, kp3, ⟨more, p3⟩, c3, l3⟩ := closeR_L hF hn hT hw hv hvw d (k + 1) f m1 _ h2 (hu.kp hn kp2 hvw) (by omega) (by omega) (fun j y z hj hy hz => by
        by_cases e : j = k
        · subst e
          have : y = x := by rw [j2.get hx] at hy; exact (Option.some.inj hy).symm
          subst this
          exact j2.2.1 _ ⟨z, Fr_0.mpr hz, rfl⟩
        · obtain ⟨y', hy'⟩ : ∃ y', mq[j]? = some y' := ⟨mq[j]'(by omega), List.getElem?_eq_getElem (by omega)⟩
          have : y = y' := by rw [j2.get hy'] at hy; exact (Option.some.inj hy).symm
          subst this
          exact j2.mono (hd j y z (by omega) hy' hz))
      obtain ⟨m0, p0⟩ := j2.1
      refine ⟨s3, mr, ?_, h3, kp2.trans kp3, ⟨m0 ++ more, by rw [p3, p0, List.append_assoc]⟩, c3, fun K hK a1 a2 => ?_⟩
      · have hne : ∀ A B : Option RW, (if s.2.2.2.1 w ≤ nI k then A else B) = B := fun A B => by rw [h.2.2.1, if_neg (nI_ge hlt (by omega))]
        rw [mX7_close_L2_s, gd_t (inb_n hw (by omega)), cl_n (by omega), hne, bd5_e (show mX7_close_L15 F (nI w) (nI v) (nI k) (nI n) (nI (fac n)) image F 0 s.1 s.2.1 s.2.2.1 s.2.2.2.1 s.2.2.2.2 = _ from e2), nI_1]
        exact e3
      · refine l3 K hK (j2.2.2 K hK a1 (fun y ⟨z, hz, e⟩ => ?_)) a2
        rw [e]
        exact a2 x z (a1 x (List.mem_of_getElem? hx)) (List.mem_of_getElem? hz.choose_spec.2)
theorem closeR_is (hF : 50000 ≤ F) (hn : n ≤ 8) (hT : Tbl n image) {w v : Nat} (hw : w < 13) (hv : v < 13) (hvw : v ≠ w) {um mq : List Pm} {s : RW} (h : WG n w mq s) (hu : WG n v um s) : ∃ s2 mr, mX7_close F (nI n) (nI (fac n)) image s.1 s.2.1 s.2.2.1 s.2.2.2.1 s.2.2.2.2 (nI w) (nI v) = some s2 ∧ WG n w mr s2 ∧ Kp w s s2 ∧ IsNC (fun x => x ∈ mq) (fun x => x ∈ um) (GL mr) := by
  obtain ⟨⟨i2, n2, k2, m2, q2⟩, mr, e, h2, kp, p, c, l⟩ := closeR_L hF hn hT hw hv hvw 16 0 F mq s h hu (by omega) (by omega) (fun j x z hj => by omega)
  refine ⟨_, mr, ?_, h2, kp, nc_of p c l⟩
  unfold mX7_close
  rw [bd5_e (show mX7_close_L2 F (nI w) (nI v) (nI n) (nI (fac n)) image F 0 s.1 s.2.1 s.2.2.1 s.2.2.2.1 s.2.2.2.2 = _ from e)]
theorem ix320 (k : Nat) : (320 : Int32) + nI k = nI (32 * 10 + k) := by
  show nI 320 + nI k = _
  rw [nI_add]
theorem ix352 (k : Nat) : (352 : Int32) + nI k = nI (32 * 11 + k) := by
  show nI 352 + nI k = _
  rw [nI_add]
theorem goDown_in (hF : 50000 ≤ F) (hn : n ≤ 8) (hT : Tbl n image) {um : List Pm} {i : Nat} {x : Pm} (hx : um[i]? = some x) : ∀ (d k f : Nat) (mq : List Pm) (s : RW), WG n 11 mq s → WG n 10 um s → k + d = um.length → d < f → ∃ s2 mr, mX7_goDown_L34 F (nI i) (nI n) (nI (fac n)) image f (nI k) s.1 s.2.1 s.2.2.1 s.2.2.2.1 s.2.2.2.2 = some s2 ∧ WG n 11 mr s2 ∧ Kp 11 s s2 ∧ Jnd mq mr (fun y => ∃ z, Fr um k z ∧ y = x.cm z)
  | 0, k, f, mq, s, h, hu, hk, hf => by
    obtain ⟨f, rfl⟩ : ∃ g, f = g + 1 := ⟨f - 1, by omega⟩
    have hl := hu.len
    exact ⟨s, mq, by rw [mX7_goDown_L34_s, gd_t (by decide), show (Int32.toNatClampNeg 10) = 10 from rfl, hu.2.2.1, if_pos (nI_le (by omega) (by omega))], h, Kp.refl, Jnd.refl fun y ⟨z, hz, _⟩ => Fr_end (by omega) hz⟩
  | d + 1, k, f, mq, s, h, hu, hk, hf => by
    obtain ⟨f, rfl⟩ : ∃ g, f = g + 1 := ⟨f - 1, by omega⟩
    have hl := hu.len
    have hi1 := (List.getElem?_eq_some_iff.mp hx).1
    obtain ⟨z, hz⟩ : ∃ z, um[k]? = some z := ⟨um[k]'(by omega), List.getElem?_eq_getElem (by omega)⟩
    have hxs := hu.2.2.2.2 x (List.mem_of_getElem? hx)
    have hzs := hu.2.2.2.2 z (List.mem_of_getElem? hz)
    obtain ⟨o1, e1⟩ := backOf_is hF hT hn hxs s.2.1
    obtain ⟨o2, e2⟩ := backOf_is hF hT hn hzs o1
    obtain ⟨o3, e3⟩ := oneThen_is hF hT hn hxs hzs o2
    obtain ⟨o4, e4⟩ := oneThen_is hF hT hn hzs.bk (hxs.th hzs) o3
    obtain ⟨o5, e5⟩ := oneThen_is hF hT hn hxs.bk (hzs.bk.th (hxs.th hzs)) o4
    have ecm : x.bk.th (z.bk.th (x.th z)) = x.cm z := by unfold Pm.cm; rw [Pm.th_assoc]
    rw [ecm] at e5
    have h' : WG n 11 mq (s.1, o5, s.2.2.1, s.2.2.2.1, s.2.2.2.2) := h
    have hcs : Sup n (x.cm z) := (Grp.sup n).cm_in hxs hzs
    obtain ⟨⟨i2, n2, k2, m2, q2⟩, e6, h2, kp2⟩ := joinR_is hF hn hT (by omega) h' hcs
    have kp2' : Kp 11 s (i2, n2, k2, m2, q2) := kp2
    obtain ⟨s3, mr, e7, h3, kp3, j3⟩ := goDown_in hF hn hT hx d (k + 1) f _ _ h2 (hu.kp hn kp2' (by omega)) (by omega) (by omega)
    refine ⟨s3, mr, ?_, h3, kp2'.trans kp3, (Jnd.jn mq (x.cm z)).trans j3 (fun y => ?_)⟩
    · have hne : ∀ A B : Option RW, (if s.2.2.2.1 10 ≤ nI k then A else B) = B := fun A B => by rw [hu.2.2.1, if_neg (nI_ge (by omega) (by omega))]
      rw [mX7_goDown_L34_s, gd_t (by decide), show (Int32.toNatClampNeg 10) = 10 from rfl, hne, ix320, gd_t (inb_n (by omega) (by omega)), cl_n (by omega), hu.2.1 i x hx, lT_x, ix320, gd_t (inb_n (by omega) (by omega)), cl_n (by omega), hu.2.1 k z hz, lT_x, bd2_e e1, bd2_e e2, bd2_e e3, bd2_e e4, bd2_e e5, bd5_e (show mX7_join F (nI n) (nI (fac n)) image s.1 o5 s.2.2.1 s.2.2.2.1 s.2.2.2.2 11 (nI (rk n (x.cm z))) = _ from e6), nI_1]
      exact e7
    · constructor
      · rintro ⟨u, hu', e⟩
        rcases (Fr_s hz).mp hu' with rfl | hu'
        · exact Or.inl e
        · exact Or.inr ⟨u, hu', e⟩
      · rintro (e | ⟨u, hu', e⟩)
        · exact ⟨z, (Fr_s hz).mpr (Or.inl rfl), e⟩
        · exact ⟨u, (Fr_s hz).mpr (Or.inr hu'), e⟩
theorem goDown_L (hF : 50000 ≤ F) (hn : n ≤ 8) (hT : Tbl n image) {um : List Pm} : ∀ (d i f : Nat) (mq : List Pm) (s : RW), WG n 11 mq s → WG n 10 um s → i + d = um.length → d < f → ∃ s2 mr, mX7_goDown_L21 F (nI n) (nI (fac n)) image f (nI i) s.1 s.2.1 s.2.2.1 s.2.2.2.1 s.2.2.2.2 = some s2 ∧ WG n 11 mr s2 ∧ Kp 11 s s2 ∧ Jnd mq mr (fun y => ∃ x z, Fr um i x ∧ z ∈ um ∧ y = x.cm z)
  | 0, i, f, mq, s, h, hu, hi, hf => by
    obtain ⟨f, rfl⟩ : ∃ g, f = g + 1 := ⟨f - 1, by omega⟩
    have hl := hu.len
    exact ⟨s, mq, by rw [mX7_goDown_L21_s, gd_t (by decide), show (Int32.toNatClampNeg 10) = 10 from rfl, hu.2.2.1, if_pos (nI_le (by omega) (by omega))], h, Kp.refl, Jnd.refl fun y ⟨x, z, hx, _⟩ => Fr_end (by omega) hx⟩
  | d + 1, i, f, mq, s, h, hu, hi, hf => by
    obtain ⟨f, rfl⟩ : ∃ g, f = g + 1 := ⟨f - 1, by omega⟩
    have hl := hu.len
    obtain ⟨x, hx⟩ : ∃ x, um[i]? = some x := ⟨um[i]'(by omega), List.getElem?_eq_getElem (by omega)⟩
    obtain ⟨⟨i2, n2, k2, m2, q2⟩, m1, e2, h2, kp2, j2⟩ := goDown_in hF hn hT hx um.length 0 F mq s h hu (by omega) (by omega)
    obtain ⟨s3, mr, e3, h3, kp3, j3⟩ := goDown_L hF hn hT d (i + 1) f _ _ h2 (hu.kp hn kp2 (by omega)) (by omega) (by omega)
    refine ⟨s3, mr, ?_, h3, kp2.trans kp3, j2.trans j3 (fun y => ?_)⟩
    · have hne : ∀ A B : Option RW, (if s.2.2.2.1 10 ≤ nI i then A else B) = B := fun A B => by rw [hu.2.2.1, if_neg (nI_ge (by omega) (by omega))]
      rw [mX7_goDown_L21_s, gd_t (by decide), show (Int32.toNatClampNeg 10) = 10 from rfl, hne, bd5_e (show mX7_goDown_L34 F (nI i) (nI n) (nI (fac n)) image F 0 s.1 s.2.1 s.2.2.1 s.2.2.2.1 s.2.2.2.2 = _ from e2), nI_1]
      exact e3
    · constructor
      · rintro ⟨u, z, hu', hz, e⟩
        rcases (Fr_s hx).mp hu' with rfl | hu'
        · exact Or.inl ⟨z, Fr_0.mpr hz, e⟩
        · exact Or.inr ⟨u, z, hu', hz, e⟩
      · rintro (⟨z, hz, e⟩ | ⟨u, z, hu', hz, e⟩)
        · exact ⟨x, z, (Fr_s hx).mpr (Or.inl rfl), Fr_0.mp hz, e⟩
        · exact ⟨u, z, (Fr_s hx).mpr (Or.inr hu'), hz, e⟩
/-- all but the working ones 10 and 11 stay -/
def Kq (n : Nat) (s s2 : RW) : Prop := ∀ b T, b ≠ 10 → b ≠ 11 → RS n s.1 b T → RS n s2.1 b T
theorem Kp.kq {n w : Nat} {s s2 : RW} (hn : n ≤ 8) (h : Kp w s s2) (hw : w = 10 ∨ w = 11) : Kq n s s2 := fun b T h1 h2 hb => hb.off hn h.1 (by omega)
theorem Kq.trans {n : Nat} {s s2 s3 : RW} (h : Kq n s s2) (h2 : Kq n s2 s3) : Kq n s s3 := fun b T a1 a2 hb => h2 b T a1 a2 (h b T a1 a2 hb)
theorem Kq.refl {n : Nat} {s : RW} : Kq n s s := fun _ _ _ _ h => h
theorem goDown_is (hF : 50000 ≤ F) (hn : n ≤ 8) (hT : Tbl n image) {a : Nat} (ha : a < 13) (ha0 : a ≠ 10) (ha1 : a ≠ 11) {S : Pm → Prop} (hG : Grp S) (hsub : ∀ x, S x → Sup n x) (s : RW) (hS : RS n s.1 a S) : ∃ s2, mX7_goDown F (nI n) (nI (fac n)) image s.1 s.2.1 s.2.2.1 s.2.2.2.1 s.2.2.2.2 (nI a) = some s2 ∧ RS n s2.1 11 (Dn S) ∧ Kq n s s2 := by
  obtain ⟨i1, m1, e1, h1, k1⟩ := begin_is hF hn hT (w := 10) (by omega) s
  obtain ⟨⟨i2, n2, p2, m2, q2⟩, um, e2, h2, k2, g2⟩ := joinAllR_is hF hn hT (w := 10) (by omega) ha ha0 h1 (hS.off hn k1.1 ha0) hsub
  obtain ⟨i3, m3, e3, h3, k3⟩ := begin_is hF hn hT (w := 11) (by omega) (i2, n2, p2, m2, q2)
  have hu3 := h2.kp hn k3 (by omega)
  obtain ⟨⟨i4, n4, p4, m4, q4⟩, mq, e4, h4, k4, j4⟩ := goDown_L hF hn hT um.length 0 F [] _ h3 hu3 (by omega) (by have := h2.len; omega)
  have hu4 := hu3.kp hn k4 (by omega)
  obtain ⟨⟨i5, n5, p5, m5, q5⟩, mr, e5, h5, k5, nc⟩ := closeR_is hF hn hT (w := 11) (v := 10) (by omega) (by omega) (by omega) h4 hu4
  refine ⟨(i5, n5, p5, m5, q5), ?_, h5.1.congr (fun x _ => ?_), ((((k1.kq hn (Or.inl rfl)).trans (k2.kq hn (Or.inl rfl))).trans (k3.kq hn (Or.inr rfl))).trans (k4.kq hn (Or.inr rfl))).trans (k5.kq hn (Or.inr rfl))⟩
  · unfold mX7_goDown
    rw [bd2_e (show mX7_begin F (nI (fac n)) s.1 s.2.2.2.1 10 = _ from e1), bd5_e (show mX7_joinAll F (nI n) (nI (fac n)) image i1 s.2.1 s.2.2.1 m1 s.2.2.2.2 10 (nI a) = _ from e2), bd2_e (show mX7_begin F (nI (fac n)) i2 m2 11 = _ from e3), bd5_e (show mX7_goDown_L21 F (nI n) (nI (fac n)) image F 0 i3 n2 p2 m3 q2 = _ from e4), bd5_e (show mX7_close F (nI n) (nI (fac n)) image i4 n4 p4 m4 q4 11 10 = _ from e5)]
  · have hum : ∀ x, GL um x ↔ S x := fun x => (g2 x).trans (gen_nil hG x)
    rw [Dn.congr (fun a => (hum a).symm) x]
    have hC : ∀ y, (∃ x z, Fr um 0 x ∧ z ∈ um ∧ y = x.cm z) → GL mr y := fun y hy => Gen.least (GL.grp mr) (fun z hz => nc.2.1 z hz) (j4.2.1 y hy)
    exact Dn.of (X := fun x => x ∈ um) (C := fun y => ∃ x z, Fr um 0 x ∧ z ∈ um ∧ y = x.cm z) (N := GL mr) (fun c ⟨x, z, hx, hz, e⟩ => ⟨x, z, Gen.of (Fr_0.mp hx), Gen.of hz, e⟩) (fun x y hx hy => hC _ ⟨x, y, Fr_0.mpr hx, hy, rfl⟩) ⟨GL.grp mr, hC, nc.2.2.1, fun K hK a1 a2 => nc.2.2.2 K hK (j4.2.2 K hK (fun x hx => absurd hx List.not_mem_nil) a1) a2⟩ x
/-! counts -/
theorem cnt_s (hn : n ≤ 8) {S : Pm → Prop} {r N : Nat} (h : Hc (fun x => Sup n x ∧ S x ∧ rk n x < r) N) {x : Pm} (hx : Sup n x) (hr : rk n x = r) : (S x → Hc (fun x => Sup n x ∧ S x ∧ rk n x < r + 1) (N + 1)) ∧ (¬ S x → Hc (fun x => Sup n x ∧ S x ∧ rk n x < r + 1) N) := by
  constructor
  · intro hS
    refine (h.or (Hc.single (P := fun y => y = x) x (fun _ => Iff.rfl)) (fun y hy e => by subst e; omega)).congr (fun y => ?_)
    constructor
    · rintro (⟨a1, a2, a3⟩ | rfl)
      · exact ⟨a1, a2, by omega⟩
      · exact ⟨hx, hS, by omega⟩
    · rintro ⟨a1, a2, a3⟩
      by_cases e : rk n y = r
      · exact Or.inr (rk_inj hn a1 hx (e.trans hr.symm))
      · exact Or.inl ⟨a1, a2, by omega⟩
  · intro hS
    refine h.congr (fun y => ?_)
    constructor
    · rintro ⟨a1, a2, a3⟩
      exact ⟨a1, a2, by omega⟩
    · rintro ⟨a1, a2, a3⟩
      by_cases e : rk n y = r
      · exact absurd (rk_inj hn a1 hx (e.trans hr.symm) ▸ a2) hS
      · exact ⟨a1, a2, by omega⟩
theorem cnt_0 {S : Pm → Prop} : Hc (fun x => Sup n x ∧ S x ∧ rk n x < 0) 0 := Hc.none fun x h => by omega
theorem cnt_end {S : Pm → Prop} {N : Nat} (h : Hc (fun x => Sup n x ∧ S x ∧ rk n x < fac n) N) : Hc (fun x => Sup n x ∧ S x) N := h.congr (fun x => ⟨fun h => ⟨h.1, h.2.1⟩, fun h => ⟨h.1, h.2, rk_lt x h.1⟩⟩)
theorem sizeOf_L (hn : n ≤ 8) (hT : Tbl n image) {a : Nat} (ha : a < 13) {S : Pm → Prop} {inn : Nat → Int32} (hS : RS n inn a S) : ∀ (d r f N : Nat), r + d = fac n → d < f → Hc (fun x => Sup n x ∧ S x ∧ rk n x < r) N → ∃ N2, mX7_sizeOf_L4 (nI a) (nI (fac n)) inn f (nI N) (nI r) = some (nI N2) ∧ Hc (fun x => Sup n x ∧ S x) N2
  | 0, r, f, N, hr, hf, h => by
    obtain ⟨f, rfl⟩ : ∃ g, f = g + 1 := ⟨f - 1, by omega⟩
    have hfac := fac_8 hn
    have : r = fac n := by omega
    subst this
    exact ⟨N, by rw [mX7_sizeOf_L4_s, if_pos (nI_le (Nat.le_refl _) (by omega))], cnt_end h⟩
  | d + 1, r, f, N, hr, hf, h => by
    obtain ⟨f, rfl⟩ : ∃ g, f = g + 1 := ⟨f - 1, by omega⟩
    have hfac := fac_8 hn
    obtain ⟨x, hx, hxr⟩ := hT.ex (show r < fac n by omega)
    rw [mX7_sizeOf_L4_s, if_neg (nI_ge (by omega) (by omega)), nI_1]
    rcases has_is hn hS ha hx with ⟨hin, e⟩ | ⟨hout, e⟩
    · obtain ⟨N2, e2, c2⟩ := sizeOf_L hn hT ha hS d (r + 1) f (N + 1) (by omega) (by omega) ((cnt_s hn h hx hxr).1 hin)
      rw [hxr] at e
      exact ⟨N2, by rw [bd_e e, lT_x, lT_x, if_neg (by decide), nI_1]; exact e2, c2⟩
    · obtain ⟨N2, e2, c2⟩ := sizeOf_L hn hT ha hS d (r + 1) f N (by omega) (by omega) ((cnt_s hn h hx hxr).2 hout)
      rw [hxr] at e
      exact ⟨N2, by rw [bd_e e, lT_x, lT_x, if_pos rfl, show (0 : Int32) = nI 0 from rfl, nI_add, Nat.add_zero]; exact e2, c2⟩
theorem sizeOf_is (hF : 50000 ≤ F) (hn : n ≤ 8) (hT : Tbl n image) {a : Nat} (ha : a < 13) {S : Pm → Prop} {inn : Nat → Int32} (hS : RS n inn a S) : ∃ N, mX7_sizeOf F (nI (fac n)) inn (nI a) = some (nI N) ∧ Hc (fun x => Sup n x ∧ S x) N := by
  have hfac := fac_8 hn
  obtain ⟨N, e, c⟩ := sizeOf_L hn hT ha hS (fac n) 0 F 0 (by omega) (by omega) cnt_0
  refine ⟨N, ?_, c⟩
  unfold mX7_sizeOf
  rw [bd_e (show mX7_sizeOf_L4 (nI a) (nI (fac n)) inn F 0 0 = _ from e)]
theorem isWithinR_L (hn : n ≤ 8) (hT : Tbl n image) {a b : Nat} (ha : a < 13) (hb : b < 13) {S U : Pm → Prop} {inn : Nat → Int32} (hS : RS n inn a S) (hU : RS n inn b U) : ∀ (d r f : Nat), r + d = fac n → d < f → ((∀ x, Sup n x → r ≤ rk n x → S x → U x) ∧ mX7_isWithin_L5 (nI a) (nI b) (nI (fac n)) inn f 1 (nI r) = some 1) ∨ ((∃ x, Sup n x ∧ S x ∧ ¬ U x) ∧ mX7_isWithin_L5 (nI a) (nI b) (nI (fac n)) inn f 1 (nI r) = some 0)
  | 0, r, f, hr, hf => by
    obtain ⟨f, rfl⟩ : ∃ g, f = g + 1 := ⟨f - 1, by omega⟩
    have hfac := fac_8 hn
    exact Or.inl ⟨fun x hx h => by have := rk_lt x hx; omega, by rw [mX7_isWithin_L5_s, if_pos (nI_le (by omega) (by omega))]⟩
  | d + 1, r, f, hr, hf => by
    obtain ⟨f, rfl⟩ : ∃ g, f = g + 1 := ⟨f - 1, by omega⟩
    have hfac := fac_8 hn
    obtain ⟨x, hx, hxr⟩ := hT.ex (show r < fac n by omega)
    have go : (S x → U x) → ((∀ x, Sup n x → r ≤ rk n x → S x → U x) ∧ mX7_isWithin_L5 (nI a) (nI b) (nI (fac n)) inn f 1 (nI (r + 1)) = some 1) ∨ ((∃ x, Sup n x ∧ S x ∧ ¬ U x) ∧ mX7_isWithin_L5 (nI a) (nI b) (nI (fac n)) inn f 1 (nI (r + 1)) = some 0) := fun hxU => by
      rcases isWithinR_L hn hT ha hb hS hU d (r + 1) f (by omega) (by omega) with ⟨h1, e⟩ | h
      · refine Or.inl ⟨fun y hy hle hs => ?_, e⟩
        by_cases ey : rk n y = r
        · have := rk_inj hn hy hx (ey.trans hxr.symm)
          subst this
          exact hxU hs
        · exact h1 y hy (by omega) hs
      · exact Or.inr h
    rw [mX7_isWithin_L5_s, if_neg (nI_ge (by omega) (by omega)), if_neg (by decide), nI_1]
    rcases has_is hn hS ha hx with ⟨hin, e⟩ | ⟨hout, e⟩
    · rw [hxr] at e
      rw [bd_e e, if_neg (by decide)]
      rcases has_is hn hU hb hx with ⟨hin2, e2⟩ | ⟨hout2, e2⟩
      · rw [hxr] at e2
        rw [bd_e e2, if_neg (by decide), bd_s]
        exact go (fun _ => hin2)
      · rw [hxr] at e2
        rw [bd_e e2, if_pos rfl, bd_s]
        right
        refine ⟨⟨x, hx, hin, hout2⟩, ?_⟩
        obtain ⟨f, rfl⟩ : ∃ g, f = g + 1 := ⟨f - 1, by omega⟩
        rw [mX7_isWithin_L5_s, if_pos rfl]
        split <;> rfl
    · rw [hxr] at e
      rw [bd_e e, if_pos rfl, bd_s]
      exact go (fun h => absurd h hout)
theorem isWithinR_is (hF : 50000 ≤ F) (hn : n ≤ 8) (hT : Tbl n image) {a b : Nat} (ha : a < 13) (hb : b < 13) {S U : Pm → Prop} {inn : Nat → Int32} (hS : RS n inn a S) (hU : RS n inn b U) : ((∀ x, Sup n x → S x → U x) ∧ mX7_isWithin F (nI (fac n)) inn (nI a) (nI b) = some 1) ∨ (¬ (∀ x, Sup n x → S x → U x) ∧ mX7_isWithin F (nI (fac n)) inn (nI a) (nI b) = some 0) := by
  have hfac := fac_8 hn
  unfold mX7_isWithin
  rcases isWithinR_L hn hT ha hb hS hU (fac n) 0 F (by omega) (by omega) with ⟨h, e⟩ | ⟨⟨x, h1, h2, h3⟩, e⟩
  · exact Or.inl ⟨fun x hx => h x hx (Nat.zero_le _), by rw [bd_e (show mX7_isWithin_L5 (nI a) (nI b) (nI (fac n)) inn F 1 0 = _ from e), gd_t isb_1]⟩
  · exact Or.inr ⟨fun h => h3 (h x h1 h2), by rw [bd_e (show mX7_isWithin_L5 (nI a) (nI b) (nI (fac n)) inn F 1 0 = _ from e), gd_t isb_0]⟩
theorem stillIn_L (hT : Tbl n image) (hn : n ≤ 8) {x : Pm} (hx : Sup n x) : ∀ (d i f : Nat), i + d = n → d < f → mX7_stillIn_L4 (nI (rk n x)) (nI n) image f (nI (fx x i)) (nI i) = some (nI (fx x n))
  | 0, i, f, hi, hf => by
    obtain ⟨f, rfl⟩ : ∃ g, f = g + 1 := ⟨f - 1, by omega⟩
    have : i = n := by omega
    subst this
    rw [mX7_stillIn_L4_s, if_pos (nI_le (Nat.le_refl _) (by omega))]
  | d + 1, i, f, hi, hf => by
    obtain ⟨f, rfl⟩ : ∃ g, f = g + 1 := ⟨f - 1, by omega⟩
    have hin : i < n := by omega
    have h1 := rk_ix hn hx hin
    have h2 := hx.lt hin
    have ih := stillIn_L hT hn hx d (i + 1) f (by omega) (by omega)
    rw [mX7_stillIn_L4_s, if_neg (nI_ge hin (by omega)), ix8, gd_t (inb_n h1 (by omega)), cl_n (by omega), hT.get hn hx hin, lT_x, lT_x, nI_1]
    have e : nI (fx x i) + (if nI (x.ap i) = nI i then (1 : Int32) else 0) = nI (fx x (i + 1)) := by
      unfold fx
      rw [ct_s]
      by_cases h : x.ap i = i
      · rw [if_pos (by rw [h]), nI_1, if_pos (by simp [h])]
      · rw [if_neg (fun e => h ((nI_eq (by omega) (by omega)).mp e)), if_neg (by simp [h]), show (0 : Int32) = nI 0 from rfl, nI_add]
    rw [e, ih]
theorem stillIn_is (hF : 50000 ≤ F) (hT : Tbl n image) (hn : n ≤ 8) {x : Pm} (hx : Sup n x) : mX7_stillIn F (nI n) image (nI (rk n x)) = some (nI (fx x n)) := by
  unfold mX7_stillIn
  rw [bd_e (show mX7_stillIn_L4 (nI (rk n x)) (nI n) image F 0 0 = _ from stillIn_L hT hn hx n 0 F (by omega) (by omega))]
theorem evenR_in (hT : Tbl n image) (hn : n ≤ 8) {x : Pm} (hx : Sup n x) {i : Nat} (hi : i < n) : ∀ (d j f acc : Nat), j + d = n → d < f → i < j → mX7_isEven_L17 (nI (rk n x)) (nI i) (nI n) image f (nI (acc + iv1 x j i)) (nI j) = some (nI (acc + iv1 x n i))
  | 0, j, f, acc, hj, hf, hij => by
    obtain ⟨f, rfl⟩ : ∃ g, f = g + 1 := ⟨f - 1, by omega⟩
    have : j = n := by omega
    subst this
    rw [mX7_isEven_L17_s, if_pos (nI_le (Nat.le_refl _) (by omega))]
  | d + 1, j, f, acc, hj, hf, hij => by
    obtain ⟨f, rfl⟩ : ∃ g, f = g + 1 := ⟨f - 1, by omega⟩
    have hjn : j < n := by omega
    have h1 := rk_ix hn hx hi
    have h2 := rk_ix hn hx hjn
    have h3 := hx.lt hi
    have h4 := hx.lt hjn
    have ih := evenR_in hT hn hx hi d (j + 1) f acc (by omega) (by omega) (by omega)
    have hs : iv1 x (j + 1) i = iv1 x j i + (if x.ap j < x.ap i then 1 else 0) := by
      unfold iv1
      rw [ct_s]
      congr 1
      simp [hij]
    rw [mX7_isEven_L17_s, if_neg (nI_ge hjn (by omega)), ix8, ix8, gd_t (inb_n h1 (by omega)), gd_t (inb_n h2 (by omega)), cl_n (by omega), cl_n (by omega), hT.get hn hx hi, hT.get hn hx hjn, lT_x, lT_x, nI_1]
    have e : nI (acc + iv1 x j i) + (if nI (x.ap i) ≤ nI (x.ap j) then (0 : Int32) else 1) = nI (acc + iv1 x (j + 1) i) := by
      rw [hs]
      by_cases h : x.ap j < x.ap i
      · rw [if_neg (nI_ge h (by omega)), if_pos h, nI_1, Nat.add_assoc]
      · rw [if_pos (nI_le (by omega) (by omega)), if_neg h, show (0 : Int32) = nI 0 from rfl, nI_add]
        rfl
    rw [e, ih]
theorem evenR_L (hF : 50000 ≤ F) (hT : Tbl n image) (hn : n ≤ 8) {x : Pm} (hx : Sup n x) : ∀ (d i f : Nat), i + d = n → d < f → mX7_isEven_L4 F (nI (rk n x)) (nI n) image f (nI (sm (iv1 x n) i)) (nI i) = some (nI (iv x n))
  | 0, i, f, hi, hf => by
    obtain ⟨f, rfl⟩ : ∃ g, f = g + 1 := ⟨f - 1, by omega⟩
    have : i = n := by omega
    subst this
    rw [mX7_isEven_L4_s, if_pos (nI_le (Nat.le_refl _) (by omega))]
    rfl
  | d + 1, i, f, hi, hf => by
    obtain ⟨f, rfl⟩ : ∃ g, f = g + 1 := ⟨f - 1, by omega⟩
    have hin : i < n := by omega
    have ih := evenR_L hF hT hn hx d (i + 1) f (by omega) (by omega)
    have h := evenR_in hT hn hx hin (n - 1 - i) (i + 1) F (sm (iv1 x n) i) (by omega) (by omega) (by omega)
    rw [iv1_low x (i + 1) (by omega), Nat.add_zero, ← sm_s] at h
    rw [mX7_isEven_L4_s, if_neg (nI_ge hin (by omega)), lT_x, nI_1, bd_e h, ih]
theorem isEvenR_is (hF : 50000 ≤ F) (hT : Tbl n image) (hn : n ≤ 8) {x : Pm} (hx : Sup n x) : mX7_isEven F (nI n) image (nI (rk n x)) = some (if iv x n % 2 = 0 then 1 else 0) := by
  unfold mX7_isEven
  have h8 : iv x n < 100 := by rw [← iv_8 hx hn]; exact iv_lt x
  have e2 : nI (iv x n) - nI (iv x n) / 2 * 2 = nI (iv x n % 2) := pk_rem (d := 2) (by omega) (by omega) (by omega)
  rw [bd_e (show mX7_isEven_L4 F (nI (rk n x)) (nI n) image F 0 0 = _ from evenR_L hF hT hn hx n 0 F (by omega) (by omega)), e2]
  by_cases h : iv x n % 2 = 0
  · rw [if_pos h, if_pos (by rw [h]; rfl)]
  · rw [if_neg h, if_neg (show ¬ nI (iv x n % 2) = (0 : Int32) from fun e => h ((nI_eq (b := 0) (by omega) (by omega)).mp e))]
end REF
