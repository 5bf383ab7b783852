/-! ===== the calls that make groups ===== -/
theorem full_is {g : Nat} (hg : g ≤ 10) : (g < 10 ∧ mX6_isFull (nI g) = 0 ∧ ¬ nI g = (10 : Int32)) ∨ (g = 10 ∧ mX6_isFull (nI g) = 1 ∧ nI g = (10 : Int32)) := by
  unfold mX6_isFull
  by_cases h : g < 10
  · left
    refine ⟨h, by rw [if_pos (show nI g < (10 : Int32) from nI_lt (b := 10) h (by omega))], fun e => ?_⟩
    have := (nI_eq (b := 10) (by omega) (by omega)).mp e
    omega
  · right
    have : g = 10 := by omega
    subst this
    exact ⟨rfl, by decide, rfl⟩
section NEWG
variable {F n g : Nat} {c : Pm} {sh : Nat → Pm} {GS : Nat → Pm → Prop} {shelf : Nat → Int32} {np ng cur : Int32} {tw : Nat → TW} {rn rmany : Int32} {image : Nat → Int32} {rturn : Int32} {rshelf : Nat → Int32} {rgroups : Int32} {inn : Nat → Int32}
/-- one group more -/
theorem RlA.push (h : RlA n g c sh GS shelf np ng cur tw rn rmany image rturn rshelf rgroups inn) (hg : g < 10) {S : Pm → Prop} (hS : Grp S) (hsub : ∀ x, S x → Sup n x) {tw2 : Nat → TW} (ht : ∀ a, a < g → tw2 a = tw a) {mr : List Pm} (hT : TG mr (tw2 g)) (hG : ∀ x, GL mr x ↔ S x) {inn2 : Nat → Int32} (hi : ∀ a, a < g → RS n inn2 a (GS a)) (hi2 : RS n inn2 g S) : Rl shelf np (nI (g + 1)) cur tw2 rn rmany image rturn rshelf (nI (g + 1)) inn2 := by
  obtain ⟨⟨a1, a2, a3, a4, a5⟩, ⟨b1, b2, b3, b4, b5⟩, c1, c2', c3, c4, c5, c6, c7⟩ := h
  refine ⟨n, g + 1, c, sh, fun a => if a = g then S else GS a, ⟨a1, by omega, a3, a4, fun a ha => ?_⟩, ⟨b1, rfl, b3, b4, fun a ha => ?_⟩, c1, c2', c3, c4, c5, rfl, fun a ha => ?_⟩
  · dsimp only
    by_cases e : a = g
    · rw [if_pos e]; exact ⟨hS, hsub⟩
    · rw [if_neg e]; exact a5 a (by omega)
  · dsimp only
    by_cases e : a = g
    · subst e
      rw [if_pos rfl]; exact ⟨mr, hT, hG⟩
    · rw [if_neg e, ht a (by omega)]; exact b5 a (by omega)
  · dsimp only
    by_cases e : a = g
    · subst e
      rw [if_pos rfl]; exact hi2
    · rw [if_neg e]; exact hi a (by omega)
theorem newGroup_no (many : Int32) : mX7_newGroup F many (nI g) inn (-1) = some (nI g, nI (g + 1), inn) := by
  unfold mX7_newGroup
  rw [if_pos (by decide), bd_s, lT_x, nI_1, nI_pred]
theorem newGroup_cp (hF : 50000 ≤ F) (hn : n ≤ 8) (hT : Tbl n image) {v : Nat} (hv : v < 13) (hg : g < 10) (hv2 : 10 ≤ v) {S : Pm → Prop} (hS : RS n inn v S) : ∃ i2, mX7_newGroup F (nI (fac n)) (nI g) inn (nI v) = some (nI g, nI (g + 1), i2) ∧ RS n i2 g S ∧ Off g inn i2 := by
  obtain ⟨i2, e, h, o⟩ := copy_is hF hn hT hv (show g < 13 by omega) (by omega) hS
  refine ⟨i2, ?_, h, o⟩
  unfold mX7_newGroup
  rw [if_neg (nI_pos (by omega)), bd_e e, bd_s, lT_x, nI_1, nI_pred]
theorem joinSwaps_L (hF : 50000 ≤ F) (hn : n ≤ 8) (K : Nat) : ∀ (d k f : Nat) (tw : Nat → TW) (mq : List Pm), TG mq (tw K) → k + d + 1 = n → d < f → ∃ tw2 mr, mX6_joinSwaps_L2 F K (nI n) f (nI k) tw = some tw2 ∧ TG mr (tw2 K) ∧ (∀ j, j ≠ K → tw2 j = tw j) ∧ Jnd mq mr (fun x => ∃ i, k ≤ i ∧ i + 1 < n ∧ x = sw i)
  | 0, k, f, tw, mq, h, hk, hf => by
    obtain ⟨f, rfl⟩ : ∃ g, f = g + 1 := ⟨f - 1, by omega⟩
    exact ⟨tw, mq, by rw [mX6_joinSwaps_L2_s, nI_1, if_pos (nI_le (by omega) (by omega))], h, fun _ _ => rfl, Jnd.refl fun x ⟨i, h1, h2, _⟩ => by omega⟩
  | d + 1, k, f, tw, mq, h, hk, hf => by
    obtain ⟨f, rfl⟩ : ∃ g, f = g + 1 := ⟨f - 1, by omega⟩
    obtain ⟨z, ⟨c2, b2, r2, f2, n2, k2, m2⟩, e2, h2, -⟩ := join_is h hF (sw k)
    obtain ⟨tw3, mr, e3, h3, o3, j3⟩ := joinSwaps_L hF hn K d (k + 1) f (upT tw K (c2, b2, r2, f2, n2, k2, m2)) (jn mq (sw k)) (by rw [upT_same]; exact h2) (by omega) (by omega)
    refine ⟨tw3, mr, ?_, h3, fun j hj => by rw [o3 j hj, upT_ne hj], (Jnd.jn mq (sw k)).trans j3 (fun x => ?_)⟩
    · rw [mX6_joinSwaps_L2_s, nI_1, if_neg (nI_ge (by omega) (by omega)), swap_is (by omega), bd8_e e2, lT_x]
      exact e3
    · constructor
      · rintro ⟨i, h1, h2, rfl⟩
        by_cases e : i = k
        · subst e; exact Or.inl rfl
        · exact Or.inr ⟨i, by omega, h2, rfl⟩
      · rintro (rfl | ⟨i, h1, h2, e⟩)
        · exact ⟨k, Nat.le_refl k, by omega, rfl⟩
        · exact ⟨i, by omega, h2, e⟩
theorem nI_2 (k : Nat) : nI k + 2 = nI (k + 2) := by
  show nI k + nI 2 = _
  rw [nI_add]
theorem joinC3_L (hF : 50000 ≤ F) (hn : n ≤ 8) (K : Nat) : ∀ (d k f : Nat) (tw : Nat → TW) (mq : List Pm), TG mq (tw K) → n ≤ k + d + 2 → k + 2 ≤ n + 2 → d < f → ∃ tw2 mr, mX6_joinThreeCycles_L2 F K (nI n) f (nI k) tw = some tw2 ∧ TG mr (tw2 K) ∧ (∀ j, j ≠ K → tw2 j = tw j) ∧ Jnd mq mr (fun x => ∃ i, k ≤ i ∧ i + 2 < n ∧ x = c3 i)
  | 0, k, f, tw, mq, h, hk, hk2, hf => by
    obtain ⟨f, rfl⟩ : ∃ g, f = g + 1 := ⟨f - 1, by omega⟩
    exact ⟨tw, mq, by rw [mX6_joinThreeCycles_L2_s, nI_2, if_pos (nI_le (by omega) (by omega))], h, fun _ _ => rfl, Jnd.refl fun x ⟨i, h1, h2, _⟩ => by omega⟩
  | d + 1, k, f, tw, mq, h, hk, hk2, hf => by
    obtain ⟨f, rfl⟩ : ∃ g, f = g + 1 := ⟨f - 1, by omega⟩
    by_cases hlt : k + 2 < n
    · obtain ⟨z, ⟨c2, b2, r2, f2, n2, k2, m2⟩, e2, h2, -⟩ := join_is h hF (c3 k)
      obtain ⟨tw3, mr, e3, h3, o3, j3⟩ := joinC3_L hF hn K d (k + 1) f (upT tw K (c2, b2, r2, f2, n2, k2, m2)) (jn mq (c3 k)) (by rw [upT_same]; exact h2) (by omega) (by omega) (by omega)
      refine ⟨tw3, mr, ?_, h3, fun j hj => by rw [o3 j hj, upT_ne hj], (Jnd.jn mq (c3 k)).trans j3 (fun x => ?_)⟩
      · rw [mX6_joinThreeCycles_L2_s, nI_2, if_neg (nI_ge (by omega) (by omega)), nI_1, swap_is (by omega), swap_is (k := k + 1) (by omega), bd_e (chain_is hF _ _), bd8_e (show mX4_join F _ _ _ _ _ _ _ (cdp ((sw k).th (sw (k + 1)))) = _ from e2), lT_x]
        exact e3
      · constructor
        · rintro ⟨i, h1, h2, rfl⟩
          by_cases e : i = k
          · subst e; exact Or.inl rfl
          · exact Or.inr ⟨i, by omega, h2, rfl⟩
        · rintro (rfl | ⟨i, h1, h2, e⟩)
          · exact ⟨k, Nat.le_refl k, hlt, rfl⟩
          · exact ⟨i, by omega, h2, e⟩
    · exact ⟨tw, mq, by rw [mX6_joinThreeCycles_L2_s, nI_2, if_pos (nI_le (by omega) (by omega))], h, fun _ _ => rfl, Jnd.refl fun x ⟨i, h1, h2, _⟩ => by omega⟩
/-- the group of a way -/
def wayS (n w : Nat) (x : Pm) : Prop := Sup n x ∧ (w = 1 ∨ x = .one ∨ (w = 2 ∧ iv x n % 2 = 0))
theorem groupR_L (hF : 50000 ≤ F) (hn : n ≤ 8) (hT : Tbl n image) {w : Nat} (hg : g < 10) (hw : w < 3) : ∀ (d r f : Nat) (inn : Nat → Int32), r + d = fac n → d < f → RSb n inn g r (wayS n w) → ∃ i2, mX7_group_L26 F (nI w) (nI n) (nI (fac n)) image (nI g) f (nI r) inn = some i2 ∧ RS n i2 g (wayS n w) ∧ Off g inn i2
  | 0, r, f, inn, hr, hf, h => by
    obtain ⟨f, rfl⟩ : ∃ g, f = g + 1 := ⟨f - 1, by omega⟩
    have hfac := fac_8 hn
    have : r = fac n := by omega
    subst this
    exact ⟨inn, by rw [mX7_group_L26_s, if_pos (nI_le (Nat.le_refl _) (by omega))], RSb_end h, Off.refl⟩
  | d + 1, r, f, inn, hr, hf, h => by
    obtain ⟨f, rfl⟩ : ∃ g, f = g + 1 := ⟨f - 1, by omega⟩
    have hfac := fac_8 hn
    obtain ⟨x, hx, hxr⟩ := hT.ex (show r < fac n by omega)
    have hev := isEvenR_is hF hT hn hx
    rw [hxr] at hev
    have hval : ∃ zv, (if nI w = 1 then (some (1 : Int32)) else (if nI r = 0 then (some 1) else (if nI w = 2 then (bd (mX7_isEven F (nI n) image (nI r)) (fun zr => if zr = 0 then (some 0) else (some 1))) else (some 0)))) = some zv ∧ ((wayS n w x ∧ vp_nar .boolean zv = 1) ∨ (¬ wayS n w x ∧ vp_nar .boolean zv = 0)) := by
      by_cases h1 : w = 1
      · exact ⟨1, by rw [if_pos (by rw [h1]; rfl)], Or.inl ⟨⟨hx, Or.inl h1⟩, nar1⟩⟩
      · rw [if_neg (show ¬ nI w = (1 : Int32) from fun e => h1 ((nI_eq (b := 1) (by omega) (by omega)).mp e))]
        by_cases h2 : r = 0
        · exact ⟨1, by rw [if_pos (by rw [h2]; rfl)], Or.inl ⟨⟨hx, Or.inr (Or.inl ((rk_0 hn hx).mp (hxr.trans h2)))⟩, nar1⟩⟩
        · have hx1 : x ≠ .one := fun e => h2 (by rw [← hxr, e, rk_one])
          rw [if_neg (nI_ne0 (by omega) (by omega))]
          by_cases h3 : w = 2
          · rw [if_pos (show nI w = (2 : Int32) from by rw [h3]; rfl), bd_e hev]
            by_cases h4 : iv x n % 2 = 0
            · exact ⟨1, by rw [if_pos h4, if_neg (by decide)], Or.inl ⟨⟨hx, Or.inr (Or.inr ⟨h3, h4⟩)⟩, nar1⟩⟩
            · exact ⟨0, by rw [if_neg h4, if_pos rfl], Or.inr ⟨fun ⟨_, hh⟩ => by
                rcases hh with hh | hh | hh
                · exact h1 hh
                · exact hx1 hh
                · exact h4 hh.2, nar0⟩⟩
          · rw [if_neg (show ¬ nI w = (2 : Int32) from fun e => h3 ((nI_eq (b := 2) (by omega) (by omega)).mp e))]
            exact ⟨0, rfl, Or.inr ⟨fun ⟨_, hh⟩ => by
              rcases hh with hh | hh | hh
              · exact h1 hh
              · exact hx1 hh
              · exact h3 hh.1, nar0⟩⟩
    obtain ⟨zv, ez, hv⟩ := hval
    obtain ⟨i2, e2, h2, o2⟩ := groupR_L hF hn hT hg hw d (r + 1) f (upd inn (40320 * g + r) (vp_nar .boolean zv)) (by omega) (by omega) (RSb_s hn h hx hxr hv)
    refine ⟨i2, ?_, h2, (Off.upd (by omega)).trans o2⟩
    rw [mX7_group_L26_s, if_neg (nI_ge (by omega) (by omega)), ez, bd_s, ixA, gd_t (inb_n (by omega) (by omega)), cl_n (by omega), lT_x, nI_1]
    exact e2
theorem gen_c3n {n : Nat} (hn : n ≤ 8) (x : Pm) : Gen (fun y => y ∈ ([] : List Pm) ∨ ∃ i, 0 ≤ i ∧ i + 2 < n ∧ y = c3 i) x ↔ Sup n x ∧ iv x n % 2 = 0 := by
  rw [← gen_c3 hn x]
  exact Gen.congr (fun y hy => Gen.of (hy.elim (fun h => absurd h List.not_mem_nil) (fun ⟨i, _, h1, h2⟩ => ⟨i, h1, h2⟩))) (fun y ⟨i, h1, h2⟩ => Gen.of (Or.inr ⟨i, Nat.zero_le i, h1, h2⟩)) x
theorem call_group (hF : 50000 ≤ F) (h : Rl shelf np ng cur tw rn rmany image rturn rshelf rgroups inn) (z : Int32) : ∃ v g1 tw1 g2 i2, mX6_group F np ng tw z = some (v, g1, tw1) ∧ mX7_group F rn rmany image rgroups inn z = some (v, g2, i2) ∧ Rl shelf np g1 cur tw1 rn rmany image rturn rshelf g2 i2 := by
  have h0 := h
  obtain ⟨n, g, c, sh, GS, hA⟩ := h
  have hA' := hA
  obtain ⟨⟨⟨a0, a1⟩, a2, a3, a4, a5⟩, ⟨b1, b2, b3, b4, b5⟩, c1, c2, c3, c4, c5, c6, c7⟩ := hA
  subst b1 b2 b3 c1 c2 c4 c6
  have hfac := fac_8 a1
  unfold mX6_group mX7_group
  rcases way_arg (m := 3) (by omega) (by omega) z with ⟨⟨w, hw, rfl⟩, w1, w2, w3⟩ | ⟨w1, w2⟩
  · have w3' : mX7_isIn (nI w) 0 2 = 1 := w3
    have w2' : nI w ≤ (2 : Int32) := nI_le (b := 2) (by omega) (by omega)
    rcases full_is a2 with ⟨hg, e1, e2⟩ | ⟨hg, e1, e2⟩
    · obtain ⟨r2, e3, hT0⟩ := clear_is hF (tw g).1 (tw g).2.1 (tw g).2.2.1 (tw g).2.2.2.1 (tw g).2.2.2.2.1 (tw g).2.2.2.2.2.1 (tw g).2.2.2.2.2.2
      obtain ⟨i2, e4, hi2, o2⟩ := groupR_L hF a1 c3 hg hw (fac n) 0 F inn (by omega) (by omega) RSb_0
      have hin2 : ∀ a, a < g → RS n i2 a (GS a) := fun a ha => (c7 a ha).off a1 o2 (by omega)
      have hsub : ∀ x, wayS n w x → Sup n x := fun x hx => hx.1
      -- the tower of the way
      have key : ∃ tw2 mr, (if nI w = 1 then (bd (mX6_joinSwaps F (nI n) (upT tw g ((tw g).1, (tw g).2.1, r2, (tw g).2.2.2.1, 0, (tw g).2.2.2.2.2.1, 0)) g) (fun tw_4 => some tw_4)) else (if nI w = 2 then (bd (mX6_joinThreeCycles F (nI n) (upT tw g ((tw g).1, (tw g).2.1, r2, (tw g).2.2.2.1, 0, (tw g).2.2.2.2.2.1, 0)) g) (fun tw_3 => some tw_3)) else (some (upT tw g ((tw g).1, (tw g).2.1, r2, (tw g).2.2.2.1, 0, (tw g).2.2.2.2.2.1, 0))))) = some tw2 ∧ TG mr (tw2 g) ∧ (∀ j, j ≠ g → tw2 j = tw j) ∧ ∀ x, GL mr x ↔ wayS n w x := by
        have hT0' : TG [] ((upT tw g ((tw g).1, (tw g).2.1, r2, (tw g).2.2.2.1, 0, (tw g).2.2.2.2.2.1, 0)) g) := by rw [upT_same]; exact hT0
        have ho : ∀ j, j ≠ g → (upT tw g ((tw g).1, (tw g).2.1, r2, (tw g).2.2.2.1, 0, (tw g).2.2.2.2.2.1, 0)) j = tw j := fun j hj => upT_ne hj
        rcases (show w = 0 ∨ w = 1 ∨ w = 2 by omega) with rfl | rfl | rfl
        · refine ⟨_, [], by rw [if_neg n01, if_neg (by decide)], hT0', ho, fun x => ?_⟩
          rw [GL_nil]
          constructor
          · rintro rfl
            exact ⟨Sup.one n, Or.inr (Or.inl rfl)⟩
          · rintro ⟨_, hh⟩
            rcases hh with hh | hh | hh
            · omega
            · exact hh
            · omega
        · obtain ⟨tw2, mr, e5, h5, o5, j5⟩ := joinSwaps_L hF a1 g (n - 1) 0 F _ [] hT0' (by omega) (by omega)
          refine ⟨tw2, mr, ?_, h5, fun j hj => by rw [o5 j hj, ho j hj], fun x => ?_⟩
          · unfold mX6_joinSwaps
            rw [if_pos n11, bd_e (show mX6_joinSwaps_L2 F g (nI n) F 0 _ = _ from e5), bd_s]
          · rw [j5.gen, Gen.congr (Y := fun x => ∃ k, k + 1 < n ∧ x = sw k) (fun y hy => Gen.of (hy.elim (fun h => absurd h List.not_mem_nil) (fun ⟨i, _, h1, h2⟩ => ⟨i, h1, h2⟩))) (fun y ⟨i, h1, h2⟩ => Gen.of (Or.inr ⟨i, Nat.zero_le i, h1, h2⟩)), gen_sw a1]
            exact ⟨fun h => ⟨h, Or.inl rfl⟩, fun h => h.1⟩
        · obtain ⟨tw2, mr, e5, h5, o5, j5⟩ := joinC3_L hF a1 g n 0 F _ [] hT0' (by omega) (by omega) (by omega)
          refine ⟨tw2, mr, ?_, h5, fun j hj => by rw [o5 j hj, ho j hj], fun x => ?_⟩
          · unfold mX6_joinThreeCycles
            rw [if_neg n21, if_pos (show nI 2 = (2 : Int32) from rfl), bd_e (show mX6_joinThreeCycles_L2 F g (nI n) F 0 _ = _ from e5), bd_s]
          · rw [j5.gen, gen_c3n a1]
            constructor
            · rintro ⟨h1, h2⟩
              exact ⟨h1, Or.inr (Or.inr ⟨rfl, h2⟩)⟩
            · rintro ⟨h1, hh⟩
              refine ⟨h1, ?_⟩
              rcases hh with hh | hh | hh
              · omega
              · rw [hh, iv_one]
              · exact hh.2
      obtain ⟨tw2, mr, e5, h5, o5, g5⟩ := key
      refine ⟨nI g, nI (g + 1), tw2, nI (g + 1), i2, ?_, ?_, hA'.push hg (Grp.congr g5 (GL.grp mr)) hsub (fun a ha => o5 a (by omega)) h5 g5 hin2 hi2⟩
      · rw [if_neg w1, if_pos w2', e1, if_pos zer0, gd_t (inb_n hg (by omega)), cl_n (by omega), bd3_e e3, lT_x, e5, bd_s, lT_x, nI_1]
      · rw [w3', if_neg one0, if_neg e2, bd_e (show mX7_group_L26 F (nI w) (nI n) (nI (fac n)) image (nI g) F 0 inn = _ from e4), bd3_e (newGroup_no _)]
    · exact ⟨-3, nI g, tw, nI g, inn, by rw [if_neg w1, if_pos w2', e1, if_neg one0], by rw [w3', if_neg one0, if_pos e2], h0⟩
  · refine ⟨-2, nI g, tw, nI g, inn, ?_, by rw [show mX7_isIn z 0 2 = 0 from w2, if_pos zer0], h0⟩
    rcases w1 with w1 | ⟨w1, w1'⟩
    · rw [if_pos w1]
    · have : ¬ z ≤ (2 : Int32) := by
        have h3 : (2 : Int32) < z := w1'
        rw [Int32.lt_iff_toInt_lt] at h3
        rw [Int32.le_iff_toInt_le]
        omega
      rw [if_neg w1, if_neg this]
theorem call_add (hF : 50000 ≤ F) (h : Rl shelf np ng cur tw rn rmany image rturn rshelf rgroups inn) (now makers makerMany queue : Nat → Int32) (z : Int32) : ∃ (v : Int32) (tw1 : Nat → TW) (s2 : RW), mX6_add F ng cur tw z = some (v, tw1) ∧ mX7_add F rn rmany image rturn rgroups inn now makers makerMany queue z = some (v, s2) ∧ Rl shelf np ng cur tw1 rn rmany image rturn rshelf rgroups s2.1 := by
  have h0 := h
  obtain ⟨n, g, c, sh, GS, hA⟩ := h
  obtain ⟨⟨⟨a0, a1⟩, a2, a3, a4, a5⟩, ⟨b1, b2, b3, b4, b5⟩, c1, c2, c3, c4, c5, c6, c7⟩ := hA
  subst b1 b2 b3 c1 c2 c4 c6
  unfold mX6_add mX7_add
  rcases grp_arg a2 z with ⟨⟨a, ha, rfl⟩, e1, e2⟩ | ⟨e1, e2⟩
  · obtain ⟨mq, hT, hG⟩ := b5 a ha
    obtain ⟨w, ⟨d2, d3, d4, d5, d6, d7, d8⟩, e3, h3, h4⟩ := join_is hT hF c
    have hcl : (nI a).toNatClampNeg = a := cl_n (by omega)
    rcases h4 with ⟨hin, rfl⟩ | ⟨hout, rfl⟩
    · rcases has_is a1 (c7 a ha) (by omega) a3 with ⟨h5, e5⟩ | ⟨h5, e5⟩
      · refine ⟨1, _, (inn, now, makers, makerMany, queue), by rw [e1, if_neg one0, gd_t (inb_n (by omega) (by omega)), hcl, bd8_e e3, lT_x, lT_x, if_pos zer0, tr1], by rw [bd_e e2, if_neg one0, bd_e e5, if_neg one0], n, g, c, sh, GS, ⟨⟨a0, a1⟩, a2, a3, a4, a5⟩, ⟨rfl, rfl, rfl, b4, fun b hb => ?_⟩, rfl, rfl, c3, rfl, c5, rfl, c7⟩
        by_cases e : b = a
        · subst e
          rw [upT_same]
          exact ⟨jn mq c, h3, fun x => by rw [jn_in hin]; exact hG x⟩
        · rw [upT_ne e]; exact b5 b hb
      · exact absurd ((hG c).mp hin) h5
    · rcases has_is a1 (c7 a ha) (by omega) a3 with ⟨h5, e5⟩ | ⟨h5, e5⟩
      · exact absurd ((hG c).mpr h5) hout
      · obtain ⟨i1, m1, f1, g1, k1⟩ := begin_is hF a1 c3 (w := 10) (by omega) (inn, now, makers, makerMany, queue)
        obtain ⟨⟨i2, n2, p2, m2, q2⟩, um, f2, g2, k2, gg2⟩ := joinAllR_is hF a1 c3 (w := 10) (a := a) (by omega) (by omega) (by omega) g1 ((c7 a ha).off a1 k1.1 (by omega)) (a5 a ha).2
        obtain ⟨⟨i3, n3, p3, m3, q3⟩, f3, g3, k3⟩ := joinR_is hF a1 c3 (w := 10) (by omega) g2 a3
        obtain ⟨i4, f4, g4, o4⟩ := copy_is hF a1 c3 (v := 10) (w := a) (by omega) (by omega) (by omega) g3.1
        have hum : ∀ x, GL um x ↔ GS a x := fun x => (gg2 x).trans (gen_nil (a5 a ha).1 x)
        have hset : ∀ x, GL (jn mq c) x ↔ GL (jn um c) x := fun x => by
          rw [GL_jn, GL_jn]
          refine Gen.congr (fun y hy => ?_) (fun y hy => ?_) x
          · rcases hy with hy | hy
            · exact Gen.sub (fun _ h => Or.inl h) ((hum y).mpr ((hG y).mp (GL.of hy)))
            · exact Gen.of (Or.inr hy)
          · rcases hy with hy | hy
            · exact Gen.sub (fun _ h => Or.inl h) ((hG y).mpr ((hum y).mp (GL.of hy)))
            · exact Gen.of (Or.inr hy)
        refine ⟨0, _, (i4, n3, p3, m3, q3), by rw [e1, if_neg one0, gd_t (inb_n (by omega) (by omega)), hcl, bd8_e e3, lT_x, lT_x, if_neg one0, tr0], ?_, n, g, c, sh, fun b => if b = a then GL (jn um c) else GS b, ⟨⟨a0, a1⟩, a2, a3, a4, fun b hb => ?_⟩, ⟨rfl, rfl, rfl, b4, fun b hb => ?_⟩, rfl, rfl, c3, rfl, c5, rfl, fun b hb => ?_⟩
        · rw [bd_e e2, if_neg one0, bd_e e5, if_pos zer0, bd2_e (show mX7_begin F (nI (fac n)) inn makerMany 10 = _ from f1), bd5_e (show mX7_joinAll F (nI n) (nI (fac n)) image i1 now makers m1 queue 10 (nI a) = _ from f2), bd5_e (show mX7_join F (nI n) (nI (fac n)) image i2 n2 p2 m2 q2 10 (nI (rk n c)) = _ from f3), bd_e (show mX7_copy F (nI (fac n)) i3 10 (nI a) = _ from f4)]
        · dsimp only
          by_cases e : b = a
          · rw [if_pos e]; exact ⟨GL.grp _, fun x hx => g3.sup hx⟩
          · rw [if_neg e]; exact a5 b hb
        · dsimp only
          by_cases e : b = a
          · subst e
            rw [upT_same, if_pos rfl]; exact ⟨jn mq c, h3, hset⟩
          · rw [upT_ne e, if_neg e]; exact b5 b hb
        · dsimp only
          by_cases e : b = a
          · subst e
            rw [if_pos rfl]; exact g4
          · rw [if_neg e]
            exact ((((c7 b hb).off a1 k1.1 (by omega)).off a1 k2.1 (by omega)).off a1 k3.1 (by omega)).off a1 o4 e
  · exact ⟨-2, tw, (inn, now, makers, makerMany, queue), by rw [e1, if_pos zer0], by rw [bd_e e2, if_pos zer0], h0⟩
end NEWG
/-- a copied tower -/
theorem TG.cp {mq : List Pm} {u : TW} (h : TG mq u) (t : TW) : TG mq (cpT t u) := by
  have hlen := h.len
  obtain ⟨R, C, fl, T, hc, hG, hI, hm, hn⟩ := h
  have hfl := T.len
  obtain ⟨h1, h2, h3, h4, h5, h6⟩ := T.2
  refine ⟨R, C, fl, ⟨T.1, fun i hi => ?_, fun i p hi hp hpi => ?_, h3, fun k x hx => ?_, h5, h6⟩, hc, hG, hI, fun k x hx => ?_, hn⟩
  · show va_cpy u.2.2.1 t.2.2.1 0 0 8 i = _
    rw [pk_cpy_in (by omega) (by omega), Nat.sub_zero, Nat.zero_add]; exact h1 i hi
  · have hp8 := T.1.lt hi hp
    show va_cpy u.1 t.1 0 0 64 (8 * i + p) = _ ∧ va_cpy u.2.1 t.2.1 0 0 64 (8 * i + p) = _
    rw [pk_cpy_in (by omega) (by omega), pk_cpy_in (by omega) (by omega), Nat.sub_zero, Nat.zero_add]
    exact h2 i p hi hp hpi
  · have := (List.getElem?_eq_some_iff.mp hx).1
    show va_cpy u.2.2.2.1 t.2.2.2.1 0 0 28 k = _
    rw [pk_cpy_in (by omega) (by omega), Nat.sub_zero, Nat.zero_add]; exact h4 k x hx
  · have := (List.getElem?_eq_some_iff.mp hx).1
    show va_cpy u.2.2.2.2.2.1 t.2.2.2.2.2.1 0 0 16 k = _
    rw [pk_cpy_in (by omega) (by omega), Nat.sub_zero, Nat.zero_add]; exact hm k x hx
