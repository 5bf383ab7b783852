/-! ===== steps ===== -/
section STEPS
variable {F n : Nat} {image : Nat → Int32}
/-- all but the working ones stay -/
def Ks (n : Nat) (s s2 : RW) : Prop := ∀ b T, b < 10 → RS n s.1 b T → RS n s2.1 b T
theorem steps_both (hF : 50000 ≤ F) (hn : n ≤ 8) (hT : Tbl n image) : ∀ (d k f1 f2 K : Nat) (tw : Nat → TW) (mq : List Pm) (S : Pm → Prop) (s : RW) (N : Nat), k + d = 16 → d < f1 → d < f2 → TG mq (tw K) → (∀ x, GL mq x ↔ S x) → Grp S → (∀ x, S x → Sup n x) → RS n s.1 12 S → Hc S N → 2 ^ k * N ≤ 40320 → (K < 10 ∧ k = 0 ∨ (0 < k ∧ K = 10 + (k - 1) % 2)) → ∃ (v : Int32) (tw2 : Nat → TW) (s2 : RW), mX6_steps_L20 F f1 K (nI k) tw = some (v, tw2) ∧ mX7_steps_L27 F (nI n) (nI (fac n)) image f2 (nI k) (nI N) s.1 s.2.1 s.2.2.1 s.2.2.2.1 s.2.2.2.2 = some (v, s2) ∧ (∀ j, j < 10 → tw2 j = tw j) ∧ Ks n s s2
  | 0, k, f1, f2, K, tw, mq, S, s, N, hk, hf1, hf2, hTG, hG, hS, hsub, hR, hN, hpow, hK => by
    have : k = 16 := by omega
    subst this
    have h1 : 1 ≤ N := (Hc.single (P := fun a : Pm => a = .one) .one (fun _ => Iff.rfl)).le hN (fun a e => e ▸ hS.1)
    have h2 : (2 : Nat) ^ 16 = 65536 := rfl
    omega
  | d + 1, k, f1, f2, K, tw, mq, S, s, N, hk, hf1, hf2, hTG, hG, hS, hsub, hR, hN, hpow, hK => by
    obtain ⟨f1, rfl⟩ : ∃ g, f1 = g + 1 := ⟨f1 - 1, by omega⟩
    obtain ⟨f2, rfl⟩ : ∃ g, f2 = g + 1 := ⟨f2 - 1, by omega⟩
    have hfac := fac_8 hn
    have h1 : 1 ≤ N := (Hc.single (P := fun a : Pm => a = .one) .one (fun _ => Iff.rfl)).le hN (fun a e => e ▸ hS.1)
    obtain ⟨N', hN', hN8, e1⟩ := hTG.size hF
    have : N' = N := hN'.uniq (hN.congr (fun x => (hG x).symm))
    subst this
    rw [mX6_steps_L20_s, mX7_steps_L27_s, if_neg (show ¬ (16 : Int32) ≤ nI k from nI_ge (b := 16) (by omega) (by omega)), bd_e e1]
    by_cases hone : N' = 1
    · exact ⟨nI k, tw, s, by rw [if_pos (by rw [hone]; rfl)], by rw [if_pos (by rw [hone]; decide)], fun _ _ => rfl, fun _ _ _ h => h⟩
    · have hn1 : ¬ nI N' = (1 : Int32) := fun e => hone ((nI_eq (b := 1) (by omega) (by omega)).mp e)
      have hn2 : ¬ nI N' ≤ (1 : Int32) := nI_ge (a := 1) (by omega) (by omega)
      have ek : nI k &&& 1 = nI (k % 2) := by
        rw [pk_andN (by omega) 1 (by decide)]
      have hm2 : k % 2 < 2 := Nat.mod_lt _ (by decide)
      have ecl : (nI (k % 2)).toNatClampNeg = k % 2 := cl_n (by omega)
      have hKne : 10 + k % 2 ≠ K := by omega
      obtain ⟨⟨d1, d2, d3, d4, d5, d6, d7⟩, mr, e2, h2, g2⟩ := becomeDown_is hTG.row hF (tw (10 + k % 2))
      obtain ⟨⟨i3, n3, p3, m3, q3⟩, e3, h3, k3⟩ := goDown_is hF hn hT (a := 12) (by omega) (by omega) (by omega) hS hsub s hR
      obtain ⟨i4, e4, h4, o4⟩ := copy_is hF hn hT (v := 11) (w := 12) (by omega) (by omega) (by omega) h3
      obtain ⟨M, e5, hM⟩ := sizeOf_is hF hn hT (a := 12) (by omega) h4
      have hDsub : ∀ x, Dn S x → Sup n x := fun x hx => hsub x (Dn.sub hS hx)
      have hM' : Hc (Dn S) M := hM.congr (fun x => ⟨fun h => h.2, fun h => ⟨hDsub x h, h⟩⟩)
      have hGD : ∀ x, GL mr x ↔ Dn S x := fun x => (g2 x).trans (Dn.congr hG x)
      obtain ⟨M', hMM, hM8, e6⟩ := h2.size hF
      have : M' = M := hMM.uniq (hM'.congr (fun x => (hGD x).symm))
      subst this
      have hKs : Ks n s (i4, n3, p3, m3, q3) := fun b T hb hbT => (k3 b T (by omega) (by omega) hbT).off hn o4 (by omega)
      rw [if_neg hn1, if_neg hn2, ek, ecl, gd_t (inb_n (by omega) (by omega)), gd_t (neb_t hKne), bd7_e e2, lT_x, upT_same, bd_e e6, bd5_e (show mX7_goDown F (nI n) (nI (fac n)) image s.1 s.2.1 s.2.2.1 s.2.2.2.1 s.2.2.2.2 12 = _ from e3), bd_e (show mX7_copy F (nI (fac n)) i3 11 12 = _ from e4), bd_e (show mX7_sizeOf F (nI (fac n)) i4 12 = _ from e5)]
      by_cases hst : M' = N'
      · refine ⟨-1, _, (i4, n3, p3, m3, q3), by rw [if_pos (by rw [hst])], by rw [if_pos (by rw [hst])], fun j hj => upT_ne (by omega), hKs⟩
      · have hst2 : ¬ nI M' = nI N' := fun e => hst ((nI_eq (by omega) (by omega)).mp e)
        have hex : ∃ x, S x ∧ ¬ Dn S x := by
          apply Classical.byContradiction
          intro hc
          exact hst (hM'.uniq (hN.congr (fun x => ⟨fun hx => Classical.byContradiction fun hn => hc ⟨x, hx, hn⟩, Dn.sub hS⟩)))
        obtain ⟨x, hx1, hx2⟩ := hex
        have hdb := (Gen.grp _ : Grp (Dn S)).double hS (fun a ha => Dn.sub hS ha) hx1 hx2 hM' hN
        have hpow2 : 2 ^ (k + 1) * M' ≤ 40320 := by
          have : 2 ^ (k + 1) * M' = 2 ^ k * (2 * M') := by rw [Nat.pow_succ, Nat.mul_assoc]
          rw [this]
          exact Nat.le_trans (Nat.mul_le_mul_left _ hdb) hpow
        obtain ⟨v, tw2, s2, e7, e8, o7, k7⟩ := steps_both hF hn hT d (k + 1) f1 f2 (10 + k % 2) (upT tw (10 + k % 2) (d1, d2, d3, d4, d5, d6, d7)) mr (Dn S) (i4, n3, p3, m3, q3) M' (by omega) (by omega) (by omega) (by rw [upT_same]; exact h2) hGD (Gen.grp _) hDsub h4 hM' hpow2 (Or.inr ⟨by omega, by omega⟩)
        refine ⟨v, tw2, s2, by rw [if_neg hst2, nI_1]; exact e7, by rw [if_neg hst2, nI_1]; exact e8, fun j hj => by rw [o7 j hj, upT_ne (by omega)], fun b T hb hbT => k7 b T hb (hKs b T hb hbT)⟩
end STEPS
section STC
variable {F : Nat} {shelf : Nat → Int32} {np ng cur : Int32} {tw : Nat → TW} {rn rmany : Int32} {image : Nat → Int32} {rturn : Int32} {rshelf : Nat → Int32} {rgroups : Int32} {inn : Nat → Int32}
theorem call_steps (hF : 50000 ≤ F) (h : Rl shelf np ng cur tw rn rmany image rturn rshelf rgroups inn) (now makers makerMany queue : Nat → Int32) (z : Int32) : ∃ (v : Int32) (tw1 : Nat → TW) (s2 : RW), mX6_steps F ng tw z = some (v, tw1) ∧ mX7_steps F rn rmany image rgroups inn now makers makerMany queue z = some (v, s2) ∧ Rl shelf np ng cur tw1 rn rmany image rturn rshelf rgroups s2.1 := by
  have h0 := h
  obtain ⟨n, g, c, sh, GS, hA⟩ := h
  obtain ⟨⟨⟨a0, a1⟩, a2, a3, a4, a5⟩, ⟨b1, b2, b3, b4, b5⟩, c1, c2, c3, c4, c5, c6, c7⟩ := hA
  subst b1 b2 b3 c1 c2 c4 c6
  have hfac := fac_8 a1
  unfold mX6_steps mX7_steps
  rcases grp_arg a2 z with ⟨⟨a, ha, rfl⟩, e1, e2⟩ | ⟨e1, e2⟩
  · obtain ⟨mq, hTG, hG⟩ := b5 a ha
    obtain ⟨i1, e3, h3, o3⟩ := copy_is hF a1 c3 (v := a) (w := 12) (by omega) (by omega) (by omega) (c7 a ha)
    obtain ⟨N, e4, hN⟩ := sizeOf_is hF a1 c3 (a := 12) (by omega) h3
    have hN' : Hc (GS a) N := hN.congr (fun x => ⟨fun h => h.2, fun h => ⟨(a5 a ha).2 x h, h⟩⟩)
    obtain ⟨N2, hN2, hN8, _⟩ := hTG.size hF
    have : N2 = N := hN2.uniq (hN'.congr (fun x => (hG x).symm))
    subst this
    obtain ⟨v, tw2, s2, e5, e6, o5, k5⟩ := steps_both hF a1 c3 16 0 F F a tw mq (GS a) (i1, now, makers, makerMany, queue) N2 (by omega) (by omega) (by omega) hTG hG (a5 a ha).1 (a5 a ha).2 h3 hN' (by omega) (Or.inl ⟨by omega, rfl⟩)
    refine ⟨v, tw2, s2, by rw [e1, if_neg one0, gd_t (inb_n (by omega) (by omega)), cl_n (by omega)]; exact e5, by rw [bd_e e2, if_neg one0, bd_e (show mX7_copy F (nI (fac n)) inn (nI a) 12 = _ from e3), bd_e (show mX7_sizeOf F (nI (fac n)) i1 12 = _ from e4)]; exact e6, n, g, c, sh, GS, ⟨⟨a0, a1⟩, a2, a3, a4, a5⟩, ⟨rfl, rfl, rfl, b4, fun b hb => by rw [o5 b (by omega)]; exact b5 b hb⟩, rfl, rfl, c3, rfl, c5, rfl, fun b hb => k5 b _ (by omega) ((c7 b hb).off a1 o3 (by omega))⟩
  · exact ⟨-2, tw, (inn, now, makers, makerMany, queue), by rw [e1, if_pos zer0], by rw [bd_e e2, if_pos zer0], h0⟩
end STC
