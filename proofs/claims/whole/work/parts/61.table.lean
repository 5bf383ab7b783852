/-! ===== the reference's table of turns ===== -/
theorem ix8 (r i : Nat) : (8 : Int32) * nI r + nI i = nI (8 * r + i) := by
  show nI 8 * nI r + nI i = _
  rw [pk_mul, nI_add]
theorem nI_m1 {n : Nat} (h : 1 ≤ n) : nI n - 1 = nI (n - 1) := by
  rw [show (1 : Int32) = nI 1 from rfl, pk_sub h]
theorem ct_all : ∀ n, ct (fun _ => true) n = n
  | 0 => rfl
  | n + 1 => by rw [ct_s, ct_all n, if_pos rfl]
theorem hc_below (n : Nat) : Hc (fun v => v < n) n := by
  have h := ct_hc (fun _ => true) n
  rw [ct_all] at h
  exact h.congr (fun v => ⟨fun h => h.1, fun h => ⟨h, rfl⟩⟩)
/-- the free ones below n, when i are taken -/
theorem ct_free {p : Nat → Nat} {u i n : Nat} (h1 : ∀ k, k < i → p k < n) (h2 : ∀ j k, j < k → k < i → p j ≠ p k) (h3 : ∀ v, u.testBit v = true ↔ ∃ k, k < i ∧ p k = v) : ct (fun v => !u.testBit v) n + i = n := by
  have hinj : ∀ j k, j < i → k < i → p j = p k → j = k := by
    intro j k hj hk e
    rcases Nat.lt_trichotomy j k with h | h | h
    · exact absurd e (h2 j k h hk)
    · exact h
    · exact absurd e.symm (h2 k j h hj)
  have c1 := ct_hc (fun v => !u.testBit v) n
  have c2 : Hc (fun v => v < n ∧ u.testBit v = true) i := (hc_below i).bij p (fun x y hx hy e => hinj x y hx hy e) (fun k hk => ⟨h1 k hk, (h3 _).mpr ⟨k, hk, rfl⟩⟩) (fun v hv => by
    obtain ⟨k, hk, e⟩ := (h3 v).mp hv.2
    exact ⟨k, hk, e.symm⟩)
  refine ((c1.or c2 (fun v hv hw => by rw [hw.2] at hv; cases hv.2)).congr (fun v => ?_)).uniq (hc_below n)
  constructor
  · rintro (h | h)
    · exact h.1
    · exact h.1
  · intro hv
    cases hb : u.testBit v with
    | true => exact Or.inr ⟨hv, rfl⟩
    | false => exact Or.inl ⟨hv, rfl⟩
theorem layRow {F : Nat} (hF : 50000 ≤ F) {n r : Nat} (hn : n ≤ 8) (hr : r < fac n) (im0 : Nat → Int32) : ∀ (d i f rest u : Nat) (p : Nat → Nat) (image : Nat → Int32), i + d = n → d < f → (∀ k, k < i → image (8 * r + k) = nI (p k)) → (∀ k, k < i → p k < n) → (∀ j k, j < k → k < i → p j ≠ p k) → u < 256 → (∀ v, u.testBit v = true ↔ ∃ k, k < i ∧ p k = v) → hp p n i * fac (n - i) + rest = r → rest < fac (n - i) → (∀ k, (k < 8 * r ∨ 8 * r + n ≤ k) → image k = im0 k) → ∃ im2 a, mX7_layAll_L28 F (nI r) (nI n) f (nI rest) (nI u) (nI i) image = some im2 ∧ Sup n a ∧ rk n a = r ∧ (∀ k, k < n → im2 (8 * r + k) = nI (a.ap k)) ∧ ∀ k, (k < 8 * r ∨ 8 * r + n ≤ k) → im2 k = im0 k
  | 0, i, f, rest, u, p, image, hi, hf, h1, h2, h3, hu, h4, h5, h6, h7 => by
    obtain ⟨f, rfl⟩ : ∃ g, f = g + 1 := ⟨f - 1, by omega⟩
    have : i = n := by omega
    subst this
    obtain ⟨a, ha, hp'⟩ := mkPm hn p h2 h3
    refine ⟨image, a, by rw [mX7_layAll_L28_s, if_pos (nI_le (Nat.le_refl i) (by omega))], ha, ?_, fun k hk => by rw [h1 k hk, hp' k hk], h7⟩
    rw [Nat.sub_self] at h5 h6
    have h0 : fac 0 = 1 := rfl
    rw [h0] at h5 h6
    unfold rk
    rw [hp_congr hp']
    omega
  | d + 1, i, f, rest, u, p, image, hi, hf, h1, h2, h3, hu, h4, h5, h6, h7 => by
    obtain ⟨f, rfl⟩ : ∃ g, f = g + 1 := ⟨f - 1, by omega⟩
    have hin : i < n := by omega
    have hfac := fac_8 hn
    obtain ⟨m, hm⟩ : ∃ m, n - i = m + 1 := ⟨n - i - 1, by omega⟩
    have hm2 : n - (i + 1) = m := by omega
    have hm3 : n - 1 - i = m := by omega
    have hfm := fac_pos m
    have hfm8 := fac_8 (show m ≤ 8 by omega)
    rw [hm] at h5 h6
    have hfs : fac (m + 1) = (m + 1) * fac m := rfl
    have hL : rest / fac m < m + 1 := by
      rw [Nat.div_lt_iff_lt_mul hfm, ← hfs]
      exact h6
    have hfree := ct_free h2 h3 h4
    have hrest : rest < 2 ^ 31 := by
      have := fac_8 (show m + 1 ≤ 8 by omega)
      omega
    have e5 : hp p n i * fac (m + 1) + rest = r := h5
    obtain ⟨q, q1, q2, q3, q4⟩ := nextFree (u := u) (L := rest / fac m) (n := n) (by omega) hn (by omega) n 0 F (by omega) (by omega) (Nat.zero_le _)
    rw [show ct (fun v => !u.testBit v) 0 = 0 from rfl, Nat.sub_zero] at q4
    have hnew : ∀ k, k < i → p k ≠ q := fun k hk e => by
      have := (h4 q).mpr ⟨k, hk, e⟩
      rw [q2] at this
      cases this
    have hix : 8 * r + i < 322560 := by omega
    have hlp : lp (fun k => if k = i then q else p k) i = rest / fac m := by
      rw [← q3]
      unfold lp
      show ct (fre (fun k => if k = i then q else p k) i) (if i = i then q else p i) = _
      rw [if_pos rfl]
      refine ct_congr fun v _ => ?_
      have : fre (fun k => if k = i then q else p k) i v = fre p i v := fre_congr (fun k hk => if_neg (by omega)) v
      rw [this]
      cases hb : u.testBit v with
      | true =>
        obtain ⟨k, hk, e⟩ := (h4 v).mp hb
        show decide _ = false
        exact decide_eq_false (fun h => h k hk e)
      | false =>
        show decide _ = true
        refine decide_eq_true (fun k hk e => ?_)
        have := (h4 v).mpr ⟨k, hk, e⟩
        rw [hb] at this
        cases this
    obtain ⟨im2, a, b1, b2, b3, b4, b5⟩ := layRow hF hn hr im0 d (i + 1) f (rest % fac m) (u ||| 2 ^ q) (fun k => if k = i then q else p k) (upd image (8 * r + i) (nI q)) (by omega) (by omega) (fun k hk => by
        by_cases e : k = i
        · subst e; rw [pk_us, if_pos rfl]
        · rw [pk_un (by omega), if_neg e]; exact h1 k (by omega)) (fun k hk => by
        show (if k = i then q else p k) < n
        by_cases e : k = i
        · rw [if_pos e]; exact q1
        · rw [if_neg e]; exact h2 k (by omega)) (fun j k hjk hk => by
        show (if j = i then q else p j) ≠ (if k = i then q else p k)
        rw [if_neg (by omega)]
        by_cases e : k = i
        · rw [if_pos e]; exact hnew j (by omega)
        · rw [if_neg e]; exact h3 j k hjk (by omega)) (set_put hu (by omega)) (fun v => by
        rw [tb_set, Bool.or_eq_true, decide_eq_true_iff, h4]
        constructor
        · rintro (⟨k, hk, e⟩ | e)
          · exact ⟨k, by omega, by rw [if_neg (by omega)]; exact e⟩
          · exact ⟨i, by omega, by rw [if_pos rfl]; exact e.symm⟩
        · rintro ⟨k, hk, e⟩
          by_cases ek : k = i
          · rw [if_pos ek] at e; exact Or.inr e.symm
          · rw [if_neg ek] at e; exact Or.inl ⟨k, by omega, e⟩) (by
        rw [hm2, hp_s, hm, hlp, hp_congr (p := fun k => if k = i then q else p k) (q := p) (fun k hk => if_neg (by omega)), Nat.add_mul, Nat.mul_assoc, ← hfs]
        have := Nat.div_add_mod rest (fac m)
        rw [Nat.mul_comm] at this
        omega) (by rw [hm2]; exact Nat.mod_lt _ hfm) (fun k hk => by
        rw [pk_un (by omega)]; exact h7 k hk)
    refine ⟨im2, a, ?_, b2, b3, b4, b5⟩
    rw [mX7_layAll_L28_s, if_neg (nI_ge hin (by omega)), nI_m1 (by omega), pk_sub (by omega), hm3, bd_e (product_is hF (by omega)), gd_t (nzb_of (nI_ne0 hfm (by omega))), lT_x, gd_t (nzb_of (nI_ne0 hfm (by omega))), lT_x, pk_rem hrest hfm (by omega), pk_div hrest hfm (by omega), bd_e (show mX7_layAll_L65 (nI u) F (nI (rest / fac m)) 0 = _ from q4), lT_x, one_shl (by omega), ni_or, ix8, gd_t (inb_n hix (by omega)), cl_n (by omega), lT_x, nI_1]
    exact b1
/-- the table holds the turns in their order -/
def Tbl (n : Nat) (image : Nat → Int32) : Prop := ∀ r, r < fac n → ∃ a, Sup n a ∧ rk n a = r ∧ ∀ k, k < n → image (8 * r + k) = nI (a.ap k)
theorem layAll_L {F : Nat} (hF : 50000 ≤ F) {n : Nat} (hn : n ≤ 8) : ∀ (d r f : Nat) (image : Nat → Int32), r + d = fac n → d < f → (∀ s, s < r → ∃ a, Sup n a ∧ rk n a = s ∧ ∀ k, k < n → image (8 * s + k) = nI (a.ap k)) → ∃ im2, mX7_layAll_L13 F (nI n) (nI (fac n)) f (nI r) image = some im2 ∧ Tbl n im2
  | 0, r, f, image, hr, hf, h => by
    obtain ⟨f, rfl⟩ : ∃ g, f = g + 1 := ⟨f - 1, by omega⟩
    have hfac := fac_8 hn
    have : r = fac n := by omega
    subst this
    exact ⟨image, by rw [mX7_layAll_L13_s, if_pos (nI_le (Nat.le_refl _) (by omega))], h⟩
  | d + 1, r, f, image, hr, hf, h => by
    obtain ⟨f, rfl⟩ : ∃ g, f = g + 1 := ⟨f - 1, by omega⟩
    have hfac := fac_8 hn
    obtain ⟨im1, a, e1, a1, a2, a3, a4⟩ := layRow hF hn (r := r) (by omega) image n 0 F r 0 (fun _ => 0) image (by omega) (by omega) (fun k hk => by omega) (fun k hk => by omega) (fun j k _ hk => by omega) (by omega) (fun v => by
      rw [Nat.zero_testBit]
      exact ⟨fun h => absurd h (by decide), fun ⟨k, hk, _⟩ => by omega⟩) (by rw [hp, Nat.zero_mul, Nat.zero_add]) (by rw [Nat.sub_zero]; omega) (fun k _ => rfl)
    obtain ⟨im2, e2, h2⟩ := layAll_L hF hn d (r + 1) f im1 (by omega) (by omega) (fun s hs => by
      by_cases e : s = r
      · subst e; exact ⟨a, a1, a2, a3⟩
      · obtain ⟨b, b1, b2, b3⟩ := h s (by omega)
        exact ⟨b, b1, b2, fun k hk => by rw [a4 _ (by omega)]; exact b3 k hk⟩)
    refine ⟨im2, ?_, h2⟩
    rw [mX7_layAll_L13_s, if_neg (nI_ge (by omega) (by omega)), bd_e (show mX7_layAll_L28 F (nI r) (nI n) F (nI r) 0 0 image = _ from e1), nI_1, e2]
theorem layAll_is {F : Nat} (hF : 50000 ≤ F) {n : Nat} (hn : n ≤ 8) (many : Int32) (image : Nat → Int32) : ∃ im2, mX7_layAll F (nI n) many image = some (nI (fac n), im2) ∧ Tbl n im2 := by
  have hfac := fac_8 hn
  obtain ⟨im2, e, h⟩ := layAll_L hF hn (fac n) 0 F image (by omega) (by omega) (fun s hs => by omega)
  refine ⟨im2, ?_, h⟩
  unfold mX7_layAll
  rw [bd_e (product_is hF hn), bd_e (show mX7_layAll_L13 F (nI n) (nI (fac n)) F 0 image = _ from e)]
section TBL
variable {F n : Nat} {image : Nat → Int32}
theorem Tbl.get (h : Tbl n image) (hn : n ≤ 8) {a : Pm} (ha : Sup n a) {k : Nat} (hk : k < n) : image (8 * rk n a + k) = nI (a.ap k) := by
  obtain ⟨b, h1, h2, h3⟩ := h (rk n a) (rk_lt a ha)
  rw [h3 k hk, rk_inj hn h1 ha h2]
theorem Tbl.ex (h : Tbl n image) {r : Nat} (hr : r < fac n) : ∃ a, Sup n a ∧ rk n a = r := by
  obtain ⟨a, h1, h2, -⟩ := h r hr
  exact ⟨a, h1, h2⟩
theorem rk_ix (hn : n ≤ 8) {a : Pm} (ha : Sup n a) {k : Nat} (hk : k < n) : 8 * rk n a + k < 322560 := by
  have h1 := rk_lt a ha
  have h2 := fac_8 hn
  omega
theorem rk_31 (hn : n ≤ 8) {a : Pm} (ha : Sup n a) : rk n a < 40320 := by
  have h1 := rk_lt a ha
  have h2 := fac_8 hn
  omega
/-! placeNow -/
theorem place_in {a : Pm} {now : Nat → Int32} (hn : n ≤ 8) (ha : Sup n a) (hw : ∀ k, k < n → now k = nI (a.ap k)) {i : Nat} (hi : i < n) : ∀ (d j f : Nat), j + d = n → d < f → i < j → mX7_placeNow_L19 (nI i) (nI n) now f (nI (iv1 a j i)) (nI j) = some (nI (iv1 a n i))
  | 0, j, f, hj, hf, hij => by
    obtain ⟨f, rfl⟩ : ∃ g, f = g + 1 := ⟨f - 1, by omega⟩
    have : j = n := by omega
    subst this
    rw [mX7_placeNow_L19_s, if_pos (nI_le (Nat.le_refl _) (by omega))]
  | d + 1, j, f, hj, hf, hij => by
    obtain ⟨f, rfl⟩ : ∃ g, f = g + 1 := ⟨f - 1, by omega⟩
    have hjn : j < n := by omega
    have h1 := ha.lt hi
    have h2 := ha.lt hjn
    have ih := place_in hn ha hw hi d (j + 1) f (by omega) (by omega) (by omega)
    have hs : iv1 a (j + 1) i = iv1 a j i + (if a.ap j < a.ap i then 1 else 0) := by
      unfold iv1
      rw [ct_s]
      congr 1
      simp [hij]
    rw [mX7_placeNow_L19_s, if_neg (nI_ge hjn (by omega)), gd_t (inb_n (by omega) (by omega)), gd_t (inb_n (by omega) (by omega)), cl_n (by omega), cl_n (by omega), hw i hi, hw j hjn, lT_x, lT_x]
    have e : nI (iv1 a j i) + (if nI (a.ap i) ≤ nI (a.ap j) then (0 : Int32) else 1) = nI (iv1 a (j + 1) i) := by
      rw [hs]
      by_cases h : a.ap j < a.ap i
      · rw [if_neg (nI_ge h (by omega)), if_pos h, nI_1]
      · rw [if_pos (nI_le (by omega) (by omega)), if_neg h, show (0 : Int32) = nI 0 from rfl, nI_add]
    rw [e, nI_1, ih]
theorem place_L (hF : 50000 ≤ F) {a : Pm} {now : Nat → Int32} (hn : n ≤ 8) (ha : Sup n a) (hw : ∀ k, k < n → now k = nI (a.ap k)) : ∀ (d i f : Nat), i + d = n → d < f → mX7_placeNow_L4 F (nI n) now f (nI (hp a.ap n i)) (nI i) = some (nI (rk n a))
  | 0, i, f, hi, hf => by
    obtain ⟨f, rfl⟩ : ∃ g, f = g + 1 := ⟨f - 1, by omega⟩
    have : i = n := by omega
    subst this
    rw [mX7_placeNow_L4_s, if_pos (nI_le (Nat.le_refl _) (by omega))]
    rfl
  | d + 1, i, f, hi, hf => by
    obtain ⟨f, rfl⟩ : ∃ g, f = g + 1 := ⟨f - 1, by omega⟩
    have hin : i < n := by omega
    have h := place_in hn ha hw hin (n - 1 - i) (i + 1) F (by omega) (by omega) (by omega)
    rw [iv1_low a (i + 1) (by omega)] at h
    rw [mX7_placeNow_L4_s, if_neg (nI_ge hin (by omega)), lT_x, nI_1, bd_e (show mX7_placeNow_L19 (nI i) (nI n) now F 0 (nI (i + 1)) = _ from h), lT_x, pk_sub (by omega), pk_mul, nI_add, lp_iv a ha hin, ← hp_s]
    exact place_L hF hn ha hw d (i + 1) f (by omega) (by omega)
theorem place_now (hF : 50000 ≤ F) {a : Pm} {now : Nat → Int32} (hn : n ≤ 8) (ha : Sup n a) (hw : ∀ k, k < n → now k = nI (a.ap k)) : mX7_placeNow F (nI n) now = some (nI (rk n a)) := by
  unfold mX7_placeNow
  rw [bd_e (show mX7_placeNow_L4 F (nI n) now F 0 0 = _ from place_L hF hn ha hw n 0 F (by omega) (by omega))]
theorem oneThen_L (h : Tbl n image) (hn : n ≤ 8) {a b : Pm} (ha : Sup n a) (hb : Sup n b) : ∀ (d i f : Nat) (now : Nat → Int32), i + d = n → d < f → (∀ k, k < i → now k = nI ((a.th b).ap k)) → ∃ now2, mX7_oneThen_L2 (nI (rk n a)) (nI (rk n b)) (nI n) image f (nI i) now = some now2 ∧ ∀ k, k < n → now2 k = nI ((a.th b).ap k)
  | 0, i, f, now, hi, hf, hw => by
    obtain ⟨f, rfl⟩ : ∃ g, f = g + 1 := ⟨f - 1, by omega⟩
    have : i = n := by omega
    subst this
    exact ⟨now, by rw [mX7_oneThen_L2_s, if_pos (nI_le (Nat.le_refl _) (by omega))], hw⟩
  | d + 1, i, f, now, hi, hf, hw => by
    obtain ⟨f, rfl⟩ : ∃ g, f = g + 1 := ⟨f - 1, by omega⟩
    have hin : i < n := by omega
    have x1 := rk_ix hn ha hin
    have x2 := rk_ix hn hb (ha.lt hin)
    obtain ⟨now2, e, h2⟩ := oneThen_L h hn ha hb d (i + 1) f (upd now i (nI (b.ap (a.ap i)))) (by omega) (by omega) (fun k hk => by
      by_cases e : k = i
      · subst e; rw [pk_us]; rfl
      · rw [pk_un e]; exact hw k (by omega))
    refine ⟨now2, ?_, h2⟩
    rw [mX7_oneThen_L2_s, if_neg (nI_ge hin (by omega)), ix8, gd_t (inb_n x1 (by omega)), cl_n (by omega), h.get hn ha hin, ix8, gd_t (inb_n x2 (by omega)), gd_t (inb_n (by omega) (by omega)), cl_n (by omega), cl_n (by omega), h.get hn hb (ha.lt hin), lT_x, nI_1]
    exact e
theorem oneThen_is (hF : 50000 ≤ F) (h : Tbl n image) (hn : n ≤ 8) {a b : Pm} (ha : Sup n a) (hb : Sup n b) (now : Nat → Int32) : ∃ now2, mX7_oneThen F (nI n) image now (nI (rk n a)) (nI (rk n b)) = some (nI (rk n (a.th b)), now2) := by
  obtain ⟨now2, e, hw⟩ := oneThen_L h hn ha hb n 0 F now (by omega) (by omega) (fun k hk => by omega)
  refine ⟨now2, ?_⟩
  unfold mX7_oneThen
  rw [bd_e (show mX7_oneThen_L2 (nI (rk n a)) (nI (rk n b)) (nI n) image F 0 now = _ from e), bd_e (place_now hF hn (ha.th hb) hw)]
theorem backOf_L (h : Tbl n image) (hn : n ≤ 8) {a : Pm} (ha : Sup n a) : ∀ (d i f : Nat) (now : Nat → Int32), i + d = n → d < f → (∀ k, k < n → a.pa k < i → now k = nI (a.pa k)) → ∃ now2, mX7_backOf_L2 (nI (rk n a)) (nI n) image f (nI i) now = some now2 ∧ ∀ k, k < n → now2 k = nI (a.bk.ap k)
  | 0, i, f, now, hi, hf, hw => by
    obtain ⟨f, rfl⟩ : ∃ g, f = g + 1 := ⟨f - 1, by omega⟩
    have : i = n := by omega
    subst this
    exact ⟨now, by rw [mX7_backOf_L2_s, if_pos (nI_le (Nat.le_refl _) (by omega))], fun k hk => hw k hk (ha.palt hk)⟩
  | d + 1, i, f, now, hi, hf, hw => by
    obtain ⟨f, rfl⟩ : ∃ g, f = g + 1 := ⟨f - 1, by omega⟩
    have hin : i < n := by omega
    have x1 := rk_ix hn ha hin
    have x2 := ha.lt hin
    obtain ⟨now2, e, h2⟩ := backOf_L h hn ha d (i + 1) f (upd now (a.ap i) (nI i)) (by omega) (by omega) (fun k hk hki => by
      by_cases e : k = a.ap i
      · subst e; rw [pk_us, a.pa_ap]
      · rw [pk_un e]
        refine hw k hk ?_
        have : a.pa k ≠ i := fun e2 => e (a.pa_eq.mp e2)
        omega)
    refine ⟨now2, ?_, h2⟩
    rw [mX7_backOf_L2_s, if_neg (nI_ge hin (by omega)), ix8, gd_t (inb_n x1 (by omega)), cl_n (by omega), h.get hn ha hin, gd_t (inb_n (by omega) (by omega)), cl_n (by omega), lT_x, nI_1]
    exact e
theorem backOf_is (hF : 50000 ≤ F) (h : Tbl n image) (hn : n ≤ 8) {a : Pm} (ha : Sup n a) (now : Nat → Int32) : ∃ now2, mX7_backOf F (nI n) image now (nI (rk n a)) = some (nI (rk n a.bk), now2) := by
  obtain ⟨now2, e, hw⟩ := backOf_L h hn ha n 0 F now (by omega) (by omega) (fun k _ hk => by omega)
  refine ⟨now2, ?_⟩
  unfold mX7_backOf
  rw [bd_e (show mX7_backOf_L2 (nI (rk n a)) (nI n) image F 0 now = _ from e), bd_e (place_now hF hn ha.bk hw)]
theorem carriedR_L (h : Tbl n image) (hn : n ≤ 8) {t p : Pm} (ht : Sup n t) (hp : Sup n p) : ∀ (d i f : Nat) (now : Nat → Int32), i + d = n → d < f → (∀ k, k < n → p.pa k < i → now k = nI ((t.cj p).ap k)) → ∃ now2, mX7_carried_L2 (nI (rk n t)) (nI (rk n p)) (nI n) image f (nI i) now = some now2 ∧ ∀ k, k < n → now2 k = nI ((t.cj p).ap k)
  | 0, i, f, now, hi, hf, hw => by
    obtain ⟨f, rfl⟩ : ∃ g, f = g + 1 := ⟨f - 1, by omega⟩
    have : i = n := by omega
    subst this
    exact ⟨now, by rw [mX7_carried_L2_s, if_pos (nI_le (Nat.le_refl _) (by omega))], fun k hk => hw k hk (hp.palt hk)⟩
  | d + 1, i, f, now, hi, hf, hw => by
    obtain ⟨f, rfl⟩ : ∃ g, f = g + 1 := ⟨f - 1, by omega⟩
    have hin : i < n := by omega
    have x1 := rk_ix hn hp hin
    have x2 := rk_ix hn ht hin
    have x3 := rk_ix hn hp (ht.lt hin)
    have x4 := hp.lt hin
    obtain ⟨now2, e, h2⟩ := carriedR_L h hn ht hp d (i + 1) f (upd now (p.ap i) (nI (p.ap (t.ap i)))) (by omega) (by omega) (fun k hk hki => by
      by_cases e : k = p.ap i
      · subst e; rw [pk_us, Pm.ap_cj']
      · rw [pk_un e]
        refine hw k hk ?_
        have : p.pa k ≠ i := fun e2 => e (p.pa_eq.mp e2)
        omega)
    refine ⟨now2, ?_, h2⟩
    rw [mX7_carried_L2_s, if_neg (nI_ge hin (by omega)), ix8, ix8, gd_t (inb_n x1 (by omega)), gd_t (inb_n x2 (by omega)), cl_n (by omega), cl_n (by omega), h.get hn hp hin, h.get hn ht hin, ix8, gd_t (inb_n x3 (by omega)), gd_t (inb_n (by omega) (by omega)), cl_n (by omega), cl_n (by omega), h.get hn hp (ht.lt hin), lT_x, nI_1]
    exact e
theorem carriedR_is (hF : 50000 ≤ F) (h : Tbl n image) (hn : n ≤ 8) {t p : Pm} (ht : Sup n t) (hp : Sup n p) (now : Nat → Int32) : ∃ now2, mX7_carried F (nI n) image now (nI (rk n t)) (nI (rk n p)) = some (nI (rk n (t.cj p)), now2) := by
  obtain ⟨now2, e, hw⟩ := carriedR_L h hn ht hp n 0 F now (by omega) (by omega) (fun k _ hk => by omega)
  refine ⟨now2, ?_⟩
  unfold mX7_carried
  rw [bd_e (show mX7_carried_L2 (nI (rk n t)) (nI (rk n p)) (nI n) image F 0 now = _ from e), bd_e (place_now hF hn (ht.cj hp) hw)]
theorem Sup.pw {n : Nat} {a : Pm} (ha : Sup n a) : ∀ k, Sup n (a.pw k)
  | 0 => Sup.one n
  | k + 1 => (Sup.pw ha k).th ha
theorem orderOf_L (hF : 50000 ≤ F) (h : Tbl n image) (hn : n ≤ 8) {a : Pm} (ha : Sup n a) {k : Nat} (hk : a.pw k = .one) (hl : ∀ j, j < k → ¬ (0 < j ∧ a.pw j = .one)) (h8 : k ≤ 840) : ∀ (d i f : Nat) (now : Nat → Int32), i + d = k → 0 < i → d < f → ∃ now2, mX7_orderOf_L4 F (nI (rk n a)) (nI n) image f (nI i) (nI (rk n (a.pw i))) now = some (nI k, now2)
  | 0, i, f, now, hi, h0, hf => by
    obtain ⟨f, rfl⟩ : ∃ g, f = g + 1 := ⟨f - 1, by omega⟩
    have : i = k := by omega
    subst this
    exact ⟨now, by rw [mX7_orderOf_L4_s, if_pos (by rw [hk, rk_one]; rfl)]⟩
  | d + 1, i, f, now, hi, h0, hf => by
    obtain ⟨f, rfl⟩ : ∃ g, f = g + 1 := ⟨f - 1, by omega⟩
    have hp := ha.pw i
    have h4 := rk_31 hn hp
    obtain ⟨now1, e1⟩ := oneThen_is hF h hn hp ha now
    obtain ⟨now2, e2⟩ := orderOf_L hF h hn ha hk hl h8 d (i + 1) f now1 (by omega) (by omega) (by omega)
    refine ⟨now2, ?_⟩
    rw [mX7_orderOf_L4_s, if_neg (show ¬ nI (rk n (a.pw i)) = (0 : Int32) from fun e => hl i (by omega) ⟨h0, (rk_0 hn hp).mp ((nI_eq (b := 0) (by omega) (by omega)).mp e)⟩), bd2_e e1, nI_1]
    exact e2
theorem orderOf_is (hF : 50000 ≤ F) (h : Tbl n image) (hn : n ≤ 8) {a : Pm} (ha : Sup n a) {k : Nat} (h0 : 0 < k) (hk : a.pw k = .one) (hl : ∀ j, j < k → ¬ (0 < j ∧ a.pw j = .one)) (now : Nat → Int32) : ∃ now2, mX7_orderOf F (nI n) image now (nI (rk n a)) = some (nI k, now2) := by
  have h8 := times_le hl
  obtain ⟨now2, e⟩ := orderOf_L hF h hn ha hk hl h8 (k - 1) 1 F now (by omega) (by omega) (by omega)
  rw [Pm.pw_one] at e
  refine ⟨now2, ?_⟩
  unfold mX7_orderOf
  rw [bd2_e (show mX7_orderOf_L4 F (nI (rk n a)) (nI n) image F 1 (nI (rk n a)) now = _ from e)]
theorem setOf_L (h : Tbl n image) (hn : n ≤ 8) {t : Pm} (ht : Sup n t) {s : Nat} (hs : s < 2 ^ n) : ∀ (d i f : Nat), i + d = n → d < f → mX7_setOf_L5 (nI (rk n t)) (nI s) (nI n) image f (nI (bsn (fun j => s.testBit (t.pa j) && decide (t.pa j < i)) 8)) (nI i) = some (nI (ims t s))
  | 0, i, f, hi, hf => by
    obtain ⟨f, rfl⟩ : ∃ g, f = g + 1 := ⟨f - 1, by omega⟩
    have : i = n := by omega
    subst this
    rw [mX7_setOf_L5_s, if_pos (nI_le (Nat.le_refl _) (by omega))]
    refine congrArg (fun x => some (nI x)) (set_ext (bsn_lt _ 8) (ims_lt t s) fun j hj => ?_)
    rw [bsn_bit, ims_bit t s hj]
    by_cases hb : t.pa j < i
    · simp [hj, hb]
    · rw [tb_low (k := i) hs (by omega)]
      simp
  | d + 1, i, f, hi, hf => by
    obtain ⟨f, rfl⟩ : ∃ g, f = g + 1 := ⟨f - 1, by omega⟩
    have hin : i < n := by omega
    have x1 := rk_ix hn ht hin
    have x2 := ht.lt hin
    have h2n : 2 ^ n ≤ 2 ^ 8 := Nat.pow_le_pow_right (by decide) hn
    have ih := setOf_L h hn ht hs d (i + 1) f (by omega) (by omega)
    rw [mX7_setOf_L5_s, if_neg (nI_ge hin (by omega)), bit_is (by omega) (by omega), ix8, gd_t (inb_n x1 (by omega)), cl_n (by omega), h.get hn ht hin, one_shl (by omega), nI_1]
    cases hb : s.testBit i with
    | true =>
      rw [if_pos (show (if true = true then (1 : Int32) else 0) = 1 from rfl), bd_s, lT_x, ni_or, ← ih]
      congr 2
      refine set_ext (set_put (bsn_lt _ 8) (by omega)) (bsn_lt _ 8) fun j hj => ?_
      rw [tb_set, bsn_bit, bsn_bit]
      by_cases h1 : j = t.ap i
      · subst h1; simp [t.pa_ap, hb, hj]
      · have h3 : t.pa j ≠ i := fun e => h1 (t.pa_eq.mp e)
        have h4 : (t.pa j < i + 1) ↔ t.pa j < i := by omega
        simp [h1, h4]
    | false =>
      rw [if_neg (show ¬ (if false = true then (1 : Int32) else 0) = 1 from by decide), bd_s, lT_x, show (0 : Int32) = nI 0 from rfl, ni_or, Nat.or_zero, ← ih]
      congr 2
      refine set_ext (bsn_lt _ 8) (bsn_lt _ 8) fun j hj => ?_
      rw [bsn_bit, bsn_bit]
      by_cases h1 : t.pa j = i
      · rw [h1, hb]; simp
      · have h4 : (t.pa j < i + 1) ↔ t.pa j < i := by omega
        simp [h4]
theorem setOf_is (hF : 50000 ≤ F) (h : Tbl n image) (hn : n ≤ 8) {t : Pm} (ht : Sup n t) {s : Nat} (hs : s < 2 ^ n) : mX7_setOf F (nI n) image (nI (rk n t)) (nI s) = some (nI (ims t s)) := by
  unfold mX7_setOf
  have e := setOf_L h hn ht hs n 0 F (by omega) (by omega)
  rw [show bsn (fun j => s.testBit (t.pa j) && decide (t.pa j < 0)) 8 = 0 from set_ext (bsn_lt _ 8) (by decide) fun j hj => by rw [bsn_bit]; simp] at e
  rw [bd_e (show mX7_setOf_L5 (nI (rk n t)) (nI s) (nI n) image F 0 0 = _ from e)]
end TBL
