/-! ===== turns of eight points, and groups of them: plain facts, no machine ===== -/
/-- a turn: where each number goes, and what comes to it; from 8 on all stay -/
def Pm : Type := { p : (Nat → Nat) × (Nat → Nat) // (∀ i, p.2 (p.1 i) = i) ∧ (∀ i, p.1 (p.2 i) = i) ∧ ∀ i, 8 ≤ i → p.1 i = i }
def Pm.ap (a : Pm) (i : Nat) : Nat := a.1.1 i
def Pm.pa (a : Pm) (i : Nat) : Nat := a.1.2 i
theorem Pm.pa_ap (a : Pm) (i : Nat) : a.pa (a.ap i) = i := a.2.1 i
theorem Pm.ap_pa (a : Pm) (i : Nat) : a.ap (a.pa i) = i := a.2.2.1 i
theorem Pm.ap_out (a : Pm) {i : Nat} (h : 8 ≤ i) : a.ap i = i := a.2.2.2 i h
theorem Pm.inj (a : Pm) {i j : Nat} (h : a.ap i = a.ap j) : i = j := by
  rw [← a.pa_ap i, h, a.pa_ap]
theorem Pm.ap_iff (a : Pm) {i j : Nat} : a.ap i = a.ap j ↔ i = j := ⟨a.inj, fun h => by rw [h]⟩
theorem Pm.pa_eq (a : Pm) {i j : Nat} : a.pa i = j ↔ i = a.ap j := ⟨fun h => by rw [← h, a.ap_pa], fun h => by rw [h, a.pa_ap]⟩
theorem Pm.ap_eq (a : Pm) {i j : Nat} : a.ap i = j ↔ i = a.pa j := ⟨fun h => by rw [← h, a.pa_ap], fun h => by rw [h, a.ap_pa]⟩
theorem Pm.pa_out (a : Pm) {i : Nat} (h : 8 ≤ i) : a.pa i = i := by rw [a.pa_eq, a.ap_out h]
theorem Pm.ap_lt (a : Pm) {i : Nat} (h : i < 8) : a.ap i < 8 := by
  apply Classical.byContradiction
  intro hc
  have h1 := a.ap_out (Nat.le_of_not_lt hc)
  have h2 := a.inj h1
  omega
theorem Pm.pa_lt (a : Pm) {i : Nat} (h : i < 8) : a.pa i < 8 := by
  apply Classical.byContradiction
  intro hc
  have h1 := a.ap_out (Nat.le_of_not_lt hc)
  rw [a.ap_pa] at h1
  omega
theorem Pm.ext {a b : Pm} (h : ∀ i, a.ap i = b.ap i) : a = b := by
  have h1 : a.1.1 = b.1.1 := funext h
  have h2 : a.1.2 = b.1.2 := funext fun i => by
    have : a.pa i = b.pa i := b.inj (by rw [← h, a.ap_pa, b.ap_pa])
    exact this
  exact Subtype.ext (Prod.ext h1 h2)
theorem Pm.ext8 {a b : Pm} (h : ∀ i, i < 8 → a.ap i = b.ap i) : a = b := Pm.ext fun i => by
  by_cases hi : i < 8
  · exact h i hi
  · rw [a.ap_out (by omega), b.ap_out (by omega)]
def Pm.one : Pm := ⟨(fun i => i, fun i => i), fun _ => rfl, fun _ => rfl, fun _ _ => rfl⟩
def Pm.th (a b : Pm) : Pm := ⟨(fun i => b.ap (a.ap i), fun i => a.pa (b.pa i)), fun i => by show a.pa (b.pa (b.ap (a.ap i))) = i; rw [b.pa_ap, a.pa_ap], fun i => by show b.ap (a.ap (a.pa (b.pa i))) = i; rw [a.ap_pa, b.ap_pa], fun i h => by show b.ap (a.ap i) = i; rw [a.ap_out h, b.ap_out h]⟩
def Pm.bk (a : Pm) : Pm := ⟨(a.1.2, a.1.1), a.2.2.1, a.2.1, fun _ h => a.pa_out h⟩
theorem Pm.ap_one (i : Nat) : Pm.one.ap i = i := rfl
theorem Pm.pa_one (i : Nat) : Pm.one.pa i = i := rfl
theorem Pm.ap_th (a b : Pm) (i : Nat) : (a.th b).ap i = b.ap (a.ap i) := rfl
theorem Pm.pa_th (a b : Pm) (i : Nat) : (a.th b).pa i = a.pa (b.pa i) := rfl
theorem Pm.ap_bk (a : Pm) (i : Nat) : a.bk.ap i = a.pa i := rfl
theorem Pm.pa_bk (a : Pm) (i : Nat) : a.bk.pa i = a.ap i := rfl
theorem Pm.th_assoc (a b c : Pm) : (a.th b).th c = a.th (b.th c) := Pm.ext fun _ => rfl
theorem Pm.th_one (a : Pm) : a.th .one = a := Pm.ext fun _ => rfl
theorem Pm.one_th (a : Pm) : Pm.one.th a = a := Pm.ext fun _ => rfl
theorem Pm.th_bk (a : Pm) : a.th a.bk = .one := Pm.ext fun i => a.pa_ap i
theorem Pm.bk_th (a : Pm) : a.bk.th a = .one := Pm.ext fun i => a.ap_pa i
theorem Pm.bk_bk (a : Pm) : a.bk.bk = a := Pm.ext fun _ => rfl
theorem Pm.bk_one : Pm.one.bk = .one := Pm.ext fun _ => rfl
theorem Pm.bk_th' (a b : Pm) : (a.th b).bk = b.bk.th a.bk := Pm.ext fun _ => rfl
theorem Pm.lc {a b c : Pm} (h : a.th b = a.th c) : b = c := by
  have h2 : a.bk.th (a.th b) = a.bk.th (a.th c) := by rw [h]
  rwa [← th_assoc, ← th_assoc, bk_th, one_th, one_th] at h2
theorem Pm.rc {a b c : Pm} (h : a.th c = b.th c) : a = b := by
  have h2 : (a.th c).th c.bk = (b.th c).th c.bk := by rw [h]
  rwa [th_assoc, th_assoc, th_bk, th_one, th_one] at h2
theorem Pm.bk_of {a b : Pm} (h : a.th b = .one) : a = b.bk := by
  have h2 : (a.th b).th b.bk = Pm.one.th b.bk := by rw [h]
  rwa [th_assoc, th_bk, th_one, one_th] at h2
theorem Pm.th_bk_can (a b : Pm) : (a.th b).th b.bk = a := by rw [th_assoc, th_bk, th_one]
theorem Pm.th_can_bk (a b : Pm) : (a.th b.bk).th b = a := by rw [th_assoc, bk_th, th_one]
theorem Pm.bk_th_can (a b : Pm) : a.bk.th (a.th b) = b := by rw [← th_assoc, bk_th, one_th]
theorem Pm.th_bk_th (a b : Pm) : a.th (a.bk.th b) = b := by rw [← th_assoc, th_bk, one_th]
/-- a turn of the first n points -/
def Sup (n : Nat) (a : Pm) : Prop := ∀ i, n ≤ i → a.ap i = i
theorem Sup.one (n : Nat) : Sup n .one := fun _ _ => rfl
theorem Sup.th {n : Nat} {a b : Pm} (ha : Sup n a) (hb : Sup n b) : Sup n (a.th b) := fun i h => by rw [Pm.ap_th, ha i h, hb i h]
theorem Sup.bk {n : Nat} {a : Pm} (ha : Sup n a) : Sup n a.bk := fun i h => by rw [Pm.ap_bk, a.pa_eq, ha i h]
theorem Sup.lt {n : Nat} {a : Pm} (ha : Sup n a) {i : Nat} (h : i < n) : a.ap i < n := by
  apply Classical.byContradiction
  intro hc
  have h1 := ha _ (Nat.le_of_not_lt hc)
  have h2 := a.inj h1
  omega
theorem Sup.palt {n : Nat} {a : Pm} (ha : Sup n a) {i : Nat} (h : i < n) : a.pa i < n := ha.bk.lt h
theorem Sup.eight (a : Pm) : Sup 8 a := fun _ h => a.ap_out h
theorem Sup.mono {m n : Nat} (h : m ≤ n) {a : Pm} (ha : Sup m a) : Sup n a := fun i hi => ha i (by omega)
theorem Sup.ext {n : Nat} {a b : Pm} (ha : Sup n a) (hb : Sup n b) (h : ∀ i, i < n → a.ap i = b.ap i) : a = b := Pm.ext fun i => by
  by_cases hi : i < n
  · exact h i hi
  · rw [ha i (by omega), hb i (by omega)]
/-- done so often one behind another -/
def Pm.pw (a : Pm) : Nat → Pm
  | 0 => .one
  | k + 1 => (a.pw k).th a
theorem Pm.pw_0 (a : Pm) : a.pw 0 = .one := rfl
theorem Pm.pw_s (a : Pm) (k : Nat) : a.pw (k + 1) = (a.pw k).th a := rfl
theorem Pm.pw_add (a : Pm) (j k : Nat) : a.pw (j + k) = (a.pw j).th (a.pw k) := by
  induction k with
  | zero => exact (th_one _).symm
  | succ k ih => show (a.pw (j + k)).th a = (a.pw j).th ((a.pw k).th a); rw [ih, th_assoc]
theorem Pm.pw_one (a : Pm) : a.pw 1 = a := one_th a
theorem Pm.pw_comm (a : Pm) (k : Nat) : (a.pw k).th a = a.th (a.pw k) := by
  have h1 := a.pw_add k 1
  have h2 := a.pw_add 1 k
  rw [pw_one] at h1 h2
  rw [← h1, ← h2, Nat.add_comm]
theorem Pm.one_pw (k : Nat) : Pm.one.pw k = .one := by
  induction k with
  | zero => rfl
  | succ k ih => show (Pm.one.pw k).th .one = .one; rw [ih]; rfl
theorem Pm.pw_mul (a : Pm) (j k : Nat) : a.pw (j * k) = (a.pw j).pw k := by
  induction k with
  | zero => rfl
  | succ k ih => show a.pw (j * k + j) = ((a.pw j).pw k).th (a.pw j); rw [pw_add, ih]
theorem Pm.pw_bk (a : Pm) (k : Nat) : a.bk.pw k = (a.pw k).bk := by
  induction k with
  | zero => rfl
  | succ k ih => rw [pw_s, ih, pw_s, pw_comm, bk_th']
/-- more things than places: two of them at one place -/
theorem pg_holes : ∀ (m n : Nat) (f : Nat → Nat), (∀ i, i < n → f i < m) → (∀ i j, i < j → j < n → f i ≠ f j) → n ≤ m
  | m, 0, _, _, _ => Nat.zero_le m
  | 0, n + 1, f, h, _ => absurd (h 0 (by omega)) (by omega)
  | m + 1, n + 1, f, h, hd => by
    have ih := pg_holes m n (fun i => if f i = m then f n else f i) (fun i hi => by
        show (if f i = m then f n else f i) < m
        have h1 := h i (by omega)
        have h2 := h n (by omega)
        have h3 := hd i n hi (by omega)
        split <;> omega) (fun i j hij hj => by
        show (if f i = m then f n else f i) ≠ (if f j = m then f n else f j)
        have h1 := hd i j hij (by omega)
        have h2 := hd i n (by omega) (by omega)
        have h3 := hd j n hj (by omega)
        split <;> split <;> omega)
    omega
theorem pg_twice {m n : Nat} {f : Nat → Nat} (h : ∀ i, i < n → f i < m) (hm : m < n) : ∃ i j, i < j ∧ j < n ∧ f i = f j := by
  apply Classical.byContradiction
  intro hc
  have := pg_holes m n f h (fun i j hij hj e => hc ⟨i, j, hij, hj, e⟩)
  omega
theorem Pm.fix_pw {a : Pm} {i : Nat} (h : a.ap i = i) : ∀ k, (a.pw k).ap i = i
  | 0 => rfl
  | k + 1 => by rw [pw_s, ap_th, fix_pw h k, h]
theorem dv840 : ∀ c, c < 8 → (c + 1) * (840 / (c + 1)) = 840 := by decide
/-- 840 times is one -/
theorem Pm.pw840 (a : Pm) : a.pw 840 = .one := Pm.ext8 fun i hi => by
  obtain ⟨j, k, hjk, hk, e⟩ := pg_twice (m := 8) (n := 9) (f := fun k => (a.pw k).ap i) (fun k _ => (a.pw k).ap_lt hi) (by omega)
  have e2 : (a.pw j).ap i = (a.pw k).ap i := e
  obtain ⟨c, rfl⟩ : ∃ c, k = (c + 1) + j := ⟨k - j - 1, by omega⟩
  rw [pw_add, ap_th] at e2
  have e3 := ((a.pw j).inj e2).symm
  have h1 := dv840 c (by omega)
  rw [← h1, pw_mul, fix_pw e3]
  rfl
/-! groups -/
def Grp (G : Pm → Prop) : Prop := G .one ∧ (∀ a b, G a → G b → G (a.th b)) ∧ ∀ a, G a → G a.bk
theorem Grp.pw {G : Pm → Prop} (h1 : G .one) (hm : ∀ a b, G a → G b → G (a.th b)) {a : Pm} (ha : G a) : ∀ k, G (a.pw k)
  | 0 => h1
  | k + 1 => hm _ _ (Grp.pw h1 hm ha k) ha
theorem Pm.bk_pw {a : Pm} {k : Nat} (h : a.pw (k + 1) = .one) : a.bk = a.pw k := (Pm.bk_of h).symm
theorem Grp.of_mul {G : Pm → Prop} (h1 : G .one) (hm : ∀ a b, G a → G b → G (a.th b)) : Grp G := by
  refine ⟨h1, hm, fun a ha => ?_⟩
  rw [Pm.bk_pw (k := 839) a.pw840]
  exact Grp.pw h1 hm ha 839
theorem Grp.sup (n : Nat) : Grp (Sup n) := ⟨Sup.one n, fun _ _ => Sup.th, fun _ => Sup.bk⟩
theorem Grp.and {G H : Pm → Prop} (hG : Grp G) (hH : Grp H) : Grp (fun a => G a ∧ H a) := ⟨⟨hG.1, hH.1⟩, fun a b ha hb => ⟨hG.2.1 a b ha.1 hb.1, hH.2.1 a b ha.2 hb.2⟩, fun a ha => ⟨hG.2.2 a ha.1, hH.2.2 a ha.2⟩⟩
theorem Grp.congr {G H : Pm → Prop} (h : ∀ a, G a ↔ H a) (hG : Grp G) : Grp H := by
  have e : G = H := funext fun a => propext (h a)
  exact e ▸ hG
theorem Grp.rc {G : Pm → Prop} (hG : Grp G) {a b : Pm} (hb : G b) : G (a.th b) ↔ G a := ⟨fun h => by
  have := hG.2.1 _ _ h (hG.2.2 b hb)
  rwa [Pm.th_bk_can] at this, fun h => hG.2.1 a b h hb⟩
theorem Grp.lc {G : Pm → Prop} (hG : Grp G) {a b : Pm} (ha : G a) : G (a.th b) ↔ G b := ⟨fun h => by
  have := hG.2.1 _ _ (hG.2.2 a ha) h
  rwa [Pm.bk_th_can] at this, fun h => hG.2.1 a b ha h⟩
theorem Grp.bki {G : Pm → Prop} (hG : Grp G) {a : Pm} : G a.bk ↔ G a := ⟨fun h => by have := hG.2.2 _ h; rwa [Pm.bk_bk] at this, hG.2.2 a⟩
/-- the group of some turns: the least one that has them -/
def Gen (X : Pm → Prop) : Pm → Prop := fun a => ∀ G, Grp G → (∀ x, X x → G x) → G a
theorem Gen.grp (X : Pm → Prop) : Grp (Gen X) := ⟨fun _ hG _ => hG.1, fun a b ha hb G hG hX => hG.2.1 a b (ha G hG hX) (hb G hG hX), fun a ha G hG hX => hG.2.2 a (ha G hG hX)⟩
theorem Gen.of {X : Pm → Prop} {x : Pm} (h : X x) : Gen X x := fun _ _ hX => hX x h
theorem Gen.least {X G : Pm → Prop} (hG : Grp G) (hX : ∀ x, X x → G x) {a : Pm} (h : Gen X a) : G a := h G hG hX
theorem Gen.mono {X Y : Pm → Prop} (h : ∀ x, X x → Gen Y x) {a : Pm} (ha : Gen X a) : Gen Y a := ha _ (Gen.grp Y) h
theorem Gen.sub {X Y : Pm → Prop} (h : ∀ x, X x → Y x) {a : Pm} (ha : Gen X a) : Gen Y a := Gen.mono (fun x hx => Gen.of (h x hx)) ha
theorem Gen.self {G : Pm → Prop} (hG : Grp G) {a : Pm} : Gen G a ↔ G a := ⟨fun h => h G hG (fun _ h => h), Gen.of⟩
/-- what has one, and with each its product with each maker, has all that is made -/
theorem Gen.right {S X : Pm → Prop} (h1 : S .one) (hs : ∀ a x, S a → X x → S (a.th x)) {b : Pm} (hb : Gen X b) : S b := by
  have hM : Grp (fun b => ∀ a, S a → S (a.th b)) := Grp.of_mul (fun a ha => by rw [Pm.th_one]; exact ha) (fun b c hb hc a ha => by rw [← Pm.th_assoc]; exact hc _ (hb a ha))
  have := hb _ hM (fun x hx a ha => hs a x ha hx) .one h1
  rwa [Pm.one_th] at this
theorem Gen.congr {X Y : Pm → Prop} (h : ∀ x, X x → Gen Y x) (h2 : ∀ y, Y y → Gen X y) (a : Pm) : Gen X a ↔ Gen Y a := ⟨Gen.mono h, Gen.mono h2⟩
theorem Gen.none {X : Pm → Prop} (h : ∀ x, ¬ X x) (a : Pm) : Gen X a ↔ a = .one := ⟨fun ha => ha (fun b => b = .one) ⟨rfl, fun a b ha hb => by rw [ha, hb]; rfl, fun a ha => by rw [ha]; rfl⟩ (fun x hx => absurd hx (h x)), fun e => e ▸ (Gen.grp X).1⟩
theorem Grp.one : Grp (fun a => a = .one) := ⟨rfl, fun a b ha hb => by rw [ha, hb]; rfl, fun a ha => by rw [ha]; rfl⟩
/-- carried: (back of p) then t then p -/
def Pm.cj (t p : Pm) : Pm := (p.bk.th t).th p
theorem Pm.ap_cj (t p : Pm) (i : Nat) : (t.cj p).ap i = p.ap (t.ap (p.pa i)) := rfl
theorem Pm.pa_cj (t p : Pm) (i : Nat) : (t.cj p).pa i = p.ap (t.pa (p.pa i)) := rfl
theorem Pm.ap_cj' (t p : Pm) (i : Nat) : (t.cj p).ap (p.ap i) = p.ap (t.ap i) := by rw [ap_cj, pa_ap]
theorem Pm.cj_th (s t p : Pm) : (s.th t).cj p = (s.cj p).th (t.cj p) := Pm.ext fun i => by simp only [ap_cj, ap_th, pa_ap]
theorem Pm.cj_one (p : Pm) : Pm.one.cj p = .one := Pm.ext fun i => by simp only [ap_cj, ap_one, ap_pa]
theorem Pm.cj_bk (t p : Pm) : t.bk.cj p = (t.cj p).bk := Pm.ext fun i => by simp only [ap_cj, ap_bk, pa_cj]
theorem Pm.cj_cj (t p q : Pm) : (t.cj p).cj q = t.cj (p.th q) := Pm.ext fun i => by simp only [ap_cj, ap_th, pa_th]
theorem Pm.cj_id (t : Pm) : t.cj .one = t := Pm.ext fun i => rfl
theorem Pm.cj_back (t p : Pm) : (t.cj p).cj p.bk = t := by rw [cj_cj, th_bk, cj_id]
theorem Pm.cj_back' (t p : Pm) : (t.cj p.bk).cj p = t := by rw [cj_cj, bk_th, cj_id]
theorem Pm.cj_inj {s t p : Pm} (h : s.cj p = t.cj p) : s = t := by rw [← cj_back s p, h, cj_back]
theorem Sup.cj {n : Nat} {t p : Pm} (ht : Sup n t) (hp : Sup n p) : Sup n (t.cj p) := Sup.th (Sup.th hp.bk ht) hp
/-- what carries a group into itself is a group -/
theorem Grp.nrm {N : Pm → Prop} : Grp (fun s => ∀ t, N t → N (t.cj s)) := Grp.of_mul (fun t ht => by rw [Pm.cj_id]; exact ht) (fun a b ha hb t ht => by rw [← Pm.cj_cj]; exact hb _ (ha t ht))
theorem Grp.cjs {N : Pm → Prop} (hN : Grp N) (s : Pm) : Grp (fun t => N (t.cj s)) := ⟨by show N (Pm.one.cj s); rw [Pm.cj_one]; exact hN.1, fun a b ha hb => by show N ((a.th b).cj s); rw [Pm.cj_th]; exact hN.2.1 _ _ ha hb, fun a ha => by show N (a.bk.cj s); rw [Pm.cj_bk]; exact hN.2.2 _ ha⟩
theorem Grp.cj_in {G : Pm → Prop} (hG : Grp G) {s t : Pm} (ht : G t) (hs : G s) : G (t.cj s) := hG.2.1 _ _ (hG.2.1 _ _ (hG.2.2 s hs) ht) hs
/-- if makers go in under a turn, all go in -/
theorem Gen.cj {X N : Pm → Prop} (hN : Grp N) {s : Pm} (h : ∀ x, X x → N (x.cj s)) {a : Pm} (ha : Gen X a) : N (a.cj s) := ha _ (hN.cjs s) h
/-- the least group above A that the turns of X carry to itself -/
def IsNC (A X N : Pm → Prop) : Prop := Grp N ∧ (∀ a, A a → N a) ∧ (∀ t x, N t → X x → N (t.cj x)) ∧ ∀ K, Grp K → (∀ a, A a → K a) → (∀ t x, K t → X x → K (t.cj x)) → ∀ a, N a → K a
theorem IsNC.gen {A X N : Pm → Prop} (h : IsNC A X N) {t s : Pm} (ht : N t) (hs : Gen X s) : N (t.cj s) := hs _ Grp.nrm (fun x hx t ht => h.2.2.1 t x ht hx) t ht
/-- the same by other turns: those of A may be among them -/
theorem IsNC.same {A B X Y N M : Pm → Prop} (h : IsNC A X N) (h2 : IsNC B Y M) (hAB : ∀ a, A a → M a) (hBA : ∀ b, B b → N b) (hX : ∀ x, X x → Gen (fun a => M a ∨ Y a) x) (hY : ∀ y, Y y → Gen (fun a => N a ∨ X a) y) (a : Pm) : N a ↔ M a := by
  have key : ∀ {A X N : Pm → Prop}, IsNC A X N → ∀ {s t : Pm}, N t → Gen (fun a => N a ∨ X a) s → N (t.cj s) := by
    intro A X N h s t ht hs
    exact hs _ Grp.nrm (fun x hx t ht => by
      rcases hx with hx | hx
      · exact h.1.cj_in ht hx
      · exact h.2.2.1 t x ht hx) t ht
  exact ⟨h.2.2.2 M h2.1 hAB (fun t x ht hx => key h2 ht (hX x hx)) a, h2.2.2.2 N h.1 hBA (fun t y ht hy => key h ht (hY y hy)) a⟩
/-- a commutator -/
def Pm.cm (s t : Pm) : Pm := (s.bk.th t.bk).th (s.th t)
theorem Pm.ap_cm (s t : Pm) (i : Nat) : (s.cm t).ap i = t.ap (s.ap (t.pa (s.pa i))) := rfl
theorem Pm.pa_cm (s t : Pm) (i : Nat) : (s.cm t).pa i = s.ap (t.ap (s.pa (t.pa i))) := rfl
theorem Pm.cm_self (s : Pm) : s.cm s = .one := Pm.ext fun i => by simp only [ap_cm, ap_one, ap_pa]
theorem Pm.cm_swap (s t : Pm) : t.cm s = (s.cm t).bk := Pm.ext fun i => by simp only [ap_cm, ap_bk, pa_cm]
theorem Pm.cm_th_r (x h k : Pm) : x.cm (h.th k) = (x.cm k).th ((x.cm h).cj k) := Pm.ext fun i => by simp only [ap_cm, ap_th, pa_th, ap_cj, pa_ap, ap_pa]
theorem Pm.cm_th_l (g k h : Pm) : (g.th k).cm h = ((g.cm h).cj k).th (k.cm h) := Pm.ext fun i => by simp only [ap_cm, ap_th, pa_th, ap_cj, pa_ap, ap_pa]
theorem Pm.cm_one_r (x : Pm) : x.cm .one = .one := Pm.ext fun i => by simp only [ap_cm, ap_one, pa_one, ap_pa]
theorem Pm.cm_one_l (x : Pm) : Pm.one.cm x = .one := Pm.ext fun i => by simp only [ap_cm, ap_one, pa_one, ap_pa]
theorem Pm.cm_cj (s t p : Pm) : (s.cm t).cj p = (s.cj p).cm (t.cj p) := Pm.ext fun i => by simp only [ap_cm, ap_cj, pa_cj, pa_ap]
theorem Grp.cm_in {G : Pm → Prop} (hG : Grp G) {s t : Pm} (hs : G s) (ht : G t) : G (s.cm t) := hG.2.1 _ _ (hG.2.1 _ _ (hG.2.2 s hs) (hG.2.2 t ht)) (hG.2.1 _ _ hs ht)
/-- down: the group of the commutators -/
def Dn (G : Pm → Prop) : Pm → Prop := Gen (fun c => ∃ s t, G s ∧ G t ∧ c = s.cm t)
theorem Dn.sub {G : Pm → Prop} (hG : Grp G) {a : Pm} (h : Dn G a) : G a := h G hG (fun c ⟨s, t, hs, ht, e⟩ => e ▸ hG.cm_in hs ht)
theorem Dn.congr {G H : Pm → Prop} (h : ∀ a, G a ↔ H a) (a : Pm) : Dn G a ↔ Dn H a := by
  have e : G = H := funext fun a => propext (h a)
  rw [e]
/-- of makers: the least group with the commutators of makers that the makers carry to itself -/
theorem Dn.of {X C N : Pm → Prop} (hC : ∀ c, C c → ∃ s t, Gen X s ∧ Gen X t ∧ c = s.cm t) (hX : ∀ x y, X x → X y → N (x.cm y)) (h : IsNC C X N) (a : Pm) : N a ↔ Dn (Gen X) a := by
  have hG := Gen.grp X
  constructor
  · refine h.2.2.2 _ (Gen.grp _) (fun c hc => Gen.of (hC c hc)) (fun t x ht hx => ?_) a
    exact Gen.cj (Gen.grp _) (fun c ⟨u, v, hu, hv, e⟩ => Gen.of ⟨u.cj x, v.cj x, hG.cj_in hu (Gen.of hx), hG.cj_in hv (Gen.of hx), by rw [e, Pm.cm_cj]⟩) ht
  · intro ha
    refine ha N h.1 (fun c ⟨s, t, hs, ht, e⟩ => ?_)
    rw [e]
    have h1 : ∀ x, X x → ∀ t, Gen X t → N (x.cm t) := by
      intro x hx t ht
      have hM : Grp (fun t => Gen X t ∧ N (x.cm t)) := Grp.of_mul ⟨hG.1, by rw [Pm.cm_one_r]; exact h.1.1⟩ (fun u v hu hv => ⟨hG.2.1 u v hu.1 hv.1, by rw [Pm.cm_th_r]; exact h.1.2.1 _ _ hv.2 (h.gen hu.2 hv.1)⟩)
      exact (ht _ hM (fun y hy => ⟨Gen.of hy, hX x y hx hy⟩)).2
    have h2 : ∀ s, Gen X s → Gen X s ∧ N (s.cm t) := by
      intro s hs
      have hM : Grp (fun s => Gen X s ∧ N (s.cm t)) := Grp.of_mul ⟨hG.1, by rw [Pm.cm_one_l]; exact h.1.1⟩ (fun u v hu hv => ⟨hG.2.1 u v hu.1 hv.1, by rw [Pm.cm_th_l]; exact h.1.2.1 _ _ (h.gen hu.2 hv.1) hv.2⟩)
      exact hs _ hM (fun y hy => ⟨Gen.of hy, h1 y hy t ht⟩)
    exact (h2 s hs).2
/-- the same group that is made of makers, and one more -/
theorem Gen.more {X : Pm → Prop} {G : Pm → Prop} (hG : ∀ a, G a ↔ Gen X a) (t a : Pm) : Gen (fun x => G x ∨ x = t) a ↔ Gen (fun x => X x ∨ x = t) a := by
  refine Gen.congr (fun x hx => ?_) (fun x hx => ?_) a
  · rcases hx with h | h
    · exact Gen.sub (fun y hy => Or.inl hy) ((hG x).mp h)
    · exact Gen.of (Or.inr h)
  · rcases hx with h | h
    · exact Gen.of (Or.inl ((hG x).mpr (Gen.of h)))
    · exact Gen.of (Or.inr h)
