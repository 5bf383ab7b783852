/-! ===== TurnGroups.<init>: the object, its arrays, its twelve towers ===== -/
theorem arrV_eqv {cA : ClassId} {n : Nat} {f g : Nat → Value} (h : ∀ j : Nat, j < n → f j = g j) : arrV cA n f = arrV cA n g := by
  have hs : (arrV cA n f).slots = (arrV cA n g).slots := by
    apply Array.ext_getElem?
    intro i
    by_cases hi : i < n
    · rw [arrV_read _ _ hi, arrV_read _ _ hi, h i hi]
    · rw [Array.getElem?_eq_none (by rw [arrV_size]; omega), Array.getElem?_eq_none (by rw [arrV_size]; omega)]
  have e : ∀ k : Nat → Value, arrV cA n k = ({ cls := cA, slots := (arrV cA n k).slots, vm := .none } : Cell) := fun _ => rfl
  rw [e f, e g, hs]
abbrev tw0 : TW := ((fun _ => 0), (fun _ => 0), (fun _ => 0), (fun _ => 0), 0, (fun _ => 0), 0)
abbrev wH (ta : Nat → Nat → Nat) (cI cT : ClassId) (ga : Nat → Nat) (r1 r2 : Nat → Option Nat) (k : Nat) : va_W :=
  (ga 0, .inr (5, [.ref (ga 1), .ref (ga 2), .ref (ga 3), .int 0, .int 0, .int 0])) :: (ga 1, .inl (cI, 8, .inl (fun _ => 0))) :: (ga 2, .inl (cT, 10, .inr (.inr (.inr (.inr r1))))) :: (ga 3, .inl (cT, 2, .inr (.inr (.inr (.inr r2))))) :: wTL cI ta (fun _ => tw0) k
/-- the row of the towers from b on, k of them there -/
def rwT (ta : Nat → Nat → Nat) (b k : Nat) : Nat → Option Nat := fun i => if i < k then some (ta (b + i) 0) else none
theorem rwT_0 {ta : Nat → Nat → Nat} {b : Nat} : rwT ta b 0 = fun _ => none := by
  funext i
  exact if_neg (by omega)
/-- one tower more -/
def taU (ta : Nat → Nat → Nat) (k : Nat) (ad : Nat → Nat) : Nat → Nat → Nat := fun j => if j = k then ad else ta j
theorem taU_same {ta : Nat → Nat → Nat} {k : Nat} {ad : Nat → Nat} : taU ta k ad k = ad := by simp [taU]
theorem taU_ne {ta : Nat → Nat → Nat} {k j : Nat} {ad : Nat → Nat} (h : j ≠ k) : taU ta k ad j = ta j := by simp [taU, h]
theorem wTL_U {cI : ClassId} {ta : Nat → Nat → Nat} {tw : Nat → TW} {k : Nat} {ad : Nat → Nat} : ∀ n, n ≤ k → wTL cI (taU ta k ad) tw n = wTL cI ta tw n
  | 0, _ => rfl
  | n + 1, h => by
    show wTL cI (taU ta k ad) tw n ++ wTt cI (taU ta k ad n) (tw n) = wTL cI ta tw n ++ wTt cI (ta n) (tw n)
    rw [wTL_U n (by omega), taU_ne (by omega)]
theorem rwT_U {ta : Nat → Nat → Nat} {b j k : Nat} {ad : Nat → Nat} (h : b + j ≤ k) : rwT (taU ta k ad) b j = rwT ta b j := by
  funext i
  unfold rwT
  by_cases c : i < j
  · rw [if_pos c, if_pos c, taU_ne (by omega)]
  · rw [if_neg c, if_neg c]
theorem rwT_up {ta : Nat → Nat → Nat} {b j : Nat} {ad : Nat → Nat} : va_up (rwT ta b j) j (some (ad 0)) = rwT (taU ta (b + j) ad) b (j + 1) := by
  funext i
  unfold va_up rwT
  by_cases c : i = j
  · subst c
    rw [if_pos rfl, if_pos (by omega), taU_same]
  · rw [if_neg c]
    by_cases d : i < j
    · rw [if_pos d, if_pos (by omega), taU_ne (by omega)]
    · rw [if_neg d, if_neg (by omega)]
theorem wH_snoc {ta : Nat → Nat → Nat} {cI cT : ClassId} {ga : Nat → Nat} {r1 r2 : Nat → Option Nat} {k : Nat} {ad : Nat → Nat} : wH ta cI cT ga r1 r2 k ++ wTt cI ad tw0 = wH (taU ta k ad) cI cT ga r1 r2 (k + 1) := by
  show _ :: _ :: _ :: _ :: (wTL cI ta (fun _ => tw0) k ++ wTt cI ad tw0) = _ :: _ :: _ :: _ :: (wTL cI (taU ta k ad) (fun _ => tw0) k ++ wTt cI (taU ta k ad k) tw0)
  rw [wTL_U k (Nat.le_refl _), taU_same]
theorem wH_G {D : va_G} {ta : Nat → Nat → Nat} {cI cT : ClassId} {ga : Nat → Nat} {H : Heap} (h : va_P D vwCl (wH ta cI cT ga (rwT ta 0 10) (rwT ta 10 2) 12) H) : va_P D vwCl (wG ta cI cT ga (fun _ => 0) 0 0 0 (fun _ => tw0)) H := by
  rw [va_P_mem] at h ⊢
  intro q hq
  rcases List.mem_cons.mp hq with e | hq
  · subst e; exact h _ List.mem_cons_self
  rcases List.mem_cons.mp hq with e | hq
  · subst e; exact h _ (List.mem_cons_of_mem _ List.mem_cons_self)
  rcases List.mem_cons.mp hq with e | hq
  · subst e
    have h1 := h _ (List.mem_cons_of_mem _ (List.mem_cons_of_mem _ List.mem_cons_self))
    have e1 : (H[ga 2]? : Option Cell) = some (vp_cell cT (10, .inr (.inr (.inr (.inr (rwT ta 0 10)))))) := h1
    show (H[ga 2]? : Option Cell) = some (vp_cell cT (10, .inr (.inr (.inr (.inr (fun i => some (ta i 0)))))))
    rw [e1, vp_cell_q, vp_cell_q]
    refine congrArg some (arrV_eqv (fun j hj => ?_))
    unfold rwT
    rw [if_pos hj, Nat.zero_add]
  rcases List.mem_cons.mp hq with e | hq
  · subst e
    have h1 := h _ (List.mem_cons_of_mem _ (List.mem_cons_of_mem _ (List.mem_cons_of_mem _ List.mem_cons_self)))
    have e1 : (H[ga 3]? : Option Cell) = some (vp_cell cT (2, .inr (.inr (.inr (.inr (rwT ta 10 2)))))) := h1
    show (H[ga 3]? : Option Cell) = some (vp_cell cT (2, .inr (.inr (.inr (.inr (fun i => some (ta (10 + i) 0)))))))
    rw [e1, vp_cell_q, vp_cell_q]
    refine congrArg some (arrV_eqv (fun j hj => ?_))
    unfold rwT
    rw [if_pos hj]
  exact h _ (List.mem_cons_of_mem _ (List.mem_cons_of_mem _ (List.mem_cons_of_mem _ (List.mem_cons_of_mem _ hq))))
theorem tg_preSN {s : State} {H : Heap} {D : va_G} {tys : List (ClassId × FieldType)} {ws : va_W} {As : List Value} {B : Nat → Prop} (hP : va_P D vwCl ws H) (hD : va_D B ws) (hK : va_K D vwCl tys s) (hN : NW s) : PreS s H (tg_PN D tys As ws H.size) As :=
  ⟨tg_PN_blind, fun U hU hW => ⟨rfl, by rw [hU], by rw [hU]; exact hP, va_K.moved hW.alike hK, hN.warm hW, hD.weaken (fun _ _ _ _ => trivial)⟩⟩
/-- behind the making of a tower: the world, and the tower behind it -/
theorem wH_join {A0 : Nat → Prop} {D : va_G} {ws w1 : va_W} {q : Nat} {e0 : va_E} {H H1 : Heap} (hP : va_P D vwCl (ws ++ [(q, e0)]) H) (hD : va_D A0 (ws ++ [(q, e0)])) (hk : ∀ a : Nat, a < H.size → ¬ va_A [(q, e0)] H.size a → H1[a]? = H[a]?) (hF : ∀ a, va_A [(q, e0)] H.size a → A0 a) (hP1 : va_P D vwCl w1 H1) (hD1 : va_D (va_A [(q, e0)] H.size) w1) : va_P D vwCl (ws ++ w1) H1 ∧ va_D A0 (ws ++ w1) := by
  have hw : va_P D vwCl ws H := tg_appL hP
  have ha : ∀ (k : Nat) (x : Nat × va_E), ws[k]? = some x → x.1 < H.size ∧ ¬ va_A [(q, e0)] H.size x.1 := by
    intro k x hx
    have h1 := (hw k x hx).lt
    refine ⟨h1, fun z => ?_⟩
    rcases z with z | z
    · exact tg_appX hD x.1 ⟨k, x.2, hx⟩ z
    · omega
  have hDw : va_D A0 ws := ⟨fun i j x y hi hj hxy => by
      have hi' := (List.getElem?_eq_some_iff.mp hi).1
      have hj' := (List.getElem?_eq_some_iff.mp hj).1
      exact hD.1 i j x y (by rw [List.getElem?_append_left hi']; exact hi) (by rw [List.getElem?_append_left hj']; exact hj) hxy, fun k x hx => by
      have hx' := (List.getElem?_eq_some_iff.mp hx).1
      exact hD.2 k x (by rw [List.getElem?_append_left hx']; exact hx)⟩
  refine ⟨(hw.kept (fun k x hx => hk x.1 (ha k x hx).1 (ha k x hx).2)).app hP1, hDw.app (hD1.weaken (fun k x hx h => hF _ h)) (fun i j x y hx hy hxy => ?_)⟩
  exact (ha i x hx).2 (hxy ▸ hD1.2 j y hy)
theorem wH_at {ws : va_W} {cI : ClassId} {ad : Nat → Nat} {t : TW} : (ws ++ wTt cI ad t)[ws.length]? = some (ad 0, .inr (4, [.ref (ad 1), .ref (ad 2), .ref (ad 3), .ref (ad 4), .int t.2.2.2.2.1, .ref (ad 5), .int t.2.2.2.2.2.2])) := by
  rw [List.getElem?_append_right (Nat.le_refl _), Nat.sub_self]
  rfl
theorem kX6_init_1 : Cond.methodLink RX6 1 objectInit ∈ wsX6_init := by decide +kernel
theorem kX6_init_2 : Cond.instanceMethod objectInit ∈ wsX6_init := by decide +kernel
theorem kX6_init_3 : Cond.arrayClass .int ∈ wsX6_init := by decide +kernel
theorem kX6_init_4 : Cond.fieldLink RX6 9 "TurnGroups" "shelf" "[I" ∈ wsX6_init := by decide +kernel
theorem kX6_init_5 : Cond.fieldLink RX6 15 "TurnGroups" "groups" "[LTurnGroups$Tower;" ∈ wsX6_init := by decide +kernel
theorem kX6_init_6 : Cond.fieldLink RX6 19 "TurnGroups" "spare" "[LTurnGroups$Tower;" ∈ wsX6_init := by decide +kernel
theorem kX6_init_7 : Cond.classLink RX6 13 RX4 ∈ wsX6_init := by decide +kernel
theorem kX6_init_8 : Cond.instantiable RX4 7 ∈ wsX6_init := by decide +kernel
theorem kX6_init_9 : Cond.initialized RX4 ∈ wsX6_init := by decide +kernel
theorem kX6_init_10 : Cond.instanceMethod yX4_init ∈ wsX6_init := by decide +kernel
theorem uX6_init_RX6 : ∀ w ∈ u_ws RX6 TX6 6, w ∈ wsX6_init := by decide +kernel
theorem uX6_init_RX4 : ∀ w ∈ u_ws RX4 TX4 7, w ∈ wsX6_init := by decide +kernel
theorem ten_1 : ∀ k : Fin 10, ¬ (10 : Int32) ≤ Int32.ofNat k.val ∧ (Int32.ofNat k.val).toNatClampNeg = k.val ∧ Int32.ofNat k.val + Int32.ofInt 1 = Int32.ofNat (k.val + 1) ∧ inb (Int32.ofNat k.val) 10 = true := by decide +kernel
theorem two_1 : ∀ k : Fin 2, ¬ (2 : Int32) ≤ Int32.ofNat k.val ∧ (Int32.ofNat k.val).toNatClampNeg = k.val ∧ Int32.ofNat k.val + Int32.ofInt 1 = Int32.ofNat (k.val + 1) ∧ inb (Int32.ofNat k.val) 2 = true := by decide +kernel
abbrev e4 : va_E := .inr (4, [.null, .null, .null, .null, .int 0, .null, .int 0])
set_option maxRecDepth 100000 in
set_option maxHeartbeats 4000000 in
theorem wX6_init_L31 {p : Program} {l : Launch} {e : Env} {s : State} {m : MethodId} {zargs : Array Value} {zbelow : List Frame} {zmeth : Method} {c : Code} {D : va_G} {zQ : State → Prop} {zA : Nat → Prop} {ga : Nat → Nat} {cI cT : ClassId} (C0 : tg_C p s m zmeth c zargs cX6_init RX6 wsX6_init 2 D [(cI, .int), (cT, .object "TurnGroups$Tower")]) (hA : ∀ q : Nat, s.heap.size ≤ q → zA q) : ∀ (f k : Nat), k + f = 10 → ∀ (ta : Nat → Nat → Nat) (zH : Heap) (zlocs : List Loc), va_P D vwCl (wH ta cI cT ga (rwT ta 0 k) (fun _ => none) (0 + k)) zH → va_D zA (wH ta cI cT ga (rwT ta 0 k) (fun _ => none) (0 + k)) → va_S zA s.heap zH zlocs → ∀ (zls : Array Slot), lv_has zls 2 [(0, .ref (ga 0)), (1, .int (Int32.ofNat k))] → (∀ (ta : Nat → Nat → Nat) (zH : Heap) (zlocs : List Loc), va_P D vwCl (wH ta cI cT ga (rwT ta 0 10) (fun _ => none) (0 + 10)) zH → va_D zA (wH ta cI cT ga (rwT ta 0 10) (fun _ => none) (0 + 10)) → va_S zA s.heap zH zlocs → ∀ (zls : Array Slot), lv_has zls 2 [(0, .ref (ga 0))] → W p l e ({ frames := 2, cells := 75, slots := 2264, locals := 44 } : Room) s m zargs zbelow zmeth c zH zlocs (3 + 6 * (0 + 10)) (20 + 187 * (0 + 10)) zQ (F0 m 56 zls [])) → W p l e ({ frames := 2, cells := 75, slots := 2264, locals := 44 } : Room) s m zargs zbelow zmeth c zH zlocs (3 + 6 * (0 + k)) (20 + 187 * (0 + k)) zQ (F0 m 31 zls []) := by
  obtain ⟨hx, hb, hml, hown, hts, hK, hN⟩ := C0
  intro f
  induction f with
  | zero =>
    intro k hk ta zH zlocs hP hD hS zls hl kk
    obtain rfl : k = 10 := by omega
    refine lv_iload_n hx hb dX6_init_31 rfl (lv_at hl 1 rfl) ?_
    refine lv_bipush (v := 10) hx hb dX6_init_32 (by decide) ?_
    refine lv_icmp_ge (tgt := 56) hx hb dX6_init_34 (by decide) (fun cb => ?_) (fun cb => ?_)
    · exact kk ta _ _ hP hD hS _ (lv_sub hl [0] rfl)
    · exact absurd (show (10 : Int32) ≤ Int32.ofNat 10 by decide) cb
  | succ f ih =>
    intro k hk ta zH zlocs hP hD hS zls hl kk
    have hk1 : k < 10 := by omega
    obtain ⟨n1, n2, n3, n4⟩ := ten_1 ⟨k, hk1⟩
    simp only at n1 n2 n3 n4
    refine lv_iload_n hx hb dX6_init_31 rfl (lv_at hl 1 rfl) ?_
    refine lv_bipush (v := 10) hx hb dX6_init_32 (by decide) ?_
    refine lv_icmp_ge (tgt := 56) hx hb dX6_init_34 (by decide) (fun cb => absurd cb n1) (fun _ => ?_)
    refine lv_aload_n hx hb dX6_init_37 rfl (lv_at hl 0 rfl) ?_
    refine va_get (D := D) (ci := 5) (v := .ref (ga 2)) (C := RX6) (T := TX6) (N := 6) hx hb hts uX6_init_RX6 hown hK hP 0 rfl rfl 1 (by decide) (hts _ kX6_init_5) (fun _ h9 => h9) rfl dX6_init_38 ?_
    refine lv_iload_n hx hb dX6_init_41 rfl (lv_at hl 1 rfl) ?_
    refine va_new (ci := 4) (fs := [.null, .null, .null, .null, .int 0, .null, .int 0]) (C := RX4) (T := TX4) (N := 7) hx hb hts uX6_init_RX4 tyX4 tyX4_ok hown (hts _ kX6_init_7) (hts _ kX6_init_8) (hts _ kX6_init_9) hK hP hD hS hA rfl (fun j hj => by rcases (show j = 0 ∨ j = 1 ∨ j = 2 ∨ j = 3 ∨ j = 4 ∨ j = 5 ∨ j = 6 by omega) with rfl | rfl | rfl | rfl | rfl | rfl | rfl <;> rfl) (show 3 + 6 * (0 + k) + 1 ≤ 75 by omega) (show 20 + 187 * (0 + k) + 7 ≤ 2264 by omega) dX6_init_42 (fun zq zH hP hD hS => ?_)
    refine lv_dup hx hb dX6_init_45 rfl ?_
    have hFr : ∀ a, va_A [(zq, e4)] zH.size a → zA a := fun a h9 => by
      rcases h9 with h9 | h9
      · have := tg_one h9
        subst this
        exact hD.2 _ (a, e4) (by rw [List.getElem?_append_right (Nat.le_refl _), Nat.sub_self]; rfl)
      · exact hA a (Nat.le_trans hS.1 h9)
    refine va_callv (va_runIN (As := []) (rest := [.ref zq, .int (Int32.ofNat k), .ref (ga 2)]) ⟨hx, hb, hml, hown, hts⟩ (qX4_init l D cI zq zH.size) ⟨va_cnB 0 hts gX6_init_X4_init_n22 rfl rfl rfl (hN _ nw_X6_22) (hts _ kX6_init_9) zSX4_init ⟨Nat.le_of_ble_eq_true rfl, Nat.le_of_ble_eq_true rfl⟩, rfl, hts _ kX6_init_10⟩ (tg_preSN (tg_appR hP) (tg_newD hD) (hK.sub (tys' := [(cI, .int)]) [0] rfl) hN) rfl rfl hl.1 rfl (lv_room (Nat.le_of_ble_eq_true rfl)) dX6_init_46 ⟨(show 3 + 6 * (0 + k) + 1 + 5 ≤ 75 by omega), (show 20 + 187 * (0 + k) + 7 + 180 ≤ 2264 by omega)⟩) hS (fun a _ h9 => hFr a h9) hFr (fun ad zt zH1 zlocs hzt _ had hB _ hf9 hS => ?_)
    have had0 : ad 0 = zq := had
    subst had0
    obtain ⟨hB1, hB2⟩ := hB
    rw [hzt] at hB1
    obtain ⟨hP, hD⟩ := wH_join hP hD hf9 hFr hB1 hB2
    refine va_astq (ci := 4) (r := (RX4, TX4, 7)) hx hb hK hP hD hS 2 1 _ rfl rfl (wH_at (t := tw0)) rfl (inb_in n4) dX6_init_49 (fun zH zlocs hP hD hS => ?_)
    rw [n2] at hP hD
    have hP : va_P D vwCl (wH ta cI cT ga (va_up (rwT ta 0 k) k (some (ad 0))) (fun _ => none) (0 + k) ++ wTt cI ad tw0) zH := hP
    have hD : va_D zA (wH ta cI cT ga (va_up (rwT ta 0 k) k (some (ad 0))) (fun _ => none) (0 + k) ++ wTt cI ad tw0) := hD
    rw [wH_snoc] at hP hD
    rw [rwT_up, show 0 + k = k from Nat.zero_add k] at hP hD
    refine lv_iinc (v := Int32.ofNat (k + 1)) (lv' := [(1, .int (Int32.ofNat (k + 1))), (0, .ref (ga 0))]) hx hb dX6_init_50 hl (k := 1) rfl n3 (by decide) rfl (fun zls hl => ?_)
    refine lv_goto (tgt := 31) hx hb dX6_init_53 (by decide) ?_
    refine W.widen (k := 3 + 6 * (0 + (k + 1))) (n := 20 + 187 * (0 + (k + 1))) (by omega) (by omega) ?_
    exact ih (k + 1) (by omega) (taU ta k ad) _ _ (by rw [Nat.zero_add]; exact hP) (by rw [Nat.zero_add]; exact hD) hS _ (lv_sub hl [1, 0] rfl) kk
set_option maxRecDepth 100000 in
set_option maxHeartbeats 4000000 in
theorem wX6_init_L58 {p : Program} {l : Launch} {e : Env} {s : State} {m : MethodId} {zargs : Array Value} {zbelow : List Frame} {zmeth : Method} {c : Code} {D : va_G} {zQ : State → Prop} {zA : Nat → Prop} {ga : Nat → Nat} {cI cT : ClassId} (C0 : tg_C p s m zmeth c zargs cX6_init RX6 wsX6_init 2 D [(cI, .int), (cT, .object "TurnGroups$Tower")]) (hA : ∀ q : Nat, s.heap.size ≤ q → zA q) : ∀ (f k : Nat), k + f = 2 → ∀ (ta : Nat → Nat → Nat) (zH : Heap) (zlocs : List Loc), va_P D vwCl (wH ta cI cT ga (rwT ta 0 10) (rwT ta 10 k) (10 + k)) zH → va_D zA (wH ta cI cT ga (rwT ta 0 10) (rwT ta 10 k) (10 + k)) → va_S zA s.heap zH zlocs → ∀ (zls : Array Slot), lv_has zls 2 [(0, .ref (ga 0)), (1, .int (Int32.ofNat k))] → (∀ (ta : Nat → Nat → Nat) (zH : Heap) (zlocs : List Loc), va_P D vwCl (wH ta cI cT ga (rwT ta 0 10) (rwT ta 10 2) (10 + 2)) zH → va_D zA (wH ta cI cT ga (rwT ta 0 10) (rwT ta 10 2) (10 + 2)) → va_S zA s.heap zH zlocs → ∀ (zls : Array Slot), lv_has zls 2 [(0, .ref (ga 0))] → W p l e ({ frames := 2, cells := 75, slots := 2264, locals := 44 } : Room) s m zargs zbelow zmeth c zH zlocs (3 + 6 * (10 + 2)) (20 + 187 * (10 + 2)) zQ (F0 m 86 zls [])) → W p l e ({ frames := 2, cells := 75, slots := 2264, locals := 44 } : Room) s m zargs zbelow zmeth c zH zlocs (3 + 6 * (10 + k)) (20 + 187 * (10 + k)) zQ (F0 m 58 zls []) := by
  obtain ⟨hx, hb, hml, hown, hts, hK, hN⟩ := C0
  intro f
  induction f with
  | zero =>
    intro k hk ta zH zlocs hP hD hS zls hl kk
    obtain rfl : k = 2 := by omega
    refine lv_iload_n hx hb dX6_init_58 rfl (lv_at hl 1 rfl) ?_
    refine lv_aload_n hx hb dX6_init_59 rfl (lv_at hl 0 rfl) ?_
    refine va_get (D := D) (ci := 5) (v := .ref (ga 3)) (C := RX6) (T := TX6) (N := 6) hx hb hts uX6_init_RX6 hown hK hP 0 rfl rfl 2 (by decide) (hts _ kX6_init_6) (fun _ h9 => h9) rfl dX6_init_60 ?_
    refine va_alen (v := 2) hx hb hK hP 3 1 rfl rfl rfl dX6_init_63 ?_
    refine lv_icmp_ge (tgt := 86) hx hb dX6_init_64 (by decide) (fun cb => ?_) (fun cb => ?_)
    · exact kk ta _ _ hP hD hS _ (lv_sub hl [0] rfl)
    · exact absurd (show (2 : Int32) ≤ Int32.ofNat 2 by decide) cb
  | succ f ih =>
    intro k hk ta zH zlocs hP hD hS zls hl kk
    have hk1 : k < 2 := by omega
    obtain ⟨n1, n2, n3, n4⟩ := two_1 ⟨k, hk1⟩
    simp only at n1 n2 n3 n4
    refine lv_iload_n hx hb dX6_init_58 rfl (lv_at hl 1 rfl) ?_
    refine lv_aload_n hx hb dX6_init_59 rfl (lv_at hl 0 rfl) ?_
    refine va_get (D := D) (ci := 5) (v := .ref (ga 3)) (C := RX6) (T := TX6) (N := 6) hx hb hts uX6_init_RX6 hown hK hP 0 rfl rfl 2 (by decide) (hts _ kX6_init_6) (fun _ h9 => h9) rfl dX6_init_60 ?_
    refine va_alen (v := 2) hx hb hK hP 3 1 rfl rfl rfl dX6_init_63 ?_
    refine lv_icmp_ge (tgt := 86) hx hb dX6_init_64 (by decide) (fun cb => absurd cb n1) (fun _ => ?_)
    refine lv_aload_n hx hb dX6_init_67 rfl (lv_at hl 0 rfl) ?_
    refine va_get (D := D) (ci := 5) (v := .ref (ga 3)) (C := RX6) (T := TX6) (N := 6) hx hb hts uX6_init_RX6 hown hK hP 0 rfl rfl 2 (by decide) (hts _ kX6_init_6) (fun _ h9 => h9) rfl dX6_init_68 ?_
    refine lv_iload_n hx hb dX6_init_71 rfl (lv_at hl 1 rfl) ?_
    refine va_new (ci := 4) (fs := [.null, .null, .null, .null, .int 0, .null, .int 0]) (C := RX4) (T := TX4) (N := 7) hx hb hts uX6_init_RX4 tyX4 tyX4_ok hown (hts _ kX6_init_7) (hts _ kX6_init_8) (hts _ kX6_init_9) hK hP hD hS hA rfl (fun j hj => by rcases (show j = 0 ∨ j = 1 ∨ j = 2 ∨ j = 3 ∨ j = 4 ∨ j = 5 ∨ j = 6 by omega) with rfl | rfl | rfl | rfl | rfl | rfl | rfl <;> rfl) (show 3 + 6 * (10 + k) + 1 ≤ 75 by omega) (show 20 + 187 * (10 + k) + 7 ≤ 2264 by omega) dX6_init_72 (fun zq zH hP hD hS => ?_)
    refine lv_dup hx hb dX6_init_75 rfl ?_
    have hFr : ∀ a, va_A [(zq, e4)] zH.size a → zA a := fun a h9 => by
      rcases h9 with h9 | h9
      · have := tg_one h9
        subst this
        exact hD.2 _ (a, e4) (by rw [List.getElem?_append_right (Nat.le_refl _), Nat.sub_self]; rfl)
      · exact hA a (Nat.le_trans hS.1 h9)
    refine va_callv (va_runIN (As := []) (rest := [.ref zq, .int (Int32.ofNat k), .ref (ga 3)]) ⟨hx, hb, hml, hown, hts⟩ (qX4_init l D cI zq zH.size) ⟨va_cnB 0 hts gX6_init_X4_init_n22 rfl rfl rfl (hN _ nw_X6_22) (hts _ kX6_init_9) zSX4_init ⟨Nat.le_of_ble_eq_true rfl, Nat.le_of_ble_eq_true rfl⟩, rfl, hts _ kX6_init_10⟩ (tg_preSN (tg_appR hP) (tg_newD hD) (hK.sub (tys' := [(cI, .int)]) [0] rfl) hN) rfl rfl hl.1 rfl (lv_room (Nat.le_of_ble_eq_true rfl)) dX6_init_76 ⟨(show 3 + 6 * (10 + k) + 1 + 5 ≤ 75 by omega), (show 20 + 187 * (10 + k) + 7 + 180 ≤ 2264 by omega)⟩) hS (fun a _ h9 => hFr a h9) hFr (fun ad zt zH1 zlocs hzt _ had hB _ hf9 hS => ?_)
    have had0 : ad 0 = zq := had
    subst had0
    obtain ⟨hB1, hB2⟩ := hB
    rw [hzt] at hB1
    obtain ⟨hP, hD⟩ := wH_join hP hD hf9 hFr hB1 hB2
    refine va_astq (ci := 4) (r := (RX4, TX4, 7)) hx hb hK hP hD hS 3 1 _ rfl rfl (wH_at (t := tw0)) rfl (inb_in n4) dX6_init_79 (fun zH zlocs hP hD hS => ?_)
    rw [n2] at hP hD
    have hP : va_P D vwCl (wH ta cI cT ga (rwT ta 0 10) (va_up (rwT ta 10 k) k (some (ad 0))) (10 + k) ++ wTt cI ad tw0) zH := hP
    have hD : va_D zA (wH ta cI cT ga (rwT ta 0 10) (va_up (rwT ta 10 k) k (some (ad 0))) (10 + k) ++ wTt cI ad tw0) := hD
    rw [wH_snoc] at hP hD
    rw [rwT_up, ← rwT_U (ta := ta) (b := 0) (j := 10) (k := 10 + k) (ad := ad) (by omega)] at hP hD
    refine lv_iinc (v := Int32.ofNat (k + 1)) (lv' := [(1, .int (Int32.ofNat (k + 1))), (0, .ref (ga 0))]) hx hb dX6_init_80 hl (k := 1) rfl n3 (by decide) rfl (fun zls hl => ?_)
    refine lv_goto (tgt := 58) hx hb dX6_init_83 (by decide) ?_
    refine W.widen (k := 3 + 6 * (10 + (k + 1))) (n := 20 + 187 * (10 + (k + 1))) (by omega) (by omega) ?_
    exact ih (k + 1) (by omega) (taU ta (10 + k) ad) _ _ hP hD hS _ (lv_sub hl [1, 0] rfl) kk
def tg_PA (D : va_G) (tys : List (ClassId × FieldType)) (av : List Value) (ws : va_W) (sz : Nat) : Array Value → State → Prop := va_Pc av (fun U => U.heap.size = sz ∧ va_P D vwCl ws U.heap ∧ va_K D vwCl tys U ∧ NW U ∧ va_D (fun _ => True) ws ∧ va_AO "TurnGroups$Tower" U)
theorem tg_PA_blind {D : va_G} {tys : List (ClassId × FieldType)} {av : List Value} {ws : va_W} {sz : Nat} : FrameBlind (tg_PA D tys av ws sz) := fun a U g mk q => by
  obtain ⟨q0, qz, qP, qK, qN, qD, qO⟩ := q
  exact ⟨q0, qz, qP, va_K.moved (u := U) (U := U.calling g mk a) (Vm.Alike.refl U.vm) qK, qN.calling, qD, va_AO.moved (u := U) (U := U.calling g mk a) (Vm.Alike.refl U.vm) qO⟩
theorem tg_preSA {s : State} {H : Heap} {D : va_G} {tys : List (ClassId × FieldType)} {ws : va_W} {As : List Value} {B : Nat → Prop} (hP : va_P D vwCl ws H) (hD : va_D B ws) (hK : va_K D vwCl tys s) (hN : NW s) (hO : va_AO "TurnGroups$Tower" s) : PreS s H (tg_PA D tys As ws H.size) As :=
  ⟨tg_PA_blind, fun U hU hW => ⟨rfl, by rw [hU], by rw [hU]; exact hP, va_K.moved hW.alike hK, hN.warm hW, hD.weaken (fun _ _ _ _ => trivial), va_AO.moved hW.alike hO⟩⟩
theorem tg_cT {D : va_G} {tys : List (ClassId × FieldType)} {s : State} {cA cB : ClassId} {C : String} (h : va_K D vwCl tys s) {i j : Nat} (hi : tys[i]? = some (cA, .object C)) (hj : tys[j]? = some (cB, .object C)) : cA = cB := by
  obtain ⟨k1, c1, -, -, -, a1⟩ := (h.2 i _ hi).2
  obtain ⟨k2, c2, -, -, -, a2⟩ := (h.2 j _ hj).2
  exact Option.some.inj (a1.symm.trans a2)
def gaF (a0 a1 a2 a3 : Nat) : Nat → Nat := fun k => match k with
  | 0 => a0
  | 1 => a1
  | 2 => a2
  | _ => a3
abbrev o5 (h0 : Nat) : va_W := [(h0, .inr (5, [.null, .null, .null, .int 0, .int 0, .int 0]))]
set_option maxRecDepth 100000 in
set_option maxHeartbeats 4000000 in
theorem qX6_init (l : Launch) (D : va_G) (cI cT : ClassId) (h0 sz : Nat) (F : Nat) (oshelf : Nat → Int32) (onp ong ocur : Int32) (hm : mX6_beginWith F (fun _ => 0) 0 0 0 4 = some (oshelf, onp, ong, ocur)) : Met l yX6_init wsX6_init ({ frames := 2, cells := 75, slots := 2264, locals := 44 } : Room) (tg_PA D [(cI, .int), (cT, .object "TurnGroups$Tower")] [.ref h0] (o5 h0) sz) (va_Qv (fun u : (Nat → Nat → Nat) × (Nat → Nat) => u.2 0 = h0) (fun u t => va_P D vwCl (wG u.1 cI cT u.2 oshelf onp ong ocur (fun _ => tw0)) t.heap ∧ va_D (va_A (o5 h0) sz) (wG u.1 cI cT u.2 oshelf onp ong ocur (fun _ => tw0))) (va_A (o5 h0) sz)) 75 2264 (va_A (o5 h0) sz) := by
  refine Met.ofW (cc := cX6_init) (maxL := 2) (ret := none) (by decide) rfl ?_
  intro p e s m zargs zbelow zmeth c s₁ B hml hv
  obtain ⟨hargs, hsz, hP, hK, hN, hD0, hO⟩ := hv
  subst hsz
  have hx := B.exec
  have hb := B.bytes
  have hr := B.returns
  have hts := atoms_spec (ws := wsX6_init) B.pre
  have hown : s.vm.findClass RX6 = some m.cls := findClass_of_methodNamed B.named
  have hlocks := B.notSynchronized
  have hin : zmeth.name = "<init>" := (name_of_methodNamed B.named B.method).1
  have hD := hD0.self (sz := s.heap.size)
  have hA : ∀ q : Nat, s.heap.size ≤ q → va_A (o5 h0) s.heap.size q := fun _ h9 => Or.inr h9
  have hS : va_S (va_A (o5 h0) s.heap.size) s.heap s.heap [] := va_S.rf
  have hl := lv_entry ([.ref h0]) (n := 2) (Nat.le_of_ble_eq_true rfl)
  refine W.eq (g2 := entryFrame m ([.ref h0] : List Value).toArray 2) (by rw [hargs]) ?_
  rw [lg_entry_eq]
  generalize (lg_sl ([.ref h0]) ++ List.replicate (2 - (lg_sl ([.ref h0])).length) Slot.unset).toArray = zls at hl ⊢
  have hl : lv_has zls 2 [(0, .ref h0)] := hl
  refine lv_aload_n hx hb dX6_init_0 rfl (lv_at hl 0 rfl) ?_
  refine W.objInit hx hb hown (hts _ kX6_init_1) (hts _ kX6_init_2) (hts _ (List.mem_cons_of_mem _ (List.mem_append_left _ (List.mem_append_left _ (List.mem_append_left _ (List.mem_of_getElem? (i := 2) rfl)))))) rfl (by rw [hml]; exact hl.1) rfl dX6_init_1 (Nat.le_of_ble_eq_true rfl) (Nat.le_of_ble_eq_true rfl) ?_
  refine W.eq (g2 := F0 m 4 zls []) rfl ?_
  refine lv_aload_n hx hb dX6_init_4 rfl (lv_at hl 0 rfl) ?_
  refine lv_bipush (v := 8) hx hb dX6_init_5 (by decide) ?_
  refine va_newa (atype := .int) (ty := .int) (a0 := (8, .inl (fun _ => 0))) (N' := 8) hx hb (hts _ kX6_init_3) rfl hK hP hD hS hA (fun _ => rfl) (by decide) (by decide +kernel) (by decide) (Nat.le_of_ble_eq_true rfl) (Nat.le_of_ble_eq_true rfl) dX6_init_7 (fun zq1 zc zH hK hP hD hS => ?_)
  obtain rfl : cI = zc := tg_cA hK (i := 0) (j := 2) rfl rfl
  have hK := hK.sub (tys' := [(cI, .int), (cT, .object "TurnGroups$Tower")]) [0, 1] rfl
  have hP : va_P D vwCl [(h0, .inr (5, [.null, .null, .null, .int 0, .int 0, .int 0])), (zq1, .inl (cI, 8, .inl (fun _ => 0)))] zH := hP
  have hD : va_D _ [(h0, .inr (5, [.null, .null, .null, .int 0, .int 0, .int 0])), (zq1, .inl (cI, 8, .inl (fun _ => 0)))] := hD
  refine W.widen (k := 1) (n := 8) (by omega) (by omega) ?_
  refine va_putF (D := D) (ci := 5) (v := .ref zq1) (ty := .array .int) (C := RX6) (T := TX6) (N := 6) hx hb hts uX6_init_RX6 tyX6 tyX6_ok nmX6 hown hK hP hD hS 0 rfl rfl 0 (by decide) (hts _ kX6_init_4) (fun _ h9 => h9) rfl hin rfl (by decide +kernel) rfl rfl (Nat.le_of_ble_eq_true rfl) dX6_init_9 (fun zH zlocs hP hD hS => ?_)
  have hP : va_P D vwCl [(h0, .inr (5, [.ref zq1, .null, .null, .int 0, .int 0, .int 0])), (zq1, .inl (cI, 8, .inl (fun _ => 0)))] zH := hP
  have hD : va_D _ [(h0, .inr (5, [.ref zq1, .null, .null, .int 0, .int 0, .int 0])), (zq1, .inl (cI, 8, .inl (fun _ => 0)))] := hD
  refine lv_aload_n hx hb dX6_init_12 rfl (lv_at hl 0 rfl) ?_
  refine lv_bipush (v := 10) hx hb dX6_init_13 (by decide) ?_
  refine va_newq (N' := 10) hx hb hown (hts _ kX6_init_7) hO hK hP hD hS hA (by decide) (by decide +kernel) (by decide) (Nat.le_of_ble_eq_true rfl) (Nat.le_of_ble_eq_true rfl) dX6_init_15 (fun zq2 zc zH hK hP hD hS => ?_)
  obtain rfl : cT = zc := tg_cT hK (i := 1) (j := 2) rfl rfl
  have hK := hK.sub (tys' := [(cI, .int), (cT, .object "TurnGroups$Tower")]) [0, 1] rfl
  have hP : va_P D vwCl [(h0, .inr (5, [.ref zq1, .null, .null, .int 0, .int 0, .int 0])), (zq1, .inl (cI, 8, .inl (fun _ => 0))), (zq2, .inl (cT, 10, .inr (.inr (.inr (.inr (fun _ => none))))))] zH := hP
  have hD : va_D _ [(h0, .inr (5, [.ref zq1, .null, .null, .int 0, .int 0, .int 0])), (zq1, .inl (cI, 8, .inl (fun _ => 0))), (zq2, .inl (cT, 10, .inr (.inr (.inr (.inr (fun _ => none))))))] := hD
  refine W.widen (k := 2) (n := 18) (by omega) (by omega) ?_
  refine va_putF (D := D) (ci := 5) (v := .ref zq2) (ty := .array (.object "TurnGroups$Tower")) (C := RX6) (T := TX6) (N := 6) hx hb hts uX6_init_RX6 tyX6 tyX6_ok nmX6 hown hK hP hD hS 0 rfl rfl 1 (by decide) (hts _ kX6_init_5) (fun _ h9 => h9) rfl hin rfl (by decide +kernel) rfl rfl (Nat.le_of_ble_eq_true rfl) dX6_init_18 (fun zH zlocs hP hD hS => ?_)
  have hP : va_P D vwCl [(h0, .inr (5, [.ref zq1, .ref zq2, .null, .int 0, .int 0, .int 0])), (zq1, .inl (cI, 8, .inl (fun _ => 0))), (zq2, .inl (cT, 10, .inr (.inr (.inr (.inr (fun _ => none))))))] zH := hP
  have hD : va_D _ [(h0, .inr (5, [.ref zq1, .ref zq2, .null, .int 0, .int 0, .int 0])), (zq1, .inl (cI, 8, .inl (fun _ => 0))), (zq2, .inl (cT, 10, .inr (.inr (.inr (.inr (fun _ => none))))))] := hD
  refine lv_aload_n hx hb dX6_init_21 rfl (lv_at hl 0 rfl) ?_
  refine lv_iconst (v := 2) hx hb dX6_init_22 (by decide) ?_
  refine va_newq (N' := 2) hx hb hown (hts _ kX6_init_7) hO hK hP hD hS hA (by decide) (by decide +kernel) (by decide) (Nat.le_of_ble_eq_true rfl) (Nat.le_of_ble_eq_true rfl) dX6_init_23 (fun zq3 zc zH hK hP hD hS => ?_)
  obtain rfl : cT = zc := tg_cT hK (i := 1) (j := 2) rfl rfl
  have hK := hK.sub (tys' := [(cI, .int), (cT, .object "TurnGroups$Tower")]) [0, 1] rfl
  have hP : va_P D vwCl [(h0, .inr (5, [.ref zq1, .ref zq2, .null, .int 0, .int 0, .int 0])), (zq1, .inl (cI, 8, .inl (fun _ => 0))), (zq2, .inl (cT, 10, .inr (.inr (.inr (.inr (fun _ => none)))))), (zq3, .inl (cT, 2, .inr (.inr (.inr (.inr (fun _ => none))))))] zH := hP
  have hD : va_D _ [(h0, .inr (5, [.ref zq1, .ref zq2, .null, .int 0, .int 0, .int 0])), (zq1, .inl (cI, 8, .inl (fun _ => 0))), (zq2, .inl (cT, 10, .inr (.inr (.inr (.inr (fun _ => none)))))), (zq3, .inl (cT, 2, .inr (.inr (.inr (.inr (fun _ => none))))))] := hD
  refine W.widen (k := 3) (n := 20) (by omega) (by omega) ?_
  refine va_putF (D := D) (ci := 5) (v := .ref zq3) (ty := .array (.object "TurnGroups$Tower")) (C := RX6) (T := TX6) (N := 6) hx hb hts uX6_init_RX6 tyX6 tyX6_ok nmX6 hown hK hP hD hS 0 rfl rfl 2 (by decide) (hts _ kX6_init_6) (fun _ h9 => h9) rfl hin rfl (by decide +kernel) rfl rfl (Nat.le_of_ble_eq_true rfl) dX6_init_26 (fun zH zlocs hP hD hS => ?_)
  have hP : va_P D vwCl [(h0, .inr (5, [.ref zq1, .ref zq2, .ref zq3, .int 0, .int 0, .int 0])), (zq1, .inl (cI, 8, .inl (fun _ => 0))), (zq2, .inl (cT, 10, .inr (.inr (.inr (.inr (fun _ => none)))))), (zq3, .inl (cT, 2, .inr (.inr (.inr (.inr (fun _ => none))))))] zH := hP
  have hD : va_D _ [(h0, .inr (5, [.ref zq1, .ref zq2, .ref zq3, .int 0, .int 0, .int 0])), (zq1, .inl (cI, 8, .inl (fun _ => 0))), (zq2, .inl (cT, 10, .inr (.inr (.inr (.inr (fun _ => none)))))), (zq3, .inl (cT, 2, .inr (.inr (.inr (.inr (fun _ => none))))))] := hD
  have hP : va_P D vwCl (wH (fun _ _ => 0) cI cT (gaF h0 zq1 zq2 zq3) (rwT (fun _ _ => 0) 0 0) (fun _ => none) (0 + 0)) zH := by rw [rwT_0]; exact hP
  have hD : va_D (va_A (o5 h0) s.heap.size) (wH (fun _ _ => 0) cI cT (gaF h0 zq1 zq2 zq3) (rwT (fun _ _ => 0) 0 0) (fun _ => none) (0 + 0)) := by rw [rwT_0]; exact hD
  refine lv_iconst (v := 0) hx hb dX6_init_29 (by decide) ?_
  refine lv_istore_n (lv' := [(1, .int 0), (0, .ref h0)]) hx hb dX6_init_30 rfl hl (by decide) rfl (fun zls hl => ?_)
  refine wX6_init_L31 (zA := va_A (o5 h0) s.heap.size) (ga := gaF h0 zq1 zq2 zq3) ⟨hx, hb, hml, hown, hts, hK, hN⟩ hA 10 0 rfl _ _ _ hP hD hS _ (lv_sub hl [1, 0] rfl) (fun ta zH zlocs hP hD hS zls hl => ?_)
  refine lv_iconst (v := 0) hx hb dX6_init_56 (by decide) ?_
  refine lv_istore_n (lv' := [(1, .int 0), (0, .ref (gaF h0 zq1 zq2 zq3 0))]) hx hb dX6_init_57 rfl hl (by decide) rfl (fun zls hl => ?_)
  have hP : va_P D vwCl (wH ta cI cT (gaF h0 zq1 zq2 zq3) (rwT ta 0 10) (rwT ta 10 0) (10 + 0)) zH := by rw [rwT_0]; exact hP
  have hD : va_D (va_A (o5 h0) s.heap.size) (wH ta cI cT (gaF h0 zq1 zq2 zq3) (rwT ta 0 10) (rwT ta 10 0) (10 + 0)) := by rw [rwT_0]; exact hD
  refine wX6_init_L58 (zA := va_A (o5 h0) s.heap.size) (ga := gaF h0 zq1 zq2 zq3) ⟨hx, hb, hml, hown, hts, hK, hN⟩ hA 2 0 rfl _ _ _ hP hD hS _ (lv_sub hl [1, 0] rfl) (fun ta zH zlocs hP hD hS zls hl => ?_)
  have hP := wH_G hP
  have hD : va_D (va_A (o5 h0) s.heap.size) (wG ta cI cT (gaF h0 zq1 zq2 zq3) (fun _ => 0) 0 0 0 (fun _ => tw0)) := tg_Da hD rfl
  have hDD : tg_DD (va_A (o5 h0) s.heap.size) (adG ta (gaF h0 zq1 zq2 zq3)) := tg_DD.of hD wG_ad
  refine lv_aload_n hx hb dX6_init_86 rfl (lv_at hl 0 rfl) ?_
  refine lv_iconst (v := 4) hx hb dX6_init_87 (by decide) ?_
  refine tg_cMv (va_runV (As := [.int 4]) (rest := []) ⟨hx, hb, hml, hown, hts⟩ (qX6_beginWith l D cI cT (gaF h0 zq1 zq2 zq3) ta (fun _ => 0) 0 0 0 (fun _ => tw0) 4 F oshelf onp ong ocur hm) (cwV 1 hts gX6_init_X6_beginWith rfl rfl rfl zVX6_beginWith ⟨Nat.le_of_ble_eq_true rfl, Nat.le_of_ble_eq_true rfl⟩) (tg_preVM (r := (RX6, TX6, 6)) (ci := 5) (q0 := 0) hP hD hK hN rfl rfl) rfl rfl hl.1 rfl (lv_room (Nat.le_of_ble_eq_true rfl)) dX6_init_88 ⟨Nat.le_of_ble_eq_true rfl, Nat.le_of_ble_eq_true rfl⟩) hS (tg_inA hD) (fun zH zlocs _ hP hS => ?_)
  refine W.widen (k := 75) (n := 2264) (by omega) (by omega) ?_
  exact W.vret hx hb hr (fun t ht hW => ⟨⟨(ta, gaF h0 zq1 zq2 zq3), rfl, rfl, by rw [ht]; exact hP, hDD _ wG_ad⟩, hS.F ht⟩) hS.2.2 dX6_init_91
theorem zSX6_init : yX6_init.cls ≠ "java/lang/invoke/MethodHandle" ∧ yX6_init.cls ≠ "java/lang/invoke/VarHandle" ∧ (parseMethodDescriptor yX6_init.desc).map (fun d => d.parameters.length) = some 0 := by decide +kernel
