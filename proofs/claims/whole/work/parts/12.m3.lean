/-! ===== public int points(int); ===== -/
theorem kX7_points_1 : Cond.fieldLink RX7 61 "TurnGroupsModel" "groups" "I" ∈ wsX7_points := by decide +kernel
theorem kX7_points_2 : Cond.fieldLink RX7 7 "TurnGroupsModel" "n" "I" ∈ wsX7_points := by decide +kernel
theorem kX7_points_3 : Cond.fieldLink RX7 64 "TurnGroupsModel" "turn" "I" ∈ wsX7_points := by decide +kernel
theorem kX7_points_4 : Cond.fieldLink RX7 18 "TurnGroupsModel" "shelf" "[I" ∈ wsX7_points := by decide +kernel
theorem uX7_points_RX7 : ∀ w ∈ u_ws RX7 TX7 11, w ∈ wsX7_points := by decide +kernel
def mX7_points_L35  : Nat → Int32 → (Nat → Int32) → Option ((Nat → Int32))
  | 0, _, _ => none
  | f + 1, zx3, shelf => if 8 ≤ zx3 then (some shelf) else (gd (inb zx3 8) (lT (upd shelf (Int32.toNatClampNeg zx3) 0) (fun shelf_1 => mX7_points_L35 f (zx3 + 1) shelf_1)))
theorem mX7_points_L35_s  (f : Nat) (zx3 : Int32) (shelf : Nat → Int32) : mX7_points_L35  (f + 1) zx3 shelf = (if 8 ≤ zx3 then (some shelf) else (gd (inb zx3 8) (lT (upd shelf (Int32.toNatClampNeg zx3) 0) (fun shelf_1 => mX7_points_L35 f (zx3 + 1) shelf_1)))) := rfl
def mX7_points (F : Nat) (n : Int32) (many : Int32) (image : Nat → Int32) (turn : Int32) (shelf : Nat → Int32) (groups : Int32) (zx1 : Int32) : Option (Int32 × Int32 × Int32 × (Nat → Int32) × Int32 × (Nat → Int32) × Int32) := if (mX7_isIn zx1 2 8) = 0 then (some ((-2), n, many, image, turn, shelf, groups)) else (bd (mX7_points_L35 F 0 shelf) (fun shelf_1 => bd2 (mX7_layAll F zx1 many image) (fun many_1 image_1 => some (groups, zx1, many_1, image_1, 0, shelf_1, 0))))
set_option maxRecDepth 100000 in
set_option maxHeartbeats 4000000 in
theorem wX7_points_L35 {p : Program} {l : Launch} {e : Env} {s : State} {m : MethodId} {zargs : Array Value} {zbelow : List Frame} {zmeth : Method} {c : Code} {D : va_G} {zQ : State → Prop} {zA : Nat → Prop} {ad : Nat → Nat} {cI cZ : ClassId} {n : Int32} {many : Int32} {image : Nat → Int32} {turn : Int32} {groups : Int32} {inn : Nat → Int32} {now : Nat → Int32} {makers : Nat → Int32} {makerMany : Nat → Int32} {queue : Nat → Int32} {zx2 : Int32} (C0 : tg_C p s m zmeth c zargs cX7_points RX7 wsX7_points 4 D [(cI, .int), (cZ, .boolean)]) (hDD : tg_DD zA [ad 0, ad 1, ad 2, ad 3, ad 4, ad 5, ad 6, ad 7]) (hlocks : zmeth.locks = false) (hr : zmeth.sig.returnType = (some .int)) (F : Nat) : ∀ (f : Nat) (zx3 : Int32) (shelf : Nat → Int32) (oshelf : Nat → Int32), mX7_points_L35  f zx3 shelf = some oshelf → ∀ (zH : Heap) (zlocs : List Loc), va_P D vwCl (wM cI cZ ad n many image turn shelf groups inn now makers makerMany queue) zH → va_S zA s.heap zH zlocs → ∀ (zls : Array Slot), lv_has zls 4 [(0, .ref (ad 0)), (2, .int zx2), (3, .int zx3)] → (∀ (zH : Heap) (zlocs : List Loc), va_P D vwCl (wM cI cZ ad n many image turn oshelf groups inn now makers makerMany queue) zH → va_S zA s.heap zH zlocs → ∀ (zls : Array Slot), lv_has zls 4 [(0, .ref (ad 0)), (2, .int zx2)] → W p l e ({ frames := 2, cells := 0, slots := 0, locals := 49 } : Room) s m zargs zbelow zmeth c zH zlocs 0 0 zQ (F0 m 54 zls [])) → W p l e ({ frames := 2, cells := 0, slots := 0, locals := 49 } : Room) s m zargs zbelow zmeth c zH zlocs 0 0 zQ (F0 m 35 zls []) := by
  obtain ⟨hx, hb, hml, hown, hts, hK, hN⟩ := C0
  intro f
  induction f with
  | zero => intro _ _ _ h; exact absurd (show none = some _ from h) (fun h9 => by cases h9)
  | succ f ih =>
    intro zx3 shelf oshelf h zH zlocs hP hS zls hl kk
    rw [mX7_points_L35_s] at h
    refine lv_iload_n hx hb dX7_points_35 rfl (lv_at hl 2 rfl) ?_
    refine lv_bipush (v := 8) hx hb dX7_points_36 (by decide) ?_
    refine lv_icmp_ge (tgt := 54) hx hb dX7_points_38 (by decide) (fun cb => ?_) (fun cb => ?_)
    · rw [if_pos cb] at h
      cases h
      exact kk _ _ hP hS _ (lv_sub hl [0, 1] rfl)
    · rw [if_neg cb] at h
      refine lv_aload_n hx hb dX7_points_41 rfl (lv_at hl 0 rfl) ?_
      refine va_get (D := D) (ci := 6) (v := .ref (ad 2)) (C := RX7) (T := TX7) (N := 11) hx hb hts uX7_points_RX7 hown hK hP 0 rfl rfl 4 (by decide) (hts _ kX7_points_4) (fun _ h9 => h9) rfl dX7_points_42 ?_
      refine lv_iload_n hx hb dX7_points_45 rfl (lv_at hl 2 rfl) ?_
      refine lv_iconst (v := 0) hx hb dX7_points_46 (by decide) ?_
      obtain ⟨gg, h⟩ := gd_el h
      obtain ⟨shelf_1, eshelf_1, h⟩ := lT_el h
      refine va_iast hx hb hK hP (hDD _ rfl) hS 2 0 rfl rfl (inb_in gg) dX7_points_47 (fun zH zlocs hP _ hS => ?_)
      have hP : va_P D vwCl (wM cI cZ ad n many image turn (upd shelf (Int32.toNatClampNeg zx3) 0) groups inn now makers makerMany queue) zH := hP
      rw [← eshelf_1] at hP
      refine lv_iinc (v := (zx3 + 1)) (lv' := [(3, .int (zx3 + 1)), (0, .ref (ad 0)), (2, .int zx2)]) hx hb dX7_points_48 hl (k := 2) rfl rfl (by decide) rfl (fun zls hl => ?_)
      refine lv_goto (tgt := 35) hx hb dX7_points_51 (by decide) ?_
      exact ih _ _ _ h _ _ hP hS _ (lv_sub hl [1, 2, 0] rfl) kk
set_option maxRecDepth 100000 in
set_option maxHeartbeats 4000000 in
theorem qX7_points (l : Launch) (D : va_G) (cI : ClassId) (cZ : ClassId) (ad : Nat → Nat) (n : Int32) (many : Int32) (image : Nat → Int32) (turn : Int32) (shelf : Nat → Int32) (groups : Int32) (inn : Nat → Int32) (now : Nat → Int32) (makers : Nat → Int32) (makerMany : Nat → Int32) (queue : Nat → Int32) (zx1 : Int32) (F : Nat) (zr0 : Int32) (on : Int32) (omany : Int32) (oimage : Nat → Int32) (oturn : Int32) (oshelf : Nat → Int32) (ogroups : Int32) (h : mX7_points F n many image turn shelf groups zx1 = some (zr0, on, omany, oimage, oturn, oshelf, ogroups)) : Met l yX7_points wsX7_points ({ frames := 2, cells := 0, slots := 0, locals := 49 } : Room) (tg_PM D [(cI, .int), (cZ, .boolean)] [.ref (ad 0), .int zx1] (wM cI cZ ad n many image turn shelf groups inn now makers makerMany queue)) (tg_Mi D (wM cI cZ ad n many image turn shelf groups inn now makers makerMany queue) (wM cI cZ ad on omany oimage oturn oshelf ogroups inn now makers makerMany queue) zr0) 0 0 (tg_in (wM cI cZ ad n many image turn shelf groups inn now makers makerMany queue)) := by
  refine Met.ofW (cc := cX7_points) (maxL := 4) (ret := (some .int)) (by decide) rfl ?_
  intro p e s m zargs zbelow zmeth c s₁ B hml hv
  obtain ⟨hargs, hP, hK, hN, hD0⟩ := hv
  have hx := B.exec
  have hb := B.bytes
  have hr := B.returns
  have hts := atoms_spec (ws := wsX7_points) B.pre
  have hown : s.vm.findClass RX7 = some m.cls := findClass_of_methodNamed B.named
  have hlocks := B.notSynchronized
  have hDD : tg_DD (tg_in (wM cI cZ ad n many image turn shelf groups inn now makers makerMany queue)) [ad 0, ad 1, ad 2, ad 3, ad 4, ad 5, ad 6, ad 7] := tg_DD.of (tg_D hD0) rfl
  have hS : va_S (tg_in (wM cI cZ ad n many image turn shelf groups inn now makers makerMany queue)) s.heap s.heap [] := va_S.rf
  have hl := lv_entry ([.ref (ad 0), .int zx1]) (n := 4) (Nat.le_of_ble_eq_true rfl)
  refine W.eq (g2 := entryFrame m ([.ref (ad 0), .int zx1] : List Value).toArray 4) (by rw [hargs]) ?_
  rw [lg_entry_eq]
  generalize (lg_sl ([.ref (ad 0), .int zx1]) ++ List.replicate (4 - (lg_sl ([.ref (ad 0), .int zx1])).length) Slot.unset).toArray = zls at hl ⊢
  have hl : lv_has zls 4 [(0, .ref (ad 0)), (1, .int zx1)] := hl
  rw [mX7_points] at h
  refine lv_iload_n hx hb dX7_points_0 rfl (lv_at hl 1 rfl) ?_
  refine lv_iconst (v := 2) hx hb dX7_points_1 (by decide) ?_
  refine lv_bipush (v := 8) hx hb dX7_points_2 (by decide) ?_
  refine tg_cRi (va_runS (As := [.int zx1, .int 2, .int 8]) (rest := []) ⟨hx, hb, hml, hown, hts⟩ (qX7_isIn l D zx1 2 8 _ rfl) (va_cwS 3 hts gX7_points_X7_isIn rfl rfl rfl zSX7_isIn ⟨Nat.le_of_ble_eq_true rfl, Nat.le_of_ble_eq_true rfl⟩) (tg_preS tg_nil (hK.sub (tys' := []) [] rfl) hN) rfl rfl hl.1 rfl (lv_room (Nat.le_of_ble_eq_true rfl)) dX7_points_4 ⟨Nat.zero_le _, Nat.zero_le _⟩) ?_
  refine lv_if_ne (tgt := 13) hx hb dX7_points_7 (by decide) (fun cb => ?_) (fun cb => ?_)
  · rw [if_neg cb] at h
    refine lv_aload_n hx hb dX7_points_13 rfl (lv_at hl 0 rfl) ?_
    refine va_get (D := D) (ci := 6) (v := .int groups) (C := RX7) (T := TX7) (N := 11) hx hb hts uX7_points_RX7 hown hK hP 0 rfl rfl 5 (by decide) (hts _ kX7_points_1) (fun _ h9 => h9) rfl dX7_points_14 ?_
    refine lv_istore_n (lv' := [(2, .int groups), (0, .ref (ad 0)), (1, .int zx1)]) hx hb dX7_points_17 rfl hl (by decide) rfl (fun zls hl => ?_)
    refine lv_aload_n hx hb dX7_points_18 rfl (lv_at hl 1 rfl) ?_
    refine lv_iload_n hx hb dX7_points_19 rfl (lv_at hl 2 rfl) ?_
    refine va_put (D := D) (ci := 6) (v := .int zx1) (ty := .int) (C := RX7) (T := TX7) (N := 11) hx hb hts uX7_points_RX7 tyX7 tyX7_ok nmX7 hown hK hP (hDD _ rfl) hS 0 rfl rfl 0 (by decide) (hts _ kX7_points_2) (fun _ h9 => h9) rfl (by decide +kernel) rfl rfl (Nat.le_of_ble_eq_true rfl) dX7_points_20 (fun zH zlocs hP _ hS => ?_)
    have hP : va_P D vwCl (wM cI cZ ad zx1 many image turn shelf groups inn now makers makerMany queue) zH := hP
    refine lv_aload_n hx hb dX7_points_23 rfl (lv_at hl 1 rfl) ?_
    refine lv_iconst (v := 0) hx hb dX7_points_24 (by decide) ?_
    refine va_put (D := D) (ci := 6) (v := .int 0) (ty := .int) (C := RX7) (T := TX7) (N := 11) hx hb hts uX7_points_RX7 tyX7 tyX7_ok nmX7 hown hK hP (hDD _ rfl) hS 0 rfl rfl 5 (by decide) (hts _ kX7_points_1) (fun _ h9 => h9) rfl (by decide +kernel) rfl rfl (Nat.le_of_ble_eq_true rfl) dX7_points_25 (fun zH zlocs hP _ hS => ?_)
    have hP : va_P D vwCl (wM cI cZ ad zx1 many image turn shelf 0 inn now makers makerMany queue) zH := hP
    refine lv_aload_n hx hb dX7_points_28 rfl (lv_at hl 1 rfl) ?_
    refine lv_iconst (v := 0) hx hb dX7_points_29 (by decide) ?_
    refine va_put (D := D) (ci := 6) (v := .int 0) (ty := .int) (C := RX7) (T := TX7) (N := 11) hx hb hts uX7_points_RX7 tyX7 tyX7_ok nmX7 hown hK hP (hDD _ rfl) hS 0 rfl rfl 3 (by decide) (hts _ kX7_points_3) (fun _ h9 => h9) rfl (by decide +kernel) rfl rfl (Nat.le_of_ble_eq_true rfl) dX7_points_30 (fun zH zlocs hP _ hS => ?_)
    have hP : va_P D vwCl (wM cI cZ ad zx1 many image 0 shelf 0 inn now makers makerMany queue) zH := hP
    refine lv_iconst (v := 0) hx hb dX7_points_33 (by decide) ?_
    refine lv_istore_n (lv' := [(3, .int 0), (2, .int groups), (0, .ref (ad 0)), (1, .int zx1)]) hx hb dX7_points_34 rfl hl (by decide) rfl (fun zls hl => ?_)
    obtain ⟨shelf_1, hv, h⟩ := bd_el h
    refine wX7_points_L35 ⟨hx, hb, hml, hown, hts, hK, hN⟩ hDD hlocks hr F F _ _ _ hv _ _ hP hS _ (lv_sub hl [2, 1, 0] rfl) (fun zH zlocs hP hS zls hl => ?_)
    refine lv_aload_n hx hb dX7_points_54 rfl (lv_at hl 0 rfl) ?_
    obtain ⟨many_1, image_1, hc, h⟩ := bd2_el h
    refine tg_cMv (va_runV (As := []) (rest := []) ⟨hx, hb, hml, hown, hts⟩ (qX7_layAll l D cI cZ ad zx1 many image 0 shelf_1 0 inn now makers makerMany queue F many_1 image_1 hc) (cwV 0 hts gX7_points_X7_layAll rfl rfl rfl zVX7_layAll ⟨Nat.le_of_ble_eq_true rfl, Nat.le_of_ble_eq_true rfl⟩) (tg_preVM (r := (RX7, TX7, 11)) (ci := 6) (q0 := 0) hP (hDD _ rfl) hK hN rfl rfl) rfl rfl hl.1 rfl (lv_room (Nat.le_of_ble_eq_true rfl)) dX7_points_55 ⟨Nat.zero_le _, Nat.zero_le _⟩) hS (tg_inA (hDD _ rfl)) (fun zH zlocs _ hP hS => ?_)
    refine lv_iload_n hx hb dX7_points_58 rfl (lv_at hl 1 rfl) ?_
    cases h
    exact W.iret hx hb hr (fun t ht hW => ⟨rfl, by rw [ht]; exact hP, hS.F ht⟩) hS.2.2 dX7_points_59
  · rw [if_pos cb] at h
    refine lv_bipush (v := (-2)) hx hb dX7_points_10 (by decide) ?_
    cases h
    exact W.iret hx hb hr (fun t ht hW => ⟨rfl, by rw [ht]; exact hP, hS.F ht⟩) hS.2.2 dX7_points_12
theorem zVX7_points : yX7_points.cls = RX7 ∧ yX7_points.cls ≠ "java/lang/invoke/MethodHandle" ∧ yX7_points.cls ≠ "java/lang/invoke/VarHandle" ∧ (parseMethodDescriptor yX7_points.desc).map (fun d => d.parameters.length) = some 1 := by decide +kernel

/-! ===== public int turn(long); ===== -/
theorem kX7_turn_1 : Cond.fieldLink RX7 7 "TurnGroupsModel" "n" "I" ∈ wsX7_turn := by decide +kernel
theorem kX7_turn_2 : Cond.fieldLink RX7 26 "TurnGroupsModel" "now" "[I" ∈ wsX7_turn := by decide +kernel
theorem kX7_turn_3 : Cond.constantLong RX7 67 (15) ∈ wsX7_turn := by decide +kernel
theorem kX7_turn_4 : Cond.fieldLink RX7 64 "TurnGroupsModel" "turn" "I" ∈ wsX7_turn := by decide +kernel
theorem uX7_turn_RX7 : ∀ w ∈ u_ws RX7 TX7 11, w ∈ wsX7_turn := by decide +kernel
def mX7_turn_L5 (zx1 : Int64) (n : Int32) : Nat → Int32 → Int32 → (Nat → Int32) → Option (Int32 × (Nat → Int32))
  | 0, _, _, _ => none
  | f + 1, zx3, zx4, now => if n ≤ zx4 then (some (zx3, now)) else (gd (inb zx4 8) (lT (upd now (Int32.toNatClampNeg zx4) (Int64.toInt32 ((zx1 >>> (Int32.toInt64 (4 * zx4) &&& 63)) &&& 15))) (fun now_1 => gd (inb zx4 8) (lT (zx3 ||| (1 <<< ((now_1 (Int32.toNatClampNeg zx4)) &&& 31))) (fun zx3_1 => mX7_turn_L5 zx1 n f zx3_1 (zx4 + 1) now_1)))))
theorem mX7_turn_L5_s (zx1 : Int64) (n : Int32) (f : Nat) (zx3 : Int32) (zx4 : Int32) (now : Nat → Int32) : mX7_turn_L5 zx1 n (f + 1) zx3 zx4 now = (if n ≤ zx4 then (some (zx3, now)) else (gd (inb zx4 8) (lT (upd now (Int32.toNatClampNeg zx4) (Int64.toInt32 ((zx1 >>> (Int32.toInt64 (4 * zx4) &&& 63)) &&& 15))) (fun now_1 => gd (inb zx4 8) (lT (zx3 ||| (1 <<< ((now_1 (Int32.toNatClampNeg zx4)) &&& 31))) (fun zx3_1 => mX7_turn_L5 zx1 n f zx3_1 (zx4 + 1) now_1)))))) := rfl
def mX7_turn (F : Nat) (n : Int32) (turn : Int32) (now : Nat → Int32) (zx1 : Int64) : Option (Int32 × Int32 × (Nat → Int32)) := bd2 (mX7_turn_L5 zx1 n F 0 0 now) (fun zx3 now_1 => if zx3 = ((1 <<< (n &&& 31)) - 1) then (if (lg_cmp zx1 0) < 0 then (some ((-2), turn, now_1)) else (if (lg_cmp ((zx1 >>> (Int32.toInt64 ((4 * n) - 1) &&& 63)) >>> (Int32.toInt64 1 &&& 63)) 0) = 0 then (bd (mX7_placeNow F n now_1) (fun zr => some (1, zr, now_1))) else (some ((-2), turn, now_1)))) else (some ((-2), turn, now_1)))
set_option maxRecDepth 100000 in
set_option maxHeartbeats 4000000 in
theorem wX7_turn_L5 {p : Program} {l : Launch} {e : Env} {s : State} {m : MethodId} {zargs : Array Value} {zbelow : List Frame} {zmeth : Method} {c : Code} {D : va_G} {zQ : State → Prop} {zA : Nat → Prop} {ad : Nat → Nat} {cI cZ : ClassId} {n : Int32} {many : Int32} {image : Nat → Int32} {turn : Int32} {shelf : Nat → Int32} {groups : Int32} {inn : Nat → Int32} {makers : Nat → Int32} {makerMany : Nat → Int32} {queue : Nat → Int32} {zx1 : Int64} (C0 : tg_C p s m zmeth c zargs cX7_turn RX7 wsX7_turn 5 D [(cI, .int), (cZ, .boolean)]) (hDD : tg_DD zA [ad 0, ad 1, ad 2, ad 3, ad 4, ad 5, ad 6, ad 7]) (hlocks : zmeth.locks = false) (hr : zmeth.sig.returnType = (some .int)) (F : Nat) : ∀ (f : Nat) (zx3 : Int32) (zx4 : Int32) (now : Nat → Int32) (zo3 : Int32) (onow : Nat → Int32), mX7_turn_L5 zx1 n f zx3 zx4 now = some (zo3, onow) → ∀ (zH : Heap) (zlocs : List Loc), va_P D vwCl (wM cI cZ ad n many image turn shelf groups inn now makers makerMany queue) zH → va_S zA s.heap zH zlocs → ∀ (zls : Array Slot), lv_has zls 5 [(0, .ref (ad 0)), (1, .long zx1), (3, .int zx3), (4, .int zx4)] → (∀ (zH : Heap) (zlocs : List Loc), va_P D vwCl (wM cI cZ ad n many image turn shelf groups inn onow makers makerMany queue) zH → va_S zA s.heap zH zlocs → ∀ (zls : Array Slot), lv_has zls 5 [(0, .ref (ad 0)), (1, .long zx1), (3, .int zo3)] → W p l e ({ frames := 1, cells := 0, slots := 0, locals := 24 } : Room) s m zargs zbelow zmeth c zH zlocs 0 0 zQ (F0 m 50 zls [])) → W p l e ({ frames := 1, cells := 0, slots := 0, locals := 24 } : Room) s m zargs zbelow zmeth c zH zlocs 0 0 zQ (F0 m 5 zls []) := by
  obtain ⟨hx, hb, hml, hown, hts, hK, hN⟩ := C0
  intro f
  induction f with
  | zero => intro _ _ _ _ _ h; exact absurd (show none = some _ from h) (fun h9 => by cases h9)
  | succ f ih =>
    intro zx3 zx4 now zo3 onow h zH zlocs hP hS zls hl kk
    rw [mX7_turn_L5_s] at h
    refine lv_iload hx hb dX7_turn_5 (lv_at hl 3 rfl) ?_
    refine lv_aload_n hx hb dX7_turn_7 rfl (lv_at hl 0 rfl) ?_
    refine va_get (D := D) (ci := 6) (v := .int n) (C := RX7) (T := TX7) (N := 11) hx hb hts uX7_turn_RX7 hown hK hP 0 rfl rfl 0 (by decide) (hts _ kX7_turn_1) (fun _ h9 => h9) rfl dX7_turn_8 ?_
    refine lv_icmp_ge (tgt := 50) hx hb dX7_turn_11 (by decide) (fun cb => ?_) (fun cb => ?_)
    · rw [if_pos cb] at h
      cases h
      exact kk _ _ hP hS _ (lv_sub hl [0, 1, 2] rfl)
    · rw [if_neg cb] at h
      refine lv_aload_n hx hb dX7_turn_14 rfl (lv_at hl 0 rfl) ?_
      refine va_get (D := D) (ci := 6) (v := .ref (ad 4)) (C := RX7) (T := TX7) (N := 11) hx hb hts uX7_turn_RX7 hown hK hP 0 rfl rfl 7 (by decide) (hts _ kX7_turn_2) (fun _ h9 => h9) rfl dX7_turn_15 ?_
      refine lv_iload hx hb dX7_turn_18 (lv_at hl 3 rfl) ?_
      refine lv_lload_n hx hb dX7_turn_20 rfl (lv_at hl 1 rfl) ?_
      refine lv_iconst (v := 4) hx hb dX7_turn_21 (by decide) ?_
      refine lv_iload hx hb dX7_turn_22 (lv_at hl 3 rfl) ?_
      refine lv_imul hx hb dX7_turn_24 ?_
      refine lv_lshr (v := (zx1 >>> (Int32.toInt64 (4 * zx4) &&& 63))) hx hb dX7_turn_25 rfl ?_
      refine lv_ldc2 hx hb hown (hts _ kX7_turn_3) dX7_turn_26 ?_
      refine lv_land hx hb dX7_turn_29 ?_
      refine lv_l2i (v := (Int64.toInt32 ((zx1 >>> (Int32.toInt64 (4 * zx4) &&& 63)) &&& 15))) hx hb dX7_turn_30 rfl ?_
      obtain ⟨gg, h⟩ := gd_el h
      obtain ⟨now_1, enow_1, h⟩ := lT_el h
      refine va_iast hx hb hK hP (hDD _ rfl) hS 4 0 rfl rfl (inb_in gg) dX7_turn_31 (fun zH zlocs hP _ hS => ?_)
      have hP : va_P D vwCl (wM cI cZ ad n many image turn shelf groups inn (upd now (Int32.toNatClampNeg zx4) (Int64.toInt32 ((zx1 >>> (Int32.toInt64 (4 * zx4) &&& 63)) &&& 15))) makers makerMany queue) zH := hP
      rw [← enow_1] at hP
      refine lv_iload_n hx hb dX7_turn_32 rfl (lv_at hl 2 rfl) ?_
      refine lv_iconst (v := 1) hx hb dX7_turn_33 (by decide) ?_
      refine lv_aload_n hx hb dX7_turn_34 rfl (lv_at hl 0 rfl) ?_
      refine va_get (D := D) (ci := 6) (v := .ref (ad 4)) (C := RX7) (T := TX7) (N := 11) hx hb hts uX7_turn_RX7 hown hK hP 0 rfl rfl 7 (by decide) (hts _ kX7_turn_2) (fun _ h9 => h9) rfl dX7_turn_35 ?_
      refine lv_iload hx hb dX7_turn_38 (lv_at hl 3 rfl) ?_
      obtain ⟨gg_1, h⟩ := gd_el h
      refine va_iald hx hb hK hP 4 0 rfl rfl (inb_in gg_1) dX7_turn_40 ?_
      refine lv_ishl hx hb dX7_turn_41 ?_
      refine lv_ior hx hb dX7_turn_42 ?_
      obtain ⟨zx3_1, ex3_1, h⟩ := lT_el h
      refine tg_top ex3_1 ?_
      refine lv_istore_n (lv' := [(3, .int zx3_1), (0, .ref (ad 0)), (1, .long zx1), (4, .int zx4)]) hx hb dX7_turn_43 rfl hl (by decide) rfl (fun zls hl => ?_)
      refine lv_iinc (v := (zx4 + 1)) (lv' := [(4, .int (zx4 + 1)), (3, .int zx3_1), (0, .ref (ad 0)), (1, .long zx1)]) hx hb dX7_turn_44 hl (k := 3) rfl rfl (by decide) rfl (fun zls hl => ?_)
      refine lv_goto (tgt := 5) hx hb dX7_turn_47 (by decide) ?_
      exact ih _ _ _ _ _ h _ _ hP hS _ (lv_sub hl [2, 3, 1, 0] rfl) kk
set_option maxRecDepth 100000 in
set_option maxHeartbeats 4000000 in
theorem qX7_turn (l : Launch) (D : va_G) (cI : ClassId) (cZ : ClassId) (ad : Nat → Nat) (n : Int32) (many : Int32) (image : Nat → Int32) (turn : Int32) (shelf : Nat → Int32) (groups : Int32) (inn : Nat → Int32) (now : Nat → Int32) (makers : Nat → Int32) (makerMany : Nat → Int32) (queue : Nat → Int32) (zx1 : Int64) (F : Nat) (zr0 : Int32) (oturn : Int32) (onow : Nat → Int32) (h : mX7_turn F n turn now zx1 = some (zr0, oturn, onow)) : Met l yX7_turn wsX7_turn ({ frames := 1, cells := 0, slots := 0, locals := 24 } : Room) (tg_PM D [(cI, .int), (cZ, .boolean)] [.ref (ad 0), .long zx1] (wM cI cZ ad n many image turn shelf groups inn now makers makerMany queue)) (tg_Mi D (wM cI cZ ad n many image turn shelf groups inn now makers makerMany queue) (wM cI cZ ad n many image oturn shelf groups inn onow makers makerMany queue) zr0) 0 0 (tg_in (wM cI cZ ad n many image turn shelf groups inn now makers makerMany queue)) := by
  refine Met.ofW (cc := cX7_turn) (maxL := 5) (ret := (some .int)) (by decide) rfl ?_
  intro p e s m zargs zbelow zmeth c s₁ B hml hv
  obtain ⟨hargs, hP, hK, hN, hD0⟩ := hv
  have hx := B.exec
  have hb := B.bytes
  have hr := B.returns
  have hts := atoms_spec (ws := wsX7_turn) B.pre
  have hown : s.vm.findClass RX7 = some m.cls := findClass_of_methodNamed B.named
  have hlocks := B.notSynchronized
  have hDD : tg_DD (tg_in (wM cI cZ ad n many image turn shelf groups inn now makers makerMany queue)) [ad 0, ad 1, ad 2, ad 3, ad 4, ad 5, ad 6, ad 7] := tg_DD.of (tg_D hD0) rfl
  have hS : va_S (tg_in (wM cI cZ ad n many image turn shelf groups inn now makers makerMany queue)) s.heap s.heap [] := va_S.rf
  have hl := lv_entry ([.ref (ad 0), .long zx1]) (n := 5) (Nat.le_of_ble_eq_true rfl)
  refine W.eq (g2 := entryFrame m ([.ref (ad 0), .long zx1] : List Value).toArray 5) (by rw [hargs]) ?_
  rw [lg_entry_eq]
  generalize (lg_sl ([.ref (ad 0), .long zx1]) ++ List.replicate (5 - (lg_sl ([.ref (ad 0), .long zx1])).length) Slot.unset).toArray = zls at hl ⊢
  have hl : lv_has zls 5 [(0, .ref (ad 0)), (1, .long zx1)] := hl
  rw [mX7_turn] at h
  refine lv_iconst (v := 0) hx hb dX7_turn_0 (by decide) ?_
  refine lv_istore_n (lv' := [(3, .int 0), (0, .ref (ad 0)), (1, .long zx1)]) hx hb dX7_turn_1 rfl hl (by decide) rfl (fun zls hl => ?_)
  refine lv_iconst (v := 0) hx hb dX7_turn_2 (by decide) ?_
  refine lv_istore (lv' := [(4, .int 0), (3, .int 0), (0, .ref (ad 0)), (1, .long zx1)]) hx hb dX7_turn_3 hl (by decide) rfl (fun zls hl => ?_)
  obtain ⟨zx3, now_1, hv, h⟩ := bd2_el h
  refine wX7_turn_L5 ⟨hx, hb, hml, hown, hts, hK, hN⟩ hDD hlocks hr F F _ _ _ _ _ hv _ _ hP hS _ (lv_sub hl [2, 3, 1, 0] rfl) (fun zH zlocs hP hS zls hl => ?_)
  refine lv_iload_n hx hb dX7_turn_50 rfl (lv_at hl 2 rfl) ?_
  refine lv_iconst (v := 1) hx hb dX7_turn_51 (by decide) ?_
  refine lv_aload_n hx hb dX7_turn_52 rfl (lv_at hl 0 rfl) ?_
  refine va_get (D := D) (ci := 6) (v := .int n) (C := RX7) (T := TX7) (N := 11) hx hb hts uX7_turn_RX7 hown hK hP 0 rfl rfl 0 (by decide) (hts _ kX7_turn_1) (fun _ h9 => h9) rfl dX7_turn_53 ?_
  refine lv_ishl hx hb dX7_turn_56 ?_
  refine lv_iconst (v := 1) hx hb dX7_turn_57 (by decide) ?_
  refine lv_isub hx hb dX7_turn_58 ?_
  refine lv_icmp_ne (tgt := 85) hx hb dX7_turn_59 (by decide) (fun cb => ?_) (fun cb => ?_)
  · rw [if_neg cb] at h
    refine lv_bipush (v := (-2)) hx hb dX7_turn_85 (by decide) ?_
    cases h
    exact W.iret hx hb hr (fun t ht hW => ⟨rfl, by rw [ht]; exact hP, hS.F ht⟩) hS.2.2 dX7_turn_87
  · rw [if_pos cb] at h
    refine lv_lload_n hx hb dX7_turn_62 rfl (lv_at hl 1 rfl) ?_
    refine lv_lconst (v := 0) hx hb dX7_turn_63 (by decide) ?_
    refine W.lcmp hx hb dX7_turn_64 ?_
    refine lv_if_lt (tgt := 85) hx hb dX7_turn_65 (by decide) (fun cb_1 => ?_) (fun cb_1 => ?_)
    · rw [if_pos cb_1] at h
      refine lv_bipush (v := (-2)) hx hb dX7_turn_85 (by decide) ?_
      cases h
      exact W.iret hx hb hr (fun t ht hW => ⟨rfl, by rw [ht]; exact hP, hS.F ht⟩) hS.2.2 dX7_turn_87
    · rw [if_neg cb_1] at h
      refine lv_lload_n hx hb dX7_turn_68 rfl (lv_at hl 1 rfl) ?_
      refine lv_iconst (v := 4) hx hb dX7_turn_69 (by decide) ?_
      refine lv_aload_n hx hb dX7_turn_70 rfl (lv_at hl 0 rfl) ?_
      refine va_get (D := D) (ci := 6) (v := .int n) (C := RX7) (T := TX7) (N := 11) hx hb hts uX7_turn_RX7 hown hK hP 0 rfl rfl 0 (by decide) (hts _ kX7_turn_1) (fun _ h9 => h9) rfl dX7_turn_71 ?_
      refine lv_imul hx hb dX7_turn_74 ?_
      refine lv_iconst (v := 1) hx hb dX7_turn_75 (by decide) ?_
      refine lv_isub hx hb dX7_turn_76 ?_
      refine lv_lshr (v := (zx1 >>> (Int32.toInt64 ((4 * n) - 1) &&& 63))) hx hb dX7_turn_77 rfl ?_
      refine lv_iconst (v := 1) hx hb dX7_turn_78 (by decide) ?_
      refine lv_lshr (v := ((zx1 >>> (Int32.toInt64 ((4 * n) - 1) &&& 63)) >>> (Int32.toInt64 1 &&& 63))) hx hb dX7_turn_79 rfl ?_
      refine lv_lconst (v := 0) hx hb dX7_turn_80 (by decide) ?_
      refine W.lcmp hx hb dX7_turn_81 ?_
      refine lv_if_eq (tgt := 88) hx hb dX7_turn_82 (by decide) (fun cb_2 => ?_) (fun cb_2 => ?_)
      · rw [if_pos cb_2] at h
        refine lv_aload_n hx hb dX7_turn_88 rfl (lv_at hl 0 rfl) ?_
        refine lv_aload_n hx hb dX7_turn_89 rfl (lv_at hl 0 rfl) ?_
        obtain ⟨zr, hc, h⟩ := bd_el h
        refine tg_cRi (va_runV (As := []) (rest := [.ref (ad 0)]) ⟨hx, hb, hml, hown, hts⟩ (qX7_placeNow l D cI cZ ad n many image turn shelf groups inn now_1 makers makerMany queue F zr hc) (cwV 0 hts gX7_turn_X7_placeNow rfl rfl rfl zVX7_placeNow ⟨Nat.le_of_ble_eq_true rfl, Nat.le_of_ble_eq_true rfl⟩) (tg_preV (r := (RX7, TX7, 11)) (ci := 6) (q0 := 0) hP hK hN rfl rfl) rfl rfl hl.1 rfl (lv_room (Nat.le_of_ble_eq_true rfl)) dX7_turn_90 ⟨Nat.zero_le _, Nat.zero_le _⟩) ?_
        refine va_put (D := D) (ci := 6) (v := .int zr) (ty := .int) (C := RX7) (T := TX7) (N := 11) hx hb hts uX7_turn_RX7 tyX7 tyX7_ok nmX7 hown hK hP (hDD _ rfl) hS 0 rfl rfl 3 (by decide) (hts _ kX7_turn_4) (fun _ h9 => h9) rfl (by decide +kernel) rfl rfl (Nat.le_of_ble_eq_true rfl) dX7_turn_93 (fun zH zlocs hP _ hS => ?_)
        have hP : va_P D vwCl (wM cI cZ ad n many image zr shelf groups inn now_1 makers makerMany queue) zH := hP
        refine lv_iconst (v := 1) hx hb dX7_turn_96 (by decide) ?_
        cases h
        exact W.iret hx hb hr (fun t ht hW => ⟨rfl, by rw [ht]; exact hP, hS.F ht⟩) hS.2.2 dX7_turn_97
      · rw [if_neg cb_2] at h
        refine lv_bipush (v := (-2)) hx hb dX7_turn_85 (by decide) ?_
        cases h
        exact W.iret hx hb hr (fun t ht hW => ⟨rfl, by rw [ht]; exact hP, hS.F ht⟩) hS.2.2 dX7_turn_87
theorem zVX7_turn : yX7_turn.cls = RX7 ∧ yX7_turn.cls ≠ "java/lang/invoke/MethodHandle" ∧ yX7_turn.cls ≠ "java/lang/invoke/VarHandle" ∧ (parseMethodDescriptor yX7_turn.desc).map (fun d => d.parameters.length) = some 1 := by decide +kernel

/-! ===== public long told(); ===== -/
theorem kX7_told_1 : Cond.fieldLink RX7 7 "TurnGroupsModel" "n" "I" ∈ wsX7_told := by decide +kernel
theorem kX7_told_2 : Cond.fieldLink RX7 14 "TurnGroupsModel" "image" "[I" ∈ wsX7_told := by decide +kernel
theorem kX7_told_3 : Cond.fieldLink RX7 64 "TurnGroupsModel" "turn" "I" ∈ wsX7_told := by decide +kernel
theorem uX7_told_RX7 : ∀ w ∈ u_ws RX7 TX7 11, w ∈ wsX7_told := by decide +kernel
def mX7_told_L4 (n : Int32) (image : Nat → Int32) (turn : Int32) : Nat → Int64 → Int32 → Option (Int64)
  | 0, _, _ => none
  | f + 1, zx1, zx3 => if n ≤ zx3 then (some zx1) else (gd (inb ((8 * turn) + zx3) 322560) (lT (zx1 ||| ((Int32.toInt64 (image (Int32.toNatClampNeg ((8 * turn) + zx3)))) <<< (Int32.toInt64 (4 * zx3) &&& 63))) (fun zx1_1 => mX7_told_L4 n image turn f zx1_1 (zx3 + 1))))
theorem mX7_told_L4_s (n : Int32) (image : Nat → Int32) (turn : Int32) (f : Nat) (zx1 : Int64) (zx3 : Int32) : mX7_told_L4 n image turn (f + 1) zx1 zx3 = (if n ≤ zx3 then (some zx1) else (gd (inb ((8 * turn) + zx3) 322560) (lT (zx1 ||| ((Int32.toInt64 (image (Int32.toNatClampNeg ((8 * turn) + zx3)))) <<< (Int32.toInt64 (4 * zx3) &&& 63))) (fun zx1_1 => mX7_told_L4 n image turn f zx1_1 (zx3 + 1))))) := rfl
def mX7_told (F : Nat) (n : Int32) (image : Nat → Int32) (turn : Int32) : Option (Int64) := bd (mX7_told_L4 n image turn F 0 0) (fun zx1 => some zx1)
set_option maxRecDepth 100000 in
set_option maxHeartbeats 4000000 in
theorem wX7_told_L4 {p : Program} {l : Launch} {e : Env} {s : State} {m : MethodId} {zargs : Array Value} {zbelow : List Frame} {zmeth : Method} {c : Code} {D : va_G} {zQ : State → Prop} {ad : Nat → Nat} {cI cZ : ClassId} {n : Int32} {many : Int32} {image : Nat → Int32} {turn : Int32} {shelf : Nat → Int32} {groups : Int32} {inn : Nat → Int32} {now : Nat → Int32} {makers : Nat → Int32} {makerMany : Nat → Int32} {queue : Nat → Int32} (C0 : tg_C p s m zmeth c zargs cX7_told RX7 wsX7_told 4 D [(cI, .int), (cZ, .boolean)]) (hP : va_P D vwCl (wM cI cZ ad n many image turn shelf groups inn now makers makerMany queue) s.heap) (hlocks : zmeth.locks = false) (hr : zmeth.sig.returnType = (some .long)) (F : Nat) : ∀ (f : Nat) (zx1 : Int64) (zx3 : Int32) (zo1 : Int64), mX7_told_L4 n image turn f zx1 zx3 = some zo1 → ∀ (zls : Array Slot), lv_has zls 4 [(0, .ref (ad 0)), (1, .long zx1), (3, .int zx3)] → (∀ (zls : Array Slot), lv_has zls 4 [(1, .long zo1)] → W p l e ({ frames := 0, cells := 0, slots := 0, locals := 0 } : Room) s m zargs zbelow zmeth c s.heap [] 0 0 zQ (F0 m 40 zls [])) → W p l e ({ frames := 0, cells := 0, slots := 0, locals := 0 } : Room) s m zargs zbelow zmeth c s.heap [] 0 0 zQ (F0 m 4 zls []) := by
  obtain ⟨hx, hb, hml, hown, hts, hK, hN⟩ := C0
  intro f
  induction f with
  | zero => intro _ _ _ h; exact absurd (show none = some _ from h) (fun h9 => by cases h9)
  | succ f ih =>
    intro zx1 zx3 zo1 h  zls hl kk
    rw [mX7_told_L4_s] at h
    refine lv_iload_n hx hb dX7_told_4 rfl (lv_at hl 2 rfl) ?_
    refine lv_aload_n hx hb dX7_told_5 rfl (lv_at hl 0 rfl) ?_
    refine va_get (D := D) (ci := 6) (v := .int n) (C := RX7) (T := TX7) (N := 11) hx hb hts uX7_told_RX7 hown hK hP 0 rfl rfl 0 (by decide) (hts _ kX7_told_1) (fun _ h9 => h9) rfl dX7_told_6 ?_
    refine lv_icmp_ge (tgt := 40) hx hb dX7_told_9 (by decide) (fun cb => ?_) (fun cb => ?_)
    · rw [if_pos cb] at h
      cases h
      exact kk  _ (lv_sub hl [1] rfl)
    · rw [if_neg cb] at h
      refine lv_lload_n hx hb dX7_told_12 rfl (lv_at hl 1 rfl) ?_
      refine lv_aload_n hx hb dX7_told_13 rfl (lv_at hl 0 rfl) ?_
      refine va_get (D := D) (ci := 6) (v := .ref (ad 1)) (C := RX7) (T := TX7) (N := 11) hx hb hts uX7_told_RX7 hown hK hP 0 rfl rfl 2 (by decide) (hts _ kX7_told_2) (fun _ h9 => h9) rfl dX7_told_14 ?_
      refine lv_bipush (v := 8) hx hb dX7_told_17 (by decide) ?_
      refine lv_aload_n hx hb dX7_told_19 rfl (lv_at hl 0 rfl) ?_
      refine va_get (D := D) (ci := 6) (v := .int turn) (C := RX7) (T := TX7) (N := 11) hx hb hts uX7_told_RX7 hown hK hP 0 rfl rfl 3 (by decide) (hts _ kX7_told_3) (fun _ h9 => h9) rfl dX7_told_20 ?_
      refine lv_imul hx hb dX7_told_23 ?_
      refine lv_iload_n hx hb dX7_told_24 rfl (lv_at hl 2 rfl) ?_
      refine lv_iadd hx hb dX7_told_25 ?_
      obtain ⟨gg, h⟩ := gd_el h
      refine va_iald hx hb hK hP 1 0 rfl rfl (inb_in gg) dX7_told_26 ?_
      refine lv_i2l (v := (Int32.toInt64 (image (Int32.toNatClampNeg ((8 * turn) + zx3))))) hx hb dX7_told_27 rfl ?_
      refine lv_iconst (v := 4) hx hb dX7_told_28 (by decide) ?_
      refine lv_iload_n hx hb dX7_told_29 rfl (lv_at hl 2 rfl) ?_
      refine lv_imul hx hb dX7_told_30 ?_
      refine lv_lshl (v := ((Int32.toInt64 (image (Int32.toNatClampNeg ((8 * turn) + zx3)))) <<< (Int32.toInt64 (4 * zx3) &&& 63))) hx hb dX7_told_31 rfl ?_
      refine lv_lor hx hb dX7_told_32 ?_
      obtain ⟨zx1_1, ex1_1, h⟩ := lT_el h
      refine tg_topl ex1_1 ?_
      refine lv_lstore_n (lv' := [(1, .long zx1_1), (0, .ref (ad 0)), (3, .int zx3)]) hx hb dX7_told_33 rfl hl (by decide) rfl (fun zls hl => ?_)
      refine lv_iinc (v := (zx3 + 1)) (lv' := [(3, .int (zx3 + 1)), (1, .long zx1_1), (0, .ref (ad 0))]) hx hb dX7_told_34 hl (k := 2) rfl rfl (by decide) rfl (fun zls hl => ?_)
      refine lv_goto (tgt := 4) hx hb dX7_told_37 (by decide) ?_
      exact ih _ _ _ h  _ (lv_sub hl [2, 1, 0] rfl) kk
set_option maxRecDepth 100000 in
set_option maxHeartbeats 4000000 in
theorem qX7_told (l : Launch) (D : va_G) (cI : ClassId) (cZ : ClassId) (ad : Nat → Nat) (n : Int32) (many : Int32) (image : Nat → Int32) (turn : Int32) (shelf : Nat → Int32) (groups : Int32) (inn : Nat → Int32) (now : Nat → Int32) (makers : Nat → Int32) (makerMany : Nat → Int32) (queue : Nat → Int32) (F : Nat) (zr0 : Int64) (h : mX7_told F n image turn = some zr0) : Met l yX7_told wsX7_told ({ frames := 0, cells := 0, slots := 0, locals := 0 } : Room) (tg_P D [(cI, .int), (cZ, .boolean)] [.ref (ad 0)] ((wM cI cZ ad n many image turn shelf groups inn now makers makerMany queue))) (tg_Rl zr0) 0 0 (fun _ => False) := by
  refine Met.ofW (cc := cX7_told) (maxL := 4) (ret := (some .long)) (by decide) rfl ?_
  intro p e s m zargs zbelow zmeth c s₁ B hml hv
  obtain ⟨hargs, hP, hK, hN⟩ := hv
  have hx := B.exec
  have hb := B.bytes
  have hr := B.returns
  have hts := atoms_spec (ws := wsX7_told) B.pre
  have hown : s.vm.findClass RX7 = some m.cls := findClass_of_methodNamed B.named
  have hlocks := B.notSynchronized
  have hl := lv_entry ([.ref (ad 0)]) (n := 4) (Nat.le_of_ble_eq_true rfl)
  refine W.eq (g2 := entryFrame m ([.ref (ad 0)] : List Value).toArray 4) (by rw [hargs]) ?_
  rw [lg_entry_eq]
  generalize (lg_sl ([.ref (ad 0)]) ++ List.replicate (4 - (lg_sl ([.ref (ad 0)])).length) Slot.unset).toArray = zls at hl ⊢
  have hl : lv_has zls 4 [(0, .ref (ad 0))] := hl
  rw [mX7_told] at h
  refine lv_lconst (v := 0) hx hb dX7_told_0 (by decide) ?_
  refine lv_lstore_n (lv' := [(1, .long 0), (0, .ref (ad 0))]) hx hb dX7_told_1 rfl hl (by decide) rfl (fun zls hl => ?_)
  refine lv_iconst (v := 0) hx hb dX7_told_2 (by decide) ?_
  refine lv_istore_n (lv' := [(3, .int 0), (1, .long 0), (0, .ref (ad 0))]) hx hb dX7_told_3 rfl hl (by decide) rfl (fun zls hl => ?_)
  obtain ⟨zx1, hv, h⟩ := bd_el h
  refine wX7_told_L4 ⟨hx, hb, hml, hown, hts, hK, hN⟩ hP hlocks hr F F _ _ _ hv  _ (lv_sub hl [2, 1, 0] rfl) (fun zls hl => ?_)
  refine lv_lload_n hx hb dX7_told_40 rfl (lv_at hl 0 rfl) ?_
  cases h
  exact W.lret hx hb hr (fun t ht hW => ⟨rfl, ht⟩) (fun _ h9 => absurd h9 List.not_mem_nil) dX7_told_41
theorem zVX7_told : yX7_told.cls = RX7 ∧ yX7_told.cls ≠ "java/lang/invoke/MethodHandle" ∧ yX7_told.cls ≠ "java/lang/invoke/VarHandle" ∧ (parseMethodDescriptor yX7_told.desc).map (fun d => d.parameters.length) = some 0 := by decide +kernel

/-! ===== public int to(int); ===== -/
theorem kX7_to_1 : Cond.fieldLink RX7 7 "TurnGroupsModel" "n" "I" ∈ wsX7_to := by decide +kernel
theorem kX7_to_2 : Cond.fieldLink RX7 14 "TurnGroupsModel" "image" "[I" ∈ wsX7_to := by decide +kernel
theorem kX7_to_3 : Cond.fieldLink RX7 64 "TurnGroupsModel" "turn" "I" ∈ wsX7_to := by decide +kernel
theorem uX7_to_RX7 : ∀ w ∈ u_ws RX7 TX7 11, w ∈ wsX7_to := by decide +kernel
def mX7_to (n : Int32) (image : Nat → Int32) (turn : Int32) (zx1 : Int32) : Option (Int32) := if (mX7_isIn zx1 0 (n - 1)) = 0 then (some (-2)) else (gd (inb ((8 * turn) + zx1) 322560) (some (image (Int32.toNatClampNeg ((8 * turn) + zx1)))))
set_option maxRecDepth 100000 in
set_option maxHeartbeats 4000000 in
theorem qX7_to (l : Launch) (D : va_G) (cI : ClassId) (cZ : ClassId) (ad : Nat → Nat) (n : Int32) (many : Int32) (image : Nat → Int32) (turn : Int32) (shelf : Nat → Int32) (groups : Int32) (inn : Nat → Int32) (now : Nat → Int32) (makers : Nat → Int32) (makerMany : Nat → Int32) (queue : Nat → Int32) (zx1 : Int32) (zr0 : Int32) (h : mX7_to n image turn zx1 = some zr0) : Met l yX7_to wsX7_to ({ frames := 1, cells := 0, slots := 0, locals := 22 } : Room) (tg_P D [(cI, .int), (cZ, .boolean)] [.ref (ad 0), .int zx1] ((wM cI cZ ad n many image turn shelf groups inn now makers makerMany queue))) (tg_Ri zr0) 0 0 (fun _ => False) := by
  refine Met.ofW (cc := cX7_to) (maxL := 2) (ret := (some .int)) (by decide) rfl ?_
  intro p e s m zargs zbelow zmeth c s₁ B hml hv
  obtain ⟨hargs, hP, hK, hN⟩ := hv
  have hx := B.exec
  have hb := B.bytes
  have hr := B.returns
  have hts := atoms_spec (ws := wsX7_to) B.pre
  have hown : s.vm.findClass RX7 = some m.cls := findClass_of_methodNamed B.named
  have hlocks := B.notSynchronized
  have hl := lv_entry ([.ref (ad 0), .int zx1]) (n := 2) (Nat.le_of_ble_eq_true rfl)
  refine W.eq (g2 := entryFrame m ([.ref (ad 0), .int zx1] : List Value).toArray 2) (by rw [hargs]) ?_
  rw [lg_entry_eq]
  generalize (lg_sl ([.ref (ad 0), .int zx1]) ++ List.replicate (2 - (lg_sl ([.ref (ad 0), .int zx1])).length) Slot.unset).toArray = zls at hl ⊢
  have hl : lv_has zls 2 [(0, .ref (ad 0)), (1, .int zx1)] := hl
  rw [mX7_to] at h
  refine lv_iload_n hx hb dX7_to_0 rfl (lv_at hl 1 rfl) ?_
  refine lv_iconst (v := 0) hx hb dX7_to_1 (by decide) ?_
  refine lv_aload_n hx hb dX7_to_2 rfl (lv_at hl 0 rfl) ?_
  refine va_get (D := D) (ci := 6) (v := .int n) (C := RX7) (T := TX7) (N := 11) hx hb hts uX7_to_RX7 hown hK hP 0 rfl rfl 0 (by decide) (hts _ kX7_to_1) (fun _ h9 => h9) rfl dX7_to_3 ?_
  refine lv_iconst (v := 1) hx hb dX7_to_6 (by decide) ?_
  refine lv_isub hx hb dX7_to_7 ?_
  refine tg_cRi (va_runS (As := [.int zx1, .int 0, .int (n - 1)]) (rest := []) ⟨hx, hb, hml, hown, hts⟩ (qX7_isIn l D zx1 0 (n - 1) _ rfl) (va_cwS 3 hts gX7_to_X7_isIn rfl rfl rfl zSX7_isIn ⟨Nat.le_of_ble_eq_true rfl, Nat.le_of_ble_eq_true rfl⟩) (tg_preS tg_nil (hK.sub (tys' := []) [] rfl) hN) rfl rfl hl.1 rfl (lv_room (Nat.le_of_ble_eq_true rfl)) dX7_to_8 ⟨Nat.zero_le _, Nat.zero_le _⟩) ?_
  refine lv_if_eq (tgt := 31) hx hb dX7_to_11 (by decide) (fun cb => ?_) (fun cb => ?_)
  · rw [if_pos cb] at h
    refine lv_bipush (v := (-2)) hx hb dX7_to_31 (by decide) ?_
    cases h
    exact W.iret hx hb hr (fun t ht hW => ⟨rfl, ht⟩) (fun _ h9 => absurd h9 List.not_mem_nil) dX7_to_33
  · rw [if_neg cb] at h
    refine lv_aload_n hx hb dX7_to_14 rfl (lv_at hl 0 rfl) ?_
    refine va_get (D := D) (ci := 6) (v := .ref (ad 1)) (C := RX7) (T := TX7) (N := 11) hx hb hts uX7_to_RX7 hown hK hP 0 rfl rfl 2 (by decide) (hts _ kX7_to_2) (fun _ h9 => h9) rfl dX7_to_15 ?_
    refine lv_bipush (v := 8) hx hb dX7_to_18 (by decide) ?_
    refine lv_aload_n hx hb dX7_to_20 rfl (lv_at hl 0 rfl) ?_
    refine va_get (D := D) (ci := 6) (v := .int turn) (C := RX7) (T := TX7) (N := 11) hx hb hts uX7_to_RX7 hown hK hP 0 rfl rfl 3 (by decide) (hts _ kX7_to_3) (fun _ h9 => h9) rfl dX7_to_21 ?_
    refine lv_imul hx hb dX7_to_24 ?_
    refine lv_iload_n hx hb dX7_to_25 rfl (lv_at hl 1 rfl) ?_
    refine lv_iadd hx hb dX7_to_26 ?_
    obtain ⟨gg, h⟩ := gd_el h
    refine va_iald hx hb hK hP 1 0 rfl rfl (inb_in gg) dX7_to_27 ?_
    refine lv_goto (tgt := 33) hx hb dX7_to_28 (by decide) ?_
    cases h
    exact W.iret hx hb hr (fun t ht hW => ⟨rfl, ht⟩) (fun _ h9 => absurd h9 List.not_mem_nil) dX7_to_33
theorem zVX7_to : yX7_to.cls = RX7 ∧ yX7_to.cls ≠ "java/lang/invoke/MethodHandle" ∧ yX7_to.cls ≠ "java/lang/invoke/VarHandle" ∧ (parseMethodDescriptor yX7_to.desc).map (fun d => d.parameters.length) = some 1 := by decide +kernel

/-! ===== public int lay(int); ===== -/
theorem kX7_lay_1 : Cond.fieldLink RX7 18 "TurnGroupsModel" "shelf" "[I" ∈ wsX7_lay := by decide +kernel
theorem kX7_lay_2 : Cond.fieldLink RX7 64 "TurnGroupsModel" "turn" "I" ∈ wsX7_lay := by decide +kernel
theorem uX7_lay_RX7 : ∀ w ∈ u_ws RX7 TX7 11, w ∈ wsX7_lay := by decide +kernel
def mX7_lay (turn : Int32) (shelf : Nat → Int32) (zx1 : Int32) : Option (Int32 × (Nat → Int32)) := if (mX7_isIn zx1 0 7) = 0 then (some ((-2), shelf)) else (gd (inb zx1 8) (lT (upd shelf (Int32.toNatClampNeg zx1) turn) (fun shelf_1 => some (1, shelf_1))))
set_option maxRecDepth 100000 in
set_option maxHeartbeats 4000000 in
theorem qX7_lay (l : Launch) (D : va_G) (cI : ClassId) (cZ : ClassId) (ad : Nat → Nat) (n : Int32) (many : Int32) (image : Nat → Int32) (turn : Int32) (shelf : Nat → Int32) (groups : Int32) (inn : Nat → Int32) (now : Nat → Int32) (makers : Nat → Int32) (makerMany : Nat → Int32) (queue : Nat → Int32) (zx1 : Int32) (zr0 : Int32) (oshelf : Nat → Int32) (h : mX7_lay turn shelf zx1 = some (zr0, oshelf)) : Met l yX7_lay wsX7_lay ({ frames := 1, cells := 0, slots := 0, locals := 22 } : Room) (tg_PM D [(cI, .int), (cZ, .boolean)] [.ref (ad 0), .int zx1] (wM cI cZ ad n many image turn shelf groups inn now makers makerMany queue)) (tg_Mi D (wM cI cZ ad n many image turn shelf groups inn now makers makerMany queue) (wM cI cZ ad n many image turn oshelf groups inn now makers makerMany queue) zr0) 0 0 (tg_in (wM cI cZ ad n many image turn shelf groups inn now makers makerMany queue)) := by
  refine Met.ofW (cc := cX7_lay) (maxL := 2) (ret := (some .int)) (by decide) rfl ?_
  intro p e s m zargs zbelow zmeth c s₁ B hml hv
  obtain ⟨hargs, hP, hK, hN, hD0⟩ := hv
  have hx := B.exec
  have hb := B.bytes
  have hr := B.returns
  have hts := atoms_spec (ws := wsX7_lay) B.pre
  have hown : s.vm.findClass RX7 = some m.cls := findClass_of_methodNamed B.named
  have hlocks := B.notSynchronized
  have hDD : tg_DD (tg_in (wM cI cZ ad n many image turn shelf groups inn now makers makerMany queue)) [ad 0, ad 1, ad 2, ad 3, ad 4, ad 5, ad 6, ad 7] := tg_DD.of (tg_D hD0) rfl
  have hS : va_S (tg_in (wM cI cZ ad n many image turn shelf groups inn now makers makerMany queue)) s.heap s.heap [] := va_S.rf
  have hl := lv_entry ([.ref (ad 0), .int zx1]) (n := 2) (Nat.le_of_ble_eq_true rfl)
  refine W.eq (g2 := entryFrame m ([.ref (ad 0), .int zx1] : List Value).toArray 2) (by rw [hargs]) ?_
  rw [lg_entry_eq]
  generalize (lg_sl ([.ref (ad 0), .int zx1]) ++ List.replicate (2 - (lg_sl ([.ref (ad 0), .int zx1])).length) Slot.unset).toArray = zls at hl ⊢
  have hl : lv_has zls 2 [(0, .ref (ad 0)), (1, .int zx1)] := hl
  rw [mX7_lay] at h
  refine lv_iload_n hx hb dX7_lay_0 rfl (lv_at hl 1 rfl) ?_
  refine lv_iconst (v := 0) hx hb dX7_lay_1 (by decide) ?_
  refine lv_bipush (v := 7) hx hb dX7_lay_2 (by decide) ?_
  refine tg_cRi (va_runS (As := [.int zx1, .int 0, .int 7]) (rest := []) ⟨hx, hb, hml, hown, hts⟩ (qX7_isIn l D zx1 0 7 _ rfl) (va_cwS 3 hts gX7_lay_X7_isIn rfl rfl rfl zSX7_isIn ⟨Nat.le_of_ble_eq_true rfl, Nat.le_of_ble_eq_true rfl⟩) (tg_preS tg_nil (hK.sub (tys' := []) [] rfl) hN) rfl rfl hl.1 rfl (lv_room (Nat.le_of_ble_eq_true rfl)) dX7_lay_4 ⟨Nat.zero_le _, Nat.zero_le _⟩) ?_
  refine lv_if_ne (tgt := 13) hx hb dX7_lay_7 (by decide) (fun cb => ?_) (fun cb => ?_)
  · rw [if_neg cb] at h
    refine lv_aload_n hx hb dX7_lay_13 rfl (lv_at hl 0 rfl) ?_
    refine va_get (D := D) (ci := 6) (v := .ref (ad 2)) (C := RX7) (T := TX7) (N := 11) hx hb hts uX7_lay_RX7 hown hK hP 0 rfl rfl 4 (by decide) (hts _ kX7_lay_1) (fun _ h9 => h9) rfl dX7_lay_14 ?_
    refine lv_iload_n hx hb dX7_lay_17 rfl (lv_at hl 1 rfl) ?_
    refine lv_aload_n hx hb dX7_lay_18 rfl (lv_at hl 0 rfl) ?_
    refine va_get (D := D) (ci := 6) (v := .int turn) (C := RX7) (T := TX7) (N := 11) hx hb hts uX7_lay_RX7 hown hK hP 0 rfl rfl 3 (by decide) (hts _ kX7_lay_2) (fun _ h9 => h9) rfl dX7_lay_19 ?_
    obtain ⟨gg, h⟩ := gd_el h
    obtain ⟨shelf_1, eshelf_1, h⟩ := lT_el h
    refine va_iast hx hb hK hP (hDD _ rfl) hS 2 0 rfl rfl (inb_in gg) dX7_lay_22 (fun zH zlocs hP _ hS => ?_)
    have hP : va_P D vwCl (wM cI cZ ad n many image turn (upd shelf (Int32.toNatClampNeg zx1) turn) groups inn now makers makerMany queue) zH := hP
    rw [← eshelf_1] at hP
    refine lv_iconst (v := 1) hx hb dX7_lay_23 (by decide) ?_
    cases h
    exact W.iret hx hb hr (fun t ht hW => ⟨rfl, by rw [ht]; exact hP, hS.F ht⟩) hS.2.2 dX7_lay_24
  · rw [if_pos cb] at h
    refine lv_bipush (v := (-2)) hx hb dX7_lay_10 (by decide) ?_
    cases h
    exact W.iret hx hb hr (fun t ht hW => ⟨rfl, by rw [ht]; exact hP, hS.F ht⟩) hS.2.2 dX7_lay_12
theorem zVX7_lay : yX7_lay.cls = RX7 ∧ yX7_lay.cls ≠ "java/lang/invoke/MethodHandle" ∧ yX7_lay.cls ≠ "java/lang/invoke/VarHandle" ∧ (parseMethodDescriptor yX7_lay.desc).map (fun d => d.parameters.length) = some 1 := by decide +kernel

/-! ===== public int take(int); ===== -/
theorem kX7_take_1 : Cond.fieldLink RX7 18 "TurnGroupsModel" "shelf" "[I" ∈ wsX7_take := by decide +kernel
theorem kX7_take_2 : Cond.fieldLink RX7 64 "TurnGroupsModel" "turn" "I" ∈ wsX7_take := by decide +kernel
theorem uX7_take_RX7 : ∀ w ∈ u_ws RX7 TX7 11, w ∈ wsX7_take := by decide +kernel
def mX7_take (turn : Int32) (shelf : Nat → Int32) (zx1 : Int32) : Option (Int32 × Int32) := if (mX7_isIn zx1 0 7) = 0 then (some ((-2), turn)) else (gd (inb zx1 8) (lT (shelf (Int32.toNatClampNeg zx1)) (fun turn_1 => some (1, turn_1))))
set_option maxRecDepth 100000 in
set_option maxHeartbeats 4000000 in
theorem qX7_take (l : Launch) (D : va_G) (cI : ClassId) (cZ : ClassId) (ad : Nat → Nat) (n : Int32) (many : Int32) (image : Nat → Int32) (turn : Int32) (shelf : Nat → Int32) (groups : Int32) (inn : Nat → Int32) (now : Nat → Int32) (makers : Nat → Int32) (makerMany : Nat → Int32) (queue : Nat → Int32) (zx1 : Int32) (zr0 : Int32) (oturn : Int32) (h : mX7_take turn shelf zx1 = some (zr0, oturn)) : Met l yX7_take wsX7_take ({ frames := 1, cells := 0, slots := 0, locals := 22 } : Room) (tg_PM D [(cI, .int), (cZ, .boolean)] [.ref (ad 0), .int zx1] (wM cI cZ ad n many image turn shelf groups inn now makers makerMany queue)) (tg_Mi D (wM cI cZ ad n many image turn shelf groups inn now makers makerMany queue) (wM cI cZ ad n many image oturn shelf groups inn now makers makerMany queue) zr0) 0 0 (tg_in (wM cI cZ ad n many image turn shelf groups inn now makers makerMany queue)) := by
  refine Met.ofW (cc := cX7_take) (maxL := 2) (ret := (some .int)) (by decide) rfl ?_
  intro p e s m zargs zbelow zmeth c s₁ B hml hv
  obtain ⟨hargs, hP, hK, hN, hD0⟩ := hv
  have hx := B.exec
  have hb := B.bytes
  have hr := B.returns
  have hts := atoms_spec (ws := wsX7_take) B.pre
  have hown : s.vm.findClass RX7 = some m.cls := findClass_of_methodNamed B.named
  have hlocks := B.notSynchronized
  have hDD : tg_DD (tg_in (wM cI cZ ad n many image turn shelf groups inn now makers makerMany queue)) [ad 0, ad 1, ad 2, ad 3, ad 4, ad 5, ad 6, ad 7] := tg_DD.of (tg_D hD0) rfl
  have hS : va_S (tg_in (wM cI cZ ad n many image turn shelf groups inn now makers makerMany queue)) s.heap s.heap [] := va_S.rf
  have hl := lv_entry ([.ref (ad 0), .int zx1]) (n := 2) (Nat.le_of_ble_eq_true rfl)
  refine W.eq (g2 := entryFrame m ([.ref (ad 0), .int zx1] : List Value).toArray 2) (by rw [hargs]) ?_
  rw [lg_entry_eq]
  generalize (lg_sl ([.ref (ad 0), .int zx1]) ++ List.replicate (2 - (lg_sl ([.ref (ad 0), .int zx1])).length) Slot.unset).toArray = zls at hl ⊢
  have hl : lv_has zls 2 [(0, .ref (ad 0)), (1, .int zx1)] := hl
  rw [mX7_take] at h
  refine lv_iload_n hx hb dX7_take_0 rfl (lv_at hl 1 rfl) ?_
  refine lv_iconst (v := 0) hx hb dX7_take_1 (by decide) ?_
  refine lv_bipush (v := 7) hx hb dX7_take_2 (by decide) ?_
  refine tg_cRi (va_runS (As := [.int zx1, .int 0, .int 7]) (rest := []) ⟨hx, hb, hml, hown, hts⟩ (qX7_isIn l D zx1 0 7 _ rfl) (va_cwS 3 hts gX7_take_X7_isIn rfl rfl rfl zSX7_isIn ⟨Nat.le_of_ble_eq_true rfl, Nat.le_of_ble_eq_true rfl⟩) (tg_preS tg_nil (hK.sub (tys' := []) [] rfl) hN) rfl rfl hl.1 rfl (lv_room (Nat.le_of_ble_eq_true rfl)) dX7_take_4 ⟨Nat.zero_le _, Nat.zero_le _⟩) ?_
  refine lv_if_ne (tgt := 13) hx hb dX7_take_7 (by decide) (fun cb => ?_) (fun cb => ?_)
  · rw [if_neg cb] at h
    refine lv_aload_n hx hb dX7_take_13 rfl (lv_at hl 0 rfl) ?_
    refine lv_aload_n hx hb dX7_take_14 rfl (lv_at hl 0 rfl) ?_
    refine va_get (D := D) (ci := 6) (v := .ref (ad 2)) (C := RX7) (T := TX7) (N := 11) hx hb hts uX7_take_RX7 hown hK hP 0 rfl rfl 4 (by decide) (hts _ kX7_take_1) (fun _ h9 => h9) rfl dX7_take_15 ?_
    refine lv_iload_n hx hb dX7_take_18 rfl (lv_at hl 1 rfl) ?_
    obtain ⟨gg, h⟩ := gd_el h
    refine va_iald hx hb hK hP 2 0 rfl rfl (inb_in gg) dX7_take_19 ?_
    obtain ⟨turn_1, eturn_1, h⟩ := lT_el h
    refine tg_top eturn_1 ?_
    refine va_put (D := D) (ci := 6) (v := .int turn_1) (ty := .int) (C := RX7) (T := TX7) (N := 11) hx hb hts uX7_take_RX7 tyX7 tyX7_ok nmX7 hown hK hP (hDD _ rfl) hS 0 rfl rfl 3 (by decide) (hts _ kX7_take_2) (fun _ h9 => h9) rfl (by decide +kernel) rfl rfl (Nat.le_of_ble_eq_true rfl) dX7_take_20 (fun zH zlocs hP _ hS => ?_)
    have hP : va_P D vwCl (wM cI cZ ad n many image turn_1 shelf groups inn now makers makerMany queue) zH := hP
    refine lv_iconst (v := 1) hx hb dX7_take_23 (by decide) ?_
    cases h
    exact W.iret hx hb hr (fun t ht hW => ⟨rfl, by rw [ht]; exact hP, hS.F ht⟩) hS.2.2 dX7_take_24
  · rw [if_pos cb] at h
    refine lv_bipush (v := (-2)) hx hb dX7_take_10 (by decide) ?_
    cases h
    exact W.iret hx hb hr (fun t ht hW => ⟨rfl, by rw [ht]; exact hP, hS.F ht⟩) hS.2.2 dX7_take_12
theorem zVX7_take : yX7_take.cls = RX7 ∧ yX7_take.cls ≠ "java/lang/invoke/MethodHandle" ∧ yX7_take.cls ≠ "java/lang/invoke/VarHandle" ∧ (parseMethodDescriptor yX7_take.desc).map (fun d => d.parameters.length) = some 1 := by decide +kernel

/-! ===== public int then(int); ===== -/
theorem kX7_then_1 : Cond.fieldLink RX7 64 "TurnGroupsModel" "turn" "I" ∈ wsX7_then := by decide +kernel
theorem kX7_then_2 : Cond.fieldLink RX7 18 "TurnGroupsModel" "shelf" "[I" ∈ wsX7_then := by decide +kernel
theorem uX7_then_RX7 : ∀ w ∈ u_ws RX7 TX7 11, w ∈ wsX7_then := by decide +kernel
def mX7_then (F : Nat) (n : Int32) (image : Nat → Int32) (turn : Int32) (shelf : Nat → Int32) (now : Nat → Int32) (zx1 : Int32) : Option (Int32 × Int32 × (Nat → Int32)) := if (mX7_isIn zx1 0 7) = 0 then (some ((-2), turn, now)) else (gd (inb zx1 8) (bd2 (mX7_oneThen F n image now turn (shelf (Int32.toNatClampNeg zx1))) (fun zr_1 now_1 => some (1, zr_1, now_1))))
set_option maxRecDepth 100000 in
set_option maxHeartbeats 4000000 in
theorem qX7_then (l : Launch) (D : va_G) (cI : ClassId) (cZ : ClassId) (ad : Nat → Nat) (n : Int32) (many : Int32) (image : Nat → Int32) (turn : Int32) (shelf : Nat → Int32) (groups : Int32) (inn : Nat → Int32) (now : Nat → Int32) (makers : Nat → Int32) (makerMany : Nat → Int32) (queue : Nat → Int32) (zx1 : Int32) (F : Nat) (zr0 : Int32) (oturn : Int32) (onow : Nat → Int32) (h : mX7_then F n image turn shelf now zx1 = some (zr0, oturn, onow)) : Met l yX7_then wsX7_then ({ frames := 2, cells := 0, slots := 0, locals := 47 } : Room) (tg_PM D [(cI, .int), (cZ, .boolean)] [.ref (ad 0), .int zx1] (wM cI cZ ad n many image turn shelf groups inn now makers makerMany queue)) (tg_Mi D (wM cI cZ ad n many image turn shelf groups inn now makers makerMany queue) (wM cI cZ ad n many image oturn shelf groups inn onow makers makerMany queue) zr0) 0 0 (tg_in (wM cI cZ ad n many image turn shelf groups inn now makers makerMany queue)) := by
  refine Met.ofW (cc := cX7_then) (maxL := 2) (ret := (some .int)) (by decide) rfl ?_
  intro p e s m zargs zbelow zmeth c s₁ B hml hv
  obtain ⟨hargs, hP, hK, hN, hD0⟩ := hv
  have hx := B.exec
  have hb := B.bytes
  have hr := B.returns
  have hts := atoms_spec (ws := wsX7_then) B.pre
  have hown : s.vm.findClass RX7 = some m.cls := findClass_of_methodNamed B.named
  have hlocks := B.notSynchronized
  have hDD : tg_DD (tg_in (wM cI cZ ad n many image turn shelf groups inn now makers makerMany queue)) [ad 0, ad 1, ad 2, ad 3, ad 4, ad 5, ad 6, ad 7] := tg_DD.of (tg_D hD0) rfl
  have hS : va_S (tg_in (wM cI cZ ad n many image turn shelf groups inn now makers makerMany queue)) s.heap s.heap [] := va_S.rf
  have hl := lv_entry ([.ref (ad 0), .int zx1]) (n := 2) (Nat.le_of_ble_eq_true rfl)
  refine W.eq (g2 := entryFrame m ([.ref (ad 0), .int zx1] : List Value).toArray 2) (by rw [hargs]) ?_
  rw [lg_entry_eq]
  generalize (lg_sl ([.ref (ad 0), .int zx1]) ++ List.replicate (2 - (lg_sl ([.ref (ad 0), .int zx1])).length) Slot.unset).toArray = zls at hl ⊢
  have hl : lv_has zls 2 [(0, .ref (ad 0)), (1, .int zx1)] := hl
  rw [mX7_then] at h
  refine lv_iload_n hx hb dX7_then_0 rfl (lv_at hl 1 rfl) ?_
  refine lv_iconst (v := 0) hx hb dX7_then_1 (by decide) ?_
  refine lv_bipush (v := 7) hx hb dX7_then_2 (by decide) ?_
  refine tg_cRi (va_runS (As := [.int zx1, .int 0, .int 7]) (rest := []) ⟨hx, hb, hml, hown, hts⟩ (qX7_isIn l D zx1 0 7 _ rfl) (va_cwS 3 hts gX7_then_X7_isIn rfl rfl rfl zSX7_isIn ⟨Nat.le_of_ble_eq_true rfl, Nat.le_of_ble_eq_true rfl⟩) (tg_preS tg_nil (hK.sub (tys' := []) [] rfl) hN) rfl rfl hl.1 rfl (lv_room (Nat.le_of_ble_eq_true rfl)) dX7_then_4 ⟨Nat.zero_le _, Nat.zero_le _⟩) ?_
  refine lv_if_ne (tgt := 13) hx hb dX7_then_7 (by decide) (fun cb => ?_) (fun cb => ?_)
  · rw [if_neg cb] at h
    refine lv_aload_n hx hb dX7_then_13 rfl (lv_at hl 0 rfl) ?_
    refine lv_aload_n hx hb dX7_then_14 rfl (lv_at hl 0 rfl) ?_
    refine lv_aload_n hx hb dX7_then_15 rfl (lv_at hl 0 rfl) ?_
    refine va_get (D := D) (ci := 6) (v := .int turn) (C := RX7) (T := TX7) (N := 11) hx hb hts uX7_then_RX7 hown hK hP 0 rfl rfl 3 (by decide) (hts _ kX7_then_1) (fun _ h9 => h9) rfl dX7_then_16 ?_
    refine lv_aload_n hx hb dX7_then_19 rfl (lv_at hl 0 rfl) ?_
    refine va_get (D := D) (ci := 6) (v := .ref (ad 2)) (C := RX7) (T := TX7) (N := 11) hx hb hts uX7_then_RX7 hown hK hP 0 rfl rfl 4 (by decide) (hts _ kX7_then_2) (fun _ h9 => h9) rfl dX7_then_20 ?_
    refine lv_iload_n hx hb dX7_then_23 rfl (lv_at hl 1 rfl) ?_
    obtain ⟨gg, h⟩ := gd_el h
    refine va_iald hx hb hK hP 2 0 rfl rfl (inb_in gg) dX7_then_24 ?_
    obtain ⟨zr_1, now_1, hc, h⟩ := bd2_el h
    refine tg_cMi (va_runV (As := [.int turn, .int (shelf (Int32.toNatClampNeg zx1))]) (rest := [.ref (ad 0)]) ⟨hx, hb, hml, hown, hts⟩ (qX7_oneThen l D cI cZ ad n many image turn shelf groups inn now makers makerMany queue turn (shelf (Int32.toNatClampNeg zx1)) F zr_1 now_1 hc) (cwV 2 hts gX7_then_X7_oneThen rfl rfl rfl zVX7_oneThen ⟨Nat.le_of_ble_eq_true rfl, Nat.le_of_ble_eq_true rfl⟩) (tg_preVM (r := (RX7, TX7, 11)) (ci := 6) (q0 := 0) hP (hDD _ rfl) hK hN rfl rfl) rfl rfl hl.1 rfl (lv_room (Nat.le_of_ble_eq_true rfl)) dX7_then_25 ⟨Nat.zero_le _, Nat.zero_le _⟩) hS (tg_inA (hDD _ rfl)) (fun zH zlocs _ hP hS => ?_)
    refine va_put (D := D) (ci := 6) (v := .int zr_1) (ty := .int) (C := RX7) (T := TX7) (N := 11) hx hb hts uX7_then_RX7 tyX7 tyX7_ok nmX7 hown hK hP (hDD _ rfl) hS 0 rfl rfl 3 (by decide) (hts _ kX7_then_1) (fun _ h9 => h9) rfl (by decide +kernel) rfl rfl (Nat.le_of_ble_eq_true rfl) dX7_then_28 (fun zH zlocs hP _ hS => ?_)
    have hP : va_P D vwCl (wM cI cZ ad n many image zr_1 shelf groups inn now_1 makers makerMany queue) zH := hP
    refine lv_iconst (v := 1) hx hb dX7_then_31 (by decide) ?_
    cases h
    exact W.iret hx hb hr (fun t ht hW => ⟨rfl, by rw [ht]; exact hP, hS.F ht⟩) hS.2.2 dX7_then_32
  · rw [if_pos cb] at h
    refine lv_bipush (v := (-2)) hx hb dX7_then_10 (by decide) ?_
    cases h
    exact W.iret hx hb hr (fun t ht hW => ⟨rfl, by rw [ht]; exact hP, hS.F ht⟩) hS.2.2 dX7_then_12
theorem zVX7_then : yX7_then.cls = RX7 ∧ yX7_then.cls ≠ "java/lang/invoke/MethodHandle" ∧ yX7_then.cls ≠ "java/lang/invoke/VarHandle" ∧ (parseMethodDescriptor yX7_then.desc).map (fun d => d.parameters.length) = some 1 := by decide +kernel

/-! ===== public int back(); ===== -/
theorem kX7_back_1 : Cond.fieldLink RX7 64 "TurnGroupsModel" "turn" "I" ∈ wsX7_back := by decide +kernel
theorem uX7_back_RX7 : ∀ w ∈ u_ws RX7 TX7 11, w ∈ wsX7_back := by decide +kernel
def mX7_back (F : Nat) (n : Int32) (image : Nat → Int32) (turn : Int32) (now : Nat → Int32) : Option (Int32 × Int32 × (Nat → Int32)) := bd2 (mX7_orderOf F n image now turn) (fun zr now_1 => bd2 (mX7_backOf F n image now_1 turn) (fun zr_1 now_2 => some (zr, zr_1, now_2)))
set_option maxRecDepth 100000 in
set_option maxHeartbeats 4000000 in
theorem qX7_back (l : Launch) (D : va_G) (cI : ClassId) (cZ : ClassId) (ad : Nat → Nat) (n : Int32) (many : Int32) (image : Nat → Int32) (turn : Int32) (shelf : Nat → Int32) (groups : Int32) (inn : Nat → Int32) (now : Nat → Int32) (makers : Nat → Int32) (makerMany : Nat → Int32) (queue : Nat → Int32) (F : Nat) (zr0 : Int32) (oturn : Int32) (onow : Nat → Int32) (h : mX7_back F n image turn now = some (zr0, oturn, onow)) : Met l yX7_back wsX7_back ({ frames := 3, cells := 0, slots := 0, locals := 70 } : Room) (tg_PM D [(cI, .int), (cZ, .boolean)] [.ref (ad 0)] (wM cI cZ ad n many image turn shelf groups inn now makers makerMany queue)) (tg_Mi D (wM cI cZ ad n many image turn shelf groups inn now makers makerMany queue) (wM cI cZ ad n many image oturn shelf groups inn onow makers makerMany queue) zr0) 0 0 (tg_in (wM cI cZ ad n many image turn shelf groups inn now makers makerMany queue)) := by
  refine Met.ofW (cc := cX7_back) (maxL := 2) (ret := (some .int)) (by decide) rfl ?_
  intro p e s m zargs zbelow zmeth c s₁ B hml hv
  obtain ⟨hargs, hP, hK, hN, hD0⟩ := hv
  have hx := B.exec
  have hb := B.bytes
  have hr := B.returns
  have hts := atoms_spec (ws := wsX7_back) B.pre
  have hown : s.vm.findClass RX7 = some m.cls := findClass_of_methodNamed B.named
  have hlocks := B.notSynchronized
  have hDD : tg_DD (tg_in (wM cI cZ ad n many image turn shelf groups inn now makers makerMany queue)) [ad 0, ad 1, ad 2, ad 3, ad 4, ad 5, ad 6, ad 7] := tg_DD.of (tg_D hD0) rfl
  have hS : va_S (tg_in (wM cI cZ ad n many image turn shelf groups inn now makers makerMany queue)) s.heap s.heap [] := va_S.rf
  have hl := lv_entry ([.ref (ad 0)]) (n := 2) (Nat.le_of_ble_eq_true rfl)
  refine W.eq (g2 := entryFrame m ([.ref (ad 0)] : List Value).toArray 2) (by rw [hargs]) ?_
  rw [lg_entry_eq]
  generalize (lg_sl ([.ref (ad 0)]) ++ List.replicate (2 - (lg_sl ([.ref (ad 0)])).length) Slot.unset).toArray = zls at hl ⊢
  have hl : lv_has zls 2 [(0, .ref (ad 0))] := hl
  rw [mX7_back] at h
  refine lv_aload_n hx hb dX7_back_0 rfl (lv_at hl 0 rfl) ?_
  refine lv_aload_n hx hb dX7_back_1 rfl (lv_at hl 0 rfl) ?_
  refine va_get (D := D) (ci := 6) (v := .int turn) (C := RX7) (T := TX7) (N := 11) hx hb hts uX7_back_RX7 hown hK hP 0 rfl rfl 3 (by decide) (hts _ kX7_back_1) (fun _ h9 => h9) rfl dX7_back_2 ?_
  obtain ⟨zr, now_1, hc, h⟩ := bd2_el h
  refine tg_cMi (va_runV (As := [.int turn]) (rest := []) ⟨hx, hb, hml, hown, hts⟩ (qX7_orderOf l D cI cZ ad n many image turn shelf groups inn now makers makerMany queue turn F zr now_1 hc) (cwV 1 hts gX7_back_X7_orderOf rfl rfl rfl zVX7_orderOf ⟨Nat.le_of_ble_eq_true rfl, Nat.le_of_ble_eq_true rfl⟩) (tg_preVM (r := (RX7, TX7, 11)) (ci := 6) (q0 := 0) hP (hDD _ rfl) hK hN rfl rfl) rfl rfl hl.1 rfl (lv_room (Nat.le_of_ble_eq_true rfl)) dX7_back_5 ⟨Nat.zero_le _, Nat.zero_le _⟩) hS (tg_inA (hDD _ rfl)) (fun zH zlocs _ hP hS => ?_)
  refine lv_istore_n (lv' := [(1, .int zr), (0, .ref (ad 0))]) hx hb dX7_back_8 rfl hl (by decide) rfl (fun zls hl => ?_)
  refine lv_aload_n hx hb dX7_back_9 rfl (lv_at hl 1 rfl) ?_
  refine lv_aload_n hx hb dX7_back_10 rfl (lv_at hl 1 rfl) ?_
  refine lv_aload_n hx hb dX7_back_11 rfl (lv_at hl 1 rfl) ?_
  refine va_get (D := D) (ci := 6) (v := .int turn) (C := RX7) (T := TX7) (N := 11) hx hb hts uX7_back_RX7 hown hK hP 0 rfl rfl 3 (by decide) (hts _ kX7_back_1) (fun _ h9 => h9) rfl dX7_back_12 ?_
  obtain ⟨zr_1, now_2, hc_1, h⟩ := bd2_el h
  refine tg_cMi (va_runV (As := [.int turn]) (rest := [.ref (ad 0)]) ⟨hx, hb, hml, hown, hts⟩ (qX7_backOf l D cI cZ ad n many image turn shelf groups inn now_1 makers makerMany queue turn F zr_1 now_2 hc_1) (cwV 1 hts gX7_back_X7_backOf rfl rfl rfl zVX7_backOf ⟨Nat.le_of_ble_eq_true rfl, Nat.le_of_ble_eq_true rfl⟩) (tg_preVM (r := (RX7, TX7, 11)) (ci := 6) (q0 := 0) hP (hDD _ rfl) hK hN rfl rfl) rfl rfl hl.1 rfl (lv_room (Nat.le_of_ble_eq_true rfl)) dX7_back_15 ⟨Nat.zero_le _, Nat.zero_le _⟩) hS (tg_inA (hDD _ rfl)) (fun zH zlocs _ hP hS => ?_)
  refine va_put (D := D) (ci := 6) (v := .int zr_1) (ty := .int) (C := RX7) (T := TX7) (N := 11) hx hb hts uX7_back_RX7 tyX7 tyX7_ok nmX7 hown hK hP (hDD _ rfl) hS 0 rfl rfl 3 (by decide) (hts _ kX7_back_1) (fun _ h9 => h9) rfl (by decide +kernel) rfl rfl (Nat.le_of_ble_eq_true rfl) dX7_back_18 (fun zH zlocs hP _ hS => ?_)
  have hP : va_P D vwCl (wM cI cZ ad n many image zr_1 shelf groups inn now_2 makers makerMany queue) zH := hP
  refine lv_iload_n hx hb dX7_back_21 rfl (lv_at hl 0 rfl) ?_
  cases h
  exact W.iret hx hb hr (fun t ht hW => ⟨rfl, by rw [ht]; exact hP, hS.F ht⟩) hS.2.2 dX7_back_22
theorem zVX7_back : yX7_back.cls = RX7 ∧ yX7_back.cls ≠ "java/lang/invoke/MethodHandle" ∧ yX7_back.cls ≠ "java/lang/invoke/VarHandle" ∧ (parseMethodDescriptor yX7_back.desc).map (fun d => d.parameters.length) = some 0 := by decide +kernel

/-! ===== public int power(int); ===== -/
theorem kX7_power_1 : Cond.fieldLink RX7 64 "TurnGroupsModel" "turn" "I" ∈ wsX7_power := by decide +kernel
theorem uX7_power_RX7 : ∀ w ∈ u_ws RX7 TX7 11, w ∈ wsX7_power := by decide +kernel
def mX7_power_L33 (F : Nat) (zx3 : Int32) (n : Int32) (image : Nat → Int32) (turn : Int32) : Nat → Int32 → Int32 → (Nat → Int32) → Option (Int32 × (Nat → Int32))
  | 0, _, _, _ => none
  | f + 1, zx4, zx5, now => if zx3 ≤ zx5 then (some (zx4, now)) else (bd2 (mX7_oneThen F n image now zx4 turn) (fun zr now_1 => mX7_power_L33 F zx3 n image turn f zr (zx5 + 1) now_1))
theorem mX7_power_L33_s (F : Nat) (zx3 : Int32) (n : Int32) (image : Nat → Int32) (turn : Int32) (f : Nat) (zx4 : Int32) (zx5 : Int32) (now : Nat → Int32) : mX7_power_L33 F zx3 n image turn (f + 1) zx4 zx5 now = (if zx3 ≤ zx5 then (some (zx4, now)) else (bd2 (mX7_oneThen F n image now zx4 turn) (fun zr now_1 => mX7_power_L33 F zx3 n image turn f zr (zx5 + 1) now_1))) := rfl
def mX7_power (F : Nat) (n : Int32) (image : Nat → Int32) (turn : Int32) (now : Nat → Int32) (zx1 : Int32) : Option (Int32 × Int32 × (Nat → Int32)) := bd2 (mX7_orderOf F n image now turn) (fun zr now_1 => gd (nzb zr) (bd (if 0 ≤ (zx1 - zx1 / zr * zr) then (gd (nzb zr) (some (zx1 - zx1 / zr * zr))) else (gd (nzb zr) (some ((zx1 - zx1 / zr * zr) + zr)))) (fun zv => bd2 (mX7_power_L33 F zv n image turn F 0 0 now_1) (fun zx4 now_2 => if zx4 = 0 then (some (1, zx4, now_2)) else (some (0, zx4, now_2))))))
set_option maxRecDepth 100000 in
set_option maxHeartbeats 4000000 in
theorem wX7_power_L33 {p : Program} {l : Launch} {e : Env} {s : State} {m : MethodId} {zargs : Array Value} {zbelow : List Frame} {zmeth : Method} {c : Code} {D : va_G} {zQ : State → Prop} {zA : Nat → Prop} {ad : Nat → Nat} {cI cZ : ClassId} {n : Int32} {many : Int32} {image : Nat → Int32} {turn : Int32} {shelf : Nat → Int32} {groups : Int32} {inn : Nat → Int32} {makers : Nat → Int32} {makerMany : Nat → Int32} {queue : Nat → Int32} {zx3 : Int32} (C0 : tg_C p s m zmeth c zargs cX7_power RX7 wsX7_power 6 D [(cI, .int), (cZ, .boolean)]) (hDD : tg_DD zA [ad 0, ad 1, ad 2, ad 3, ad 4, ad 5, ad 6, ad 7]) (hlocks : zmeth.locks = false) (hr : zmeth.sig.returnType = (some .int)) (F : Nat) : ∀ (f : Nat) (zx4 : Int32) (zx5 : Int32) (now : Nat → Int32) (zo4 : Int32) (onow : Nat → Int32), mX7_power_L33 F zx3 n image turn f zx4 zx5 now = some (zo4, onow) → ∀ (zH : Heap) (zlocs : List Loc), va_P D vwCl (wM cI cZ ad n many image turn shelf groups inn now makers makerMany queue) zH → va_S zA s.heap zH zlocs → ∀ (zls : Array Slot), lv_has zls 6 [(0, .ref (ad 0)), (3, .int zx3), (4, .int zx4), (5, .int zx5)] → (∀ (zH : Heap) (zlocs : List Loc), va_P D vwCl (wM cI cZ ad n many image turn shelf groups inn onow makers makerMany queue) zH → va_S zA s.heap zH zlocs → ∀ (zls : Array Slot), lv_has zls 6 [(0, .ref (ad 0)), (4, .int zo4)] → W p l e ({ frames := 3, cells := 0, slots := 0, locals := 70 } : Room) s m zargs zbelow zmeth c zH zlocs 0 0 zQ (F0 m 57 zls [])) → W p l e ({ frames := 3, cells := 0, slots := 0, locals := 70 } : Room) s m zargs zbelow zmeth c zH zlocs 0 0 zQ (F0 m 33 zls []) := by
  obtain ⟨hx, hb, hml, hown, hts, hK, hN⟩ := C0
  intro f
  induction f with
  | zero => intro _ _ _ _ _ h; exact absurd (show none = some _ from h) (fun h9 => by cases h9)
  | succ f ih =>
    intro zx4 zx5 now zo4 onow h zH zlocs hP hS zls hl kk
    rw [mX7_power_L33_s] at h
    refine lv_iload hx hb dX7_power_33 (lv_at hl 3 rfl) ?_
    refine lv_iload_n hx hb dX7_power_35 rfl (lv_at hl 1 rfl) ?_
    refine lv_icmp_ge (tgt := 57) hx hb dX7_power_36 (by decide) (fun cb => ?_) (fun cb => ?_)
    · rw [if_pos cb] at h
      cases h
      exact kk _ _ hP hS _ (lv_sub hl [0, 2] rfl)
    · rw [if_neg cb] at h
      refine lv_aload_n hx hb dX7_power_39 rfl (lv_at hl 0 rfl) ?_
      refine lv_iload hx hb dX7_power_40 (lv_at hl 2 rfl) ?_
      refine lv_aload_n hx hb dX7_power_42 rfl (lv_at hl 0 rfl) ?_
      refine va_get (D := D) (ci := 6) (v := .int turn) (C := RX7) (T := TX7) (N := 11) hx hb hts uX7_power_RX7 hown hK hP 0 rfl rfl 3 (by decide) (hts _ kX7_power_1) (fun _ h9 => h9) rfl dX7_power_43 ?_
      obtain ⟨zr, now_1, hc, h⟩ := bd2_el h
      refine tg_cMi (va_runV (As := [.int zx4, .int turn]) (rest := []) ⟨hx, hb, hml, hown, hts⟩ (qX7_oneThen l D cI cZ ad n many image turn shelf groups inn now makers makerMany queue zx4 turn F zr now_1 hc) (cwV 2 hts gX7_power_X7_oneThen rfl rfl rfl zVX7_oneThen ⟨Nat.le_of_ble_eq_true rfl, Nat.le_of_ble_eq_true rfl⟩) (tg_preVM (r := (RX7, TX7, 11)) (ci := 6) (q0 := 0) hP (hDD _ rfl) hK hN rfl rfl) rfl rfl hl.1 rfl (lv_room (Nat.le_of_ble_eq_true rfl)) dX7_power_46 ⟨Nat.zero_le _, Nat.zero_le _⟩) hS (tg_inA (hDD _ rfl)) (fun zH zlocs _ hP hS => ?_)
      refine lv_istore (lv' := [(4, .int zr), (0, .ref (ad 0)), (3, .int zx3), (5, .int zx5)]) hx hb dX7_power_49 hl (by decide) rfl (fun zls hl => ?_)
      refine lv_iinc (v := (zx5 + 1)) (lv' := [(5, .int (zx5 + 1)), (4, .int zr), (0, .ref (ad 0)), (3, .int zx3)]) hx hb dX7_power_51 hl (k := 3) rfl rfl (by decide) rfl (fun zls hl => ?_)
      refine lv_goto (tgt := 33) hx hb dX7_power_54 (by decide) ?_
      exact ih _ _ _ _ _ h _ _ hP hS _ (lv_sub hl [2, 3, 1, 0] rfl) kk
set_option maxRecDepth 100000 in
set_option maxHeartbeats 4000000 in
theorem qX7_power (l : Launch) (D : va_G) (cI : ClassId) (cZ : ClassId) (ad : Nat → Nat) (n : Int32) (many : Int32) (image : Nat → Int32) (turn : Int32) (shelf : Nat → Int32) (groups : Int32) (inn : Nat → Int32) (now : Nat → Int32) (makers : Nat → Int32) (makerMany : Nat → Int32) (queue : Nat → Int32) (zx1 : Int32) (F : Nat) (zr0 : Int32) (oturn : Int32) (onow : Nat → Int32) (h : mX7_power F n image turn now zx1 = some (zr0, oturn, onow)) : Met l yX7_power wsX7_power ({ frames := 3, cells := 0, slots := 0, locals := 70 } : Room) (tg_PM D [(cI, .int), (cZ, .boolean)] [.ref (ad 0), .int zx1] (wM cI cZ ad n many image turn shelf groups inn now makers makerMany queue)) (tg_Mi D (wM cI cZ ad n many image turn shelf groups inn now makers makerMany queue) (wM cI cZ ad n many image oturn shelf groups inn onow makers makerMany queue) zr0) 0 0 (tg_in (wM cI cZ ad n many image turn shelf groups inn now makers makerMany queue)) := by
  refine Met.ofW (cc := cX7_power) (maxL := 6) (ret := (some .int)) (by decide) rfl ?_
  intro p e s m zargs zbelow zmeth c s₁ B hml hv
  obtain ⟨hargs, hP, hK, hN, hD0⟩ := hv
  have hx := B.exec
  have hb := B.bytes
  have hr := B.returns
  have hts := atoms_spec (ws := wsX7_power) B.pre
  have hown : s.vm.findClass RX7 = some m.cls := findClass_of_methodNamed B.named
  have hlocks := B.notSynchronized
  have hDD : tg_DD (tg_in (wM cI cZ ad n many image turn shelf groups inn now makers makerMany queue)) [ad 0, ad 1, ad 2, ad 3, ad 4, ad 5, ad 6, ad 7] := tg_DD.of (tg_D hD0) rfl
  have hS : va_S (tg_in (wM cI cZ ad n many image turn shelf groups inn now makers makerMany queue)) s.heap s.heap [] := va_S.rf
  have hl := lv_entry ([.ref (ad 0), .int zx1]) (n := 6) (Nat.le_of_ble_eq_true rfl)
  refine W.eq (g2 := entryFrame m ([.ref (ad 0), .int zx1] : List Value).toArray 6) (by rw [hargs]) ?_
  rw [lg_entry_eq]
  generalize (lg_sl ([.ref (ad 0), .int zx1]) ++ List.replicate (6 - (lg_sl ([.ref (ad 0), .int zx1])).length) Slot.unset).toArray = zls at hl ⊢
  have hl : lv_has zls 6 [(0, .ref (ad 0)), (1, .int zx1)] := hl
  rw [mX7_power] at h
  refine lv_aload_n hx hb dX7_power_0 rfl (lv_at hl 0 rfl) ?_
  refine lv_aload_n hx hb dX7_power_1 rfl (lv_at hl 0 rfl) ?_
  refine va_get (D := D) (ci := 6) (v := .int turn) (C := RX7) (T := TX7) (N := 11) hx hb hts uX7_power_RX7 hown hK hP 0 rfl rfl 3 (by decide) (hts _ kX7_power_1) (fun _ h9 => h9) rfl dX7_power_2 ?_
  obtain ⟨zr, now_1, hc, h⟩ := bd2_el h
  refine tg_cMi (va_runV (As := [.int turn]) (rest := []) ⟨hx, hb, hml, hown, hts⟩ (qX7_orderOf l D cI cZ ad n many image turn shelf groups inn now makers makerMany queue turn F zr now_1 hc) (cwV 1 hts gX7_power_X7_orderOf rfl rfl rfl zVX7_orderOf ⟨Nat.le_of_ble_eq_true rfl, Nat.le_of_ble_eq_true rfl⟩) (tg_preVM (r := (RX7, TX7, 11)) (ci := 6) (q0 := 0) hP (hDD _ rfl) hK hN rfl rfl) rfl rfl hl.1 rfl (lv_room (Nat.le_of_ble_eq_true rfl)) dX7_power_5 ⟨Nat.zero_le _, Nat.zero_le _⟩) hS (tg_inA (hDD _ rfl)) (fun zH zlocs _ hP hS => ?_)
  refine lv_istore_n (lv' := [(2, .int zr), (0, .ref (ad 0)), (1, .int zx1)]) hx hb dX7_power_8 rfl hl (by decide) rfl (fun zls hl => ?_)
  refine lv_iload_n hx hb dX7_power_9 rfl (lv_at hl 2 rfl) ?_
  refine lv_iload_n hx hb dX7_power_10 rfl (lv_at hl 0 rfl) ?_
  obtain ⟨gg, h⟩ := gd_el h
  refine lv_irem hx hb dX7_power_11 (nzb_el gg) ?_
  obtain ⟨zv, hv, h⟩ := bd_el h
  have hj : W p l e ({ frames := 3, cells := 0, slots := 0, locals := 70 } : Room) s m zargs zbelow zmeth c zH zlocs 0 0 (MQ zbelow (tg_Mi D (wM cI cZ ad n many image turn shelf groups inn now makers makerMany queue) (wM cI cZ ad n many image oturn shelf groups inn onow makers makerMany queue) zr0) zargs s 0 0 (tg_in (wM cI cZ ad n many image turn shelf groups inn now makers makerMany queue))) (F0 m 26 zls [.int zv]) := by
    refine lv_istore_n (lv' := [(3, .int zv), (2, .int zr), (0, .ref (ad 0)), (1, .int zx1)]) hx hb dX7_power_26 rfl hl (by decide) rfl (fun zls hl => ?_)
    refine lv_iconst (v := 0) hx hb dX7_power_27 (by decide) ?_
    refine lv_istore (lv' := [(4, .int 0), (3, .int zv), (2, .int zr), (0, .ref (ad 0)), (1, .int zx1)]) hx hb dX7_power_28 hl (by decide) rfl (fun zls hl => ?_)
    refine lv_iconst (v := 0) hx hb dX7_power_30 (by decide) ?_
    refine lv_istore (lv' := [(5, .int 0), (4, .int 0), (3, .int zv), (2, .int zr), (0, .ref (ad 0)), (1, .int zx1)]) hx hb dX7_power_31 hl (by decide) rfl (fun zls hl => ?_)
    obtain ⟨zx4, now_2, hv_1, h⟩ := bd2_el h
    refine wX7_power_L33 ⟨hx, hb, hml, hown, hts, hK, hN⟩ hDD hlocks hr F F _ _ _ _ _ hv_1 _ _ hP hS _ (lv_sub hl [4, 2, 1, 0] rfl) (fun zH zlocs hP hS zls hl => ?_)
    refine lv_aload_n hx hb dX7_power_57 rfl (lv_at hl 0 rfl) ?_
    refine lv_iload hx hb dX7_power_58 (lv_at hl 1 rfl) ?_
    refine va_put (D := D) (ci := 6) (v := .int zx4) (ty := .int) (C := RX7) (T := TX7) (N := 11) hx hb hts uX7_power_RX7 tyX7 tyX7_ok nmX7 hown hK hP (hDD _ rfl) hS 0 rfl rfl 3 (by decide) (hts _ kX7_power_1) (fun _ h9 => h9) rfl (by decide +kernel) rfl rfl (Nat.le_of_ble_eq_true rfl) dX7_power_60 (fun zH zlocs hP _ hS => ?_)
    have hP : va_P D vwCl (wM cI cZ ad n many image zx4 shelf groups inn now_2 makers makerMany queue) zH := hP
    refine lv_aload_n hx hb dX7_power_63 rfl (lv_at hl 0 rfl) ?_
    refine va_get (D := D) (ci := 6) (v := .int zx4) (C := RX7) (T := TX7) (N := 11) hx hb hts uX7_power_RX7 hown hK hP 0 rfl rfl 3 (by decide) (hts _ kX7_power_1) (fun _ h9 => h9) rfl dX7_power_64 ?_
    refine lv_if_ne (tgt := 74) hx hb dX7_power_67 (by decide) (fun cb => ?_) (fun cb => ?_)
    · rw [if_neg cb] at h
      refine lv_iconst (v := 0) hx hb dX7_power_74 (by decide) ?_
      cases h
      exact W.iret hx hb hr (fun t ht hW => ⟨rfl, by rw [ht]; exact hP, hS.F ht⟩) hS.2.2 dX7_power_75
    · rw [if_pos cb] at h
      refine lv_iconst (v := 1) hx hb dX7_power_70 (by decide) ?_
      refine lv_goto (tgt := 75) hx hb dX7_power_71 (by decide) ?_
      cases h
      exact W.iret hx hb hr (fun t ht hW => ⟨rfl, by rw [ht]; exact hP, hS.F ht⟩) hS.2.2 dX7_power_75
  refine lv_if_ge (tgt := 23) hx hb dX7_power_12 (by decide) (fun cb_1 => ?_) (fun cb_1 => ?_)
  · rw [if_pos cb_1] at hv
    refine lv_iload_n hx hb dX7_power_23 rfl (lv_at hl 2 rfl) ?_
    refine lv_iload_n hx hb dX7_power_24 rfl (lv_at hl 0 rfl) ?_
    obtain ⟨gg_1, hv⟩ := gd_el hv
    refine lv_irem hx hb dX7_power_25 (nzb_el gg_1) ?_
    cases hv
    exact hj 
  · rw [if_neg cb_1] at hv
    refine lv_iload_n hx hb dX7_power_15 rfl (lv_at hl 2 rfl) ?_
    refine lv_iload_n hx hb dX7_power_16 rfl (lv_at hl 0 rfl) ?_
    obtain ⟨gg_2, hv⟩ := gd_el hv
    refine lv_irem hx hb dX7_power_17 (nzb_el gg_2) ?_
    refine lv_iload_n hx hb dX7_power_18 rfl (lv_at hl 0 rfl) ?_
    refine lv_iadd hx hb dX7_power_19 ?_
    refine lv_goto (tgt := 26) hx hb dX7_power_20 (by decide) ?_
    cases hv
    exact hj 
theorem zVX7_power : yX7_power.cls = RX7 ∧ yX7_power.cls ≠ "java/lang/invoke/MethodHandle" ∧ yX7_power.cls ≠ "java/lang/invoke/VarHandle" ∧ (parseMethodDescriptor yX7_power.desc).map (fun d => d.parameters.length) = some 1 := by decide +kernel

/-! ===== public int group(int); ===== -/
theorem kX7_group_1 : Cond.fieldLink RX7 61 "TurnGroupsModel" "groups" "I" ∈ wsX7_group := by decide +kernel
theorem kX7_group_2 : Cond.fieldLink RX7 46 "TurnGroupsModel" "many" "I" ∈ wsX7_group := by decide +kernel
theorem kX7_group_3 : Cond.fieldLink RX7 22 "TurnGroupsModel" "in" "[Z" ∈ wsX7_group := by decide +kernel
theorem kX7_group_4 : Cond.constant RX7 35 (40320) ∈ wsX7_group := by decide +kernel
theorem uX7_group_RX7 : ∀ w ∈ u_ws RX7 TX7 11, w ∈ wsX7_group := by decide +kernel
def mX7_group_L26 (F : Nat) (zx1 : Int32) (n : Int32) (many : Int32) (image : Nat → Int32) (groups : Int32) : Nat → Int32 → (Nat → Int32) → Option ((Nat → Int32))
  | 0, _, _ => none
  | f + 1, zx2, inn => if many ≤ zx2 then (some inn) else (bd (if zx1 = 1 then (some 1) else (if zx2 = 0 then (some 1) else (if zx1 = 2 then (bd (mX7_isEven F n image zx2) (fun zr => if zr = 0 then (some 0) else (some 1))) else (some 0)))) (fun zv => gd (inb ((40320 * groups) + zx2) 524160) (lT (upd inn (Int32.toNatClampNeg ((40320 * groups) + zx2)) (vp_nar .boolean zv)) (fun inn_1 => mX7_group_L26 F zx1 n many image groups f (zx2 + 1) inn_1))))
theorem mX7_group_L26_s (F : Nat) (zx1 : Int32) (n : Int32) (many : Int32) (image : Nat → Int32) (groups : Int32) (f : Nat) (zx2 : Int32) (inn : Nat → Int32) : mX7_group_L26 F zx1 n many image groups (f + 1) zx2 inn = (if many ≤ zx2 then (some inn) else (bd (if zx1 = 1 then (some 1) else (if zx2 = 0 then (some 1) else (if zx1 = 2 then (bd (mX7_isEven F n image zx2) (fun zr => if zr = 0 then (some 0) else (some 1))) else (some 0)))) (fun zv => gd (inb ((40320 * groups) + zx2) 524160) (lT (upd inn (Int32.toNatClampNeg ((40320 * groups) + zx2)) (vp_nar .boolean zv)) (fun inn_1 => mX7_group_L26 F zx1 n many image groups f (zx2 + 1) inn_1))))) := rfl
def mX7_group (F : Nat) (n : Int32) (many : Int32) (image : Nat → Int32) (groups : Int32) (inn : Nat → Int32) (zx1 : Int32) : Option (Int32 × Int32 × (Nat → Int32)) := if (mX7_isIn zx1 0 2) = 0 then (some ((-2), groups, inn)) else (if groups = 10 then (some ((-3), groups, inn)) else (bd (mX7_group_L26 F zx1 n many image groups F 0 inn) (fun inn_1 => bd3 (mX7_newGroup F many groups inn_1 (-1)) (fun zr_1 groups_1 inn_2 => some (zr_1, groups_1, inn_2)))))
set_option maxRecDepth 100000 in
set_option maxHeartbeats 4000000 in
theorem wX7_group_L26 {p : Program} {l : Launch} {e : Env} {s : State} {m : MethodId} {zargs : Array Value} {zbelow : List Frame} {zmeth : Method} {c : Code} {D : va_G} {zQ : State → Prop} {zA : Nat → Prop} {ad : Nat → Nat} {cI cZ : ClassId} {n : Int32} {many : Int32} {image : Nat → Int32} {turn : Int32} {shelf : Nat → Int32} {groups : Int32} {now : Nat → Int32} {makers : Nat → Int32} {makerMany : Nat → Int32} {queue : Nat → Int32} {zx1 : Int32} (C0 : tg_C p s m zmeth c zargs cX7_group RX7 wsX7_group 3 D [(cI, .int), (cZ, .boolean)]) (hDD : tg_DD zA [ad 0, ad 1, ad 2, ad 3, ad 4, ad 5, ad 6, ad 7]) (hlocks : zmeth.locks = false) (hr : zmeth.sig.returnType = (some .int)) (F : Nat) : ∀ (f : Nat) (zx2 : Int32) (inn : Nat → Int32) (oinn : Nat → Int32), mX7_group_L26 F zx1 n many image groups f zx2 inn = some oinn → ∀ (zH : Heap) (zlocs : List Loc), va_P D vwCl (wM cI cZ ad n many image turn shelf groups inn now makers makerMany queue) zH → va_S zA s.heap zH zlocs → ∀ (zls : Array Slot), lv_has zls 3 [(0, .ref (ad 0)), (1, .int zx1), (2, .int zx2)] → (∀ (zH : Heap) (zlocs : List Loc), va_P D vwCl (wM cI cZ ad n many image turn shelf groups oinn now makers makerMany queue) zH → va_S zA s.heap zH zlocs → ∀ (zls : Array Slot), lv_has zls 3 [(0, .ref (ad 0))] → W p l e ({ frames := 2, cells := 0, slots := 0, locals := 44 } : Room) s m zargs zbelow zmeth c zH zlocs 0 0 zQ (F0 m 81 zls [])) → W p l e ({ frames := 2, cells := 0, slots := 0, locals := 44 } : Room) s m zargs zbelow zmeth c zH zlocs 0 0 zQ (F0 m 26 zls []) := by
  obtain ⟨hx, hb, hml, hown, hts, hK, hN⟩ := C0
  intro f
  induction f with
  | zero => intro _ _ _ h; exact absurd (show none = some _ from h) (fun h9 => by cases h9)
  | succ f ih =>
    intro zx2 inn oinn h zH zlocs hP hS zls hl kk
    rw [mX7_group_L26_s] at h
    refine lv_iload_n hx hb dX7_group_26 rfl (lv_at hl 2 rfl) ?_
    refine lv_aload_n hx hb dX7_group_27 rfl (lv_at hl 0 rfl) ?_
    refine va_get (D := D) (ci := 6) (v := .int many) (C := RX7) (T := TX7) (N := 11) hx hb hts uX7_group_RX7 hown hK hP 0 rfl rfl 1 (by decide) (hts _ kX7_group_2) (fun _ h9 => h9) rfl dX7_group_28 ?_
    refine lv_icmp_ge (tgt := 81) hx hb dX7_group_31 (by decide) (fun cb => ?_) (fun cb => ?_)
    · rw [if_pos cb] at h
      cases h
      exact kk _ _ hP hS _ (lv_sub hl [0] rfl)
    · rw [if_neg cb] at h
      refine lv_aload_n hx hb dX7_group_34 rfl (lv_at hl 0 rfl) ?_
      refine va_get (D := D) (ci := 6) (v := .ref (ad 3)) (C := RX7) (T := TX7) (N := 11) hx hb hts uX7_group_RX7 hown hK hP 0 rfl rfl 6 (by decide) (hts _ kX7_group_3) (fun _ h9 => h9) rfl dX7_group_35 ?_
      refine lv_ldc hx hb hown (hts _ kX7_group_4) dX7_group_38 ?_
      refine lv_aload_n hx hb dX7_group_40 rfl (lv_at hl 0 rfl) ?_
      refine va_get (D := D) (ci := 6) (v := .int groups) (C := RX7) (T := TX7) (N := 11) hx hb hts uX7_group_RX7 hown hK hP 0 rfl rfl 5 (by decide) (hts _ kX7_group_1) (fun _ h9 => h9) rfl dX7_group_41 ?_
      refine lv_imul hx hb dX7_group_44 ?_
      refine lv_iload_n hx hb dX7_group_45 rfl (lv_at hl 2 rfl) ?_
      refine lv_iadd hx hb dX7_group_46 ?_
      refine lv_iload_n hx hb dX7_group_47 rfl (lv_at hl 1 rfl) ?_
      refine lv_iconst (v := 1) hx hb dX7_group_48 (by decide) ?_
      obtain ⟨zv, hv, h⟩ := bd_el h
      have hj : W p l e ({ frames := 2, cells := 0, slots := 0, locals := 44 } : Room) s m zargs zbelow zmeth c zH zlocs 0 0 zQ (F0 m 74 zls [.int zv, .int ((40320 * groups) + zx2), .ref (ad 3)]) := by
        obtain ⟨gg, h⟩ := gd_el h
        obtain ⟨inn_1, einn_1, h⟩ := lT_el h
        refine va_zast hx hb hK hP (hDD _ rfl) hS 3 1 rfl rfl (inb_in gg) dX7_group_74 (fun zH zlocs hP _ hS => ?_)
        have hP : va_P D vwCl (wM cI cZ ad n many image turn shelf groups (upd inn (Int32.toNatClampNeg ((40320 * groups) + zx2)) (vp_nar .boolean zv)) now makers makerMany queue) zH := hP
        rw [← einn_1] at hP
        refine lv_iinc (v := (zx2 + 1)) (lv' := [(2, .int (zx2 + 1)), (0, .ref (ad 0)), (1, .int zx1)]) hx hb dX7_group_75 hl (k := 2) rfl rfl (by decide) rfl (fun zls hl => ?_)
        refine lv_goto (tgt := 26) hx hb dX7_group_78 (by decide) ?_
        exact ih _ _ _ h _ _ hP hS _ (lv_sub hl [1, 2, 0] rfl) kk
      refine lv_icmp_eq (tgt := 69) hx hb dX7_group_49 (by decide) (fun cb_1 => ?_) (fun cb_1 => ?_)
      · rw [if_pos cb_1] at hv
        refine lv_iconst (v := 1) hx hb dX7_group_69 (by decide) ?_
        refine lv_goto (tgt := 74) hx hb dX7_group_70 (by decide) ?_
        cases hv
        exact hj 
      · rw [if_neg cb_1] at hv
        refine lv_iload_n hx hb dX7_group_52 rfl (lv_at hl 2 rfl) ?_
        refine lv_if_eq (tgt := 69) hx hb dX7_group_53 (by decide) (fun cb_2 => ?_) (fun cb_2 => ?_)
        · rw [if_pos cb_2] at hv
          refine lv_iconst (v := 1) hx hb dX7_group_69 (by decide) ?_
          refine lv_goto (tgt := 74) hx hb dX7_group_70 (by decide) ?_
          cases hv
          exact hj 
        · rw [if_neg cb_2] at hv
          refine lv_iload_n hx hb dX7_group_56 rfl (lv_at hl 1 rfl) ?_
          refine lv_iconst (v := 2) hx hb dX7_group_57 (by decide) ?_
          refine lv_icmp_ne (tgt := 73) hx hb dX7_group_58 (by decide) (fun cb_3 => ?_) (fun cb_3 => ?_)
          · rw [if_neg cb_3] at hv
            refine lv_iconst (v := 0) hx hb dX7_group_73 (by decide) ?_
            cases hv
            exact hj 
          · rw [if_pos cb_3] at hv
            refine lv_aload_n hx hb dX7_group_61 rfl (lv_at hl 0 rfl) ?_
            refine lv_iload_n hx hb dX7_group_62 rfl (lv_at hl 2 rfl) ?_
            obtain ⟨zr, hc, hv⟩ := bd_el hv
            refine tg_cRi (va_runV (As := [.int zx2]) (rest := [.int ((40320 * groups) + zx2), .ref (ad 3)]) ⟨hx, hb, hml, hown, hts⟩ (qX7_isEven l D cI cZ ad n many image turn shelf groups inn now makers makerMany queue zx2 F zr hc) (cwV 1 hts gX7_group_X7_isEven rfl rfl rfl zVX7_isEven ⟨Nat.le_of_ble_eq_true rfl, Nat.le_of_ble_eq_true rfl⟩) (tg_preV (r := (RX7, TX7, 11)) (ci := 6) (q0 := 0) hP hK hN rfl rfl) rfl rfl hl.1 rfl (lv_room (Nat.le_of_ble_eq_true rfl)) dX7_group_63 ⟨Nat.zero_le _, Nat.zero_le _⟩) ?_
            refine lv_if_eq (tgt := 73) hx hb dX7_group_66 (by decide) (fun cb_4 => ?_) (fun cb_4 => ?_)
            · rw [if_pos cb_4] at hv
              refine lv_iconst (v := 0) hx hb dX7_group_73 (by decide) ?_
              cases hv
              exact hj 
            · rw [if_neg cb_4] at hv
              refine lv_iconst (v := 1) hx hb dX7_group_69 (by decide) ?_
              refine lv_goto (tgt := 74) hx hb dX7_group_70 (by decide) ?_
              cases hv
              exact hj 
set_option maxRecDepth 100000 in
set_option maxHeartbeats 4000000 in
theorem qX7_group (l : Launch) (D : va_G) (cI : ClassId) (cZ : ClassId) (ad : Nat → Nat) (n : Int32) (many : Int32) (image : Nat → Int32) (turn : Int32) (shelf : Nat → Int32) (groups : Int32) (inn : Nat → Int32) (now : Nat → Int32) (makers : Nat → Int32) (makerMany : Nat → Int32) (queue : Nat → Int32) (zx1 : Int32) (F : Nat) (zr0 : Int32) (ogroups : Int32) (oinn : Nat → Int32) (h : mX7_group F n many image groups inn zx1 = some (zr0, ogroups, oinn)) : Met l yX7_group wsX7_group ({ frames := 2, cells := 0, slots := 0, locals := 44 } : Room) (tg_PM D [(cI, .int), (cZ, .boolean)] [.ref (ad 0), .int zx1] (wM cI cZ ad n many image turn shelf groups inn now makers makerMany queue)) (tg_Mi D (wM cI cZ ad n many image turn shelf groups inn now makers makerMany queue) (wM cI cZ ad n many image turn shelf ogroups oinn now makers makerMany queue) zr0) 0 0 (tg_in (wM cI cZ ad n many image turn shelf groups inn now makers makerMany queue)) := by
  refine Met.ofW (cc := cX7_group) (maxL := 3) (ret := (some .int)) (by decide) rfl ?_
  intro p e s m zargs zbelow zmeth c s₁ B hml hv
  obtain ⟨hargs, hP, hK, hN, hD0⟩ := hv
  have hx := B.exec
  have hb := B.bytes
  have hr := B.returns
  have hts := atoms_spec (ws := wsX7_group) B.pre
  have hown : s.vm.findClass RX7 = some m.cls := findClass_of_methodNamed B.named
  have hlocks := B.notSynchronized
  have hDD : tg_DD (tg_in (wM cI cZ ad n many image turn shelf groups inn now makers makerMany queue)) [ad 0, ad 1, ad 2, ad 3, ad 4, ad 5, ad 6, ad 7] := tg_DD.of (tg_D hD0) rfl
  have hS : va_S (tg_in (wM cI cZ ad n many image turn shelf groups inn now makers makerMany queue)) s.heap s.heap [] := va_S.rf
  have hl := lv_entry ([.ref (ad 0), .int zx1]) (n := 3) (Nat.le_of_ble_eq_true rfl)
  refine W.eq (g2 := entryFrame m ([.ref (ad 0), .int zx1] : List Value).toArray 3) (by rw [hargs]) ?_
  rw [lg_entry_eq]
  generalize (lg_sl ([.ref (ad 0), .int zx1]) ++ List.replicate (3 - (lg_sl ([.ref (ad 0), .int zx1])).length) Slot.unset).toArray = zls at hl ⊢
  have hl : lv_has zls 3 [(0, .ref (ad 0)), (1, .int zx1)] := hl
  rw [mX7_group] at h
  refine lv_iload_n hx hb dX7_group_0 rfl (lv_at hl 1 rfl) ?_
  refine lv_iconst (v := 0) hx hb dX7_group_1 (by decide) ?_
  refine lv_iconst (v := 2) hx hb dX7_group_2 (by decide) ?_
  refine tg_cRi (va_runS (As := [.int zx1, .int 0, .int 2]) (rest := []) ⟨hx, hb, hml, hown, hts⟩ (qX7_isIn l D zx1 0 2 _ rfl) (va_cwS 3 hts gX7_group_X7_isIn rfl rfl rfl zSX7_isIn ⟨Nat.le_of_ble_eq_true rfl, Nat.le_of_ble_eq_true rfl⟩) (tg_preS tg_nil (hK.sub (tys' := []) [] rfl) hN) rfl rfl hl.1 rfl (lv_room (Nat.le_of_ble_eq_true rfl)) dX7_group_3 ⟨Nat.zero_le _, Nat.zero_le _⟩) ?_
  refine lv_if_ne (tgt := 12) hx hb dX7_group_6 (by decide) (fun cb => ?_) (fun cb => ?_)
  · rw [if_neg cb] at h
    refine lv_aload_n hx hb dX7_group_12 rfl (lv_at hl 0 rfl) ?_
    refine va_get (D := D) (ci := 6) (v := .int groups) (C := RX7) (T := TX7) (N := 11) hx hb hts uX7_group_RX7 hown hK hP 0 rfl rfl 5 (by decide) (hts _ kX7_group_1) (fun _ h9 => h9) rfl dX7_group_13 ?_
    refine lv_bipush (v := 10) hx hb dX7_group_16 (by decide) ?_
    refine lv_icmp_ne (tgt := 24) hx hb dX7_group_18 (by decide) (fun cb_1 => ?_) (fun cb_1 => ?_)
    · rw [if_neg cb_1] at h
      refine lv_iconst (v := 0) hx hb dX7_group_24 (by decide) ?_
      refine lv_istore_n (lv' := [(2, .int 0), (0, .ref (ad 0)), (1, .int zx1)]) hx hb dX7_group_25 rfl hl (by decide) rfl (fun zls hl => ?_)
      obtain ⟨inn_1, hv, h⟩ := bd_el h
      refine wX7_group_L26 ⟨hx, hb, hml, hown, hts, hK, hN⟩ hDD hlocks hr F F _ _ _ hv _ _ hP hS _ (lv_sub hl [1, 2, 0] rfl) (fun zH zlocs hP hS zls hl => ?_)
      refine lv_aload_n hx hb dX7_group_81 rfl (lv_at hl 0 rfl) ?_
      refine lv_iconst (v := (-1)) hx hb dX7_group_82 (by decide) ?_
      obtain ⟨zr_1, groups_1, inn_2, hc, h⟩ := bd3_el h
      refine tg_cMi (va_runV (As := [.int (-1)]) (rest := []) ⟨hx, hb, hml, hown, hts⟩ (qX7_newGroup l D cI cZ ad n many image turn shelf groups inn_1 now makers makerMany queue (-1) F zr_1 groups_1 inn_2 hc) (cwV 1 hts gX7_group_X7_newGroup rfl rfl rfl zVX7_newGroup ⟨Nat.le_of_ble_eq_true rfl, Nat.le_of_ble_eq_true rfl⟩) (tg_preVM (r := (RX7, TX7, 11)) (ci := 6) (q0 := 0) hP (hDD _ rfl) hK hN rfl rfl) rfl rfl hl.1 rfl (lv_room (Nat.le_of_ble_eq_true rfl)) dX7_group_83 ⟨Nat.zero_le _, Nat.zero_le _⟩) hS (tg_inA (hDD _ rfl)) (fun zH zlocs _ hP hS => ?_)
      cases h
      exact W.iret hx hb hr (fun t ht hW => ⟨rfl, by rw [ht]; exact hP, hS.F ht⟩) hS.2.2 dX7_group_86
    · rw [if_pos cb_1] at h
      refine lv_bipush (v := (-3)) hx hb dX7_group_21 (by decide) ?_
      cases h
      exact W.iret hx hb hr (fun t ht hW => ⟨rfl, by rw [ht]; exact hP, hS.F ht⟩) hS.2.2 dX7_group_23
  · rw [if_pos cb] at h
    refine lv_bipush (v := (-2)) hx hb dX7_group_9 (by decide) ?_
    cases h
    exact W.iret hx hb hr (fun t ht hW => ⟨rfl, by rw [ht]; exact hP, hS.F ht⟩) hS.2.2 dX7_group_11
theorem zVX7_group : yX7_group.cls = RX7 ∧ yX7_group.cls ≠ "java/lang/invoke/MethodHandle" ∧ yX7_group.cls ≠ "java/lang/invoke/VarHandle" ∧ (parseMethodDescriptor yX7_group.desc).map (fun d => d.parameters.length) = some 1 := by decide +kernel
