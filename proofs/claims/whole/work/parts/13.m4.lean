/-! ===== public int add(int); ===== -/
theorem kX7_add_1 : Cond.fieldLink RX7 64 "TurnGroupsModel" "turn" "I" ∈ wsX7_add := by decide +kernel
theorem uX7_add_RX7 : ∀ w ∈ u_ws RX7 TX7 11, w ∈ wsX7_add := by decide +kernel
def mX7_add (F : Nat) (n : Int32) (many : Int32) (image : Nat → Int32) (turn : Int32) (groups : Int32) (inn : Nat → Int32) (now : Nat → Int32) (makers : Nat → Int32) (makerMany : Nat → Int32) (queue : Nat → Int32) (zx1 : Int32) : Option (Int32 × (Nat → Int32) × (Nat → Int32) × (Nat → Int32) × (Nat → Int32) × (Nat → Int32)) := bd (mX7_isGroup groups zx1) (fun zr => if zr = 0 then (some ((-2 : Int32), inn, now, makers, makerMany, queue)) else (bd (mX7_hasIt inn zx1 turn) (fun zr_1 => if zr_1 = 0 then (bd2 (mX7_begin F many inn makerMany 10) (fun inn_1 makerMany_1 => bd5 (mX7_joinAll F n many image inn_1 now makers makerMany_1 queue 10 zx1) (fun inn_2 now_1 makers_1 makerMany_2 queue_1 => bd5 (mX7_join F n many image inn_2 now_1 makers_1 makerMany_2 queue_1 10 turn) (fun inn_3 now_2 makers_2 makerMany_3 queue_2 => bd (mX7_copy F many inn_3 10 zx1) (fun inn_4 => some ((0 : Int32), inn_4, now_2, makers_2, makerMany_3, queue_2)))))) else (some ((1 : Int32), inn, now, makers, makerMany, queue)))))
set_option maxRecDepth 100000 in
set_option maxHeartbeats 4000000 in
theorem qX7_add (l : Launch) (D : va_G) (cI : ClassId) (cZ : ClassId) (ad : Nat → Nat) (n : Int32) (many : Int32) (image : Nat → Int32) (turn : Int32) (shelf : Nat → Int32) (groups : Int32) (inn : Nat → Int32) (now : Nat → Int32) (makers : Nat → Int32) (makerMany : Nat → Int32) (queue : Nat → Int32) (zx1 : Int32) (F : Nat) (zr0 : Int32) (oinn : Nat → Int32) (onow : Nat → Int32) (omakers : Nat → Int32) (omakerMany : Nat → Int32) (oqueue : Nat → Int32) (h : mX7_add F n many image turn groups inn now makers makerMany queue zx1 = some (zr0, oinn, onow, omakers, omakerMany, oqueue)) : Met l yX7_add wsX7_add ({ frames := 4, cells := 0, slots := 0, locals := 96 } : Room) (tg_PM D [(cI, .int), (cZ, .boolean)] [.ref (ad 0), .int zx1] (wM cI cZ ad n many image turn shelf groups inn now makers makerMany queue)) (tg_Mi D (wM cI cZ ad n many image turn shelf groups inn now makers makerMany queue) (wM cI cZ ad n many image turn shelf groups oinn onow omakers omakerMany oqueue) zr0) 0 0 (tg_in (wM cI cZ ad n many image turn shelf groups inn now makers makerMany queue)) := by
  refine Met.ofW (cc := cX7_add) (maxL := 2) (ret := (some .int)) (by decide) rfl ?_
  intro p e s m zargs zbelow zmeth c s₁ B hml hv
  obtain ⟨hargs, hP, hK, hN, hD0⟩ := hv
  have hx := B.exec
  have hb := B.bytes
  have hr := B.returns
  have hts := atoms_spec (ws := wsX7_add) B.pre
  have hown : s.vm.findClass RX7 = some m.cls := findClass_of_methodNamed B.named
  have hlocks := B.notSynchronized
  have hDD : tg_DD (tg_in (wM cI cZ ad n many image turn shelf groups inn now makers makerMany queue)) [ad 0, ad 1, ad 2, ad 3, ad 4, ad 5, ad 6, ad 7] := tg_DD.of (tg_D hD0) rfl
  have hS : va_S (tg_in (wM cI cZ ad n many image turn shelf groups inn now makers makerMany queue)) s.heap s.heap [] := va_S.rf
  have hl := lv_entry ([.ref (ad 0), .int zx1]) (n := 2) (Nat.le_of_ble_eq_true rfl)
  refine W.eq (g2 := entryFrame m ([.ref (ad 0), .int zx1] : List Value).toArray 2) (by rw [hargs]) ?_
  rw [lg_entry_eq]
  generalize (lg_sl ([.ref (ad 0), .int zx1]) ++ List.replicate (2 - (lg_sl ([.ref (ad 0), .int zx1])).length) Slot.unset).toArray = zls at hl ⊢
  have hl : lv_has zls 2 [(0, .ref (ad 0)), (1, .int zx1)] := hl
  rw [mX7_add] at h
  refine lv_aload_n hx hb dX7_add_0 rfl (lv_at hl 0 rfl) ?_
  refine lv_iload_n hx hb dX7_add_1 rfl (lv_at hl 1 rfl) ?_
  obtain ⟨zr, hc, h⟩ := bd_el h
  refine tg_cRi (va_runV (As := [.int zx1]) (rest := []) ⟨hx, hb, hml, hown, hts⟩ (qX7_isGroup l D cI cZ ad n many image turn shelf groups inn now makers makerMany queue zx1 zr hc) (cwV 1 hts gX7_add_X7_isGroup rfl rfl rfl zVX7_isGroup ⟨Nat.le_of_ble_eq_true rfl, Nat.le_of_ble_eq_true rfl⟩) (tg_preV (r := (RX7, TX7, 11)) (ci := 6) (q0 := 0) hP hK hN rfl rfl) rfl rfl hl.1 rfl (lv_room (Nat.le_of_ble_eq_true rfl)) dX7_add_2 ⟨Nat.zero_le _, Nat.zero_le _⟩) ?_
  refine lv_if_ne (tgt := 11) hx hb dX7_add_5 (by decide) (fun cb => ?_) (fun cb => ?_)
  · rw [if_neg cb] at h
    refine lv_aload_n hx hb dX7_add_11 rfl (lv_at hl 0 rfl) ?_
    refine lv_iload_n hx hb dX7_add_12 rfl (lv_at hl 1 rfl) ?_
    refine lv_aload_n hx hb dX7_add_13 rfl (lv_at hl 0 rfl) ?_
    refine va_get (D := D) (ci := 6) (v := .int turn) (C := RX7) (T := TX7) (N := 11) hx hb hts uX7_add_RX7 hown hK hP 0 rfl rfl 3 (by decide) (hts _ kX7_add_1) (fun _ h9 => h9) rfl dX7_add_14 ?_
    obtain ⟨zr_1, hc_1, h⟩ := bd_el h
    refine tg_cRi (va_runV (As := [.int zx1, .int turn]) (rest := []) ⟨hx, hb, hml, hown, hts⟩ (qX7_hasIt l D cI cZ ad n many image turn shelf groups inn now makers makerMany queue zx1 turn zr_1 hc_1) (cwV 2 hts gX7_add_X7_hasIt rfl rfl rfl zVX7_hasIt ⟨Nat.le_of_ble_eq_true rfl, Nat.le_of_ble_eq_true rfl⟩) (tg_preV (r := (RX7, TX7, 11)) (ci := 6) (q0 := 0) hP hK hN rfl rfl) rfl rfl hl.1 rfl (lv_room (Nat.le_of_ble_eq_true rfl)) dX7_add_17 ⟨Nat.zero_le _, Nat.zero_le _⟩) ?_
    refine lv_if_eq (tgt := 25) hx hb dX7_add_20 (by decide) (fun cb_1 => ?_) (fun cb_1 => ?_)
    · rw [if_pos cb_1] at h
      refine lv_aload_n hx hb dX7_add_25 rfl (lv_at hl 0 rfl) ?_
      refine lv_bipush (v := 10) hx hb dX7_add_26 (by decide) ?_
      obtain ⟨inn_1, makerMany_1, hc_2, h⟩ := bd2_el h
      refine tg_cMv (va_runV (As := [.int 10]) (rest := []) ⟨hx, hb, hml, hown, hts⟩ (qX7_begin l D cI cZ ad n many image turn shelf groups inn now makers makerMany queue 10 F inn_1 makerMany_1 hc_2) (cwV 1 hts gX7_add_X7_begin rfl rfl rfl zVX7_begin ⟨Nat.le_of_ble_eq_true rfl, Nat.le_of_ble_eq_true rfl⟩) (tg_preVM (r := (RX7, TX7, 11)) (ci := 6) (q0 := 0) hP (hDD _ rfl) hK hN rfl rfl) rfl rfl hl.1 rfl (lv_room (Nat.le_of_ble_eq_true rfl)) dX7_add_28 ⟨Nat.zero_le _, Nat.zero_le _⟩) hS (tg_inA (hDD _ rfl)) (fun zH zlocs _ hP hS => ?_)
      refine lv_aload_n hx hb dX7_add_31 rfl (lv_at hl 0 rfl) ?_
      refine lv_bipush (v := 10) hx hb dX7_add_32 (by decide) ?_
      refine lv_iload_n hx hb dX7_add_34 rfl (lv_at hl 1 rfl) ?_
      obtain ⟨inn_2, now_1, makers_1, makerMany_2, queue_1, hc_3, h⟩ := bd5_el h
      refine tg_cMv (va_runV (As := [.int 10, .int zx1]) (rest := []) ⟨hx, hb, hml, hown, hts⟩ (qX7_joinAll l D cI cZ ad n many image turn shelf groups inn_1 now makers makerMany_1 queue 10 zx1 F inn_2 now_1 makers_1 makerMany_2 queue_1 hc_3) (cwV 2 hts gX7_add_X7_joinAll rfl rfl rfl zVX7_joinAll ⟨Nat.le_of_ble_eq_true rfl, Nat.le_of_ble_eq_true rfl⟩) (tg_preVM (r := (RX7, TX7, 11)) (ci := 6) (q0 := 0) hP (hDD _ rfl) hK hN rfl rfl) rfl rfl hl.1 rfl (lv_room (Nat.le_of_ble_eq_true rfl)) dX7_add_35 ⟨Nat.zero_le _, Nat.zero_le _⟩) hS (tg_inA (hDD _ rfl)) (fun zH zlocs _ hP hS => ?_)
      refine lv_aload_n hx hb dX7_add_38 rfl (lv_at hl 0 rfl) ?_
      refine lv_bipush (v := 10) hx hb dX7_add_39 (by decide) ?_
      refine lv_aload_n hx hb dX7_add_41 rfl (lv_at hl 0 rfl) ?_
      refine va_get (D := D) (ci := 6) (v := .int turn) (C := RX7) (T := TX7) (N := 11) hx hb hts uX7_add_RX7 hown hK hP 0 rfl rfl 3 (by decide) (hts _ kX7_add_1) (fun _ h9 => h9) rfl dX7_add_42 ?_
      obtain ⟨inn_3, now_2, makers_2, makerMany_3, queue_2, hc_4, h⟩ := bd5_el h
      refine tg_cMv (va_runV (As := [.int 10, .int turn]) (rest := []) ⟨hx, hb, hml, hown, hts⟩ (qX7_join l D cI cZ ad n many image turn shelf groups inn_2 now_1 makers_1 makerMany_2 queue_1 10 turn F inn_3 now_2 makers_2 makerMany_3 queue_2 hc_4) (cwV 2 hts gX7_add_X7_join rfl rfl rfl zVX7_join ⟨Nat.le_of_ble_eq_true rfl, Nat.le_of_ble_eq_true rfl⟩) (tg_preVM (r := (RX7, TX7, 11)) (ci := 6) (q0 := 0) hP (hDD _ rfl) hK hN rfl rfl) rfl rfl hl.1 rfl (lv_room (Nat.le_of_ble_eq_true rfl)) dX7_add_45 ⟨Nat.zero_le _, Nat.zero_le _⟩) hS (tg_inA (hDD _ rfl)) (fun zH zlocs _ hP hS => ?_)
      refine lv_aload_n hx hb dX7_add_48 rfl (lv_at hl 0 rfl) ?_
      refine lv_bipush (v := 10) hx hb dX7_add_49 (by decide) ?_
      refine lv_iload_n hx hb dX7_add_51 rfl (lv_at hl 1 rfl) ?_
      obtain ⟨inn_4, hc_5, h⟩ := bd_el h
      refine tg_cMv (va_runV (As := [.int 10, .int zx1]) (rest := []) ⟨hx, hb, hml, hown, hts⟩ (qX7_copy l D cI cZ ad n many image turn shelf groups inn_3 now_2 makers_2 makerMany_3 queue_2 10 zx1 F inn_4 hc_5) (cwV 2 hts gX7_add_X7_copy rfl rfl rfl zVX7_copy ⟨Nat.le_of_ble_eq_true rfl, Nat.le_of_ble_eq_true rfl⟩) (tg_preVM (r := (RX7, TX7, 11)) (ci := 6) (q0 := 0) hP (hDD _ rfl) hK hN rfl rfl) rfl rfl hl.1 rfl (lv_room (Nat.le_of_ble_eq_true rfl)) dX7_add_52 ⟨Nat.zero_le _, Nat.zero_le _⟩) hS (tg_inA (hDD _ rfl)) (fun zH zlocs _ hP hS => ?_)
      refine lv_iconst (v := 0) hx hb dX7_add_55 (by decide) ?_
      cases h
      exact W.iret hx hb hr (fun t ht hW => ⟨rfl, by rw [ht]; exact hP, hS.F ht⟩) hS.2.2 dX7_add_56
    · rw [if_neg cb_1] at h
      refine lv_iconst (v := 1) hx hb dX7_add_23 (by decide) ?_
      cases h
      exact W.iret hx hb hr (fun t ht hW => ⟨rfl, by rw [ht]; exact hP, hS.F ht⟩) hS.2.2 dX7_add_24
  · rw [if_pos cb] at h
    refine lv_bipush (v := (-2)) hx hb dX7_add_8 (by decide) ?_
    cases h
    exact W.iret hx hb hr (fun t ht hW => ⟨rfl, by rw [ht]; exact hP, hS.F ht⟩) hS.2.2 dX7_add_10
theorem zVX7_add : yX7_add.cls = RX7 ∧ yX7_add.cls ≠ "java/lang/invoke/MethodHandle" ∧ yX7_add.cls ≠ "java/lang/invoke/VarHandle" ∧ (parseMethodDescriptor yX7_add.desc).map (fun d => d.parameters.length) = some 1 := by decide +kernel

/-! ===== public int of(int, int, int); ===== -/
theorem kX7_of_1 : Cond.fieldLink RX7 61 "TurnGroupsModel" "groups" "I" ∈ wsX7_of := by decide +kernel
theorem kX7_of_2 : Cond.fieldLink RX7 46 "TurnGroupsModel" "many" "I" ∈ wsX7_of := by decide +kernel
theorem kX7_of_3 : Cond.fieldLink RX7 22 "TurnGroupsModel" "in" "[Z" ∈ wsX7_of := by decide +kernel
theorem kX7_of_4 : Cond.constant RX7 112 (403200) ∈ wsX7_of := by decide +kernel
theorem uX7_of_RX7 : ∀ w ∈ u_ws RX7 TX7 11, w ∈ wsX7_of := by decide +kernel
def mX7_of_L48 (zx2 : Int32) (zx3 : Int32) (many : Int32) : Nat → Int32 → (Nat → Int32) → Option ((Nat → Int32))
  | 0, _, _ => none
  | f + 1, zx4, inn => if many ≤ zx4 then (some inn) else (bd (mX7_hasIt inn zx2 zx4) (fun zr => bd (if zr = 0 then (some (0 : Int32)) else (bd (mX7_hasIt inn zx3 zx4) (fun zr_1 => if zr_1 = 0 then (some (0 : Int32)) else (some (1 : Int32))))) (fun zv => gd (inb (403200 + zx4) 524160) (lT (upd inn (Int32.toNatClampNeg (403200 + zx4)) (vp_nar .boolean zv)) (fun inn_1 => mX7_of_L48 zx2 zx3 many f (zx4 + 1) inn_1)))))
theorem mX7_of_L48_s (zx2 : Int32) (zx3 : Int32) (many : Int32) (f : Nat) (zx4 : Int32) (inn : Nat → Int32) : mX7_of_L48 zx2 zx3 many (f + 1) zx4 inn = (if many ≤ zx4 then (some inn) else (bd (mX7_hasIt inn zx2 zx4) (fun zr => bd (if zr = 0 then (some (0 : Int32)) else (bd (mX7_hasIt inn zx3 zx4) (fun zr_1 => if zr_1 = 0 then (some (0 : Int32)) else (some (1 : Int32))))) (fun zv => gd (inb (403200 + zx4) 524160) (lT (upd inn (Int32.toNatClampNeg (403200 + zx4)) (vp_nar .boolean zv)) (fun inn_1 => mX7_of_L48 zx2 zx3 many f (zx4 + 1) inn_1)))))) := rfl
def mX7_of (F : Nat) (n : Int32) (many : Int32) (image : Nat → Int32) (groups : Int32) (inn : Nat → Int32) (now : Nat → Int32) (makers : Nat → Int32) (makerMany : Nat → Int32) (queue : Nat → Int32) (zx1 : Int32) (zx2 : Int32) (zx3 : Int32) : Option (Int32 × Int32 × (Nat → Int32) × (Nat → Int32) × (Nat → Int32) × (Nat → Int32) × (Nat → Int32)) := if (mX7_isIn zx1 0 2) = 0 then (some ((-2 : Int32), groups, inn, now, makers, makerMany, queue)) else (bd (mX7_isGroup groups zx2) (fun zr_1 => if zr_1 = 0 then (some ((-2 : Int32), groups, inn, now, makers, makerMany, queue)) else (bd (mX7_isGroup groups zx3) (fun zr_2 => if zr_2 = 0 then (some ((-2 : Int32), groups, inn, now, makers, makerMany, queue)) else (if groups = 10 then (some ((-3 : Int32), groups, inn, now, makers, makerMany, queue)) else (if zx1 = 1 then (bd (mX7_of_L48 zx2 zx3 many F 0 inn) (fun inn_9 => bd3 (mX7_newGroup F many groups inn_9 10) (fun zr_5 groups_3 inn_10 => some (zr_5, groups_3, inn_10, now, makers, makerMany, queue)))) else (bd2 (mX7_begin F many inn makerMany 10) (fun inn_1 makerMany_1 => bd5 (mX7_joinAll F n many image inn_1 now makers makerMany_1 queue 10 zx2) (fun inn_2 now_1 makers_1 makerMany_2 queue_1 => bd5 (mX7_joinAll F n many image inn_2 now_1 makers_1 makerMany_2 queue_1 10 zx3) (fun inn_3 now_2 makers_2 makerMany_3 queue_2 => if zx1 = 0 then (bd3 (mX7_newGroup F many groups inn_3 10) (fun zr_4 groups_2 inn_8 => some (zr_4, groups_2, inn_8, now_2, makers_2, makerMany_3, queue_2))) else (bd2 (mX7_begin F many inn_3 makerMany_3 11) (fun inn_4 makerMany_4 => bd5 (mX7_joinAll F n many image inn_4 now_2 makers_2 makerMany_4 queue_2 11 zx2) (fun inn_5 now_3 makers_3 makerMany_5 queue_3 => bd5 (mX7_close F n many image inn_5 now_3 makers_3 makerMany_5 queue_3 11 10) (fun inn_6 now_4 makers_4 makerMany_6 queue_4 => bd3 (mX7_newGroup F many groups inn_6 11) (fun zr_3 groups_1 inn_7 => some (zr_3, groups_1, inn_7, now_4, makers_4, makerMany_6, queue_4))))))))))))))))
set_option maxRecDepth 100000 in
set_option maxHeartbeats 4000000 in
theorem wX7_of_L48 {p : Program} {l : Launch} {e : Env} {s : State} {m : MethodId} {zargs : Array Value} {zbelow : List Frame} {zmeth : Method} {c : Code} {D : va_G} {zQ : State → Prop} {zA : Nat → Prop} {ad : Nat → Nat} {cI cZ : ClassId} {n : Int32} {many : Int32} {image : Nat → Int32} {turn : Int32} {shelf : Nat → Int32} {groups : Int32} {now : Nat → Int32} {makers : Nat → Int32} {makerMany : Nat → Int32} {queue : Nat → Int32} {zx2 : Int32} {zx3 : Int32} (C0 : tg_C p s m zmeth c zargs cX7_of RX7 wsX7_of 5 D [(cI, .int), (cZ, .boolean)]) (hDD : tg_DD zA [ad 0, ad 1, ad 2, ad 3, ad 4, ad 5, ad 6, ad 7]) (hlocks : zmeth.locks = false) (hr : zmeth.sig.returnType = (some .int)) (F : Nat) : ∀ (f : Nat) (zx4 : Int32) (inn : Nat → Int32) (oinn : Nat → Int32), mX7_of_L48 zx2 zx3 many f zx4 inn = some oinn → ∀ (zH : Heap) (zlocs : List Loc), va_P D vwCl (wM cI cZ ad n many image turn shelf groups inn now makers makerMany queue) zH → va_S zA s.heap zH zlocs → ∀ (zls : Array Slot), lv_has zls 5 [(0, .ref (ad 0)), (2, .int zx2), (3, .int zx3), (4, .int zx4)] → (∀ (zH : Heap) (zlocs : List Loc), va_P D vwCl (wM cI cZ ad n many image turn shelf groups oinn now makers makerMany queue) zH → va_S zA s.heap zH zlocs → ∀ (zls : Array Slot), lv_has zls 5 [(0, .ref (ad 0))] → W p l e ({ frames := 4, cells := 0, slots := 0, locals := 97 } : Room) s m zargs zbelow zmeth c zH zlocs 0 0 zQ (F0 m 98 zls [])) → W p l e ({ frames := 4, cells := 0, slots := 0, locals := 97 } : Room) s m zargs zbelow zmeth c zH zlocs 0 0 zQ (F0 m 48 zls []) := by
  obtain ⟨hx, hb, hml, hown, hts, hK, hN⟩ := C0
  intro f
  induction f with
  | zero => intro _ _ _ h; exact absurd (show none = some _ from h) (fun h9 => by cases h9)
  | succ f ih =>
    intro zx4 inn oinn h zH zlocs hP hS zls hl kk
    rw [mX7_of_L48_s] at h
    refine lv_iload hx hb dX7_of_48 (lv_at hl 3 rfl) ?_
    refine lv_aload_n hx hb dX7_of_50 rfl (lv_at hl 0 rfl) ?_
    refine va_get (D := D) (ci := 6) (v := .int many) (C := RX7) (T := TX7) (N := 11) hx hb hts uX7_of_RX7 hown hK hP 0 rfl rfl 1 (by decide) (hts _ kX7_of_2) (fun _ h9 => h9) rfl dX7_of_51 ?_
    refine lv_icmp_ge (tgt := 98) hx hb dX7_of_54 (by decide) (fun cb => ?_) (fun cb => ?_)
    · rw [if_pos cb] at h
      cases h
      exact kk _ _ hP hS _ (lv_sub hl [0] rfl)
    · rw [if_neg cb] at h
      refine lv_aload_n hx hb dX7_of_57 rfl (lv_at hl 0 rfl) ?_
      refine va_get (D := D) (ci := 6) (v := .ref (ad 3)) (C := RX7) (T := TX7) (N := 11) hx hb hts uX7_of_RX7 hown hK hP 0 rfl rfl 6 (by decide) (hts _ kX7_of_3) (fun _ h9 => h9) rfl dX7_of_58 ?_
      refine lv_ldc hx hb hown (hts _ kX7_of_4) dX7_of_61 ?_
      refine lv_iload hx hb dX7_of_63 (lv_at hl 3 rfl) ?_
      refine lv_iadd hx hb dX7_of_65 ?_
      refine lv_aload_n hx hb dX7_of_66 rfl (lv_at hl 0 rfl) ?_
      refine lv_iload_n hx hb dX7_of_67 rfl (lv_at hl 1 rfl) ?_
      refine lv_iload hx hb dX7_of_68 (lv_at hl 3 rfl) ?_
      obtain ⟨zr, hc, h⟩ := bd_el h
      refine tg_cRi (va_runV (As := [.int zx2, .int zx4]) (rest := [.int (403200 + zx4), .ref (ad 3)]) ⟨hx, hb, hml, hown, hts⟩ (qX7_hasIt l D cI cZ ad n many image turn shelf groups inn now makers makerMany queue zx2 zx4 zr hc) (cwV 2 hts gX7_of_X7_hasIt rfl rfl rfl zVX7_hasIt ⟨Nat.le_of_ble_eq_true rfl, Nat.le_of_ble_eq_true rfl⟩) (tg_preV (r := (RX7, TX7, 11)) (ci := 6) (q0 := 0) hP hK hN rfl rfl) rfl rfl hl.1 rfl (lv_room (Nat.le_of_ble_eq_true rfl)) dX7_of_70 ⟨Nat.zero_le _, Nat.zero_le _⟩) ?_
      obtain ⟨zv, hv, h⟩ := bd_el h
      have hj : W p l e ({ frames := 4, cells := 0, slots := 0, locals := 97 } : Room) s m zargs zbelow zmeth c zH zlocs 0 0 zQ (F0 m 91 zls [.int zv, .int (403200 + zx4), .ref (ad 3)]) := by
        obtain ⟨gg, h⟩ := gd_el h
        obtain ⟨inn_1, einn_1, h⟩ := lT_el h
        refine va_zast hx hb hK hP (hDD _ rfl) hS 3 1 rfl rfl (inb_in gg) dX7_of_91 (fun zH zlocs hP _ hS => ?_)
        have hP : va_P D vwCl (wM cI cZ ad n many image turn shelf groups (upd inn (Int32.toNatClampNeg (403200 + zx4)) (vp_nar .boolean zv)) now makers makerMany queue) zH := hP
        rw [← einn_1] at hP
        refine lv_iinc (v := (zx4 + 1)) (lv' := [(4, .int (zx4 + 1)), (0, .ref (ad 0)), (2, .int zx2), (3, .int zx3)]) hx hb dX7_of_92 hl (k := 3) rfl rfl (by decide) rfl (fun zls hl => ?_)
        refine lv_goto (tgt := 48) hx hb dX7_of_95 (by decide) ?_
        exact ih _ _ _ h _ _ hP hS _ (lv_sub hl [1, 2, 3, 0] rfl) kk
      refine lv_if_eq (tgt := 90) hx hb dX7_of_73 (by decide) (fun cb_1 => ?_) (fun cb_1 => ?_)
      · rw [if_pos cb_1] at hv
        refine lv_iconst (v := 0) hx hb dX7_of_90 (by decide) ?_
        cases hv
        exact hj 
      · rw [if_neg cb_1] at hv
        refine lv_aload_n hx hb dX7_of_76 rfl (lv_at hl 0 rfl) ?_
        refine lv_iload_n hx hb dX7_of_77 rfl (lv_at hl 2 rfl) ?_
        refine lv_iload hx hb dX7_of_78 (lv_at hl 3 rfl) ?_
        obtain ⟨zr_1, hc_1, hv⟩ := bd_el hv
        refine tg_cRi (va_runV (As := [.int zx3, .int zx4]) (rest := [.int (403200 + zx4), .ref (ad 3)]) ⟨hx, hb, hml, hown, hts⟩ (qX7_hasIt l D cI cZ ad n many image turn shelf groups inn now makers makerMany queue zx3 zx4 zr_1 hc_1) (cwV 2 hts gX7_of_X7_hasIt rfl rfl rfl zVX7_hasIt ⟨Nat.le_of_ble_eq_true rfl, Nat.le_of_ble_eq_true rfl⟩) (tg_preV (r := (RX7, TX7, 11)) (ci := 6) (q0 := 0) hP hK hN rfl rfl) rfl rfl hl.1 rfl (lv_room (Nat.le_of_ble_eq_true rfl)) dX7_of_80 ⟨Nat.zero_le _, Nat.zero_le _⟩) ?_
        refine lv_if_eq (tgt := 90) hx hb dX7_of_83 (by decide) (fun cb_2 => ?_) (fun cb_2 => ?_)
        · rw [if_pos cb_2] at hv
          refine lv_iconst (v := 0) hx hb dX7_of_90 (by decide) ?_
          cases hv
          exact hj 
        · rw [if_neg cb_2] at hv
          refine lv_iconst (v := 1) hx hb dX7_of_86 (by decide) ?_
          refine lv_goto (tgt := 91) hx hb dX7_of_87 (by decide) ?_
          cases hv
          exact hj 
set_option maxRecDepth 100000 in
set_option maxHeartbeats 4000000 in
theorem qX7_of (l : Launch) (D : va_G) (cI : ClassId) (cZ : ClassId) (ad : Nat → Nat) (n : Int32) (many : Int32) (image : Nat → Int32) (turn : Int32) (shelf : Nat → Int32) (groups : Int32) (inn : Nat → Int32) (now : Nat → Int32) (makers : Nat → Int32) (makerMany : Nat → Int32) (queue : Nat → Int32) (zx1 : Int32) (zx2 : Int32) (zx3 : Int32) (F : Nat) (zr0 : Int32) (ogroups : Int32) (oinn : Nat → Int32) (onow : Nat → Int32) (omakers : Nat → Int32) (omakerMany : Nat → Int32) (oqueue : Nat → Int32) (h : mX7_of F n many image groups inn now makers makerMany queue zx1 zx2 zx3 = some (zr0, ogroups, oinn, onow, omakers, omakerMany, oqueue)) : Met l yX7_of wsX7_of ({ frames := 4, cells := 0, slots := 0, locals := 97 } : Room) (tg_PM D [(cI, .int), (cZ, .boolean)] [.ref (ad 0), .int zx1, .int zx2, .int zx3] (wM cI cZ ad n many image turn shelf groups inn now makers makerMany queue)) (tg_Mi D (wM cI cZ ad n many image turn shelf groups inn now makers makerMany queue) (wM cI cZ ad n many image turn shelf ogroups oinn onow omakers omakerMany oqueue) zr0) 0 0 (tg_in (wM cI cZ ad n many image turn shelf groups inn now makers makerMany queue)) := by
  refine Met.ofW (cc := cX7_of) (maxL := 5) (ret := (some .int)) (by decide) rfl ?_
  intro p e s m zargs zbelow zmeth c s₁ B hml hv
  obtain ⟨hargs, hP, hK, hN, hD0⟩ := hv
  have hx := B.exec
  have hb := B.bytes
  have hr := B.returns
  have hts := atoms_spec (ws := wsX7_of) B.pre
  have hown : s.vm.findClass RX7 = some m.cls := findClass_of_methodNamed B.named
  have hlocks := B.notSynchronized
  have hDD : tg_DD (tg_in (wM cI cZ ad n many image turn shelf groups inn now makers makerMany queue)) [ad 0, ad 1, ad 2, ad 3, ad 4, ad 5, ad 6, ad 7] := tg_DD.of (tg_D hD0) rfl
  have hS : va_S (tg_in (wM cI cZ ad n many image turn shelf groups inn now makers makerMany queue)) s.heap s.heap [] := va_S.rf
  have hl := lv_entry ([.ref (ad 0), .int zx1, .int zx2, .int zx3]) (n := 5) (Nat.le_of_ble_eq_true rfl)
  refine W.eq (g2 := entryFrame m ([.ref (ad 0), .int zx1, .int zx2, .int zx3] : List Value).toArray 5) (by rw [hargs]) ?_
  rw [lg_entry_eq]
  generalize (lg_sl ([.ref (ad 0), .int zx1, .int zx2, .int zx3]) ++ List.replicate (5 - (lg_sl ([.ref (ad 0), .int zx1, .int zx2, .int zx3])).length) Slot.unset).toArray = zls at hl ⊢
  have hl : lv_has zls 5 [(0, .ref (ad 0)), (1, .int zx1), (2, .int zx2), (3, .int zx3)] := hl
  rw [mX7_of] at h
  refine lv_iload_n hx hb dX7_of_0 rfl (lv_at hl 1 rfl) ?_
  refine lv_iconst (v := 0) hx hb dX7_of_1 (by decide) ?_
  refine lv_iconst (v := 2) hx hb dX7_of_2 (by decide) ?_
  refine tg_cRi (va_runS (As := [.int zx1, .int 0, .int 2]) (rest := []) ⟨hx, hb, hml, hown, hts⟩ (qX7_isIn l D zx1 0 2 _ rfl) (va_cwS 3 hts gX7_of_X7_isIn rfl rfl rfl zSX7_isIn ⟨Nat.le_of_ble_eq_true rfl, Nat.le_of_ble_eq_true rfl⟩) (tg_preS tg_nil (hK.sub (tys' := []) [] rfl) hN) rfl rfl hl.1 rfl (lv_room (Nat.le_of_ble_eq_true rfl)) dX7_of_3 ⟨Nat.zero_le _, Nat.zero_le _⟩) ?_
  refine lv_if_eq (tgt := 25) hx hb dX7_of_6 (by decide) (fun cb => ?_) (fun cb => ?_)
  · rw [if_pos cb] at h
    refine lv_bipush (v := (-2)) hx hb dX7_of_25 (by decide) ?_
    cases h
    exact W.iret hx hb hr (fun t ht hW => ⟨rfl, by rw [ht]; exact hP, hS.F ht⟩) hS.2.2 dX7_of_27
  · rw [if_neg cb] at h
    refine lv_aload_n hx hb dX7_of_9 rfl (lv_at hl 0 rfl) ?_
    refine lv_iload_n hx hb dX7_of_10 rfl (lv_at hl 2 rfl) ?_
    obtain ⟨zr_1, hc, h⟩ := bd_el h
    refine tg_cRi (va_runV (As := [.int zx2]) (rest := []) ⟨hx, hb, hml, hown, hts⟩ (qX7_isGroup l D cI cZ ad n many image turn shelf groups inn now makers makerMany queue zx2 zr_1 hc) (cwV 1 hts gX7_of_X7_isGroup rfl rfl rfl zVX7_isGroup ⟨Nat.le_of_ble_eq_true rfl, Nat.le_of_ble_eq_true rfl⟩) (tg_preV (r := (RX7, TX7, 11)) (ci := 6) (q0 := 0) hP hK hN rfl rfl) rfl rfl hl.1 rfl (lv_room (Nat.le_of_ble_eq_true rfl)) dX7_of_11 ⟨Nat.zero_le _, Nat.zero_le _⟩) ?_
    refine lv_if_eq (tgt := 25) hx hb dX7_of_14 (by decide) (fun cb_1 => ?_) (fun cb_1 => ?_)
    · rw [if_pos cb_1] at h
      refine lv_bipush (v := (-2)) hx hb dX7_of_25 (by decide) ?_
      cases h
      exact W.iret hx hb hr (fun t ht hW => ⟨rfl, by rw [ht]; exact hP, hS.F ht⟩) hS.2.2 dX7_of_27
    · rw [if_neg cb_1] at h
      refine lv_aload_n hx hb dX7_of_17 rfl (lv_at hl 0 rfl) ?_
      refine lv_iload_n hx hb dX7_of_18 rfl (lv_at hl 3 rfl) ?_
      obtain ⟨zr_2, hc_1, h⟩ := bd_el h
      refine tg_cRi (va_runV (As := [.int zx3]) (rest := []) ⟨hx, hb, hml, hown, hts⟩ (qX7_isGroup l D cI cZ ad n many image turn shelf groups inn now makers makerMany queue zx3 zr_2 hc_1) (cwV 1 hts gX7_of_X7_isGroup rfl rfl rfl zVX7_isGroup ⟨Nat.le_of_ble_eq_true rfl, Nat.le_of_ble_eq_true rfl⟩) (tg_preV (r := (RX7, TX7, 11)) (ci := 6) (q0 := 0) hP hK hN rfl rfl) rfl rfl hl.1 rfl (lv_room (Nat.le_of_ble_eq_true rfl)) dX7_of_19 ⟨Nat.zero_le _, Nat.zero_le _⟩) ?_
      refine lv_if_ne (tgt := 28) hx hb dX7_of_22 (by decide) (fun cb_2 => ?_) (fun cb_2 => ?_)
      · rw [if_neg cb_2] at h
        refine lv_aload_n hx hb dX7_of_28 rfl (lv_at hl 0 rfl) ?_
        refine va_get (D := D) (ci := 6) (v := .int groups) (C := RX7) (T := TX7) (N := 11) hx hb hts uX7_of_RX7 hown hK hP 0 rfl rfl 5 (by decide) (hts _ kX7_of_1) (fun _ h9 => h9) rfl dX7_of_29 ?_
        refine lv_bipush (v := 10) hx hb dX7_of_32 (by decide) ?_
        refine lv_icmp_ne (tgt := 40) hx hb dX7_of_34 (by decide) (fun cb_3 => ?_) (fun cb_3 => ?_)
        · rw [if_neg cb_3] at h
          refine lv_iload_n hx hb dX7_of_40 rfl (lv_at hl 1 rfl) ?_
          refine lv_iconst (v := 1) hx hb dX7_of_41 (by decide) ?_
          refine lv_icmp_ne (tgt := 105) hx hb dX7_of_42 (by decide) (fun cb_4 => ?_) (fun cb_4 => ?_)
          · rw [if_neg cb_4] at h
            refine lv_aload_n hx hb dX7_of_105 rfl (lv_at hl 0 rfl) ?_
            refine lv_bipush (v := 10) hx hb dX7_of_106 (by decide) ?_
            obtain ⟨inn_1, makerMany_1, hc_2, h⟩ := bd2_el h
            refine tg_cMv (va_runV (As := [.int 10]) (rest := []) ⟨hx, hb, hml, hown, hts⟩ (qX7_begin l D cI cZ ad n many image turn shelf groups inn now makers makerMany queue 10 F inn_1 makerMany_1 hc_2) (cwV 1 hts gX7_of_X7_begin rfl rfl rfl zVX7_begin ⟨Nat.le_of_ble_eq_true rfl, Nat.le_of_ble_eq_true rfl⟩) (tg_preVM (r := (RX7, TX7, 11)) (ci := 6) (q0 := 0) hP (hDD _ rfl) hK hN rfl rfl) rfl rfl hl.1 rfl (lv_room (Nat.le_of_ble_eq_true rfl)) dX7_of_108 ⟨Nat.zero_le _, Nat.zero_le _⟩) hS (tg_inA (hDD _ rfl)) (fun zH zlocs _ hP hS => ?_)
            refine lv_aload_n hx hb dX7_of_111 rfl (lv_at hl 0 rfl) ?_
            refine lv_bipush (v := 10) hx hb dX7_of_112 (by decide) ?_
            refine lv_iload_n hx hb dX7_of_114 rfl (lv_at hl 2 rfl) ?_
            obtain ⟨inn_2, now_1, makers_1, makerMany_2, queue_1, hc_3, h⟩ := bd5_el h
            refine tg_cMv (va_runV (As := [.int 10, .int zx2]) (rest := []) ⟨hx, hb, hml, hown, hts⟩ (qX7_joinAll l D cI cZ ad n many image turn shelf groups inn_1 now makers makerMany_1 queue 10 zx2 F inn_2 now_1 makers_1 makerMany_2 queue_1 hc_3) (cwV 2 hts gX7_of_X7_joinAll rfl rfl rfl zVX7_joinAll ⟨Nat.le_of_ble_eq_true rfl, Nat.le_of_ble_eq_true rfl⟩) (tg_preVM (r := (RX7, TX7, 11)) (ci := 6) (q0 := 0) hP (hDD _ rfl) hK hN rfl rfl) rfl rfl hl.1 rfl (lv_room (Nat.le_of_ble_eq_true rfl)) dX7_of_115 ⟨Nat.zero_le _, Nat.zero_le _⟩) hS (tg_inA (hDD _ rfl)) (fun zH zlocs _ hP hS => ?_)
            refine lv_aload_n hx hb dX7_of_118 rfl (lv_at hl 0 rfl) ?_
            refine lv_bipush (v := 10) hx hb dX7_of_119 (by decide) ?_
            refine lv_iload_n hx hb dX7_of_121 rfl (lv_at hl 3 rfl) ?_
            obtain ⟨inn_3, now_2, makers_2, makerMany_3, queue_2, hc_4, h⟩ := bd5_el h
            refine tg_cMv (va_runV (As := [.int 10, .int zx3]) (rest := []) ⟨hx, hb, hml, hown, hts⟩ (qX7_joinAll l D cI cZ ad n many image turn shelf groups inn_2 now_1 makers_1 makerMany_2 queue_1 10 zx3 F inn_3 now_2 makers_2 makerMany_3 queue_2 hc_4) (cwV 2 hts gX7_of_X7_joinAll rfl rfl rfl zVX7_joinAll ⟨Nat.le_of_ble_eq_true rfl, Nat.le_of_ble_eq_true rfl⟩) (tg_preVM (r := (RX7, TX7, 11)) (ci := 6) (q0 := 0) hP (hDD _ rfl) hK hN rfl rfl) rfl rfl hl.1 rfl (lv_room (Nat.le_of_ble_eq_true rfl)) dX7_of_122 ⟨Nat.zero_le _, Nat.zero_le _⟩) hS (tg_inA (hDD _ rfl)) (fun zH zlocs _ hP hS => ?_)
            refine lv_iload_n hx hb dX7_of_125 rfl (lv_at hl 1 rfl) ?_
            refine lv_if_ne (tgt := 136) hx hb dX7_of_126 (by decide) (fun cb_5 => ?_) (fun cb_5 => ?_)
            · rw [if_neg cb_5] at h
              refine lv_aload_n hx hb dX7_of_136 rfl (lv_at hl 0 rfl) ?_
              refine lv_bipush (v := 11) hx hb dX7_of_137 (by decide) ?_
              obtain ⟨inn_4, makerMany_4, hc_5, h⟩ := bd2_el h
              refine tg_cMv (va_runV (As := [.int 11]) (rest := []) ⟨hx, hb, hml, hown, hts⟩ (qX7_begin l D cI cZ ad n many image turn shelf groups inn_3 now_2 makers_2 makerMany_3 queue_2 11 F inn_4 makerMany_4 hc_5) (cwV 1 hts gX7_of_X7_begin rfl rfl rfl zVX7_begin ⟨Nat.le_of_ble_eq_true rfl, Nat.le_of_ble_eq_true rfl⟩) (tg_preVM (r := (RX7, TX7, 11)) (ci := 6) (q0 := 0) hP (hDD _ rfl) hK hN rfl rfl) rfl rfl hl.1 rfl (lv_room (Nat.le_of_ble_eq_true rfl)) dX7_of_139 ⟨Nat.zero_le _, Nat.zero_le _⟩) hS (tg_inA (hDD _ rfl)) (fun zH zlocs _ hP hS => ?_)
              refine lv_aload_n hx hb dX7_of_142 rfl (lv_at hl 0 rfl) ?_
              refine lv_bipush (v := 11) hx hb dX7_of_143 (by decide) ?_
              refine lv_iload_n hx hb dX7_of_145 rfl (lv_at hl 2 rfl) ?_
              obtain ⟨inn_5, now_3, makers_3, makerMany_5, queue_3, hc_6, h⟩ := bd5_el h
              refine tg_cMv (va_runV (As := [.int 11, .int zx2]) (rest := []) ⟨hx, hb, hml, hown, hts⟩ (qX7_joinAll l D cI cZ ad n many image turn shelf groups inn_4 now_2 makers_2 makerMany_4 queue_2 11 zx2 F inn_5 now_3 makers_3 makerMany_5 queue_3 hc_6) (cwV 2 hts gX7_of_X7_joinAll rfl rfl rfl zVX7_joinAll ⟨Nat.le_of_ble_eq_true rfl, Nat.le_of_ble_eq_true rfl⟩) (tg_preVM (r := (RX7, TX7, 11)) (ci := 6) (q0 := 0) hP (hDD _ rfl) hK hN rfl rfl) rfl rfl hl.1 rfl (lv_room (Nat.le_of_ble_eq_true rfl)) dX7_of_146 ⟨Nat.zero_le _, Nat.zero_le _⟩) hS (tg_inA (hDD _ rfl)) (fun zH zlocs _ hP hS => ?_)
              refine lv_aload_n hx hb dX7_of_149 rfl (lv_at hl 0 rfl) ?_
              refine lv_bipush (v := 11) hx hb dX7_of_150 (by decide) ?_
              refine lv_bipush (v := 10) hx hb dX7_of_152 (by decide) ?_
              obtain ⟨inn_6, now_4, makers_4, makerMany_6, queue_4, hc_7, h⟩ := bd5_el h
              refine tg_cMv (va_runV (As := [.int 11, .int 10]) (rest := []) ⟨hx, hb, hml, hown, hts⟩ (qX7_close l D cI cZ ad n many image turn shelf groups inn_5 now_3 makers_3 makerMany_5 queue_3 11 10 F inn_6 now_4 makers_4 makerMany_6 queue_4 hc_7) (cwV 2 hts gX7_of_X7_close rfl rfl rfl zVX7_close ⟨Nat.le_of_ble_eq_true rfl, Nat.le_of_ble_eq_true rfl⟩) (tg_preVM (r := (RX7, TX7, 11)) (ci := 6) (q0 := 0) hP (hDD _ rfl) hK hN rfl rfl) rfl rfl hl.1 rfl (lv_room (Nat.le_of_ble_eq_true rfl)) dX7_of_154 ⟨Nat.zero_le _, Nat.zero_le _⟩) hS (tg_inA (hDD _ rfl)) (fun zH zlocs _ hP hS => ?_)
              refine lv_aload_n hx hb dX7_of_157 rfl (lv_at hl 0 rfl) ?_
              refine lv_bipush (v := 11) hx hb dX7_of_158 (by decide) ?_
              obtain ⟨zr_3, groups_1, inn_7, hc_8, h⟩ := bd3_el h
              refine tg_cMi (va_runV (As := [.int 11]) (rest := []) ⟨hx, hb, hml, hown, hts⟩ (qX7_newGroup l D cI cZ ad n many image turn shelf groups inn_6 now_4 makers_4 makerMany_6 queue_4 11 F zr_3 groups_1 inn_7 hc_8) (cwV 1 hts gX7_of_X7_newGroup rfl rfl rfl zVX7_newGroup ⟨Nat.le_of_ble_eq_true rfl, Nat.le_of_ble_eq_true rfl⟩) (tg_preVM (r := (RX7, TX7, 11)) (ci := 6) (q0 := 0) hP (hDD _ rfl) hK hN rfl rfl) rfl rfl hl.1 rfl (lv_room (Nat.le_of_ble_eq_true rfl)) dX7_of_160 ⟨Nat.zero_le _, Nat.zero_le _⟩) hS (tg_inA (hDD _ rfl)) (fun zH zlocs _ hP hS => ?_)
              cases h
              exact W.iret hx hb hr (fun t ht hW => ⟨rfl, by rw [ht]; exact hP, hS.F ht⟩) hS.2.2 dX7_of_163
            · rw [if_pos cb_5] at h
              refine lv_aload_n hx hb dX7_of_129 rfl (lv_at hl 0 rfl) ?_
              refine lv_bipush (v := 10) hx hb dX7_of_130 (by decide) ?_
              obtain ⟨zr_4, groups_2, inn_8, hc_9, h⟩ := bd3_el h
              refine tg_cMi (va_runV (As := [.int 10]) (rest := []) ⟨hx, hb, hml, hown, hts⟩ (qX7_newGroup l D cI cZ ad n many image turn shelf groups inn_3 now_2 makers_2 makerMany_3 queue_2 10 F zr_4 groups_2 inn_8 hc_9) (cwV 1 hts gX7_of_X7_newGroup rfl rfl rfl zVX7_newGroup ⟨Nat.le_of_ble_eq_true rfl, Nat.le_of_ble_eq_true rfl⟩) (tg_preVM (r := (RX7, TX7, 11)) (ci := 6) (q0 := 0) hP (hDD _ rfl) hK hN rfl rfl) rfl rfl hl.1 rfl (lv_room (Nat.le_of_ble_eq_true rfl)) dX7_of_132 ⟨Nat.zero_le _, Nat.zero_le _⟩) hS (tg_inA (hDD _ rfl)) (fun zH zlocs _ hP hS => ?_)
              cases h
              exact W.iret hx hb hr (fun t ht hW => ⟨rfl, by rw [ht]; exact hP, hS.F ht⟩) hS.2.2 dX7_of_135
          · rw [if_pos cb_4] at h
            refine lv_iconst (v := 0) hx hb dX7_of_45 (by decide) ?_
            refine lv_istore (lv' := [(4, .int 0), (0, .ref (ad 0)), (1, .int zx1), (2, .int zx2), (3, .int zx3)]) hx hb dX7_of_46 hl (by decide) rfl (fun zls hl => ?_)
            obtain ⟨inn_9, hv, h⟩ := bd_el h
            refine wX7_of_L48 ⟨hx, hb, hml, hown, hts, hK, hN⟩ hDD hlocks hr F F _ _ _ hv _ _ hP hS _ (lv_sub hl [1, 3, 4, 0] rfl) (fun zH zlocs hP hS zls hl => ?_)
            refine lv_aload_n hx hb dX7_of_98 rfl (lv_at hl 0 rfl) ?_
            refine lv_bipush (v := 10) hx hb dX7_of_99 (by decide) ?_
            obtain ⟨zr_5, groups_3, inn_10, hc_10, h⟩ := bd3_el h
            refine tg_cMi (va_runV (As := [.int 10]) (rest := []) ⟨hx, hb, hml, hown, hts⟩ (qX7_newGroup l D cI cZ ad n many image turn shelf groups inn_9 now makers makerMany queue 10 F zr_5 groups_3 inn_10 hc_10) (cwV 1 hts gX7_of_X7_newGroup rfl rfl rfl zVX7_newGroup ⟨Nat.le_of_ble_eq_true rfl, Nat.le_of_ble_eq_true rfl⟩) (tg_preVM (r := (RX7, TX7, 11)) (ci := 6) (q0 := 0) hP (hDD _ rfl) hK hN rfl rfl) rfl rfl hl.1 rfl (lv_room (Nat.le_of_ble_eq_true rfl)) dX7_of_101 ⟨Nat.zero_le _, Nat.zero_le _⟩) hS (tg_inA (hDD _ rfl)) (fun zH zlocs _ hP hS => ?_)
            cases h
            exact W.iret hx hb hr (fun t ht hW => ⟨rfl, by rw [ht]; exact hP, hS.F ht⟩) hS.2.2 dX7_of_104
        · rw [if_pos cb_3] at h
          refine lv_bipush (v := (-3)) hx hb dX7_of_37 (by decide) ?_
          cases h
          exact W.iret hx hb hr (fun t ht hW => ⟨rfl, by rw [ht]; exact hP, hS.F ht⟩) hS.2.2 dX7_of_39
      · rw [if_pos cb_2] at h
        refine lv_bipush (v := (-2)) hx hb dX7_of_25 (by decide) ?_
        cases h
        exact W.iret hx hb hr (fun t ht hW => ⟨rfl, by rw [ht]; exact hP, hS.F ht⟩) hS.2.2 dX7_of_27
theorem zVX7_of : yX7_of.cls = RX7 ∧ yX7_of.cls ≠ "java/lang/invoke/MethodHandle" ∧ yX7_of.cls ≠ "java/lang/invoke/VarHandle" ∧ (parseMethodDescriptor yX7_of.desc).map (fun d => d.parameters.length) = some 3 := by decide +kernel

/-! ===== public int by(int, int, int); ===== -/
theorem kX7_by_1 : Cond.fieldLink RX7 7 "TurnGroupsModel" "n" "I" ∈ wsX7_by := by decide +kernel
theorem kX7_by_2 : Cond.fieldLink RX7 61 "TurnGroupsModel" "groups" "I" ∈ wsX7_by := by decide +kernel
theorem kX7_by_3 : Cond.fieldLink RX7 46 "TurnGroupsModel" "many" "I" ∈ wsX7_by := by decide +kernel
theorem kX7_by_4 : Cond.fieldLink RX7 14 "TurnGroupsModel" "image" "[I" ∈ wsX7_by := by decide +kernel
theorem kX7_by_5 : Cond.fieldLink RX7 22 "TurnGroupsModel" "in" "[Z" ∈ wsX7_by := by decide +kernel
theorem kX7_by_6 : Cond.constant RX7 35 (40320) ∈ wsX7_by := by decide +kernel
theorem uX7_by_RX7 : ∀ w ∈ u_ws RX7 TX7 11, w ∈ wsX7_by := by decide +kernel
def mX7_by_L72 (zx1 : Int32) (zx3 : Int32) (zx4 : Int32) (n : Int32) (image : Nat → Int32) : Nat → Int32 → Int32 → Option (Int32)
  | 0, _, _ => none
  | f + 1, zx5, zx6 => if n ≤ zx6 then (some zx5) else (if zx1 = 0 then (bd (if zx5 = 0 then (some (0 : Int32)) else (if ((zx3 >>> (zx6 &&& 31)) &&& 1) = 0 then (some (1 : Int32)) else (gd (inb ((8 * zx4) + zx6) 322560) (if (image (Int32.toNatClampNeg ((8 * zx4) + zx6))) = zx6 then (some (1 : Int32)) else (some (0 : Int32)))))) (fun zv => mX7_by_L72 zx1 zx3 zx4 n image f zv (zx6 + 1))) else (some zx5))
theorem mX7_by_L72_s (zx1 : Int32) (zx3 : Int32) (zx4 : Int32) (n : Int32) (image : Nat → Int32) (f : Nat) (zx5 : Int32) (zx6 : Int32) : mX7_by_L72 zx1 zx3 zx4 n image (f + 1) zx5 zx6 = (if n ≤ zx6 then (some zx5) else (if zx1 = 0 then (bd (if zx5 = 0 then (some (0 : Int32)) else (if ((zx3 >>> (zx6 &&& 31)) &&& 1) = 0 then (some (1 : Int32)) else (gd (inb ((8 * zx4) + zx6) 322560) (if (image (Int32.toNatClampNeg ((8 * zx4) + zx6))) = zx6 then (some (1 : Int32)) else (some (0 : Int32)))))) (fun zv => mX7_by_L72 zx1 zx3 zx4 n image f zv (zx6 + 1))) else (some zx5))) := rfl
def mX7_by_L51 (F : Nat) (zx1 : Int32) (zx2 : Int32) (zx3 : Int32) (n : Int32) (many : Int32) (image : Nat → Int32) (groups : Int32) : Nat → Int32 → (Nat → Int32) → Option ((Nat → Int32))
  | 0, _, _ => none
  | f + 1, zx4, inn => if many ≤ zx4 then (some inn) else (bd (mX7_hasIt inn zx2 zx4) (fun zr => bd (mX7_by_L72 zx1 zx3 zx4 n image F zr 0) (fun zx5 => bd (if zx5 = 0 then (some (0 : Int32)) else (if zx1 = 0 then (some (1 : Int32)) else (bd (mX7_setOf F n image zx4 zx3) (fun zr_1 => if zr_1 = zx3 then (some (1 : Int32)) else (some (0 : Int32)))))) (fun zv => gd (inb ((40320 * groups) + zx4) 524160) (lT (upd inn (Int32.toNatClampNeg ((40320 * groups) + zx4)) (vp_nar .boolean zv)) (fun inn_1 => mX7_by_L51 F zx1 zx2 zx3 n many image groups f (zx4 + 1) inn_1))))))
theorem mX7_by_L51_s (F : Nat) (zx1 : Int32) (zx2 : Int32) (zx3 : Int32) (n : Int32) (many : Int32) (image : Nat → Int32) (groups : Int32) (f : Nat) (zx4 : Int32) (inn : Nat → Int32) : mX7_by_L51 F zx1 zx2 zx3 n many image groups (f + 1) zx4 inn = (if many ≤ zx4 then (some inn) else (bd (mX7_hasIt inn zx2 zx4) (fun zr => bd (mX7_by_L72 zx1 zx3 zx4 n image F zr 0) (fun zx5 => bd (if zx5 = 0 then (some (0 : Int32)) else (if zx1 = 0 then (some (1 : Int32)) else (bd (mX7_setOf F n image zx4 zx3) (fun zr_1 => if zr_1 = zx3 then (some (1 : Int32)) else (some (0 : Int32)))))) (fun zv => gd (inb ((40320 * groups) + zx4) 524160) (lT (upd inn (Int32.toNatClampNeg ((40320 * groups) + zx4)) (vp_nar .boolean zv)) (fun inn_1 => mX7_by_L51 F zx1 zx2 zx3 n many image groups f (zx4 + 1) inn_1))))))) := rfl
def mX7_by (F : Nat) (n : Int32) (many : Int32) (image : Nat → Int32) (groups : Int32) (inn : Nat → Int32) (zx1 : Int32) (zx2 : Int32) (zx3 : Int32) : Option (Int32 × Int32 × (Nat → Int32)) := if (mX7_isIn zx1 0 1) = 0 then (some ((-2 : Int32), groups, inn)) else (bd (mX7_isGroup groups zx2) (fun zr_1 => if zr_1 = 0 then (some ((-2 : Int32), groups, inn)) else (if (mX7_isIn zx3 0 ((1 <<< (n &&& 31)) - 1)) = 0 then (some ((-2 : Int32), groups, inn)) else (if groups = 10 then (some ((-3 : Int32), groups, inn)) else (bd (mX7_by_L51 F zx1 zx2 zx3 n many image groups F 0 inn) (fun inn_1 => bd3 (mX7_newGroup F many groups inn_1 (-1)) (fun zr_3 groups_1 inn_2 => some (zr_3, groups_1, inn_2))))))))
set_option maxRecDepth 100000 in
set_option maxHeartbeats 4000000 in
theorem wX7_by_L72 {p : Program} {l : Launch} {e : Env} {s : State} {m : MethodId} {zargs : Array Value} {zbelow : List Frame} {zmeth : Method} {c : Code} {D : va_G} {zQ : State → Prop} {zA : Nat → Prop} {ad : Nat → Nat} {cI cZ : ClassId} {n : Int32} {many : Int32} {image : Nat → Int32} {turn : Int32} {shelf : Nat → Int32} {groups : Int32} {inn : Nat → Int32} {now : Nat → Int32} {makers : Nat → Int32} {makerMany : Nat → Int32} {queue : Nat → Int32} {zx1 : Int32} {zx2 : Int32} {zx3 : Int32} {zx4 : Int32} (C0 : tg_C p s m zmeth c zargs cX7_by RX7 wsX7_by 7 D [(cI, .int), (cZ, .boolean)]) (hDD : tg_DD zA [ad 0, ad 1, ad 2, ad 3, ad 4, ad 5, ad 6, ad 7]) (hlocks : zmeth.locks = false) (hr : zmeth.sig.returnType = (some .int)) (F : Nat) : ∀ (f : Nat) (zx5 : Int32) (zx6 : Int32) (zo5 : Int32), mX7_by_L72 zx1 zx3 zx4 n image f zx5 zx6 = some zo5 → ∀ (zH : Heap) (zlocs : List Loc), va_P D vwCl (wM cI cZ ad n many image turn shelf groups inn now makers makerMany queue) zH → va_S zA s.heap zH zlocs → ∀ (zls : Array Slot), lv_has zls 7 [(0, .ref (ad 0)), (1, .int zx1), (2, .int zx2), (3, .int zx3), (4, .int zx4), (5, .int zx5), (6, .int zx6)] → (∀ (zH : Heap) (zlocs : List Loc), va_P D vwCl (wM cI cZ ad n many image turn shelf groups inn now makers makerMany queue) zH → va_S zA s.heap zH zlocs → ∀ (zls : Array Slot), lv_has zls 7 [(0, .ref (ad 0)), (1, .int zx1), (2, .int zx2), (3, .int zx3), (4, .int zx4), (5, .int zo5)] → W p l e ({ frames := 2, cells := 0, slots := 0, locals := 44 } : Room) s m zargs zbelow zmeth c zH zlocs 0 0 zQ (F0 m 130 zls [])) → W p l e ({ frames := 2, cells := 0, slots := 0, locals := 44 } : Room) s m zargs zbelow zmeth c zH zlocs 0 0 zQ (F0 m 72 zls []) := by
  obtain ⟨hx, hb, hml, hown, hts, hK, hN⟩ := C0
  intro f
  induction f with
  | zero => intro _ _ _ h; exact absurd (show none = some _ from h) (fun h9 => by cases h9)
  | succ f ih =>
    intro zx5 zx6 zo5 h zH zlocs hP hS zls hl kk
    rw [mX7_by_L72_s] at h
    refine lv_iload hx hb dX7_by_72 (lv_at hl 6 rfl) ?_
    refine lv_aload_n hx hb dX7_by_74 rfl (lv_at hl 0 rfl) ?_
    refine va_get (D := D) (ci := 6) (v := .int n) (C := RX7) (T := TX7) (N := 11) hx hb hts uX7_by_RX7 hown hK hP 0 rfl rfl 0 (by decide) (hts _ kX7_by_1) (fun _ h9 => h9) rfl dX7_by_75 ?_
    refine lv_icmp_ge (tgt := 130) hx hb dX7_by_78 (by decide) (fun cb => ?_) (fun cb => ?_)
    · rw [if_pos cb] at h
      cases h
      exact kk _ _ hP hS _ (lv_sub hl [0, 1, 2, 3, 4, 5] rfl)
    · rw [if_neg cb] at h
      refine lv_iload_n hx hb dX7_by_81 rfl (lv_at hl 1 rfl) ?_
      refine lv_if_ne (tgt := 130) hx hb dX7_by_82 (by decide) (fun cb_1 => ?_) (fun cb_1 => ?_)
      · rw [if_neg cb_1] at h
        cases h
        exact kk _ _ hP hS _ (lv_sub hl [0, 1, 2, 3, 4, 5] rfl)
      · rw [if_pos cb_1] at h
        refine lv_iload hx hb dX7_by_85 (lv_at hl 5 rfl) ?_
        obtain ⟨zv, hv, h⟩ := bd_el h
        have hj : W p l e ({ frames := 2, cells := 0, slots := 0, locals := 44 } : Room) s m zargs zbelow zmeth c zH zlocs 0 0 zQ (F0 m 122 zls [.int zv]) := by
          refine lv_istore (lv' := [(5, .int zv), (0, .ref (ad 0)), (1, .int zx1), (2, .int zx2), (3, .int zx3), (4, .int zx4), (6, .int zx6)]) hx hb dX7_by_122 hl (by decide) rfl (fun zls hl => ?_)
          refine lv_iinc (v := (zx6 + 1)) (lv' := [(6, .int (zx6 + 1)), (5, .int zv), (0, .ref (ad 0)), (1, .int zx1), (2, .int zx2), (3, .int zx3), (4, .int zx4)]) hx hb dX7_by_124 hl (k := 6) rfl rfl (by decide) rfl (fun zls hl => ?_)
          refine lv_goto (tgt := 72) hx hb dX7_by_127 (by decide) ?_
          exact ih _ _ _ h _ _ hP hS _ (lv_sub hl [2, 3, 4, 5, 6, 1, 0] rfl) kk
        refine lv_if_eq (tgt := 121) hx hb dX7_by_87 (by decide) (fun cb_2 => ?_) (fun cb_2 => ?_)
        · rw [if_pos cb_2] at hv
          refine lv_iconst (v := 0) hx hb dX7_by_121 (by decide) ?_
          cases hv
          exact hj 
        · rw [if_neg cb_2] at hv
          refine lv_iload_n hx hb dX7_by_90 rfl (lv_at hl 3 rfl) ?_
          refine lv_iload hx hb dX7_by_91 (lv_at hl 6 rfl) ?_
          refine lv_ishr hx hb dX7_by_93 ?_
          refine lv_iconst (v := 1) hx hb dX7_by_94 (by decide) ?_
          refine lv_iand hx hb dX7_by_95 ?_
          refine lv_if_eq (tgt := 117) hx hb dX7_by_96 (by decide) (fun cb_3 => ?_) (fun cb_3 => ?_)
          · rw [if_pos cb_3] at hv
            refine lv_iconst (v := 1) hx hb dX7_by_117 (by decide) ?_
            refine lv_goto (tgt := 122) hx hb dX7_by_118 (by decide) ?_
            cases hv
            exact hj 
          · rw [if_neg cb_3] at hv
            refine lv_aload_n hx hb dX7_by_99 rfl (lv_at hl 0 rfl) ?_
            refine va_get (D := D) (ci := 6) (v := .ref (ad 1)) (C := RX7) (T := TX7) (N := 11) hx hb hts uX7_by_RX7 hown hK hP 0 rfl rfl 2 (by decide) (hts _ kX7_by_4) (fun _ h9 => h9) rfl dX7_by_100 ?_
            refine lv_bipush (v := 8) hx hb dX7_by_103 (by decide) ?_
            refine lv_iload hx hb dX7_by_105 (lv_at hl 4 rfl) ?_
            refine lv_imul hx hb dX7_by_107 ?_
            refine lv_iload hx hb dX7_by_108 (lv_at hl 6 rfl) ?_
            refine lv_iadd hx hb dX7_by_110 ?_
            obtain ⟨gg, hv⟩ := gd_el hv
            refine va_iald hx hb hK hP 1 0 rfl rfl (inb_in gg) dX7_by_111 ?_
            refine lv_iload hx hb dX7_by_112 (lv_at hl 6 rfl) ?_
            refine lv_icmp_ne (tgt := 121) hx hb dX7_by_114 (by decide) (fun cb_4 => ?_) (fun cb_4 => ?_)
            · rw [if_neg cb_4] at hv
              refine lv_iconst (v := 0) hx hb dX7_by_121 (by decide) ?_
              cases hv
              exact hj 
            · rw [if_pos cb_4] at hv
              refine lv_iconst (v := 1) hx hb dX7_by_117 (by decide) ?_
              refine lv_goto (tgt := 122) hx hb dX7_by_118 (by decide) ?_
              cases hv
              exact hj 
set_option maxRecDepth 100000 in
set_option maxHeartbeats 4000000 in
theorem wX7_by_L51 {p : Program} {l : Launch} {e : Env} {s : State} {m : MethodId} {zargs : Array Value} {zbelow : List Frame} {zmeth : Method} {c : Code} {D : va_G} {zQ : State → Prop} {zA : Nat → Prop} {ad : Nat → Nat} {cI cZ : ClassId} {n : Int32} {many : Int32} {image : Nat → Int32} {turn : Int32} {shelf : Nat → Int32} {groups : Int32} {now : Nat → Int32} {makers : Nat → Int32} {makerMany : Nat → Int32} {queue : Nat → Int32} {zx1 : Int32} {zx2 : Int32} {zx3 : Int32} (C0 : tg_C p s m zmeth c zargs cX7_by RX7 wsX7_by 7 D [(cI, .int), (cZ, .boolean)]) (hDD : tg_DD zA [ad 0, ad 1, ad 2, ad 3, ad 4, ad 5, ad 6, ad 7]) (hlocks : zmeth.locks = false) (hr : zmeth.sig.returnType = (some .int)) (F : Nat) : ∀ (f : Nat) (zx4 : Int32) (inn : Nat → Int32) (oinn : Nat → Int32), mX7_by_L51 F zx1 zx2 zx3 n many image groups f zx4 inn = some oinn → ∀ (zH : Heap) (zlocs : List Loc), va_P D vwCl (wM cI cZ ad n many image turn shelf groups inn now makers makerMany queue) zH → va_S zA s.heap zH zlocs → ∀ (zls : Array Slot), lv_has zls 7 [(0, .ref (ad 0)), (1, .int zx1), (2, .int zx2), (3, .int zx3), (4, .int zx4)] → (∀ (zH : Heap) (zlocs : List Loc), va_P D vwCl (wM cI cZ ad n many image turn shelf groups oinn now makers makerMany queue) zH → va_S zA s.heap zH zlocs → ∀ (zls : Array Slot), lv_has zls 7 [(0, .ref (ad 0))] → W p l e ({ frames := 2, cells := 0, slots := 0, locals := 44 } : Room) s m zargs zbelow zmeth c zH zlocs 0 0 zQ (F0 m 176 zls [])) → W p l e ({ frames := 2, cells := 0, slots := 0, locals := 44 } : Room) s m zargs zbelow zmeth c zH zlocs 0 0 zQ (F0 m 51 zls []) := by
  obtain ⟨hx, hb, hml, hown, hts, hK, hN⟩ := C0
  intro f
  induction f with
  | zero => intro _ _ _ h; exact absurd (show none = some _ from h) (fun h9 => by cases h9)
  | succ f ih =>
    intro zx4 inn oinn h zH zlocs hP hS zls hl kk
    rw [mX7_by_L51_s] at h
    refine lv_iload hx hb dX7_by_51 (lv_at hl 4 rfl) ?_
    refine lv_aload_n hx hb dX7_by_53 rfl (lv_at hl 0 rfl) ?_
    refine va_get (D := D) (ci := 6) (v := .int many) (C := RX7) (T := TX7) (N := 11) hx hb hts uX7_by_RX7 hown hK hP 0 rfl rfl 1 (by decide) (hts _ kX7_by_3) (fun _ h9 => h9) rfl dX7_by_54 ?_
    refine lv_icmp_ge (tgt := 176) hx hb dX7_by_57 (by decide) (fun cb => ?_) (fun cb => ?_)
    · rw [if_pos cb] at h
      cases h
      exact kk _ _ hP hS _ (lv_sub hl [0] rfl)
    · rw [if_neg cb] at h
      refine lv_aload_n hx hb dX7_by_60 rfl (lv_at hl 0 rfl) ?_
      refine lv_iload_n hx hb dX7_by_61 rfl (lv_at hl 2 rfl) ?_
      refine lv_iload hx hb dX7_by_62 (lv_at hl 4 rfl) ?_
      obtain ⟨zr, hc, h⟩ := bd_el h
      refine tg_cRi (va_runV (As := [.int zx2, .int zx4]) (rest := []) ⟨hx, hb, hml, hown, hts⟩ (qX7_hasIt l D cI cZ ad n many image turn shelf groups inn now makers makerMany queue zx2 zx4 zr hc) (cwV 2 hts gX7_by_X7_hasIt rfl rfl rfl zVX7_hasIt ⟨Nat.le_of_ble_eq_true rfl, Nat.le_of_ble_eq_true rfl⟩) (tg_preV (r := (RX7, TX7, 11)) (ci := 6) (q0 := 0) hP hK hN rfl rfl) rfl rfl hl.1 rfl (lv_room (Nat.le_of_ble_eq_true rfl)) dX7_by_64 ⟨Nat.zero_le _, Nat.zero_le _⟩) ?_
      refine lv_istore (lv' := [(5, .int zr), (0, .ref (ad 0)), (1, .int zx1), (2, .int zx2), (3, .int zx3), (4, .int zx4)]) hx hb dX7_by_67 hl (by decide) rfl (fun zls hl => ?_)
      refine lv_iconst (v := 0) hx hb dX7_by_69 (by decide) ?_
      refine lv_istore (lv' := [(6, .int 0), (5, .int zr), (0, .ref (ad 0)), (1, .int zx1), (2, .int zx2), (3, .int zx3), (4, .int zx4)]) hx hb dX7_by_70 hl (by decide) rfl (fun zls hl => ?_)
      obtain ⟨zx5, hv, h⟩ := bd_el h
      refine wX7_by_L72 ⟨hx, hb, hml, hown, hts, hK, hN⟩ hDD hlocks hr F F _ _ _ hv _ _ hP hS _ (lv_sub hl [2, 3, 4, 5, 6, 1, 0] rfl) (fun zH zlocs hP hS zls hl => ?_)
      refine lv_aload_n hx hb dX7_by_130 rfl (lv_at hl 0 rfl) ?_
      refine va_get (D := D) (ci := 6) (v := .ref (ad 3)) (C := RX7) (T := TX7) (N := 11) hx hb hts uX7_by_RX7 hown hK hP 0 rfl rfl 6 (by decide) (hts _ kX7_by_5) (fun _ h9 => h9) rfl dX7_by_131 ?_
      refine lv_ldc hx hb hown (hts _ kX7_by_6) dX7_by_134 ?_
      refine lv_aload_n hx hb dX7_by_136 rfl (lv_at hl 0 rfl) ?_
      refine va_get (D := D) (ci := 6) (v := .int groups) (C := RX7) (T := TX7) (N := 11) hx hb hts uX7_by_RX7 hown hK hP 0 rfl rfl 5 (by decide) (hts _ kX7_by_2) (fun _ h9 => h9) rfl dX7_by_137 ?_
      refine lv_imul hx hb dX7_by_140 ?_
      refine lv_iload hx hb dX7_by_141 (lv_at hl 4 rfl) ?_
      refine lv_iadd hx hb dX7_by_143 ?_
      refine lv_iload hx hb dX7_by_144 (lv_at hl 5 rfl) ?_
      obtain ⟨zv, hv_1, h⟩ := bd_el h
      have hj : W p l e ({ frames := 2, cells := 0, slots := 0, locals := 44 } : Room) s m zargs zbelow zmeth c zH zlocs 0 0 zQ (F0 m 169 zls [.int zv, .int ((40320 * groups) + zx4), .ref (ad 3)]) := by
        obtain ⟨gg, h⟩ := gd_el h
        obtain ⟨inn_1, einn_1, h⟩ := lT_el h
        refine va_zast hx hb hK hP (hDD _ rfl) hS 3 1 rfl rfl (inb_in gg) dX7_by_169 (fun zH zlocs hP _ hS => ?_)
        have hP : va_P D vwCl (wM cI cZ ad n many image turn shelf groups (upd inn (Int32.toNatClampNeg ((40320 * groups) + zx4)) (vp_nar .boolean zv)) now makers makerMany queue) zH := hP
        rw [← einn_1] at hP
        refine lv_iinc (v := (zx4 + 1)) (lv' := [(4, .int (zx4 + 1)), (0, .ref (ad 0)), (1, .int zx1), (2, .int zx2), (3, .int zx3), (5, .int zx5)]) hx hb dX7_by_170 hl (k := 4) rfl rfl (by decide) rfl (fun zls hl => ?_)
        refine lv_goto (tgt := 51) hx hb dX7_by_173 (by decide) ?_
        exact ih _ _ _ h _ _ hP hS _ (lv_sub hl [1, 2, 3, 4, 0] rfl) kk
      refine lv_if_eq (tgt := 168) hx hb dX7_by_146 (by decide) (fun cb_1 => ?_) (fun cb_1 => ?_)
      · rw [if_pos cb_1] at hv_1
        refine lv_iconst (v := 0) hx hb dX7_by_168 (by decide) ?_
        cases hv_1
        exact hj 
      · rw [if_neg cb_1] at hv_1
        refine lv_iload_n hx hb dX7_by_149 rfl (lv_at hl 1 rfl) ?_
        refine lv_if_eq (tgt := 164) hx hb dX7_by_150 (by decide) (fun cb_2 => ?_) (fun cb_2 => ?_)
        · rw [if_pos cb_2] at hv_1
          refine lv_iconst (v := 1) hx hb dX7_by_164 (by decide) ?_
          refine lv_goto (tgt := 169) hx hb dX7_by_165 (by decide) ?_
          cases hv_1
          exact hj 
        · rw [if_neg cb_2] at hv_1
          refine lv_aload_n hx hb dX7_by_153 rfl (lv_at hl 0 rfl) ?_
          refine lv_iload hx hb dX7_by_154 (lv_at hl 4 rfl) ?_
          refine lv_iload_n hx hb dX7_by_156 rfl (lv_at hl 3 rfl) ?_
          obtain ⟨zr_1, hc_1, hv_1⟩ := bd_el hv_1
          refine tg_cRi (va_runV (As := [.int zx4, .int zx3]) (rest := [.int ((40320 * groups) + zx4), .ref (ad 3)]) ⟨hx, hb, hml, hown, hts⟩ (qX7_setOf l D cI cZ ad n many image turn shelf groups inn now makers makerMany queue zx4 zx3 F zr_1 hc_1) (cwV 2 hts gX7_by_X7_setOf rfl rfl rfl zVX7_setOf ⟨Nat.le_of_ble_eq_true rfl, Nat.le_of_ble_eq_true rfl⟩) (tg_preV (r := (RX7, TX7, 11)) (ci := 6) (q0 := 0) hP hK hN rfl rfl) rfl rfl hl.1 rfl (lv_room (Nat.le_of_ble_eq_true rfl)) dX7_by_157 ⟨Nat.zero_le _, Nat.zero_le _⟩) ?_
          refine lv_iload_n hx hb dX7_by_160 rfl (lv_at hl 3 rfl) ?_
          refine lv_icmp_ne (tgt := 168) hx hb dX7_by_161 (by decide) (fun cb_3 => ?_) (fun cb_3 => ?_)
          · rw [if_neg cb_3] at hv_1
            refine lv_iconst (v := 0) hx hb dX7_by_168 (by decide) ?_
            cases hv_1
            exact hj 
          · rw [if_pos cb_3] at hv_1
            refine lv_iconst (v := 1) hx hb dX7_by_164 (by decide) ?_
            refine lv_goto (tgt := 169) hx hb dX7_by_165 (by decide) ?_
            cases hv_1
            exact hj 
set_option maxRecDepth 100000 in
set_option maxHeartbeats 4000000 in
theorem qX7_by (l : Launch) (D : va_G) (cI : ClassId) (cZ : ClassId) (ad : Nat → Nat) (n : Int32) (many : Int32) (image : Nat → Int32) (turn : Int32) (shelf : Nat → Int32) (groups : Int32) (inn : Nat → Int32) (now : Nat → Int32) (makers : Nat → Int32) (makerMany : Nat → Int32) (queue : Nat → Int32) (zx1 : Int32) (zx2 : Int32) (zx3 : Int32) (F : Nat) (zr0 : Int32) (ogroups : Int32) (oinn : Nat → Int32) (h : mX7_by F n many image groups inn zx1 zx2 zx3 = some (zr0, ogroups, oinn)) : Met l yX7_by wsX7_by ({ frames := 2, cells := 0, slots := 0, locals := 44 } : Room) (tg_PM D [(cI, .int), (cZ, .boolean)] [.ref (ad 0), .int zx1, .int zx2, .int zx3] (wM cI cZ ad n many image turn shelf groups inn now makers makerMany queue)) (tg_Mi D (wM cI cZ ad n many image turn shelf groups inn now makers makerMany queue) (wM cI cZ ad n many image turn shelf ogroups oinn now makers makerMany queue) zr0) 0 0 (tg_in (wM cI cZ ad n many image turn shelf groups inn now makers makerMany queue)) := by
  refine Met.ofW (cc := cX7_by) (maxL := 7) (ret := (some .int)) (by decide) rfl ?_
  intro p e s m zargs zbelow zmeth c s₁ B hml hv
  obtain ⟨hargs, hP, hK, hN, hD0⟩ := hv
  have hx := B.exec
  have hb := B.bytes
  have hr := B.returns
  have hts := atoms_spec (ws := wsX7_by) B.pre
  have hown : s.vm.findClass RX7 = some m.cls := findClass_of_methodNamed B.named
  have hlocks := B.notSynchronized
  have hDD : tg_DD (tg_in (wM cI cZ ad n many image turn shelf groups inn now makers makerMany queue)) [ad 0, ad 1, ad 2, ad 3, ad 4, ad 5, ad 6, ad 7] := tg_DD.of (tg_D hD0) rfl
  have hS : va_S (tg_in (wM cI cZ ad n many image turn shelf groups inn now makers makerMany queue)) s.heap s.heap [] := va_S.rf
  have hl := lv_entry ([.ref (ad 0), .int zx1, .int zx2, .int zx3]) (n := 7) (Nat.le_of_ble_eq_true rfl)
  refine W.eq (g2 := entryFrame m ([.ref (ad 0), .int zx1, .int zx2, .int zx3] : List Value).toArray 7) (by rw [hargs]) ?_
  rw [lg_entry_eq]
  generalize (lg_sl ([.ref (ad 0), .int zx1, .int zx2, .int zx3]) ++ List.replicate (7 - (lg_sl ([.ref (ad 0), .int zx1, .int zx2, .int zx3])).length) Slot.unset).toArray = zls at hl ⊢
  have hl : lv_has zls 7 [(0, .ref (ad 0)), (1, .int zx1), (2, .int zx2), (3, .int zx3)] := hl
  rw [mX7_by] at h
  refine lv_iload_n hx hb dX7_by_0 rfl (lv_at hl 1 rfl) ?_
  refine lv_iconst (v := 0) hx hb dX7_by_1 (by decide) ?_
  refine lv_iconst (v := 1) hx hb dX7_by_2 (by decide) ?_
  refine tg_cRi (va_runS (As := [.int zx1, .int 0, .int 1]) (rest := []) ⟨hx, hb, hml, hown, hts⟩ (qX7_isIn l D zx1 0 1 _ rfl) (va_cwS 3 hts gX7_by_X7_isIn rfl rfl rfl zSX7_isIn ⟨Nat.le_of_ble_eq_true rfl, Nat.le_of_ble_eq_true rfl⟩) (tg_preS tg_nil (hK.sub (tys' := []) [] rfl) hN) rfl rfl hl.1 rfl (lv_room (Nat.le_of_ble_eq_true rfl)) dX7_by_3 ⟨Nat.zero_le _, Nat.zero_le _⟩) ?_
  refine lv_if_eq (tgt := 33) hx hb dX7_by_6 (by decide) (fun cb => ?_) (fun cb => ?_)
  · rw [if_pos cb] at h
    refine lv_bipush (v := (-2)) hx hb dX7_by_33 (by decide) ?_
    cases h
    exact W.iret hx hb hr (fun t ht hW => ⟨rfl, by rw [ht]; exact hP, hS.F ht⟩) hS.2.2 dX7_by_35
  · rw [if_neg cb] at h
    refine lv_aload_n hx hb dX7_by_9 rfl (lv_at hl 0 rfl) ?_
    refine lv_iload_n hx hb dX7_by_10 rfl (lv_at hl 2 rfl) ?_
    obtain ⟨zr_1, hc, h⟩ := bd_el h
    refine tg_cRi (va_runV (As := [.int zx2]) (rest := []) ⟨hx, hb, hml, hown, hts⟩ (qX7_isGroup l D cI cZ ad n many image turn shelf groups inn now makers makerMany queue zx2 zr_1 hc) (cwV 1 hts gX7_by_X7_isGroup rfl rfl rfl zVX7_isGroup ⟨Nat.le_of_ble_eq_true rfl, Nat.le_of_ble_eq_true rfl⟩) (tg_preV (r := (RX7, TX7, 11)) (ci := 6) (q0 := 0) hP hK hN rfl rfl) rfl rfl hl.1 rfl (lv_room (Nat.le_of_ble_eq_true rfl)) dX7_by_11 ⟨Nat.zero_le _, Nat.zero_le _⟩) ?_
    refine lv_if_eq (tgt := 33) hx hb dX7_by_14 (by decide) (fun cb_1 => ?_) (fun cb_1 => ?_)
    · rw [if_pos cb_1] at h
      refine lv_bipush (v := (-2)) hx hb dX7_by_33 (by decide) ?_
      cases h
      exact W.iret hx hb hr (fun t ht hW => ⟨rfl, by rw [ht]; exact hP, hS.F ht⟩) hS.2.2 dX7_by_35
    · rw [if_neg cb_1] at h
      refine lv_iload_n hx hb dX7_by_17 rfl (lv_at hl 3 rfl) ?_
      refine lv_iconst (v := 0) hx hb dX7_by_18 (by decide) ?_
      refine lv_iconst (v := 1) hx hb dX7_by_19 (by decide) ?_
      refine lv_aload_n hx hb dX7_by_20 rfl (lv_at hl 0 rfl) ?_
      refine va_get (D := D) (ci := 6) (v := .int n) (C := RX7) (T := TX7) (N := 11) hx hb hts uX7_by_RX7 hown hK hP 0 rfl rfl 0 (by decide) (hts _ kX7_by_1) (fun _ h9 => h9) rfl dX7_by_21 ?_
      refine lv_ishl hx hb dX7_by_24 ?_
      refine lv_iconst (v := 1) hx hb dX7_by_25 (by decide) ?_
      refine lv_isub hx hb dX7_by_26 ?_
      refine tg_cRi (va_runS (As := [.int zx3, .int 0, .int ((1 <<< (n &&& 31)) - 1)]) (rest := []) ⟨hx, hb, hml, hown, hts⟩ (qX7_isIn l D zx3 0 ((1 <<< (n &&& 31)) - 1) _ rfl) (va_cwS 3 hts gX7_by_X7_isIn rfl rfl rfl zSX7_isIn ⟨Nat.le_of_ble_eq_true rfl, Nat.le_of_ble_eq_true rfl⟩) (tg_preS tg_nil (hK.sub (tys' := []) [] rfl) hN) rfl rfl hl.1 rfl (lv_room (Nat.le_of_ble_eq_true rfl)) dX7_by_27 ⟨Nat.zero_le _, Nat.zero_le _⟩) ?_
      refine lv_if_ne (tgt := 36) hx hb dX7_by_30 (by decide) (fun cb_2 => ?_) (fun cb_2 => ?_)
      · rw [if_neg cb_2] at h
        refine lv_aload_n hx hb dX7_by_36 rfl (lv_at hl 0 rfl) ?_
        refine va_get (D := D) (ci := 6) (v := .int groups) (C := RX7) (T := TX7) (N := 11) hx hb hts uX7_by_RX7 hown hK hP 0 rfl rfl 5 (by decide) (hts _ kX7_by_2) (fun _ h9 => h9) rfl dX7_by_37 ?_
        refine lv_bipush (v := 10) hx hb dX7_by_40 (by decide) ?_
        refine lv_icmp_ne (tgt := 48) hx hb dX7_by_42 (by decide) (fun cb_3 => ?_) (fun cb_3 => ?_)
        · rw [if_neg cb_3] at h
          refine lv_iconst (v := 0) hx hb dX7_by_48 (by decide) ?_
          refine lv_istore (lv' := [(4, .int 0), (0, .ref (ad 0)), (1, .int zx1), (2, .int zx2), (3, .int zx3)]) hx hb dX7_by_49 hl (by decide) rfl (fun zls hl => ?_)
          obtain ⟨inn_1, hv, h⟩ := bd_el h
          refine wX7_by_L51 ⟨hx, hb, hml, hown, hts, hK, hN⟩ hDD hlocks hr F F _ _ _ hv _ _ hP hS _ (lv_sub hl [1, 2, 3, 4, 0] rfl) (fun zH zlocs hP hS zls hl => ?_)
          refine lv_aload_n hx hb dX7_by_176 rfl (lv_at hl 0 rfl) ?_
          refine lv_iconst (v := (-1)) hx hb dX7_by_177 (by decide) ?_
          obtain ⟨zr_3, groups_1, inn_2, hc_1, h⟩ := bd3_el h
          refine tg_cMi (va_runV (As := [.int (-1)]) (rest := []) ⟨hx, hb, hml, hown, hts⟩ (qX7_newGroup l D cI cZ ad n many image turn shelf groups inn_1 now makers makerMany queue (-1) F zr_3 groups_1 inn_2 hc_1) (cwV 1 hts gX7_by_X7_newGroup rfl rfl rfl zVX7_newGroup ⟨Nat.le_of_ble_eq_true rfl, Nat.le_of_ble_eq_true rfl⟩) (tg_preVM (r := (RX7, TX7, 11)) (ci := 6) (q0 := 0) hP (hDD _ rfl) hK hN rfl rfl) rfl rfl hl.1 rfl (lv_room (Nat.le_of_ble_eq_true rfl)) dX7_by_178 ⟨Nat.zero_le _, Nat.zero_le _⟩) hS (tg_inA (hDD _ rfl)) (fun zH zlocs _ hP hS => ?_)
          cases h
          exact W.iret hx hb hr (fun t ht hW => ⟨rfl, by rw [ht]; exact hP, hS.F ht⟩) hS.2.2 dX7_by_181
        · rw [if_pos cb_3] at h
          refine lv_bipush (v := (-3)) hx hb dX7_by_45 (by decide) ?_
          cases h
          exact W.iret hx hb hr (fun t ht hW => ⟨rfl, by rw [ht]; exact hP, hS.F ht⟩) hS.2.2 dX7_by_47
      · rw [if_pos cb_2] at h
        refine lv_bipush (v := (-2)) hx hb dX7_by_33 (by decide) ?_
        cases h
        exact W.iret hx hb hr (fun t ht hW => ⟨rfl, by rw [ht]; exact hP, hS.F ht⟩) hS.2.2 dX7_by_35
theorem zVX7_by : yX7_by.cls = RX7 ∧ yX7_by.cls ≠ "java/lang/invoke/MethodHandle" ∧ yX7_by.cls ≠ "java/lang/invoke/VarHandle" ∧ (parseMethodDescriptor yX7_by.desc).map (fun d => d.parameters.length) = some 3 := by decide +kernel

/-! ===== public int made(int, int); ===== -/
theorem kX7_made_1 : Cond.fieldLink RX7 61 "TurnGroupsModel" "groups" "I" ∈ wsX7_made := by decide +kernel
theorem kX7_made_2 : Cond.fieldLink RX7 46 "TurnGroupsModel" "many" "I" ∈ wsX7_made := by decide +kernel
theorem kX7_made_3 : Cond.fieldLink RX7 32 "TurnGroupsModel" "makerMany" "[I" ∈ wsX7_made := by decide +kernel
theorem kX7_made_4 : Cond.fieldLink RX7 29 "TurnGroupsModel" "makers" "[I" ∈ wsX7_made := by decide +kernel
theorem kX7_made_5 : Cond.fieldLink RX7 22 "TurnGroupsModel" "in" "[Z" ∈ wsX7_made := by decide +kernel
theorem kX7_made_6 : Cond.constant RX7 119 (483840) ∈ wsX7_made := by decide +kernel
theorem kX7_made_7 : Cond.fieldLink RX7 64 "TurnGroupsModel" "turn" "I" ∈ wsX7_made := by decide +kernel
theorem uX7_made_RX7 : ∀ w ∈ u_ws RX7 TX7 11, w ∈ wsX7_made := by decide +kernel
def mX7_made_L160 (F : Nat) (zx3 : Int32) (n : Int32) (image : Nat → Int32) (makers : Nat → Int32) (makerMany : Nat → Int32) : Nat → Int32 → Int32 → (Nat → Int32) → Option (Int32 × (Nat → Int32))
  | 0, _, _, _ => none
  | f + 1, zx4, zx5, now => gd (inb 10 13) (if (makerMany (Int32.toNatClampNeg 10)) ≤ zx5 then (some (zx4, now)) else (if zx4 = 0 then (some (zx4, now)) else (gd (inb (320 + zx5) 416) (lT (makers (Int32.toNatClampNeg (320 + zx5))) (fun zx6 => bd2 (mX7_oneThen F n image now zx3 zx6) (fun zr now_1 => bd2 (mX7_oneThen F n image now_1 zx6 zx3) (fun zr_1 now_2 => lT (if zr = zr_1 then (1 : Int32) else (0 : Int32)) (fun zv => mX7_made_L160 F zx3 n image makers makerMany f zv (zx5 + 1) now_2))))))))
theorem mX7_made_L160_s (F : Nat) (zx3 : Int32) (n : Int32) (image : Nat → Int32) (makers : Nat → Int32) (makerMany : Nat → Int32) (f : Nat) (zx4 : Int32) (zx5 : Int32) (now : Nat → Int32) : mX7_made_L160 F zx3 n image makers makerMany (f + 1) zx4 zx5 now = (gd (inb 10 13) (if (makerMany (Int32.toNatClampNeg 10)) ≤ zx5 then (some (zx4, now)) else (if zx4 = 0 then (some (zx4, now)) else (gd (inb (320 + zx5) 416) (lT (makers (Int32.toNatClampNeg (320 + zx5))) (fun zx6 => bd2 (mX7_oneThen F n image now zx3 zx6) (fun zr now_1 => bd2 (mX7_oneThen F n image now_1 zx6 zx3) (fun zr_1 now_2 => lT (if zr = zr_1 then (1 : Int32) else (0 : Int32)) (fun zv => mX7_made_L160 F zx3 n image makers makerMany f zv (zx5 + 1) now_2))))))))) := rfl
def mX7_made_L102 (F : Nat) (zx1 : Int32) (zx2 : Int32) (n : Int32) (many : Int32) (image : Nat → Int32) (turn : Int32) (makers : Nat → Int32) (makerMany : Nat → Int32) : Nat → Int32 → (Nat → Int32) → (Nat → Int32) → Option ((Nat → Int32) × (Nat → Int32))
  | 0, _, _, _ => none
  | f + 1, zx3, inn, now => if many ≤ zx3 then (some (inn, now)) else (bd (mX7_hasIt inn zx2 zx3) (fun zr => bd2 (if zr = 0 then (bd (mX7_hasIt inn zx2 zx3) (fun zr_1 => if zr_1 = 0 then (some (inn, now)) else (bd2 (mX7_made_L160 F zx3 n image makers makerMany F 1 0 now) (fun zx4 now_2 => gd (inb (483840 + zx3) 524160) (lT (upd inn (Int32.toNatClampNeg (483840 + zx3)) (vp_nar .boolean zx4)) (fun inn_2 => some (inn_2, now_2))))))) else (if zx1 = 2 then (bd2 (mX7_carried F n image now zx3 turn) (fun zr_3 now_4 => gd (inb (483840 + zr_3) 524160) (lT (upd inn (Int32.toNatClampNeg (483840 + zr_3)) (vp_nar .boolean 1)) (fun inn_4 => some (inn_4, now_4))))) else (bd (mX7_hasIt inn zx2 zx3) (fun zr_2 => if zr_2 = 0 then (some (inn, now)) else (bd2 (mX7_made_L160 F zx3 n image makers makerMany F 1 0 now) (fun zx4_1 now_3 => gd (inb (483840 + zx3) 524160) (lT (upd inn (Int32.toNatClampNeg (483840 + zx3)) (vp_nar .boolean zx4_1)) (fun inn_3 => some (inn_3, now_3))))))))) (fun inn_1 now_1 => mX7_made_L102 F zx1 zx2 n many image turn makers makerMany f (zx3 + 1) inn_1 now_1)))
theorem mX7_made_L102_s (F : Nat) (zx1 : Int32) (zx2 : Int32) (n : Int32) (many : Int32) (image : Nat → Int32) (turn : Int32) (makers : Nat → Int32) (makerMany : Nat → Int32) (f : Nat) (zx3 : Int32) (inn : Nat → Int32) (now : Nat → Int32) : mX7_made_L102 F zx1 zx2 n many image turn makers makerMany (f + 1) zx3 inn now = (if many ≤ zx3 then (some (inn, now)) else (bd (mX7_hasIt inn zx2 zx3) (fun zr => bd2 (if zr = 0 then (bd (mX7_hasIt inn zx2 zx3) (fun zr_1 => if zr_1 = 0 then (some (inn, now)) else (bd2 (mX7_made_L160 F zx3 n image makers makerMany F 1 0 now) (fun zx4 now_2 => gd (inb (483840 + zx3) 524160) (lT (upd inn (Int32.toNatClampNeg (483840 + zx3)) (vp_nar .boolean zx4)) (fun inn_2 => some (inn_2, now_2))))))) else (if zx1 = 2 then (bd2 (mX7_carried F n image now zx3 turn) (fun zr_3 now_4 => gd (inb (483840 + zr_3) 524160) (lT (upd inn (Int32.toNatClampNeg (483840 + zr_3)) (vp_nar .boolean 1)) (fun inn_4 => some (inn_4, now_4))))) else (bd (mX7_hasIt inn zx2 zx3) (fun zr_2 => if zr_2 = 0 then (some (inn, now)) else (bd2 (mX7_made_L160 F zx3 n image makers makerMany F 1 0 now) (fun zx4_1 now_3 => gd (inb (483840 + zx3) 524160) (lT (upd inn (Int32.toNatClampNeg (483840 + zx3)) (vp_nar .boolean zx4_1)) (fun inn_3 => some (inn_3, now_3))))))))) (fun inn_1 now_1 => mX7_made_L102 F zx1 zx2 n many image turn makers makerMany f (zx3 + 1) inn_1 now_1)))) := rfl
def mX7_made (F : Nat) (n : Int32) (many : Int32) (image : Nat → Int32) (turn : Int32) (groups : Int32) (inn : Nat → Int32) (now : Nat → Int32) (makers : Nat → Int32) (makerMany : Nat → Int32) (queue : Nat → Int32) (zx1 : Int32) (zx2 : Int32) : Option (Int32 × Int32 × (Nat → Int32) × (Nat → Int32) × (Nat → Int32) × (Nat → Int32) × (Nat → Int32)) := if (mX7_isIn zx1 0 3) = 0 then (some ((-2 : Int32), groups, inn, now, makers, makerMany, queue)) else (bd (mX7_isGroup groups zx2) (fun zr_1 => if zr_1 = 0 then (some ((-2 : Int32), groups, inn, now, makers, makerMany, queue)) else (if groups = 10 then (some ((-3 : Int32), groups, inn, now, makers, makerMany, queue)) else (if zx1 = 3 then (bd5 (mX7_goDown F n many image inn now makers makerMany queue zx2) (fun inn_7 now_4 makers_4 makerMany_5 queue_3 => bd3 (mX7_newGroup F many groups inn_7 11) (fun zr_3 groups_2 inn_8 => some (zr_3, groups_2, inn_8, now_4, makers_4, makerMany_5, queue_3)))) else (bd2 (mX7_begin F many inn makerMany 10) (fun inn_1 makerMany_1 => bd5 (if zx1 = 0 then (gd (inb 320 416) (lT (upd makers (Int32.toNatClampNeg 320) turn) (fun makers_3 => gd (inb 10 13) (lT (upd makerMany_1 (Int32.toNatClampNeg 10) 1) (fun makerMany_4 => some (inn_1, now, makers_3, makerMany_4, queue)))))) else (if zx1 = 1 then (bd5 (mX7_joinAll F n many image inn_1 now makers makerMany_1 queue 10 zx2) (fun inn_6 now_3 makers_2 makerMany_3 queue_2 => some (inn_6, now_3, makers_2, makerMany_3, queue_2))) else (some (inn_1, now, makers, makerMany_1, queue)))) (fun inn_2 now_1 makers_1 makerMany_2 queue_1 => bd (mX7_clear F many inn_2 12) (fun inn_3 => bd2 (mX7_made_L102 F zx1 zx2 n many image turn makers_1 makerMany_2 F 0 inn_3 now_1) (fun inn_4 now_2 => bd3 (mX7_newGroup F many groups inn_4 12) (fun zr_2 groups_1 inn_5 => some (zr_2, groups_1, inn_5, now_2, makers_1, makerMany_2, queue_1)))))))))))
set_option maxRecDepth 100000 in
set_option maxHeartbeats 4000000 in
theorem wX7_made_L160 {p : Program} {l : Launch} {e : Env} {s : State} {m : MethodId} {zargs : Array Value} {zbelow : List Frame} {zmeth : Method} {c : Code} {D : va_G} {zQ : State → Prop} {zA : Nat → Prop} {ad : Nat → Nat} {cI cZ : ClassId} {n : Int32} {many : Int32} {image : Nat → Int32} {turn : Int32} {shelf : Nat → Int32} {groups : Int32} {inn : Nat → Int32} {makers : Nat → Int32} {makerMany : Nat → Int32} {queue : Nat → Int32} {zx1 : Int32} {zx2 : Int32} {zx3 : Int32} (C0 : tg_C p s m zmeth c zargs cX7_made RX7 wsX7_made 7 D [(cI, .int), (cZ, .boolean)]) (hDD : tg_DD zA [ad 0, ad 1, ad 2, ad 3, ad 4, ad 5, ad 6, ad 7]) (hlocks : zmeth.locks = false) (hr : zmeth.sig.returnType = (some .int)) (F : Nat) : ∀ (f : Nat) (zx4 : Int32) (zx5 : Int32) (now : Nat → Int32) (zo4 : Int32) (onow : Nat → Int32), mX7_made_L160 F zx3 n image makers makerMany f zx4 zx5 now = some (zo4, onow) → ∀ (zH : Heap) (zlocs : List Loc), va_P D vwCl (wM cI cZ ad n many image turn shelf groups inn now makers makerMany queue) zH → va_S zA s.heap zH zlocs → ∀ (zls : Array Slot), lv_has zls 7 [(0, .ref (ad 0)), (1, .int zx1), (2, .int zx2), (3, .int zx3), (4, .int zx4), (5, .int zx5)] → (∀ (zH : Heap) (zlocs : List Loc), va_P D vwCl (wM cI cZ ad n many image turn shelf groups inn onow makers makerMany queue) zH → va_S zA s.heap zH zlocs → ∀ (zls : Array Slot), lv_has zls 7 [(0, .ref (ad 0)), (1, .int zx1), (2, .int zx2), (3, .int zx3), (4, .int zo4)] → W p l e ({ frames := 5, cells := 0, slots := 0, locals := 122 } : Room) s m zargs zbelow zmeth c zH zlocs 0 0 zQ (F0 m 220 zls [])) → W p l e ({ frames := 5, cells := 0, slots := 0, locals := 122 } : Room) s m zargs zbelow zmeth c zH zlocs 0 0 zQ (F0 m 160 zls []) := by
  obtain ⟨hx, hb, hml, hown, hts, hK, hN⟩ := C0
  intro f
  induction f with
  | zero => intro _ _ _ _ _ h; exact absurd (show none = some _ from h) (fun h9 => by cases h9)
  | succ f ih =>
    intro zx4 zx5 now zo4 onow h zH zlocs hP hS zls hl kk
    rw [mX7_made_L160_s] at h
    refine lv_iload hx hb dX7_made_160 (lv_at hl 5 rfl) ?_
    refine lv_aload_n hx hb dX7_made_162 rfl (lv_at hl 0 rfl) ?_
    refine va_get (D := D) (ci := 6) (v := .ref (ad 6)) (C := RX7) (T := TX7) (N := 11) hx hb hts uX7_made_RX7 hown hK hP 0 rfl rfl 9 (by decide) (hts _ kX7_made_3) (fun _ h9 => h9) rfl dX7_made_163 ?_
    refine lv_bipush (v := 10) hx hb dX7_made_166 (by decide) ?_
    obtain ⟨gg, h⟩ := gd_el h
    refine va_iald hx hb hK hP 6 0 rfl rfl (inb_in gg) dX7_made_168 ?_
    refine lv_icmp_ge (tgt := 220) hx hb dX7_made_169 (by decide) (fun cb => ?_) (fun cb => ?_)
    · rw [if_pos cb] at h
      cases h
      exact kk _ _ hP hS _ (lv_sub hl [0, 1, 2, 3, 4] rfl)
    · rw [if_neg cb] at h
      refine lv_iload hx hb dX7_made_172 (lv_at hl 4 rfl) ?_
      refine lv_if_eq (tgt := 220) hx hb dX7_made_174 (by decide) (fun cb_1 => ?_) (fun cb_1 => ?_)
      · rw [if_pos cb_1] at h
        cases h
        exact kk _ _ hP hS _ (lv_sub hl [0, 1, 2, 3, 4] rfl)
      · rw [if_neg cb_1] at h
        refine lv_aload_n hx hb dX7_made_177 rfl (lv_at hl 0 rfl) ?_
        refine va_get (D := D) (ci := 6) (v := .ref (ad 5)) (C := RX7) (T := TX7) (N := 11) hx hb hts uX7_made_RX7 hown hK hP 0 rfl rfl 8 (by decide) (hts _ kX7_made_4) (fun _ h9 => h9) rfl dX7_made_178 ?_
        refine lv_sipush (v := 320) hx hb dX7_made_181 (by decide) ?_
        refine lv_iload hx hb dX7_made_184 (lv_at hl 5 rfl) ?_
        refine lv_iadd hx hb dX7_made_186 ?_
        obtain ⟨gg_1, h⟩ := gd_el h
        refine va_iald hx hb hK hP 5 0 rfl rfl (inb_in gg_1) dX7_made_187 ?_
        obtain ⟨zx6, ex6, h⟩ := lT_el h
        refine tg_top ex6 ?_
        refine lv_istore (lv' := [(6, .int zx6), (0, .ref (ad 0)), (1, .int zx1), (2, .int zx2), (3, .int zx3), (4, .int zx4), (5, .int zx5)]) hx hb dX7_made_188 hl (by decide) rfl (fun zls hl => ?_)
        refine lv_aload_n hx hb dX7_made_190 rfl (lv_at hl 1 rfl) ?_
        refine lv_iload_n hx hb dX7_made_191 rfl (lv_at hl 4 rfl) ?_
        refine lv_iload hx hb dX7_made_192 (lv_at hl 0 rfl) ?_
        obtain ⟨zr, now_1, hc, h⟩ := bd2_el h
        refine tg_cMi (va_runV (As := [.int zx3, .int zx6]) (rest := []) ⟨hx, hb, hml, hown, hts⟩ (qX7_oneThen l D cI cZ ad n many image turn shelf groups inn now makers makerMany queue zx3 zx6 F zr now_1 hc) (cwV 2 hts gX7_made_X7_oneThen rfl rfl rfl zVX7_oneThen ⟨Nat.le_of_ble_eq_true rfl, Nat.le_of_ble_eq_true rfl⟩) (tg_preVM (r := (RX7, TX7, 11)) (ci := 6) (q0 := 0) hP (hDD _ rfl) hK hN rfl rfl) rfl rfl hl.1 rfl (lv_room (Nat.le_of_ble_eq_true rfl)) dX7_made_194 ⟨Nat.zero_le _, Nat.zero_le _⟩) hS (tg_inA (hDD _ rfl)) (fun zH zlocs _ hP hS => ?_)
        refine lv_aload_n hx hb dX7_made_197 rfl (lv_at hl 1 rfl) ?_
        refine lv_iload hx hb dX7_made_198 (lv_at hl 0 rfl) ?_
        refine lv_iload_n hx hb dX7_made_200 rfl (lv_at hl 4 rfl) ?_
        obtain ⟨zr_1, now_2, hc_1, h⟩ := bd2_el h
        refine tg_cMi (va_runV (As := [.int zx6, .int zx3]) (rest := [.int zr]) ⟨hx, hb, hml, hown, hts⟩ (qX7_oneThen l D cI cZ ad n many image turn shelf groups inn now_1 makers makerMany queue zx6 zx3 F zr_1 now_2 hc_1) (cwV 2 hts gX7_made_X7_oneThen rfl rfl rfl zVX7_oneThen ⟨Nat.le_of_ble_eq_true rfl, Nat.le_of_ble_eq_true rfl⟩) (tg_preVM (r := (RX7, TX7, 11)) (ci := 6) (q0 := 0) hP (hDD _ rfl) hK hN rfl rfl) rfl rfl hl.1 rfl (lv_room (Nat.le_of_ble_eq_true rfl)) dX7_made_201 ⟨Nat.zero_le _, Nat.zero_le _⟩) hS (tg_inA (hDD _ rfl)) (fun zH zlocs _ hP hS => ?_)
        obtain ⟨zv, hv, h⟩ := lT_el h
        have hj : W p l e ({ frames := 5, cells := 0, slots := 0, locals := 122 } : Room) s m zargs zbelow zmeth c zH zlocs 0 0 zQ (F0 m 212 zls [.int zv]) := by
          refine lv_istore (lv' := [(4, .int zv), (6, .int zx6), (0, .ref (ad 0)), (1, .int zx1), (2, .int zx2), (3, .int zx3), (5, .int zx5)]) hx hb dX7_made_212 hl (by decide) rfl (fun zls hl => ?_)
          refine lv_iinc (v := (zx5 + 1)) (lv' := [(5, .int (zx5 + 1)), (4, .int zv), (6, .int zx6), (0, .ref (ad 0)), (1, .int zx1), (2, .int zx2), (3, .int zx3)]) hx hb dX7_made_214 hl (k := 6) rfl rfl (by decide) rfl (fun zls hl => ?_)
          refine lv_goto (tgt := 160) hx hb dX7_made_217 (by decide) ?_
          exact ih _ _ _ _ _ h _ _ hP hS _ (lv_sub hl [3, 4, 5, 6, 1, 0] rfl) kk
        refine lv_icmp_ne (tgt := 211) hx hb dX7_made_204 (by decide) (fun cb_2 => ?_) (fun cb_2 => ?_)
        · rw [if_neg cb_2] at hv
          refine lv_iconst (v := 0) hx hb dX7_made_211 (by decide) ?_
          subst hv
          exact hj 
        · rw [if_pos cb_2] at hv
          refine lv_iconst (v := 1) hx hb dX7_made_207 (by decide) ?_
          refine lv_goto (tgt := 212) hx hb dX7_made_208 (by decide) ?_
          subst hv
          exact hj 
set_option maxRecDepth 100000 in
set_option maxHeartbeats 4000000 in
theorem wX7_made_L102 {p : Program} {l : Launch} {e : Env} {s : State} {m : MethodId} {zargs : Array Value} {zbelow : List Frame} {zmeth : Method} {c : Code} {D : va_G} {zQ : State → Prop} {zA : Nat → Prop} {ad : Nat → Nat} {cI cZ : ClassId} {n : Int32} {many : Int32} {image : Nat → Int32} {turn : Int32} {shelf : Nat → Int32} {groups : Int32} {makers : Nat → Int32} {makerMany : Nat → Int32} {queue : Nat → Int32} {zx1 : Int32} {zx2 : Int32} (C0 : tg_C p s m zmeth c zargs cX7_made RX7 wsX7_made 7 D [(cI, .int), (cZ, .boolean)]) (hDD : tg_DD zA [ad 0, ad 1, ad 2, ad 3, ad 4, ad 5, ad 6, ad 7]) (hlocks : zmeth.locks = false) (hr : zmeth.sig.returnType = (some .int)) (F : Nat) : ∀ (f : Nat) (zx3 : Int32) (inn : Nat → Int32) (now : Nat → Int32) (oinn : Nat → Int32) (onow : Nat → Int32), mX7_made_L102 F zx1 zx2 n many image turn makers makerMany f zx3 inn now = some (oinn, onow) → ∀ (zH : Heap) (zlocs : List Loc), va_P D vwCl (wM cI cZ ad n many image turn shelf groups inn now makers makerMany queue) zH → va_S zA s.heap zH zlocs → ∀ (zls : Array Slot), lv_has zls 7 [(0, .ref (ad 0)), (1, .int zx1), (2, .int zx2), (3, .int zx3)] → (∀ (zH : Heap) (zlocs : List Loc), va_P D vwCl (wM cI cZ ad n many image turn shelf groups oinn onow makers makerMany queue) zH → va_S zA s.heap zH zlocs → ∀ (zls : Array Slot), lv_has zls 7 [(0, .ref (ad 0))] → W p l e ({ frames := 5, cells := 0, slots := 0, locals := 122 } : Room) s m zargs zbelow zmeth c zH zlocs 0 0 zQ (F0 m 237 zls [])) → W p l e ({ frames := 5, cells := 0, slots := 0, locals := 122 } : Room) s m zargs zbelow zmeth c zH zlocs 0 0 zQ (F0 m 102 zls []) := by
  obtain ⟨hx, hb, hml, hown, hts, hK, hN⟩ := C0
  intro f
  induction f with
  | zero => intro _ _ _ _ _ h; exact absurd (show none = some _ from h) (fun h9 => by cases h9)
  | succ f ih =>
    intro zx3 inn now oinn onow h zH zlocs hP hS zls hl kk
    rw [mX7_made_L102_s] at h
    refine lv_iload_n hx hb dX7_made_102 rfl (lv_at hl 3 rfl) ?_
    refine lv_aload_n hx hb dX7_made_103 rfl (lv_at hl 0 rfl) ?_
    refine va_get (D := D) (ci := 6) (v := .int many) (C := RX7) (T := TX7) (N := 11) hx hb hts uX7_made_RX7 hown hK hP 0 rfl rfl 1 (by decide) (hts _ kX7_made_2) (fun _ h9 => h9) rfl dX7_made_104 ?_
    refine lv_icmp_ge (tgt := 237) hx hb dX7_made_107 (by decide) (fun cb => ?_) (fun cb => ?_)
    · rw [if_pos cb] at h
      cases h
      exact kk _ _ hP hS _ (lv_sub hl [0] rfl)
    · rw [if_neg cb] at h
      refine lv_aload_n hx hb dX7_made_110 rfl (lv_at hl 0 rfl) ?_
      refine lv_iload_n hx hb dX7_made_111 rfl (lv_at hl 2 rfl) ?_
      refine lv_iload_n hx hb dX7_made_112 rfl (lv_at hl 3 rfl) ?_
      obtain ⟨zr, hc, h⟩ := bd_el h
      refine tg_cRi (va_runV (As := [.int zx2, .int zx3]) (rest := []) ⟨hx, hb, hml, hown, hts⟩ (qX7_hasIt l D cI cZ ad n many image turn shelf groups inn now makers makerMany queue zx2 zx3 zr hc) (cwV 2 hts gX7_made_X7_hasIt rfl rfl rfl zVX7_hasIt ⟨Nat.le_of_ble_eq_true rfl, Nat.le_of_ble_eq_true rfl⟩) (tg_preV (r := (RX7, TX7, 11)) (ci := 6) (q0 := 0) hP hK hN rfl rfl) rfl rfl hl.1 rfl (lv_room (Nat.le_of_ble_eq_true rfl)) dX7_made_113 ⟨Nat.zero_le _, Nat.zero_le _⟩) ?_
      obtain ⟨inn_1, now_1, hv, h⟩ := bd2_el h
      have hj : ∀ (zH : Heap) (zlocs : List Loc), va_P D vwCl (wM cI cZ ad n many image turn shelf groups inn_1 now_1 makers makerMany queue) zH → va_S zA s.heap zH zlocs → ∀ (zls : Array Slot), lv_has zls 7 [(0, .ref (ad 0)), (1, .int zx1), (2, .int zx2), (3, .int zx3)] → W p l e ({ frames := 5, cells := 0, slots := 0, locals := 122 } : Room) s m zargs zbelow zmeth c zH zlocs 0 0 zQ (F0 m 231 zls []) := by
        intro zH zlocs hP hS zls hl
        refine lv_iinc (v := (zx3 + 1)) (lv' := [(3, .int (zx3 + 1)), (0, .ref (ad 0)), (1, .int zx1), (2, .int zx2)]) hx hb dX7_made_231 hl (k := 3) rfl rfl (by decide) rfl (fun zls hl => ?_)
        refine lv_goto (tgt := 102) hx hb dX7_made_234 (by decide) ?_
        exact ih _ _ _ _ _ h _ _ hP hS _ (lv_sub hl [1, 2, 3, 0] rfl) kk
      refine lv_if_eq (tgt := 145) hx hb dX7_made_116 (by decide) (fun cb_1 => ?_) (fun cb_1 => ?_)
      · rw [if_pos cb_1] at hv
        refine lv_aload_n hx hb dX7_made_145 rfl (lv_at hl 0 rfl) ?_
        refine lv_iload_n hx hb dX7_made_146 rfl (lv_at hl 2 rfl) ?_
        refine lv_iload_n hx hb dX7_made_147 rfl (lv_at hl 3 rfl) ?_
        obtain ⟨zr_1, hc_1, hv⟩ := bd_el hv
        refine tg_cRi (va_runV (As := [.int zx2, .int zx3]) (rest := []) ⟨hx, hb, hml, hown, hts⟩ (qX7_hasIt l D cI cZ ad n many image turn shelf groups inn now makers makerMany queue zx2 zx3 zr_1 hc_1) (cwV 2 hts gX7_made_X7_hasIt rfl rfl rfl zVX7_hasIt ⟨Nat.le_of_ble_eq_true rfl, Nat.le_of_ble_eq_true rfl⟩) (tg_preV (r := (RX7, TX7, 11)) (ci := 6) (q0 := 0) hP hK hN rfl rfl) rfl rfl hl.1 rfl (lv_room (Nat.le_of_ble_eq_true rfl)) dX7_made_148 ⟨Nat.zero_le _, Nat.zero_le _⟩) ?_
        refine lv_if_eq (tgt := 231) hx hb dX7_made_151 (by decide) (fun cb_2 => ?_) (fun cb_2 => ?_)
        · rw [if_pos cb_2] at hv
          cases hv
          exact hj _ _ hP hS _ (lv_sub hl [0, 1, 2, 3] rfl)
        · rw [if_neg cb_2] at hv
          refine lv_iconst (v := 1) hx hb dX7_made_154 (by decide) ?_
          refine lv_istore (lv' := [(4, .int 1), (0, .ref (ad 0)), (1, .int zx1), (2, .int zx2), (3, .int zx3)]) hx hb dX7_made_155 hl (by decide) rfl (fun zls hl => ?_)
          refine lv_iconst (v := 0) hx hb dX7_made_157 (by decide) ?_
          refine lv_istore (lv' := [(5, .int 0), (4, .int 1), (0, .ref (ad 0)), (1, .int zx1), (2, .int zx2), (3, .int zx3)]) hx hb dX7_made_158 hl (by decide) rfl (fun zls hl => ?_)
          obtain ⟨zx4, now_2, hv_1, hv⟩ := bd2_el hv
          refine wX7_made_L160 ⟨hx, hb, hml, hown, hts, hK, hN⟩ hDD hlocks hr F F _ _ _ _ _ hv_1 _ _ hP hS _ (lv_sub hl [2, 3, 4, 5, 1, 0] rfl) (fun zH zlocs hP hS zls hl => ?_)
          refine lv_aload_n hx hb dX7_made_220 rfl (lv_at hl 0 rfl) ?_
          refine va_get (D := D) (ci := 6) (v := .ref (ad 3)) (C := RX7) (T := TX7) (N := 11) hx hb hts uX7_made_RX7 hown hK hP 0 rfl rfl 6 (by decide) (hts _ kX7_made_5) (fun _ h9 => h9) rfl dX7_made_221 ?_
          refine lv_ldc hx hb hown (hts _ kX7_made_6) dX7_made_224 ?_
          refine lv_iload_n hx hb dX7_made_226 rfl (lv_at hl 3 rfl) ?_
          refine lv_iadd hx hb dX7_made_227 ?_
          refine lv_iload hx hb dX7_made_228 (lv_at hl 4 rfl) ?_
          obtain ⟨gg, hv⟩ := gd_el hv
          obtain ⟨inn_2, einn_2, hv⟩ := lT_el hv
          refine va_zast hx hb hK hP (hDD _ rfl) hS 3 1 rfl rfl (inb_in gg) dX7_made_230 (fun zH zlocs hP _ hS => ?_)
          have hP : va_P D vwCl (wM cI cZ ad n many image turn shelf groups (upd inn (Int32.toNatClampNeg (483840 + zx3)) (vp_nar .boolean zx4)) now_2 makers makerMany queue) zH := hP
          rw [← einn_2] at hP
          cases hv
          exact hj _ _ hP hS _ (lv_sub hl [0, 1, 2, 3] rfl)
      · rw [if_neg cb_1] at hv
        refine lv_iload_n hx hb dX7_made_119 rfl (lv_at hl 1 rfl) ?_
        refine lv_iconst (v := 2) hx hb dX7_made_120 (by decide) ?_
        refine lv_icmp_ne (tgt := 145) hx hb dX7_made_121 (by decide) (fun cb_3 => ?_) (fun cb_3 => ?_)
        · rw [if_neg cb_3] at hv
          refine lv_aload_n hx hb dX7_made_145 rfl (lv_at hl 0 rfl) ?_
          refine lv_iload_n hx hb dX7_made_146 rfl (lv_at hl 2 rfl) ?_
          refine lv_iload_n hx hb dX7_made_147 rfl (lv_at hl 3 rfl) ?_
          obtain ⟨zr_2, hc_2, hv⟩ := bd_el hv
          refine tg_cRi (va_runV (As := [.int zx2, .int zx3]) (rest := []) ⟨hx, hb, hml, hown, hts⟩ (qX7_hasIt l D cI cZ ad n many image turn shelf groups inn now makers makerMany queue zx2 zx3 zr_2 hc_2) (cwV 2 hts gX7_made_X7_hasIt rfl rfl rfl zVX7_hasIt ⟨Nat.le_of_ble_eq_true rfl, Nat.le_of_ble_eq_true rfl⟩) (tg_preV (r := (RX7, TX7, 11)) (ci := 6) (q0 := 0) hP hK hN rfl rfl) rfl rfl hl.1 rfl (lv_room (Nat.le_of_ble_eq_true rfl)) dX7_made_148 ⟨Nat.zero_le _, Nat.zero_le _⟩) ?_
          refine lv_if_eq (tgt := 231) hx hb dX7_made_151 (by decide) (fun cb_4 => ?_) (fun cb_4 => ?_)
          · rw [if_pos cb_4] at hv
            cases hv
            exact hj _ _ hP hS _ (lv_sub hl [0, 1, 2, 3] rfl)
          · rw [if_neg cb_4] at hv
            refine lv_iconst (v := 1) hx hb dX7_made_154 (by decide) ?_
            refine lv_istore (lv' := [(4, .int 1), (0, .ref (ad 0)), (1, .int zx1), (2, .int zx2), (3, .int zx3)]) hx hb dX7_made_155 hl (by decide) rfl (fun zls hl => ?_)
            refine lv_iconst (v := 0) hx hb dX7_made_157 (by decide) ?_
            refine lv_istore (lv' := [(5, .int 0), (4, .int 1), (0, .ref (ad 0)), (1, .int zx1), (2, .int zx2), (3, .int zx3)]) hx hb dX7_made_158 hl (by decide) rfl (fun zls hl => ?_)
            obtain ⟨zx4_1, now_3, hv_2, hv⟩ := bd2_el hv
            refine wX7_made_L160 ⟨hx, hb, hml, hown, hts, hK, hN⟩ hDD hlocks hr F F _ _ _ _ _ hv_2 _ _ hP hS _ (lv_sub hl [2, 3, 4, 5, 1, 0] rfl) (fun zH zlocs hP hS zls hl => ?_)
            refine lv_aload_n hx hb dX7_made_220 rfl (lv_at hl 0 rfl) ?_
            refine va_get (D := D) (ci := 6) (v := .ref (ad 3)) (C := RX7) (T := TX7) (N := 11) hx hb hts uX7_made_RX7 hown hK hP 0 rfl rfl 6 (by decide) (hts _ kX7_made_5) (fun _ h9 => h9) rfl dX7_made_221 ?_
            refine lv_ldc hx hb hown (hts _ kX7_made_6) dX7_made_224 ?_
            refine lv_iload_n hx hb dX7_made_226 rfl (lv_at hl 3 rfl) ?_
            refine lv_iadd hx hb dX7_made_227 ?_
            refine lv_iload hx hb dX7_made_228 (lv_at hl 4 rfl) ?_
            obtain ⟨gg_1, hv⟩ := gd_el hv
            obtain ⟨inn_3, einn_3, hv⟩ := lT_el hv
            refine va_zast hx hb hK hP (hDD _ rfl) hS 3 1 rfl rfl (inb_in gg_1) dX7_made_230 (fun zH zlocs hP _ hS => ?_)
            have hP : va_P D vwCl (wM cI cZ ad n many image turn shelf groups (upd inn (Int32.toNatClampNeg (483840 + zx3)) (vp_nar .boolean zx4_1)) now_3 makers makerMany queue) zH := hP
            rw [← einn_3] at hP
            cases hv
            exact hj _ _ hP hS _ (lv_sub hl [0, 1, 2, 3] rfl)
        · rw [if_pos cb_3] at hv
          refine lv_aload_n hx hb dX7_made_124 rfl (lv_at hl 0 rfl) ?_
          refine va_get (D := D) (ci := 6) (v := .ref (ad 3)) (C := RX7) (T := TX7) (N := 11) hx hb hts uX7_made_RX7 hown hK hP 0 rfl rfl 6 (by decide) (hts _ kX7_made_5) (fun _ h9 => h9) rfl dX7_made_125 ?_
          refine lv_ldc hx hb hown (hts _ kX7_made_6) dX7_made_128 ?_
          refine lv_aload_n hx hb dX7_made_130 rfl (lv_at hl 0 rfl) ?_
          refine lv_iload_n hx hb dX7_made_131 rfl (lv_at hl 3 rfl) ?_
          refine lv_aload_n hx hb dX7_made_132 rfl (lv_at hl 0 rfl) ?_
          refine va_get (D := D) (ci := 6) (v := .int turn) (C := RX7) (T := TX7) (N := 11) hx hb hts uX7_made_RX7 hown hK hP 0 rfl rfl 3 (by decide) (hts _ kX7_made_7) (fun _ h9 => h9) rfl dX7_made_133 ?_
          obtain ⟨zr_3, now_4, hc_3, hv⟩ := bd2_el hv
          refine tg_cMi (va_runV (As := [.int zx3, .int turn]) (rest := [.int 483840, .ref (ad 3)]) ⟨hx, hb, hml, hown, hts⟩ (qX7_carried l D cI cZ ad n many image turn shelf groups inn now makers makerMany queue zx3 turn F zr_3 now_4 hc_3) (cwV 2 hts gX7_made_X7_carried rfl rfl rfl zVX7_carried ⟨Nat.le_of_ble_eq_true rfl, Nat.le_of_ble_eq_true rfl⟩) (tg_preVM (r := (RX7, TX7, 11)) (ci := 6) (q0 := 0) hP (hDD _ rfl) hK hN rfl rfl) rfl rfl hl.1 rfl (lv_room (Nat.le_of_ble_eq_true rfl)) dX7_made_136 ⟨Nat.zero_le _, Nat.zero_le _⟩) hS (tg_inA (hDD _ rfl)) (fun zH zlocs _ hP hS => ?_)
          refine lv_iadd hx hb dX7_made_139 ?_
          refine lv_iconst (v := 1) hx hb dX7_made_140 (by decide) ?_
          obtain ⟨gg_2, hv⟩ := gd_el hv
          obtain ⟨inn_4, einn_4, hv⟩ := lT_el hv
          refine va_zast hx hb hK hP (hDD _ rfl) hS 3 1 rfl rfl (inb_in gg_2) dX7_made_141 (fun zH zlocs hP _ hS => ?_)
          have hP : va_P D vwCl (wM cI cZ ad n many image turn shelf groups (upd inn (Int32.toNatClampNeg (483840 + zr_3)) (vp_nar .boolean 1)) now_4 makers makerMany queue) zH := hP
          rw [← einn_4] at hP
          refine lv_goto (tgt := 231) hx hb dX7_made_142 (by decide) ?_
          cases hv
          exact hj _ _ hP hS _ (lv_sub hl [0, 1, 2, 3] rfl)
set_option maxRecDepth 100000 in
set_option maxHeartbeats 4000000 in
theorem qX7_made (l : Launch) (D : va_G) (cI : ClassId) (cZ : ClassId) (ad : Nat → Nat) (n : Int32) (many : Int32) (image : Nat → Int32) (turn : Int32) (shelf : Nat → Int32) (groups : Int32) (inn : Nat → Int32) (now : Nat → Int32) (makers : Nat → Int32) (makerMany : Nat → Int32) (queue : Nat → Int32) (zx1 : Int32) (zx2 : Int32) (F : Nat) (zr0 : Int32) (ogroups : Int32) (oinn : Nat → Int32) (onow : Nat → Int32) (omakers : Nat → Int32) (omakerMany : Nat → Int32) (oqueue : Nat → Int32) (h : mX7_made F n many image turn groups inn now makers makerMany queue zx1 zx2 = some (zr0, ogroups, oinn, onow, omakers, omakerMany, oqueue)) : Met l yX7_made wsX7_made ({ frames := 5, cells := 0, slots := 0, locals := 122 } : Room) (tg_PM D [(cI, .int), (cZ, .boolean)] [.ref (ad 0), .int zx1, .int zx2] (wM cI cZ ad n many image turn shelf groups inn now makers makerMany queue)) (tg_Mi D (wM cI cZ ad n many image turn shelf groups inn now makers makerMany queue) (wM cI cZ ad n many image turn shelf ogroups oinn onow omakers omakerMany oqueue) zr0) 0 0 (tg_in (wM cI cZ ad n many image turn shelf groups inn now makers makerMany queue)) := by
  refine Met.ofW (cc := cX7_made) (maxL := 7) (ret := (some .int)) (by decide) rfl ?_
  intro p e s m zargs zbelow zmeth c s₁ B hml hv
  obtain ⟨hargs, hP, hK, hN, hD0⟩ := hv
  have hx := B.exec
  have hb := B.bytes
  have hr := B.returns
  have hts := atoms_spec (ws := wsX7_made) B.pre
  have hown : s.vm.findClass RX7 = some m.cls := findClass_of_methodNamed B.named
  have hlocks := B.notSynchronized
  have hDD : tg_DD (tg_in (wM cI cZ ad n many image turn shelf groups inn now makers makerMany queue)) [ad 0, ad 1, ad 2, ad 3, ad 4, ad 5, ad 6, ad 7] := tg_DD.of (tg_D hD0) rfl
  have hS : va_S (tg_in (wM cI cZ ad n many image turn shelf groups inn now makers makerMany queue)) s.heap s.heap [] := va_S.rf
  have hl := lv_entry ([.ref (ad 0), .int zx1, .int zx2]) (n := 7) (Nat.le_of_ble_eq_true rfl)
  refine W.eq (g2 := entryFrame m ([.ref (ad 0), .int zx1, .int zx2] : List Value).toArray 7) (by rw [hargs]) ?_
  rw [lg_entry_eq]
  generalize (lg_sl ([.ref (ad 0), .int zx1, .int zx2]) ++ List.replicate (7 - (lg_sl ([.ref (ad 0), .int zx1, .int zx2])).length) Slot.unset).toArray = zls at hl ⊢
  have hl : lv_has zls 7 [(0, .ref (ad 0)), (1, .int zx1), (2, .int zx2)] := hl
  rw [mX7_made] at h
  refine lv_iload_n hx hb dX7_made_0 rfl (lv_at hl 1 rfl) ?_
  refine lv_iconst (v := 0) hx hb dX7_made_1 (by decide) ?_
  refine lv_iconst (v := 3) hx hb dX7_made_2 (by decide) ?_
  refine tg_cRi (va_runS (As := [.int zx1, .int 0, .int 3]) (rest := []) ⟨hx, hb, hml, hown, hts⟩ (qX7_isIn l D zx1 0 3 _ rfl) (va_cwS 3 hts gX7_made_X7_isIn rfl rfl rfl zSX7_isIn ⟨Nat.le_of_ble_eq_true rfl, Nat.le_of_ble_eq_true rfl⟩) (tg_preS tg_nil (hK.sub (tys' := []) [] rfl) hN) rfl rfl hl.1 rfl (lv_room (Nat.le_of_ble_eq_true rfl)) dX7_made_3 ⟨Nat.zero_le _, Nat.zero_le _⟩) ?_
  refine lv_if_eq (tgt := 17) hx hb dX7_made_6 (by decide) (fun cb => ?_) (fun cb => ?_)
  · rw [if_pos cb] at h
    refine lv_bipush (v := (-2)) hx hb dX7_made_17 (by decide) ?_
    cases h
    exact W.iret hx hb hr (fun t ht hW => ⟨rfl, by rw [ht]; exact hP, hS.F ht⟩) hS.2.2 dX7_made_19
  · rw [if_neg cb] at h
    refine lv_aload_n hx hb dX7_made_9 rfl (lv_at hl 0 rfl) ?_
    refine lv_iload_n hx hb dX7_made_10 rfl (lv_at hl 2 rfl) ?_
    obtain ⟨zr_1, hc, h⟩ := bd_el h
    refine tg_cRi (va_runV (As := [.int zx2]) (rest := []) ⟨hx, hb, hml, hown, hts⟩ (qX7_isGroup l D cI cZ ad n many image turn shelf groups inn now makers makerMany queue zx2 zr_1 hc) (cwV 1 hts gX7_made_X7_isGroup rfl rfl rfl zVX7_isGroup ⟨Nat.le_of_ble_eq_true rfl, Nat.le_of_ble_eq_true rfl⟩) (tg_preV (r := (RX7, TX7, 11)) (ci := 6) (q0 := 0) hP hK hN rfl rfl) rfl rfl hl.1 rfl (lv_room (Nat.le_of_ble_eq_true rfl)) dX7_made_11 ⟨Nat.zero_le _, Nat.zero_le _⟩) ?_
    refine lv_if_ne (tgt := 20) hx hb dX7_made_14 (by decide) (fun cb_1 => ?_) (fun cb_1 => ?_)
    · rw [if_neg cb_1] at h
      refine lv_aload_n hx hb dX7_made_20 rfl (lv_at hl 0 rfl) ?_
      refine va_get (D := D) (ci := 6) (v := .int groups) (C := RX7) (T := TX7) (N := 11) hx hb hts uX7_made_RX7 hown hK hP 0 rfl rfl 5 (by decide) (hts _ kX7_made_1) (fun _ h9 => h9) rfl dX7_made_21 ?_
      refine lv_bipush (v := 10) hx hb dX7_made_24 (by decide) ?_
      refine lv_icmp_ne (tgt := 32) hx hb dX7_made_26 (by decide) (fun cb_2 => ?_) (fun cb_2 => ?_)
      · rw [if_neg cb_2] at h
        refine lv_iload_n hx hb dX7_made_32 rfl (lv_at hl 1 rfl) ?_
        refine lv_iconst (v := 3) hx hb dX7_made_33 (by decide) ?_
        refine lv_icmp_ne (tgt := 49) hx hb dX7_made_34 (by decide) (fun cb_3 => ?_) (fun cb_3 => ?_)
        · rw [if_neg cb_3] at h
          refine lv_aload_n hx hb dX7_made_49 rfl (lv_at hl 0 rfl) ?_
          refine lv_bipush (v := 10) hx hb dX7_made_50 (by decide) ?_
          obtain ⟨inn_1, makerMany_1, hc_1, h⟩ := bd2_el h
          refine tg_cMv (va_runV (As := [.int 10]) (rest := []) ⟨hx, hb, hml, hown, hts⟩ (qX7_begin l D cI cZ ad n many image turn shelf groups inn now makers makerMany queue 10 F inn_1 makerMany_1 hc_1) (cwV 1 hts gX7_made_X7_begin rfl rfl rfl zVX7_begin ⟨Nat.le_of_ble_eq_true rfl, Nat.le_of_ble_eq_true rfl⟩) (tg_preVM (r := (RX7, TX7, 11)) (ci := 6) (q0 := 0) hP (hDD _ rfl) hK hN rfl rfl) rfl rfl hl.1 rfl (lv_room (Nat.le_of_ble_eq_true rfl)) dX7_made_52 ⟨Nat.zero_le _, Nat.zero_le _⟩) hS (tg_inA (hDD _ rfl)) (fun zH zlocs _ hP hS => ?_)
          refine lv_iload_n hx hb dX7_made_55 rfl (lv_at hl 1 rfl) ?_
          obtain ⟨inn_2, now_1, makers_1, makerMany_2, queue_1, hv, h⟩ := bd5_el h
          have hj : ∀ (zH : Heap) (zlocs : List Loc), va_P D vwCl (wM cI cZ ad n many image turn shelf groups inn_2 now_1 makers_1 makerMany_2 queue_1) zH → va_S (tg_in (wM cI cZ ad n many image turn shelf groups inn now makers makerMany queue)) s.heap zH zlocs → W p l e ({ frames := 5, cells := 0, slots := 0, locals := 122 } : Room) s m zargs zbelow zmeth c zH zlocs 0 0 (MQ zbelow (tg_Mi D (wM cI cZ ad n many image turn shelf groups inn now makers makerMany queue) (wM cI cZ ad n many image turn shelf ogroups oinn onow omakers omakerMany oqueue) zr0) zargs s 0 0 (tg_in (wM cI cZ ad n many image turn shelf groups inn now makers makerMany queue))) (F0 m 94 zls []) := by
            intro zH zlocs hP hS
            refine lv_aload_n hx hb dX7_made_94 rfl (lv_at hl 0 rfl) ?_
            refine lv_bipush (v := 12) hx hb dX7_made_95 (by decide) ?_
            obtain ⟨inn_3, hc_2, h⟩ := bd_el h
            refine tg_cMv (va_runV (As := [.int 12]) (rest := []) ⟨hx, hb, hml, hown, hts⟩ (qX7_clear l D cI cZ ad n many image turn shelf groups inn_2 now_1 makers_1 makerMany_2 queue_1 12 F inn_3 hc_2) (cwV 1 hts gX7_made_X7_clear rfl rfl rfl zVX7_clear ⟨Nat.le_of_ble_eq_true rfl, Nat.le_of_ble_eq_true rfl⟩) (tg_preVM (r := (RX7, TX7, 11)) (ci := 6) (q0 := 0) hP (hDD _ rfl) hK hN rfl rfl) rfl rfl hl.1 rfl (lv_room (Nat.le_of_ble_eq_true rfl)) dX7_made_97 ⟨Nat.zero_le _, Nat.zero_le _⟩) hS (tg_inA (hDD _ rfl)) (fun zH zlocs _ hP hS => ?_)
            refine lv_iconst (v := 0) hx hb dX7_made_100 (by decide) ?_
            refine lv_istore_n (lv' := [(3, .int 0), (0, .ref (ad 0)), (1, .int zx1), (2, .int zx2)]) hx hb dX7_made_101 rfl hl (by decide) rfl (fun zls hl => ?_)
            obtain ⟨inn_4, now_2, hv_1, h⟩ := bd2_el h
            refine wX7_made_L102 ⟨hx, hb, hml, hown, hts, hK, hN⟩ hDD hlocks hr F F _ _ _ _ _ hv_1 _ _ hP hS _ (lv_sub hl [1, 2, 3, 0] rfl) (fun zH zlocs hP hS zls hl => ?_)
            refine lv_aload_n hx hb dX7_made_237 rfl (lv_at hl 0 rfl) ?_
            refine lv_bipush (v := 12) hx hb dX7_made_238 (by decide) ?_
            obtain ⟨zr_2, groups_1, inn_5, hc_3, h⟩ := bd3_el h
            refine tg_cMi (va_runV (As := [.int 12]) (rest := []) ⟨hx, hb, hml, hown, hts⟩ (qX7_newGroup l D cI cZ ad n many image turn shelf groups inn_4 now_2 makers_1 makerMany_2 queue_1 12 F zr_2 groups_1 inn_5 hc_3) (cwV 1 hts gX7_made_X7_newGroup rfl rfl rfl zVX7_newGroup ⟨Nat.le_of_ble_eq_true rfl, Nat.le_of_ble_eq_true rfl⟩) (tg_preVM (r := (RX7, TX7, 11)) (ci := 6) (q0 := 0) hP (hDD _ rfl) hK hN rfl rfl) rfl rfl hl.1 rfl (lv_room (Nat.le_of_ble_eq_true rfl)) dX7_made_240 ⟨Nat.zero_le _, Nat.zero_le _⟩) hS (tg_inA (hDD _ rfl)) (fun zH zlocs _ hP hS => ?_)
            cases h
            exact W.iret hx hb hr (fun t ht hW => ⟨rfl, by rw [ht]; exact hP, hS.F ht⟩) hS.2.2 dX7_made_243
          refine lv_if_ne (tgt := 82) hx hb dX7_made_56 (by decide) (fun cb_4 => ?_) (fun cb_4 => ?_)
          · rw [if_neg cb_4] at hv
            refine lv_iload_n hx hb dX7_made_82 rfl (lv_at hl 1 rfl) ?_
            refine lv_iconst (v := 1) hx hb dX7_made_83 (by decide) ?_
            refine lv_icmp_ne (tgt := 94) hx hb dX7_made_84 (by decide) (fun cb_5 => ?_) (fun cb_5 => ?_)
            · rw [if_neg cb_5] at hv
              cases hv
              exact hj _ _ hP hS
            · rw [if_pos cb_5] at hv
              refine lv_aload_n hx hb dX7_made_87 rfl (lv_at hl 0 rfl) ?_
              refine lv_bipush (v := 10) hx hb dX7_made_88 (by decide) ?_
              refine lv_iload_n hx hb dX7_made_90 rfl (lv_at hl 2 rfl) ?_
              obtain ⟨inn_6, now_3, makers_2, makerMany_3, queue_2, hc_4, hv⟩ := bd5_el hv
              refine tg_cMv (va_runV (As := [.int 10, .int zx2]) (rest := []) ⟨hx, hb, hml, hown, hts⟩ (qX7_joinAll l D cI cZ ad n many image turn shelf groups inn_1 now makers makerMany_1 queue 10 zx2 F inn_6 now_3 makers_2 makerMany_3 queue_2 hc_4) (cwV 2 hts gX7_made_X7_joinAll rfl rfl rfl zVX7_joinAll ⟨Nat.le_of_ble_eq_true rfl, Nat.le_of_ble_eq_true rfl⟩) (tg_preVM (r := (RX7, TX7, 11)) (ci := 6) (q0 := 0) hP (hDD _ rfl) hK hN rfl rfl) rfl rfl hl.1 rfl (lv_room (Nat.le_of_ble_eq_true rfl)) dX7_made_91 ⟨Nat.zero_le _, Nat.zero_le _⟩) hS (tg_inA (hDD _ rfl)) (fun zH zlocs _ hP hS => ?_)
              cases hv
              exact hj _ _ hP hS
          · rw [if_pos cb_4] at hv
            refine lv_aload_n hx hb dX7_made_59 rfl (lv_at hl 0 rfl) ?_
            refine va_get (D := D) (ci := 6) (v := .ref (ad 5)) (C := RX7) (T := TX7) (N := 11) hx hb hts uX7_made_RX7 hown hK hP 0 rfl rfl 8 (by decide) (hts _ kX7_made_4) (fun _ h9 => h9) rfl dX7_made_60 ?_
            refine lv_sipush (v := 320) hx hb dX7_made_63 (by decide) ?_
            refine lv_aload_n hx hb dX7_made_66 rfl (lv_at hl 0 rfl) ?_
            refine va_get (D := D) (ci := 6) (v := .int turn) (C := RX7) (T := TX7) (N := 11) hx hb hts uX7_made_RX7 hown hK hP 0 rfl rfl 3 (by decide) (hts _ kX7_made_7) (fun _ h9 => h9) rfl dX7_made_67 ?_
            obtain ⟨gg, hv⟩ := gd_el hv
            obtain ⟨makers_3, emakers_3, hv⟩ := lT_el hv
            refine va_iast hx hb hK hP (hDD _ rfl) hS 5 0 rfl rfl (inb_in gg) dX7_made_70 (fun zH zlocs hP _ hS => ?_)
            have hP : va_P D vwCl (wM cI cZ ad n many image turn shelf groups inn_1 now (upd makers (Int32.toNatClampNeg 320) turn) makerMany_1 queue) zH := hP
            rw [← emakers_3] at hP
            refine lv_aload_n hx hb dX7_made_71 rfl (lv_at hl 0 rfl) ?_
            refine va_get (D := D) (ci := 6) (v := .ref (ad 6)) (C := RX7) (T := TX7) (N := 11) hx hb hts uX7_made_RX7 hown hK hP 0 rfl rfl 9 (by decide) (hts _ kX7_made_3) (fun _ h9 => h9) rfl dX7_made_72 ?_
            refine lv_bipush (v := 10) hx hb dX7_made_75 (by decide) ?_
            refine lv_iconst (v := 1) hx hb dX7_made_77 (by decide) ?_
            obtain ⟨gg_1, hv⟩ := gd_el hv
            obtain ⟨makerMany_4, emakerMany_4, hv⟩ := lT_el hv
            refine va_iast hx hb hK hP (hDD _ rfl) hS 6 0 rfl rfl (inb_in gg_1) dX7_made_78 (fun zH zlocs hP _ hS => ?_)
            have hP : va_P D vwCl (wM cI cZ ad n many image turn shelf groups inn_1 now makers_3 (upd makerMany_1 (Int32.toNatClampNeg 10) 1) queue) zH := hP
            rw [← emakerMany_4] at hP
            refine lv_goto (tgt := 94) hx hb dX7_made_79 (by decide) ?_
            cases hv
            exact hj _ _ hP hS
        · rw [if_pos cb_3] at h
          refine lv_aload_n hx hb dX7_made_37 rfl (lv_at hl 0 rfl) ?_
          refine lv_iload_n hx hb dX7_made_38 rfl (lv_at hl 2 rfl) ?_
          obtain ⟨inn_7, now_4, makers_4, makerMany_5, queue_3, hc_5, h⟩ := bd5_el h
          refine tg_cMv (va_runV (As := [.int zx2]) (rest := []) ⟨hx, hb, hml, hown, hts⟩ (qX7_goDown l D cI cZ ad n many image turn shelf groups inn now makers makerMany queue zx2 F inn_7 now_4 makers_4 makerMany_5 queue_3 hc_5) (cwV 1 hts gX7_made_X7_goDown rfl rfl rfl zVX7_goDown ⟨Nat.le_of_ble_eq_true rfl, Nat.le_of_ble_eq_true rfl⟩) (tg_preVM (r := (RX7, TX7, 11)) (ci := 6) (q0 := 0) hP (hDD _ rfl) hK hN rfl rfl) rfl rfl hl.1 rfl (lv_room (Nat.le_of_ble_eq_true rfl)) dX7_made_39 ⟨Nat.zero_le _, Nat.zero_le _⟩) hS (tg_inA (hDD _ rfl)) (fun zH zlocs _ hP hS => ?_)
          refine lv_aload_n hx hb dX7_made_42 rfl (lv_at hl 0 rfl) ?_
          refine lv_bipush (v := 11) hx hb dX7_made_43 (by decide) ?_
          obtain ⟨zr_3, groups_2, inn_8, hc_6, h⟩ := bd3_el h
          refine tg_cMi (va_runV (As := [.int 11]) (rest := []) ⟨hx, hb, hml, hown, hts⟩ (qX7_newGroup l D cI cZ ad n many image turn shelf groups inn_7 now_4 makers_4 makerMany_5 queue_3 11 F zr_3 groups_2 inn_8 hc_6) (cwV 1 hts gX7_made_X7_newGroup rfl rfl rfl zVX7_newGroup ⟨Nat.le_of_ble_eq_true rfl, Nat.le_of_ble_eq_true rfl⟩) (tg_preVM (r := (RX7, TX7, 11)) (ci := 6) (q0 := 0) hP (hDD _ rfl) hK hN rfl rfl) rfl rfl hl.1 rfl (lv_room (Nat.le_of_ble_eq_true rfl)) dX7_made_45 ⟨Nat.zero_le _, Nat.zero_le _⟩) hS (tg_inA (hDD _ rfl)) (fun zH zlocs _ hP hS => ?_)
          cases h
          exact W.iret hx hb hr (fun t ht hW => ⟨rfl, by rw [ht]; exact hP, hS.F ht⟩) hS.2.2 dX7_made_48
      · rw [if_pos cb_2] at h
        refine lv_bipush (v := (-3)) hx hb dX7_made_29 (by decide) ?_
        cases h
        exact W.iret hx hb hr (fun t ht hW => ⟨rfl, by rw [ht]; exact hP, hS.F ht⟩) hS.2.2 dX7_made_31
    · rw [if_pos cb_1] at h
      refine lv_bipush (v := (-2)) hx hb dX7_made_17 (by decide) ?_
      cases h
      exact W.iret hx hb hr (fun t ht hW => ⟨rfl, by rw [ht]; exact hP, hS.F ht⟩) hS.2.2 dX7_made_19
theorem zVX7_made : yX7_made.cls = RX7 ∧ yX7_made.cls ≠ "java/lang/invoke/MethodHandle" ∧ yX7_made.cls ≠ "java/lang/invoke/VarHandle" ∧ (parseMethodDescriptor yX7_made.desc).map (fun d => d.parameters.length) = some 2 := by decide +kernel

/-! ===== public int undo(); ===== -/
theorem kX7_undo_1 : Cond.fieldLink RX7 61 "TurnGroupsModel" "groups" "I" ∈ wsX7_undo := by decide +kernel
theorem uX7_undo_RX7 : ∀ w ∈ u_ws RX7 TX7 11, w ∈ wsX7_undo := by decide +kernel
def mX7_undo (groups : Int32) : Int32 × Int32 := if groups = 0 then ((-1 : Int32), groups) else (lT (groups - 1) (fun groups_1 => (groups_1, groups_1)))
set_option maxRecDepth 100000 in
set_option maxHeartbeats 4000000 in
theorem qX7_undo (l : Launch) (D : va_G) (cI : ClassId) (cZ : ClassId) (ad : Nat → Nat) (n : Int32) (many : Int32) (image : Nat → Int32) (turn : Int32) (shelf : Nat → Int32) (groups : Int32) (inn : Nat → Int32) (now : Nat → Int32) (makers : Nat → Int32) (makerMany : Nat → Int32) (queue : Nat → Int32) (zr0 : Int32) (ogroups : Int32) (h : mX7_undo groups = (zr0, ogroups)) : Met l yX7_undo wsX7_undo ({ frames := 0, cells := 0, slots := 0, locals := 0 } : Room) (tg_PM D [(cI, .int), (cZ, .boolean)] [.ref (ad 0)] (wM cI cZ ad n many image turn shelf groups inn now makers makerMany queue)) (tg_Mi D (wM cI cZ ad n many image turn shelf groups inn now makers makerMany queue) (wM cI cZ ad n many image turn shelf ogroups inn now makers makerMany queue) zr0) 0 0 (tg_in (wM cI cZ ad n many image turn shelf groups inn now makers makerMany queue)) := by
  refine Met.ofW (cc := cX7_undo) (maxL := 1) (ret := (some .int)) (by decide) rfl ?_
  intro p e s m zargs zbelow zmeth c s₁ B hml hv
  obtain ⟨hargs, hP, hK, hN, hD0⟩ := hv
  have hx := B.exec
  have hb := B.bytes
  have hr := B.returns
  have hts := atoms_spec (ws := wsX7_undo) B.pre
  have hown : s.vm.findClass RX7 = some m.cls := findClass_of_methodNamed B.named
  have hlocks := B.notSynchronized
  have hDD : tg_DD (tg_in (wM cI cZ ad n many image turn shelf groups inn now makers makerMany queue)) [ad 0, ad 1, ad 2, ad 3, ad 4, ad 5, ad 6, ad 7] := tg_DD.of (tg_D hD0) rfl
  have hS : va_S (tg_in (wM cI cZ ad n many image turn shelf groups inn now makers makerMany queue)) s.heap s.heap [] := va_S.rf
  have hl := lv_entry ([.ref (ad 0)]) (n := 1) (Nat.le_of_ble_eq_true rfl)
  refine W.eq (g2 := entryFrame m ([.ref (ad 0)] : List Value).toArray 1) (by rw [hargs]) ?_
  rw [lg_entry_eq]
  generalize (lg_sl ([.ref (ad 0)]) ++ List.replicate (1 - (lg_sl ([.ref (ad 0)])).length) Slot.unset).toArray = zls at hl ⊢
  have hl : lv_has zls 1 [(0, .ref (ad 0))] := hl
  rw [mX7_undo] at h
  refine lv_aload_n hx hb dX7_undo_0 rfl (lv_at hl 0 rfl) ?_
  refine va_get (D := D) (ci := 6) (v := .int groups) (C := RX7) (T := TX7) (N := 11) hx hb hts uX7_undo_RX7 hown hK hP 0 rfl rfl 5 (by decide) (hts _ kX7_undo_1) (fun _ h9 => h9) rfl dX7_undo_1 ?_
  refine lv_if_ne (tgt := 9) hx hb dX7_undo_4 (by decide) (fun cb => ?_) (fun cb => ?_)
  · rw [if_neg cb] at h
    refine lv_aload_n hx hb dX7_undo_9 rfl (lv_at hl 0 rfl) ?_
    refine lv_dup hx hb dX7_undo_10 rfl ?_
    refine va_get (D := D) (ci := 6) (v := .int groups) (C := RX7) (T := TX7) (N := 11) hx hb hts uX7_undo_RX7 hown hK hP 0 rfl rfl 5 (by decide) (hts _ kX7_undo_1) (fun _ h9 => h9) rfl dX7_undo_11 ?_
    refine lv_iconst (v := 1) hx hb dX7_undo_14 (by decide) ?_
    refine lv_isub hx hb dX7_undo_15 ?_
    obtain ⟨groups_1, egroups_1, h⟩ := lT_el h
    refine tg_top egroups_1 ?_
    refine va_put (D := D) (ci := 6) (v := .int groups_1) (ty := .int) (C := RX7) (T := TX7) (N := 11) hx hb hts uX7_undo_RX7 tyX7 tyX7_ok nmX7 hown hK hP (hDD _ rfl) hS 0 rfl rfl 5 (by decide) (hts _ kX7_undo_1) (fun _ h9 => h9) rfl (by decide +kernel) rfl rfl (Nat.le_of_ble_eq_true rfl) dX7_undo_16 (fun zH zlocs hP _ hS => ?_)
    have hP : va_P D vwCl (wM cI cZ ad n many image turn shelf groups_1 inn now makers makerMany queue) zH := hP
    refine lv_aload_n hx hb dX7_undo_19 rfl (lv_at hl 0 rfl) ?_
    refine va_get (D := D) (ci := 6) (v := .int groups_1) (C := RX7) (T := TX7) (N := 11) hx hb hts uX7_undo_RX7 hown hK hP 0 rfl rfl 5 (by decide) (hts _ kX7_undo_1) (fun _ h9 => h9) rfl dX7_undo_20 ?_
    cases h
    exact W.iret hx hb hr (fun t ht hW => ⟨rfl, by rw [ht]; exact hP, hS.F ht⟩) hS.2.2 dX7_undo_23
  · rw [if_pos cb] at h
    refine lv_iconst (v := (-1)) hx hb dX7_undo_7 (by decide) ?_
    cases h
    exact W.iret hx hb hr (fun t ht hW => ⟨rfl, by rw [ht]; exact hP, hS.F ht⟩) hS.2.2 dX7_undo_8
theorem zVX7_undo : yX7_undo.cls = RX7 ∧ yX7_undo.cls ≠ "java/lang/invoke/MethodHandle" ∧ yX7_undo.cls ≠ "java/lang/invoke/VarHandle" ∧ (parseMethodDescriptor yX7_undo.desc).map (fun d => d.parameters.length) = some 0 := by decide +kernel

/-! ===== public int size(int); ===== -/
def mX7_size (F : Nat) (many : Int32) (groups : Int32) (inn : Nat → Int32) (zx1 : Int32) : Option (Int32) := bd (mX7_isGroup groups zx1) (fun zr => if zr = 0 then (some (-2 : Int32)) else (bd (mX7_sizeOf F many inn zx1) (fun zr_1 => some zr_1)))
set_option maxRecDepth 100000 in
set_option maxHeartbeats 4000000 in
theorem qX7_size (l : Launch) (D : va_G) (cI : ClassId) (cZ : ClassId) (ad : Nat → Nat) (n : Int32) (many : Int32) (image : Nat → Int32) (turn : Int32) (shelf : Nat → Int32) (groups : Int32) (inn : Nat → Int32) (now : Nat → Int32) (makers : Nat → Int32) (makerMany : Nat → Int32) (queue : Nat → Int32) (zx1 : Int32) (F : Nat) (zr0 : Int32) (h : mX7_size F many groups inn zx1 = some zr0) : Met l yX7_size wsX7_size ({ frames := 2, cells := 0, slots := 0, locals := 45 } : Room) (tg_P D [(cI, .int), (cZ, .boolean)] [.ref (ad 0), .int zx1] ((wM cI cZ ad n many image turn shelf groups inn now makers makerMany queue))) (tg_Ri zr0) 0 0 (fun _ => False) := by
  refine Met.ofW (cc := cX7_size) (maxL := 2) (ret := (some .int)) (by decide) rfl ?_
  intro p e s m zargs zbelow zmeth c s₁ B hml hv
  obtain ⟨hargs, hP, hK, hN⟩ := hv
  have hx := B.exec
  have hb := B.bytes
  have hr := B.returns
  have hts := atoms_spec (ws := wsX7_size) B.pre
  have hown : s.vm.findClass RX7 = some m.cls := findClass_of_methodNamed B.named
  have hlocks := B.notSynchronized
  have hl := lv_entry ([.ref (ad 0), .int zx1]) (n := 2) (Nat.le_of_ble_eq_true rfl)
  refine W.eq (g2 := entryFrame m ([.ref (ad 0), .int zx1] : List Value).toArray 2) (by rw [hargs]) ?_
  rw [lg_entry_eq]
  generalize (lg_sl ([.ref (ad 0), .int zx1]) ++ List.replicate (2 - (lg_sl ([.ref (ad 0), .int zx1])).length) Slot.unset).toArray = zls at hl ⊢
  have hl : lv_has zls 2 [(0, .ref (ad 0)), (1, .int zx1)] := hl
  rw [mX7_size] at h
  refine lv_aload_n hx hb dX7_size_0 rfl (lv_at hl 0 rfl) ?_
  refine lv_iload_n hx hb dX7_size_1 rfl (lv_at hl 1 rfl) ?_
  obtain ⟨zr, hc, h⟩ := bd_el h
  refine tg_cRi (va_runV (As := [.int zx1]) (rest := []) ⟨hx, hb, hml, hown, hts⟩ (qX7_isGroup l D cI cZ ad n many image turn shelf groups inn now makers makerMany queue zx1 zr hc) (cwV 1 hts gX7_size_X7_isGroup rfl rfl rfl zVX7_isGroup ⟨Nat.le_of_ble_eq_true rfl, Nat.le_of_ble_eq_true rfl⟩) (tg_preV (r := (RX7, TX7, 11)) (ci := 6) (q0 := 0) hP hK hN rfl rfl) rfl rfl hl.1 rfl (lv_room (Nat.le_of_ble_eq_true rfl)) dX7_size_2 ⟨Nat.zero_le _, Nat.zero_le _⟩) ?_
  refine lv_if_eq (tgt := 16) hx hb dX7_size_5 (by decide) (fun cb => ?_) (fun cb => ?_)
  · rw [if_pos cb] at h
    refine lv_bipush (v := (-2)) hx hb dX7_size_16 (by decide) ?_
    cases h
    exact W.iret hx hb hr (fun t ht hW => ⟨rfl, ht⟩) (fun _ h9 => absurd h9 List.not_mem_nil) dX7_size_18
  · rw [if_neg cb] at h
    refine lv_aload_n hx hb dX7_size_8 rfl (lv_at hl 0 rfl) ?_
    refine lv_iload_n hx hb dX7_size_9 rfl (lv_at hl 1 rfl) ?_
    obtain ⟨zr_1, hc_1, h⟩ := bd_el h
    refine tg_cRi (va_runV (As := [.int zx1]) (rest := []) ⟨hx, hb, hml, hown, hts⟩ (qX7_sizeOf l D cI cZ ad n many image turn shelf groups inn now makers makerMany queue zx1 F zr_1 hc_1) (cwV 1 hts gX7_size_X7_sizeOf rfl rfl rfl zVX7_sizeOf ⟨Nat.le_of_ble_eq_true rfl, Nat.le_of_ble_eq_true rfl⟩) (tg_preV (r := (RX7, TX7, 11)) (ci := 6) (q0 := 0) hP hK hN rfl rfl) rfl rfl hl.1 rfl (lv_room (Nat.le_of_ble_eq_true rfl)) dX7_size_10 ⟨Nat.zero_le _, Nat.zero_le _⟩) ?_
    refine lv_goto (tgt := 18) hx hb dX7_size_13 (by decide) ?_
    cases h
    exact W.iret hx hb hr (fun t ht hW => ⟨rfl, ht⟩) (fun _ h9 => absurd h9 List.not_mem_nil) dX7_size_18
theorem zVX7_size : yX7_size.cls = RX7 ∧ yX7_size.cls ≠ "java/lang/invoke/MethodHandle" ∧ yX7_size.cls ≠ "java/lang/invoke/VarHandle" ∧ (parseMethodDescriptor yX7_size.desc).map (fun d => d.parameters.length) = some 1 := by decide +kernel

/-! ===== public int has(int); ===== -/
theorem kX7_has_1 : Cond.fieldLink RX7 64 "TurnGroupsModel" "turn" "I" ∈ wsX7_has := by decide +kernel
theorem uX7_has_RX7 : ∀ w ∈ u_ws RX7 TX7 11, w ∈ wsX7_has := by decide +kernel
def mX7_has (turn : Int32) (groups : Int32) (inn : Nat → Int32) (zx1 : Int32) : Option (Int32) := bd (mX7_isGroup groups zx1) (fun zr => if zr = 0 then (some (-2 : Int32)) else (bd (mX7_hasIt inn zx1 turn) (fun zr_1 => if zr_1 = 0 then (some (0 : Int32)) else (some (1 : Int32)))))
set_option maxRecDepth 100000 in
set_option maxHeartbeats 4000000 in
theorem qX7_has (l : Launch) (D : va_G) (cI : ClassId) (cZ : ClassId) (ad : Nat → Nat) (n : Int32) (many : Int32) (image : Nat → Int32) (turn : Int32) (shelf : Nat → Int32) (groups : Int32) (inn : Nat → Int32) (now : Nat → Int32) (makers : Nat → Int32) (makerMany : Nat → Int32) (queue : Nat → Int32) (zx1 : Int32) (zr0 : Int32) (h : mX7_has turn groups inn zx1 = some zr0) : Met l yX7_has wsX7_has ({ frames := 2, cells := 0, slots := 0, locals := 43 } : Room) (tg_P D [(cI, .int), (cZ, .boolean)] [.ref (ad 0), .int zx1] ((wM cI cZ ad n many image turn shelf groups inn now makers makerMany queue))) (tg_Ri zr0) 0 0 (fun _ => False) := by
  refine Met.ofW (cc := cX7_has) (maxL := 2) (ret := (some .int)) (by decide) rfl ?_
  intro p e s m zargs zbelow zmeth c s₁ B hml hv
  obtain ⟨hargs, hP, hK, hN⟩ := hv
  have hx := B.exec
  have hb := B.bytes
  have hr := B.returns
  have hts := atoms_spec (ws := wsX7_has) B.pre
  have hown : s.vm.findClass RX7 = some m.cls := findClass_of_methodNamed B.named
  have hlocks := B.notSynchronized
  have hl := lv_entry ([.ref (ad 0), .int zx1]) (n := 2) (Nat.le_of_ble_eq_true rfl)
  refine W.eq (g2 := entryFrame m ([.ref (ad 0), .int zx1] : List Value).toArray 2) (by rw [hargs]) ?_
  rw [lg_entry_eq]
  generalize (lg_sl ([.ref (ad 0), .int zx1]) ++ List.replicate (2 - (lg_sl ([.ref (ad 0), .int zx1])).length) Slot.unset).toArray = zls at hl ⊢
  have hl : lv_has zls 2 [(0, .ref (ad 0)), (1, .int zx1)] := hl
  rw [mX7_has] at h
  refine lv_aload_n hx hb dX7_has_0 rfl (lv_at hl 0 rfl) ?_
  refine lv_iload_n hx hb dX7_has_1 rfl (lv_at hl 1 rfl) ?_
  obtain ⟨zr, hc, h⟩ := bd_el h
  refine tg_cRi (va_runV (As := [.int zx1]) (rest := []) ⟨hx, hb, hml, hown, hts⟩ (qX7_isGroup l D cI cZ ad n many image turn shelf groups inn now makers makerMany queue zx1 zr hc) (cwV 1 hts gX7_has_X7_isGroup rfl rfl rfl zVX7_isGroup ⟨Nat.le_of_ble_eq_true rfl, Nat.le_of_ble_eq_true rfl⟩) (tg_preV (r := (RX7, TX7, 11)) (ci := 6) (q0 := 0) hP hK hN rfl rfl) rfl rfl hl.1 rfl (lv_room (Nat.le_of_ble_eq_true rfl)) dX7_has_2 ⟨Nat.zero_le _, Nat.zero_le _⟩) ?_
  refine lv_if_ne (tgt := 13) hx hb dX7_has_5 (by decide) (fun cb => ?_) (fun cb => ?_)
  · rw [if_neg cb] at h
    refine lv_aload_n hx hb dX7_has_13 rfl (lv_at hl 0 rfl) ?_
    refine lv_iload_n hx hb dX7_has_14 rfl (lv_at hl 1 rfl) ?_
    refine lv_aload_n hx hb dX7_has_15 rfl (lv_at hl 0 rfl) ?_
    refine va_get (D := D) (ci := 6) (v := .int turn) (C := RX7) (T := TX7) (N := 11) hx hb hts uX7_has_RX7 hown hK hP 0 rfl rfl 3 (by decide) (hts _ kX7_has_1) (fun _ h9 => h9) rfl dX7_has_16 ?_
    obtain ⟨zr_1, hc_1, h⟩ := bd_el h
    refine tg_cRi (va_runV (As := [.int zx1, .int turn]) (rest := []) ⟨hx, hb, hml, hown, hts⟩ (qX7_hasIt l D cI cZ ad n many image turn shelf groups inn now makers makerMany queue zx1 turn zr_1 hc_1) (cwV 2 hts gX7_has_X7_hasIt rfl rfl rfl zVX7_hasIt ⟨Nat.le_of_ble_eq_true rfl, Nat.le_of_ble_eq_true rfl⟩) (tg_preV (r := (RX7, TX7, 11)) (ci := 6) (q0 := 0) hP hK hN rfl rfl) rfl rfl hl.1 rfl (lv_room (Nat.le_of_ble_eq_true rfl)) dX7_has_19 ⟨Nat.zero_le _, Nat.zero_le _⟩) ?_
    refine lv_if_eq (tgt := 29) hx hb dX7_has_22 (by decide) (fun cb_1 => ?_) (fun cb_1 => ?_)
    · rw [if_pos cb_1] at h
      refine lv_iconst (v := 0) hx hb dX7_has_29 (by decide) ?_
      cases h
      exact W.iret hx hb hr (fun t ht hW => ⟨rfl, ht⟩) (fun _ h9 => absurd h9 List.not_mem_nil) dX7_has_30
    · rw [if_neg cb_1] at h
      refine lv_iconst (v := 1) hx hb dX7_has_25 (by decide) ?_
      refine lv_goto (tgt := 30) hx hb dX7_has_26 (by decide) ?_
      cases h
      exact W.iret hx hb hr (fun t ht hW => ⟨rfl, ht⟩) (fun _ h9 => absurd h9 List.not_mem_nil) dX7_has_30
  · rw [if_pos cb] at h
    refine lv_bipush (v := (-2)) hx hb dX7_has_8 (by decide) ?_
    refine lv_goto (tgt := 30) hx hb dX7_has_10 (by decide) ?_
    cases h
    exact W.iret hx hb hr (fun t ht hW => ⟨rfl, ht⟩) (fun _ h9 => absurd h9 List.not_mem_nil) dX7_has_30
theorem zVX7_has : yX7_has.cls = RX7 ∧ yX7_has.cls ≠ "java/lang/invoke/MethodHandle" ∧ yX7_has.cls ≠ "java/lang/invoke/VarHandle" ∧ (parseMethodDescriptor yX7_has.desc).map (fun d => d.parameters.length) = some 1 := by decide +kernel

/-! ===== public int is(int, int, int); ===== -/
def mX7_is (F : Nat) (n : Int32) (many : Int32) (image : Nat → Int32) (groups : Int32) (inn : Nat → Int32) (now : Nat → Int32) (makers : Nat → Int32) (makerMany : Nat → Int32) (queue : Nat → Int32) (zx1 : Int32) (zx2 : Int32) (zx3 : Int32) : Option (Int32 × (Nat → Int32) × (Nat → Int32) × (Nat → Int32) × (Nat → Int32) × (Nat → Int32)) := if (mX7_isIn zx1 0 2) = 0 then (some ((-2 : Int32), inn, now, makers, makerMany, queue)) else (bd (mX7_isGroup groups zx2) (fun zr_1 => if zr_1 = 0 then (some ((-2 : Int32), inn, now, makers, makerMany, queue)) else (bd (mX7_isGroup groups zx3) (fun zr_2 => if zr_2 = 0 then (some ((-2 : Int32), inn, now, makers, makerMany, queue)) else (bd (mX7_isWithin F many inn zx2 zx3) (fun zr_3 => bd6 (if zr_3 = 0 then (some ((0 : Int32), inn, now, makers, makerMany, queue)) else (if zx1 = 0 then (some ((1 : Int32), inn, now, makers, makerMany, queue)) else (if zx1 = 1 then (bd6 (mX7_isNormal F n many image inn now makers makerMany queue zx2 zx3) (fun zr_5 inn_2 now_2 makers_2 makerMany_2 queue_2 => if zr_5 = 0 then (some ((0 : Int32), inn_2, now_2, makers_2, makerMany_2, queue_2)) else (some ((1 : Int32), inn_2, now_2, makers_2, makerMany_2, queue_2)))) else (bd (mX7_isWithin F many inn zx3 zx2) (fun zr_4 => if zr_4 = 0 then (some ((0 : Int32), inn, now, makers, makerMany, queue)) else (some ((1 : Int32), inn, now, makers, makerMany, queue))))))) (fun zv inn_1 now_1 makers_1 makerMany_1 queue_1 => if zv = 0 then (some ((0 : Int32), inn_1, now_1, makers_1, makerMany_1, queue_1)) else (some ((1 : Int32), inn_1, now_1, makers_1, makerMany_1, queue_1)))))))))
set_option maxRecDepth 100000 in
set_option maxHeartbeats 4000000 in
theorem qX7_is (l : Launch) (D : va_G) (cI : ClassId) (cZ : ClassId) (ad : Nat → Nat) (n : Int32) (many : Int32) (image : Nat → Int32) (turn : Int32) (shelf : Nat → Int32) (groups : Int32) (inn : Nat → Int32) (now : Nat → Int32) (makers : Nat → Int32) (makerMany : Nat → Int32) (queue : Nat → Int32) (zx1 : Int32) (zx2 : Int32) (zx3 : Int32) (F : Nat) (zr0 : Int32) (oinn : Nat → Int32) (onow : Nat → Int32) (omakers : Nat → Int32) (omakerMany : Nat → Int32) (oqueue : Nat → Int32) (h : mX7_is F n many image groups inn now makers makerMany queue zx1 zx2 zx3 = some (zr0, oinn, onow, omakers, omakerMany, oqueue)) : Met l yX7_is wsX7_is ({ frames := 5, cells := 0, slots := 0, locals := 121 } : Room) (tg_PM D [(cI, .int), (cZ, .boolean)] [.ref (ad 0), .int zx1, .int zx2, .int zx3] (wM cI cZ ad n many image turn shelf groups inn now makers makerMany queue)) (tg_Mi D (wM cI cZ ad n many image turn shelf groups inn now makers makerMany queue) (wM cI cZ ad n many image turn shelf groups oinn onow omakers omakerMany oqueue) zr0) 0 0 (tg_in (wM cI cZ ad n many image turn shelf groups inn now makers makerMany queue)) := by
  refine Met.ofW (cc := cX7_is) (maxL := 5) (ret := (some .int)) (by decide) rfl ?_
  intro p e s m zargs zbelow zmeth c s₁ B hml hv
  obtain ⟨hargs, hP, hK, hN, hD0⟩ := hv
  have hx := B.exec
  have hb := B.bytes
  have hr := B.returns
  have hts := atoms_spec (ws := wsX7_is) B.pre
  have hown : s.vm.findClass RX7 = some m.cls := findClass_of_methodNamed B.named
  have hlocks := B.notSynchronized
  have hDD : tg_DD (tg_in (wM cI cZ ad n many image turn shelf groups inn now makers makerMany queue)) [ad 0, ad 1, ad 2, ad 3, ad 4, ad 5, ad 6, ad 7] := tg_DD.of (tg_D hD0) rfl
  have hS : va_S (tg_in (wM cI cZ ad n many image turn shelf groups inn now makers makerMany queue)) s.heap s.heap [] := va_S.rf
  have hl := lv_entry ([.ref (ad 0), .int zx1, .int zx2, .int zx3]) (n := 5) (Nat.le_of_ble_eq_true rfl)
  refine W.eq (g2 := entryFrame m ([.ref (ad 0), .int zx1, .int zx2, .int zx3] : List Value).toArray 5) (by rw [hargs]) ?_
  rw [lg_entry_eq]
  generalize (lg_sl ([.ref (ad 0), .int zx1, .int zx2, .int zx3]) ++ List.replicate (5 - (lg_sl ([.ref (ad 0), .int zx1, .int zx2, .int zx3])).length) Slot.unset).toArray = zls at hl ⊢
  have hl : lv_has zls 5 [(0, .ref (ad 0)), (1, .int zx1), (2, .int zx2), (3, .int zx3)] := hl
  rw [mX7_is] at h
  refine lv_iload_n hx hb dX7_is_0 rfl (lv_at hl 1 rfl) ?_
  refine lv_iconst (v := 0) hx hb dX7_is_1 (by decide) ?_
  refine lv_iconst (v := 2) hx hb dX7_is_2 (by decide) ?_
  refine tg_cRi (va_runS (As := [.int zx1, .int 0, .int 2]) (rest := []) ⟨hx, hb, hml, hown, hts⟩ (qX7_isIn l D zx1 0 2 _ rfl) (va_cwS 3 hts gX7_is_X7_isIn rfl rfl rfl zSX7_isIn ⟨Nat.le_of_ble_eq_true rfl, Nat.le_of_ble_eq_true rfl⟩) (tg_preS tg_nil (hK.sub (tys' := []) [] rfl) hN) rfl rfl hl.1 rfl (lv_room (Nat.le_of_ble_eq_true rfl)) dX7_is_3 ⟨Nat.zero_le _, Nat.zero_le _⟩) ?_
  refine lv_if_eq (tgt := 25) hx hb dX7_is_6 (by decide) (fun cb => ?_) (fun cb => ?_)
  · rw [if_pos cb] at h
    refine lv_bipush (v := (-2)) hx hb dX7_is_25 (by decide) ?_
    cases h
    exact W.iret hx hb hr (fun t ht hW => ⟨rfl, by rw [ht]; exact hP, hS.F ht⟩) hS.2.2 dX7_is_27
  · rw [if_neg cb] at h
    refine lv_aload_n hx hb dX7_is_9 rfl (lv_at hl 0 rfl) ?_
    refine lv_iload_n hx hb dX7_is_10 rfl (lv_at hl 2 rfl) ?_
    obtain ⟨zr_1, hc, h⟩ := bd_el h
    refine tg_cRi (va_runV (As := [.int zx2]) (rest := []) ⟨hx, hb, hml, hown, hts⟩ (qX7_isGroup l D cI cZ ad n many image turn shelf groups inn now makers makerMany queue zx2 zr_1 hc) (cwV 1 hts gX7_is_X7_isGroup rfl rfl rfl zVX7_isGroup ⟨Nat.le_of_ble_eq_true rfl, Nat.le_of_ble_eq_true rfl⟩) (tg_preV (r := (RX7, TX7, 11)) (ci := 6) (q0 := 0) hP hK hN rfl rfl) rfl rfl hl.1 rfl (lv_room (Nat.le_of_ble_eq_true rfl)) dX7_is_11 ⟨Nat.zero_le _, Nat.zero_le _⟩) ?_
    refine lv_if_eq (tgt := 25) hx hb dX7_is_14 (by decide) (fun cb_1 => ?_) (fun cb_1 => ?_)
    · rw [if_pos cb_1] at h
      refine lv_bipush (v := (-2)) hx hb dX7_is_25 (by decide) ?_
      cases h
      exact W.iret hx hb hr (fun t ht hW => ⟨rfl, by rw [ht]; exact hP, hS.F ht⟩) hS.2.2 dX7_is_27
    · rw [if_neg cb_1] at h
      refine lv_aload_n hx hb dX7_is_17 rfl (lv_at hl 0 rfl) ?_
      refine lv_iload_n hx hb dX7_is_18 rfl (lv_at hl 3 rfl) ?_
      obtain ⟨zr_2, hc_1, h⟩ := bd_el h
      refine tg_cRi (va_runV (As := [.int zx3]) (rest := []) ⟨hx, hb, hml, hown, hts⟩ (qX7_isGroup l D cI cZ ad n many image turn shelf groups inn now makers makerMany queue zx3 zr_2 hc_1) (cwV 1 hts gX7_is_X7_isGroup rfl rfl rfl zVX7_isGroup ⟨Nat.le_of_ble_eq_true rfl, Nat.le_of_ble_eq_true rfl⟩) (tg_preV (r := (RX7, TX7, 11)) (ci := 6) (q0 := 0) hP hK hN rfl rfl) rfl rfl hl.1 rfl (lv_room (Nat.le_of_ble_eq_true rfl)) dX7_is_19 ⟨Nat.zero_le _, Nat.zero_le _⟩) ?_
      refine lv_if_ne (tgt := 28) hx hb dX7_is_22 (by decide) (fun cb_2 => ?_) (fun cb_2 => ?_)
      · rw [if_neg cb_2] at h
        refine lv_aload_n hx hb dX7_is_28 rfl (lv_at hl 0 rfl) ?_
        refine lv_iload_n hx hb dX7_is_29 rfl (lv_at hl 2 rfl) ?_
        refine lv_iload_n hx hb dX7_is_30 rfl (lv_at hl 3 rfl) ?_
        obtain ⟨zr_3, hc_2, h⟩ := bd_el h
        refine tg_cRi (va_runV (As := [.int zx2, .int zx3]) (rest := []) ⟨hx, hb, hml, hown, hts⟩ (qX7_isWithin l D cI cZ ad n many image turn shelf groups inn now makers makerMany queue zx2 zx3 F zr_3 hc_2) (cwV 2 hts gX7_is_X7_isWithin rfl rfl rfl zVX7_isWithin ⟨Nat.le_of_ble_eq_true rfl, Nat.le_of_ble_eq_true rfl⟩) (tg_preV (r := (RX7, TX7, 11)) (ci := 6) (q0 := 0) hP hK hN rfl rfl) rfl rfl hl.1 rfl (lv_room (Nat.le_of_ble_eq_true rfl)) dX7_is_31 ⟨Nat.zero_le _, Nat.zero_le _⟩) ?_
        obtain ⟨zv, inn_1, now_1, makers_1, makerMany_1, queue_1, hv, h⟩ := bd6_el h
        have hj : ∀ (zH : Heap) (zlocs : List Loc), va_P D vwCl (wM cI cZ ad n many image turn shelf groups inn_1 now_1 makers_1 makerMany_1 queue_1) zH → va_S (tg_in (wM cI cZ ad n many image turn shelf groups inn now makers makerMany queue)) s.heap zH zlocs → W p l e ({ frames := 5, cells := 0, slots := 0, locals := 121 } : Room) s m zargs zbelow zmeth c zH zlocs 0 0 (MQ zbelow (tg_Mi D (wM cI cZ ad n many image turn shelf groups inn now makers makerMany queue) (wM cI cZ ad n many image turn shelf groups oinn onow omakers omakerMany oqueue) zr0) zargs s 0 0 (tg_in (wM cI cZ ad n many image turn shelf groups inn now makers makerMany queue))) (F0 m 72 zls [.int zv]) := by
          intro zH zlocs hP hS
          refine lv_istore (lv' := [(4, .int zv), (0, .ref (ad 0)), (1, .int zx1), (2, .int zx2), (3, .int zx3)]) hx hb dX7_is_72 hl (by decide) rfl (fun zls hl => ?_)
          refine lv_iload hx hb dX7_is_74 (lv_at hl 0 rfl) ?_
          refine lv_if_eq (tgt := 83) hx hb dX7_is_76 (by decide) (fun cb_3 => ?_) (fun cb_3 => ?_)
          · rw [if_pos cb_3] at h
            refine lv_iconst (v := 0) hx hb dX7_is_83 (by decide) ?_
            cases h
            exact W.iret hx hb hr (fun t ht hW => ⟨rfl, by rw [ht]; exact hP, hS.F ht⟩) hS.2.2 dX7_is_84
          · rw [if_neg cb_3] at h
            refine lv_iconst (v := 1) hx hb dX7_is_79 (by decide) ?_
            refine lv_goto (tgt := 84) hx hb dX7_is_80 (by decide) ?_
            cases h
            exact W.iret hx hb hr (fun t ht hW => ⟨rfl, by rw [ht]; exact hP, hS.F ht⟩) hS.2.2 dX7_is_84
        refine lv_if_eq (tgt := 71) hx hb dX7_is_34 (by decide) (fun cb_4 => ?_) (fun cb_4 => ?_)
        · rw [if_pos cb_4] at hv
          refine lv_iconst (v := 0) hx hb dX7_is_71 (by decide) ?_
          cases hv
          exact hj _ _ hP hS
        · rw [if_neg cb_4] at hv
          refine lv_iload_n hx hb dX7_is_37 rfl (lv_at hl 1 rfl) ?_
          refine lv_if_eq (tgt := 67) hx hb dX7_is_38 (by decide) (fun cb_5 => ?_) (fun cb_5 => ?_)
          · rw [if_pos cb_5] at hv
            refine lv_iconst (v := 1) hx hb dX7_is_67 (by decide) ?_
            refine lv_goto (tgt := 72) hx hb dX7_is_68 (by decide) ?_
            cases hv
            exact hj _ _ hP hS
          · rw [if_neg cb_5] at hv
            refine lv_iload_n hx hb dX7_is_41 rfl (lv_at hl 1 rfl) ?_
            refine lv_iconst (v := 1) hx hb dX7_is_42 (by decide) ?_
            refine lv_icmp_ne (tgt := 58) hx hb dX7_is_43 (by decide) (fun cb_6 => ?_) (fun cb_6 => ?_)
            · rw [if_neg cb_6] at hv
              refine lv_aload_n hx hb dX7_is_58 rfl (lv_at hl 0 rfl) ?_
              refine lv_iload_n hx hb dX7_is_59 rfl (lv_at hl 3 rfl) ?_
              refine lv_iload_n hx hb dX7_is_60 rfl (lv_at hl 2 rfl) ?_
              obtain ⟨zr_4, hc_3, hv⟩ := bd_el hv
              refine tg_cRi (va_runV (As := [.int zx3, .int zx2]) (rest := []) ⟨hx, hb, hml, hown, hts⟩ (qX7_isWithin l D cI cZ ad n many image turn shelf groups inn now makers makerMany queue zx3 zx2 F zr_4 hc_3) (cwV 2 hts gX7_is_X7_isWithin rfl rfl rfl zVX7_isWithin ⟨Nat.le_of_ble_eq_true rfl, Nat.le_of_ble_eq_true rfl⟩) (tg_preV (r := (RX7, TX7, 11)) (ci := 6) (q0 := 0) hP hK hN rfl rfl) rfl rfl hl.1 rfl (lv_room (Nat.le_of_ble_eq_true rfl)) dX7_is_61 ⟨Nat.zero_le _, Nat.zero_le _⟩) ?_
              refine lv_if_eq (tgt := 71) hx hb dX7_is_64 (by decide) (fun cb_7 => ?_) (fun cb_7 => ?_)
              · rw [if_pos cb_7] at hv
                refine lv_iconst (v := 0) hx hb dX7_is_71 (by decide) ?_
                cases hv
                exact hj _ _ hP hS
              · rw [if_neg cb_7] at hv
                refine lv_iconst (v := 1) hx hb dX7_is_67 (by decide) ?_
                refine lv_goto (tgt := 72) hx hb dX7_is_68 (by decide) ?_
                cases hv
                exact hj _ _ hP hS
            · rw [if_pos cb_6] at hv
              refine lv_aload_n hx hb dX7_is_46 rfl (lv_at hl 0 rfl) ?_
              refine lv_iload_n hx hb dX7_is_47 rfl (lv_at hl 2 rfl) ?_
              refine lv_iload_n hx hb dX7_is_48 rfl (lv_at hl 3 rfl) ?_
              obtain ⟨zr_5, inn_2, now_2, makers_2, makerMany_2, queue_2, hc_4, hv⟩ := bd6_el hv
              refine tg_cMi (va_runV (As := [.int zx2, .int zx3]) (rest := []) ⟨hx, hb, hml, hown, hts⟩ (qX7_isNormal l D cI cZ ad n many image turn shelf groups inn now makers makerMany queue zx2 zx3 F zr_5 inn_2 now_2 makers_2 makerMany_2 queue_2 hc_4) (cwV 2 hts gX7_is_X7_isNormal rfl rfl rfl zVX7_isNormal ⟨Nat.le_of_ble_eq_true rfl, Nat.le_of_ble_eq_true rfl⟩) (tg_preVM (r := (RX7, TX7, 11)) (ci := 6) (q0 := 0) hP (hDD _ rfl) hK hN rfl rfl) rfl rfl hl.1 rfl (lv_room (Nat.le_of_ble_eq_true rfl)) dX7_is_49 ⟨Nat.zero_le _, Nat.zero_le _⟩) hS (tg_inA (hDD _ rfl)) (fun zH zlocs _ hP hS => ?_)
              refine lv_if_eq (tgt := 71) hx hb dX7_is_52 (by decide) (fun cb_8 => ?_) (fun cb_8 => ?_)
              · rw [if_pos cb_8] at hv
                refine lv_iconst (v := 0) hx hb dX7_is_71 (by decide) ?_
                cases hv
                exact hj _ _ hP hS
              · rw [if_neg cb_8] at hv
                refine lv_goto (tgt := 67) hx hb dX7_is_55 (by decide) ?_
                refine lv_iconst (v := 1) hx hb dX7_is_67 (by decide) ?_
                refine lv_goto (tgt := 72) hx hb dX7_is_68 (by decide) ?_
                cases hv
                exact hj _ _ hP hS
      · rw [if_pos cb_2] at h
        refine lv_bipush (v := (-2)) hx hb dX7_is_25 (by decide) ?_
        cases h
        exact W.iret hx hb hr (fun t ht hW => ⟨rfl, by rw [ht]; exact hP, hS.F ht⟩) hS.2.2 dX7_is_27
theorem zVX7_is : yX7_is.cls = RX7 ∧ yX7_is.cls ≠ "java/lang/invoke/MethodHandle" ∧ yX7_is.cls ≠ "java/lang/invoke/VarHandle" ∧ (parseMethodDescriptor yX7_is.desc).map (fun d => d.parameters.length) = some 3 := by decide +kernel

/-! ===== public int orbit(int, int); ===== -/
theorem kX7_orbit_1 : Cond.fieldLink RX7 7 "TurnGroupsModel" "n" "I" ∈ wsX7_orbit := by decide +kernel
theorem kX7_orbit_2 : Cond.fieldLink RX7 46 "TurnGroupsModel" "many" "I" ∈ wsX7_orbit := by decide +kernel
theorem kX7_orbit_3 : Cond.fieldLink RX7 14 "TurnGroupsModel" "image" "[I" ∈ wsX7_orbit := by decide +kernel
theorem uX7_orbit_RX7 : ∀ w ∈ u_ws RX7 TX7 11, w ∈ wsX7_orbit := by decide +kernel
def mX7_orbit_L30 (zx1 : Int32) (zx2 : Int32) (many : Int32) (image : Nat → Int32) (inn : Nat → Int32) : Nat → Int32 → Int32 → Option (Int32)
  | 0, _, _ => none
  | f + 1, zx3, zx4 => if many ≤ zx4 then (some zx3) else (bd (mX7_hasIt inn zx1 zx4) (fun zr => bd (if zr = 0 then (some (0 : Int32)) else (gd (inb ((8 * zx4) + zx2) 322560) (some (1 <<< ((image (Int32.toNatClampNeg ((8 * zx4) + zx2))) &&& 31))))) (fun zv => lT (zx3 ||| zv) (fun zx3_1 => mX7_orbit_L30 zx1 zx2 many image inn f zx3_1 (zx4 + 1)))))
theorem mX7_orbit_L30_s (zx1 : Int32) (zx2 : Int32) (many : Int32) (image : Nat → Int32) (inn : Nat → Int32) (f : Nat) (zx3 : Int32) (zx4 : Int32) : mX7_orbit_L30 zx1 zx2 many image inn (f + 1) zx3 zx4 = (if many ≤ zx4 then (some zx3) else (bd (mX7_hasIt inn zx1 zx4) (fun zr => bd (if zr = 0 then (some (0 : Int32)) else (gd (inb ((8 * zx4) + zx2) 322560) (some (1 <<< ((image (Int32.toNatClampNeg ((8 * zx4) + zx2))) &&& 31))))) (fun zv => lT (zx3 ||| zv) (fun zx3_1 => mX7_orbit_L30 zx1 zx2 many image inn f zx3_1 (zx4 + 1)))))) := rfl
def mX7_orbit (F : Nat) (n : Int32) (many : Int32) (image : Nat → Int32) (groups : Int32) (inn : Nat → Int32) (zx1 : Int32) (zx2 : Int32) : Option (Int32) := bd (mX7_isGroup groups zx1) (fun zr => if zr = 0 then (some (-2 : Int32)) else (if (mX7_isIn zx2 0 (n - 1)) = 0 then (some (-2 : Int32)) else (bd (mX7_orbit_L30 zx1 zx2 many image inn F 0 0) (fun zx3 => some zx3))))
set_option maxRecDepth 100000 in
set_option maxHeartbeats 4000000 in
theorem wX7_orbit_L30 {p : Program} {l : Launch} {e : Env} {s : State} {m : MethodId} {zargs : Array Value} {zbelow : List Frame} {zmeth : Method} {c : Code} {D : va_G} {zQ : State → Prop} {ad : Nat → Nat} {cI cZ : ClassId} {n : Int32} {many : Int32} {image : Nat → Int32} {turn : Int32} {shelf : Nat → Int32} {groups : Int32} {inn : Nat → Int32} {now : Nat → Int32} {makers : Nat → Int32} {makerMany : Nat → Int32} {queue : Nat → Int32} {zx1 : Int32} {zx2 : Int32} (C0 : tg_C p s m zmeth c zargs cX7_orbit RX7 wsX7_orbit 5 D [(cI, .int), (cZ, .boolean)]) (hP : va_P D vwCl (wM cI cZ ad n many image turn shelf groups inn now makers makerMany queue) s.heap) (hlocks : zmeth.locks = false) (hr : zmeth.sig.returnType = (some .int)) (F : Nat) : ∀ (f : Nat) (zx3 : Int32) (zx4 : Int32) (zo3 : Int32), mX7_orbit_L30 zx1 zx2 many image inn f zx3 zx4 = some zo3 → ∀ (zls : Array Slot), lv_has zls 5 [(0, .ref (ad 0)), (1, .int zx1), (2, .int zx2), (3, .int zx3), (4, .int zx4)] → (∀ (zls : Array Slot), lv_has zls 5 [(3, .int zo3)] → W p l e ({ frames := 2, cells := 0, slots := 0, locals := 43 } : Room) s m zargs zbelow zmeth c s.heap [] 0 0 zQ (F0 m 76 zls [])) → W p l e ({ frames := 2, cells := 0, slots := 0, locals := 43 } : Room) s m zargs zbelow zmeth c s.heap [] 0 0 zQ (F0 m 30 zls []) := by
  obtain ⟨hx, hb, hml, hown, hts, hK, hN⟩ := C0
  intro f
  induction f with
  | zero => intro _ _ _ h; exact absurd (show none = some _ from h) (fun h9 => by cases h9)
  | succ f ih =>
    intro zx3 zx4 zo3 h  zls hl kk
    rw [mX7_orbit_L30_s] at h
    refine lv_iload hx hb dX7_orbit_30 (lv_at hl 4 rfl) ?_
    refine lv_aload_n hx hb dX7_orbit_32 rfl (lv_at hl 0 rfl) ?_
    refine va_get (D := D) (ci := 6) (v := .int many) (C := RX7) (T := TX7) (N := 11) hx hb hts uX7_orbit_RX7 hown hK hP 0 rfl rfl 1 (by decide) (hts _ kX7_orbit_2) (fun _ h9 => h9) rfl dX7_orbit_33 ?_
    refine lv_icmp_ge (tgt := 76) hx hb dX7_orbit_36 (by decide) (fun cb => ?_) (fun cb => ?_)
    · rw [if_pos cb] at h
      cases h
      exact kk  _ (lv_sub hl [3] rfl)
    · rw [if_neg cb] at h
      refine lv_iload_n hx hb dX7_orbit_39 rfl (lv_at hl 3 rfl) ?_
      refine lv_aload_n hx hb dX7_orbit_40 rfl (lv_at hl 0 rfl) ?_
      refine lv_iload_n hx hb dX7_orbit_41 rfl (lv_at hl 1 rfl) ?_
      refine lv_iload hx hb dX7_orbit_42 (lv_at hl 4 rfl) ?_
      obtain ⟨zr, hc, h⟩ := bd_el h
      refine tg_cRi (va_runV (As := [.int zx1, .int zx4]) (rest := [.int zx3]) ⟨hx, hb, hml, hown, hts⟩ (qX7_hasIt l D cI cZ ad n many image turn shelf groups inn now makers makerMany queue zx1 zx4 zr hc) (cwV 2 hts gX7_orbit_X7_hasIt rfl rfl rfl zVX7_hasIt ⟨Nat.le_of_ble_eq_true rfl, Nat.le_of_ble_eq_true rfl⟩) (tg_preV (r := (RX7, TX7, 11)) (ci := 6) (q0 := 0) hP hK hN rfl rfl) rfl rfl hl.1 rfl (lv_room (Nat.le_of_ble_eq_true rfl)) dX7_orbit_44 ⟨Nat.zero_le _, Nat.zero_le _⟩) ?_
      obtain ⟨zv, hv, h⟩ := bd_el h
      have hj : W p l e ({ frames := 2, cells := 0, slots := 0, locals := 43 } : Room) s m zargs zbelow zmeth c s.heap [] 0 0 zQ (F0 m 68 zls [.int zv, .int zx3]) := by
        refine lv_ior hx hb dX7_orbit_68 ?_
        obtain ⟨zx3_1, ex3_1, h⟩ := lT_el h
        refine tg_top ex3_1 ?_
        refine lv_istore_n (lv' := [(3, .int zx3_1), (0, .ref (ad 0)), (1, .int zx1), (2, .int zx2), (4, .int zx4)]) hx hb dX7_orbit_69 rfl hl (by decide) rfl (fun zls hl => ?_)
        refine lv_iinc (v := (zx4 + 1)) (lv' := [(4, .int (zx4 + 1)), (3, .int zx3_1), (0, .ref (ad 0)), (1, .int zx1), (2, .int zx2)]) hx hb dX7_orbit_70 hl (k := 4) rfl rfl (by decide) rfl (fun zls hl => ?_)
        refine lv_goto (tgt := 30) hx hb dX7_orbit_73 (by decide) ?_
        exact ih _ _ _ h  _ (lv_sub hl [2, 3, 4, 1, 0] rfl) kk
      refine lv_if_eq (tgt := 67) hx hb dX7_orbit_47 (by decide) (fun cb_1 => ?_) (fun cb_1 => ?_)
      · rw [if_pos cb_1] at hv
        refine lv_iconst (v := 0) hx hb dX7_orbit_67 (by decide) ?_
        cases hv
        exact hj 
      · rw [if_neg cb_1] at hv
        refine lv_iconst (v := 1) hx hb dX7_orbit_50 (by decide) ?_
        refine lv_aload_n hx hb dX7_orbit_51 rfl (lv_at hl 0 rfl) ?_
        refine va_get (D := D) (ci := 6) (v := .ref (ad 1)) (C := RX7) (T := TX7) (N := 11) hx hb hts uX7_orbit_RX7 hown hK hP 0 rfl rfl 2 (by decide) (hts _ kX7_orbit_3) (fun _ h9 => h9) rfl dX7_orbit_52 ?_
        refine lv_bipush (v := 8) hx hb dX7_orbit_55 (by decide) ?_
        refine lv_iload hx hb dX7_orbit_57 (lv_at hl 4 rfl) ?_
        refine lv_imul hx hb dX7_orbit_59 ?_
        refine lv_iload_n hx hb dX7_orbit_60 rfl (lv_at hl 2 rfl) ?_
        refine lv_iadd hx hb dX7_orbit_61 ?_
        obtain ⟨gg, hv⟩ := gd_el hv
        refine va_iald hx hb hK hP 1 0 rfl rfl (inb_in gg) dX7_orbit_62 ?_
        refine lv_ishl hx hb dX7_orbit_63 ?_
        refine lv_goto (tgt := 68) hx hb dX7_orbit_64 (by decide) ?_
        cases hv
        exact hj 
set_option maxRecDepth 100000 in
set_option maxHeartbeats 4000000 in
theorem qX7_orbit (l : Launch) (D : va_G) (cI : ClassId) (cZ : ClassId) (ad : Nat → Nat) (n : Int32) (many : Int32) (image : Nat → Int32) (turn : Int32) (shelf : Nat → Int32) (groups : Int32) (inn : Nat → Int32) (now : Nat → Int32) (makers : Nat → Int32) (makerMany : Nat → Int32) (queue : Nat → Int32) (zx1 : Int32) (zx2 : Int32) (F : Nat) (zr0 : Int32) (h : mX7_orbit F n many image groups inn zx1 zx2 = some zr0) : Met l yX7_orbit wsX7_orbit ({ frames := 2, cells := 0, slots := 0, locals := 43 } : Room) (tg_P D [(cI, .int), (cZ, .boolean)] [.ref (ad 0), .int zx1, .int zx2] ((wM cI cZ ad n many image turn shelf groups inn now makers makerMany queue))) (tg_Ri zr0) 0 0 (fun _ => False) := by
  refine Met.ofW (cc := cX7_orbit) (maxL := 5) (ret := (some .int)) (by decide) rfl ?_
  intro p e s m zargs zbelow zmeth c s₁ B hml hv
  obtain ⟨hargs, hP, hK, hN⟩ := hv
  have hx := B.exec
  have hb := B.bytes
  have hr := B.returns
  have hts := atoms_spec (ws := wsX7_orbit) B.pre
  have hown : s.vm.findClass RX7 = some m.cls := findClass_of_methodNamed B.named
  have hlocks := B.notSynchronized
  have hl := lv_entry ([.ref (ad 0), .int zx1, .int zx2]) (n := 5) (Nat.le_of_ble_eq_true rfl)
  refine W.eq (g2 := entryFrame m ([.ref (ad 0), .int zx1, .int zx2] : List Value).toArray 5) (by rw [hargs]) ?_
  rw [lg_entry_eq]
  generalize (lg_sl ([.ref (ad 0), .int zx1, .int zx2]) ++ List.replicate (5 - (lg_sl ([.ref (ad 0), .int zx1, .int zx2])).length) Slot.unset).toArray = zls at hl ⊢
  have hl : lv_has zls 5 [(0, .ref (ad 0)), (1, .int zx1), (2, .int zx2)] := hl
  rw [mX7_orbit] at h
  refine lv_aload_n hx hb dX7_orbit_0 rfl (lv_at hl 0 rfl) ?_
  refine lv_iload_n hx hb dX7_orbit_1 rfl (lv_at hl 1 rfl) ?_
  obtain ⟨zr, hc, h⟩ := bd_el h
  refine tg_cRi (va_runV (As := [.int zx1]) (rest := []) ⟨hx, hb, hml, hown, hts⟩ (qX7_isGroup l D cI cZ ad n many image turn shelf groups inn now makers makerMany queue zx1 zr hc) (cwV 1 hts gX7_orbit_X7_isGroup rfl rfl rfl zVX7_isGroup ⟨Nat.le_of_ble_eq_true rfl, Nat.le_of_ble_eq_true rfl⟩) (tg_preV (r := (RX7, TX7, 11)) (ci := 6) (q0 := 0) hP hK hN rfl rfl) rfl rfl hl.1 rfl (lv_room (Nat.le_of_ble_eq_true rfl)) dX7_orbit_2 ⟨Nat.zero_le _, Nat.zero_le _⟩) ?_
  refine lv_if_eq (tgt := 22) hx hb dX7_orbit_5 (by decide) (fun cb => ?_) (fun cb => ?_)
  · rw [if_pos cb] at h
    refine lv_bipush (v := (-2)) hx hb dX7_orbit_22 (by decide) ?_
    cases h
    exact W.iret hx hb hr (fun t ht hW => ⟨rfl, ht⟩) (fun _ h9 => absurd h9 List.not_mem_nil) dX7_orbit_24
  · rw [if_neg cb] at h
    refine lv_iload_n hx hb dX7_orbit_8 rfl (lv_at hl 2 rfl) ?_
    refine lv_iconst (v := 0) hx hb dX7_orbit_9 (by decide) ?_
    refine lv_aload_n hx hb dX7_orbit_10 rfl (lv_at hl 0 rfl) ?_
    refine va_get (D := D) (ci := 6) (v := .int n) (C := RX7) (T := TX7) (N := 11) hx hb hts uX7_orbit_RX7 hown hK hP 0 rfl rfl 0 (by decide) (hts _ kX7_orbit_1) (fun _ h9 => h9) rfl dX7_orbit_11 ?_
    refine lv_iconst (v := 1) hx hb dX7_orbit_14 (by decide) ?_
    refine lv_isub hx hb dX7_orbit_15 ?_
    refine tg_cRi (va_runS (As := [.int zx2, .int 0, .int (n - 1)]) (rest := []) ⟨hx, hb, hml, hown, hts⟩ (qX7_isIn l D zx2 0 (n - 1) _ rfl) (va_cwS 3 hts gX7_orbit_X7_isIn rfl rfl rfl zSX7_isIn ⟨Nat.le_of_ble_eq_true rfl, Nat.le_of_ble_eq_true rfl⟩) (tg_preS tg_nil (hK.sub (tys' := []) [] rfl) hN) rfl rfl hl.1 rfl (lv_room (Nat.le_of_ble_eq_true rfl)) dX7_orbit_16 ⟨Nat.zero_le _, Nat.zero_le _⟩) ?_
    refine lv_if_ne (tgt := 25) hx hb dX7_orbit_19 (by decide) (fun cb_1 => ?_) (fun cb_1 => ?_)
    · rw [if_neg cb_1] at h
      refine lv_iconst (v := 0) hx hb dX7_orbit_25 (by decide) ?_
      refine lv_istore_n (lv' := [(3, .int 0), (0, .ref (ad 0)), (1, .int zx1), (2, .int zx2)]) hx hb dX7_orbit_26 rfl hl (by decide) rfl (fun zls hl => ?_)
      refine lv_iconst (v := 0) hx hb dX7_orbit_27 (by decide) ?_
      refine lv_istore (lv' := [(4, .int 0), (3, .int 0), (0, .ref (ad 0)), (1, .int zx1), (2, .int zx2)]) hx hb dX7_orbit_28 hl (by decide) rfl (fun zls hl => ?_)
      obtain ⟨zx3, hv, h⟩ := bd_el h
      refine wX7_orbit_L30 ⟨hx, hb, hml, hown, hts, hK, hN⟩ hP hlocks hr F F _ _ _ hv  _ (lv_sub hl [2, 3, 4, 1, 0] rfl) (fun zls hl => ?_)
      refine lv_iload_n hx hb dX7_orbit_76 rfl (lv_at hl 0 rfl) ?_
      cases h
      exact W.iret hx hb hr (fun t ht hW => ⟨rfl, ht⟩) (fun _ h9 => absurd h9 List.not_mem_nil) dX7_orbit_77
    · rw [if_pos cb_1] at h
      refine lv_bipush (v := (-2)) hx hb dX7_orbit_22 (by decide) ?_
      cases h
      exact W.iret hx hb hr (fun t ht hW => ⟨rfl, ht⟩) (fun _ h9 => absurd h9 List.not_mem_nil) dX7_orbit_24
theorem zVX7_orbit : yX7_orbit.cls = RX7 ∧ yX7_orbit.cls ≠ "java/lang/invoke/MethodHandle" ∧ yX7_orbit.cls ≠ "java/lang/invoke/VarHandle" ∧ (parseMethodDescriptor yX7_orbit.desc).map (fun d => d.parameters.length) = some 2 := by decide +kernel

/-! ===== public int block(int, int, int); ===== -/
theorem kX7_block_1 : Cond.fieldLink RX7 7 "TurnGroupsModel" "n" "I" ∈ wsX7_block := by decide +kernel
theorem kX7_block_2 : Cond.fieldLink RX7 46 "TurnGroupsModel" "many" "I" ∈ wsX7_block := by decide +kernel
theorem uX7_block_RX7 : ∀ w ∈ u_ws RX7 TX7 11, w ∈ wsX7_block := by decide +kernel
def mX7_block_L65 (F : Nat) (zx1 : Int32) (n : Int32) (many : Int32) (image : Nat → Int32) (inn : Nat → Int32) : Nat → Int32 → Int32 → Option (Int32)
  | 0, _, _ => none
  | f + 1, zx4, zx6 => if many ≤ zx6 then (some zx4) else (bd (mX7_hasIt inn zx1 zx6) (fun zr => bd (if zr = 0 then (some (0 : Int32)) else (bd (mX7_setOf F n image zx6 zx4) (fun zr_1 => some zr_1))) (fun zv => lT (if (zv &&& zx4) = 0 then (0 : Int32) else zv) (fun zv_1 => lT (zx4 ||| zv_1) (fun zx4_1 => mX7_block_L65 F zx1 n many image inn f zx4_1 (zx6 + 1))))))
theorem mX7_block_L65_s (F : Nat) (zx1 : Int32) (n : Int32) (many : Int32) (image : Nat → Int32) (inn : Nat → Int32) (f : Nat) (zx4 : Int32) (zx6 : Int32) : mX7_block_L65 F zx1 n many image inn (f + 1) zx4 zx6 = (if many ≤ zx6 then (some zx4) else (bd (mX7_hasIt inn zx1 zx6) (fun zr => bd (if zr = 0 then (some (0 : Int32)) else (bd (mX7_setOf F n image zx6 zx4) (fun zr_1 => some zr_1))) (fun zv => lT (if (zv &&& zx4) = 0 then (0 : Int32) else zv) (fun zv_1 => lT (zx4 ||| zv_1) (fun zx4_1 => mX7_block_L65 F zx1 n many image inn f zx4_1 (zx6 + 1))))))) := rfl
def mX7_block_L51 (F : Nat) (zx1 : Int32) (n : Int32) (many : Int32) (image : Nat → Int32) (inn : Nat → Int32) : Nat → Int32 → Int32 → Option (Int32)
  | 0, _, _ => none
  | f + 1, zx4, zx5 => if zx4 = zx5 then (some zx4) else (bd (mX7_block_L65 F zx1 n many image inn F zx4 0) (fun zx4_1 => mX7_block_L51 F zx1 n many image inn f zx4_1 zx4))
theorem mX7_block_L51_s (F : Nat) (zx1 : Int32) (n : Int32) (many : Int32) (image : Nat → Int32) (inn : Nat → Int32) (f : Nat) (zx4 : Int32) (zx5 : Int32) : mX7_block_L51 F zx1 n many image inn (f + 1) zx4 zx5 = (if zx4 = zx5 then (some zx4) else (bd (mX7_block_L65 F zx1 n many image inn F zx4 0) (fun zx4_1 => mX7_block_L51 F zx1 n many image inn f zx4_1 zx4))) := rfl
def mX7_block (F : Nat) (n : Int32) (many : Int32) (image : Nat → Int32) (groups : Int32) (inn : Nat → Int32) (zx1 : Int32) (zx2 : Int32) (zx3 : Int32) : Option (Int32) := bd (mX7_isGroup groups zx1) (fun zr => if zr = 0 then (some (-2 : Int32)) else (if (mX7_isIn zx2 0 (n - 1)) = 0 then (some (-2 : Int32)) else (if (mX7_isIn zx3 0 (n - 1)) = 0 then (some (-2 : Int32)) else (lT ((1 <<< (zx2 &&& 31)) ||| (1 <<< (zx3 &&& 31))) (fun zx4 => bd (mX7_block_L51 F zx1 n many image inn F zx4 0) (fun zx4_1 => some zx4_1))))))
set_option maxRecDepth 100000 in
set_option maxHeartbeats 4000000 in
theorem wX7_block_L65 {p : Program} {l : Launch} {e : Env} {s : State} {m : MethodId} {zargs : Array Value} {zbelow : List Frame} {zmeth : Method} {c : Code} {D : va_G} {zQ : State → Prop} {ad : Nat → Nat} {cI cZ : ClassId} {n : Int32} {many : Int32} {image : Nat → Int32} {turn : Int32} {shelf : Nat → Int32} {groups : Int32} {inn : Nat → Int32} {now : Nat → Int32} {makers : Nat → Int32} {makerMany : Nat → Int32} {queue : Nat → Int32} {zx1 : Int32} {zx5 : Int32} (C0 : tg_C p s m zmeth c zargs cX7_block RX7 wsX7_block 8 D [(cI, .int), (cZ, .boolean)]) (hP : va_P D vwCl (wM cI cZ ad n many image turn shelf groups inn now makers makerMany queue) s.heap) (hlocks : zmeth.locks = false) (hr : zmeth.sig.returnType = (some .int)) (F : Nat) : ∀ (f : Nat) (zx4 : Int32) (zx6 : Int32) (zo4 : Int32), mX7_block_L65 F zx1 n many image inn f zx4 zx6 = some zo4 → ∀ (zls : Array Slot), lv_has zls 8 [(0, .ref (ad 0)), (1, .int zx1), (4, .int zx4), (5, .int zx5), (6, .int zx6)] → (∀ (zls : Array Slot), lv_has zls 8 [(0, .ref (ad 0)), (1, .int zx1), (4, .int zo4), (5, .int zx5)] → W p l e ({ frames := 2, cells := 0, slots := 0, locals := 43 } : Room) s m zargs zbelow zmeth c s.heap [] 0 0 zQ (F0 m 123 zls [])) → W p l e ({ frames := 2, cells := 0, slots := 0, locals := 43 } : Room) s m zargs zbelow zmeth c s.heap [] 0 0 zQ (F0 m 65 zls []) := by
  obtain ⟨hx, hb, hml, hown, hts, hK, hN⟩ := C0
  intro f
  induction f with
  | zero => intro _ _ _ h; exact absurd (show none = some _ from h) (fun h9 => by cases h9)
  | succ f ih =>
    intro zx4 zx6 zo4 h  zls hl kk
    rw [mX7_block_L65_s] at h
    refine lv_iload hx hb dX7_block_65 (lv_at hl 4 rfl) ?_
    refine lv_aload_n hx hb dX7_block_67 rfl (lv_at hl 0 rfl) ?_
    refine va_get (D := D) (ci := 6) (v := .int many) (C := RX7) (T := TX7) (N := 11) hx hb hts uX7_block_RX7 hown hK hP 0 rfl rfl 1 (by decide) (hts _ kX7_block_2) (fun _ h9 => h9) rfl dX7_block_68 ?_
    refine lv_icmp_ge (tgt := 123) hx hb dX7_block_71 (by decide) (fun cb => ?_) (fun cb => ?_)
    · rw [if_pos cb] at h
      cases h
      exact kk  _ (lv_sub hl [0, 1, 2, 3] rfl)
    · rw [if_neg cb] at h
      refine lv_aload_n hx hb dX7_block_74 rfl (lv_at hl 0 rfl) ?_
      refine lv_iload_n hx hb dX7_block_75 rfl (lv_at hl 1 rfl) ?_
      refine lv_iload hx hb dX7_block_76 (lv_at hl 4 rfl) ?_
      obtain ⟨zr, hc, h⟩ := bd_el h
      refine tg_cRi (va_runV (As := [.int zx1, .int zx6]) (rest := []) ⟨hx, hb, hml, hown, hts⟩ (qX7_hasIt l D cI cZ ad n many image turn shelf groups inn now makers makerMany queue zx1 zx6 zr hc) (cwV 2 hts gX7_block_X7_hasIt rfl rfl rfl zVX7_hasIt ⟨Nat.le_of_ble_eq_true rfl, Nat.le_of_ble_eq_true rfl⟩) (tg_preV (r := (RX7, TX7, 11)) (ci := 6) (q0 := 0) hP hK hN rfl rfl) rfl rfl hl.1 rfl (lv_room (Nat.le_of_ble_eq_true rfl)) dX7_block_78 ⟨Nat.zero_le _, Nat.zero_le _⟩) ?_
      obtain ⟨zv, hv, h⟩ := bd_el h
      have hj : W p l e ({ frames := 2, cells := 0, slots := 0, locals := 43 } : Room) s m zargs zbelow zmeth c s.heap [] 0 0 zQ (F0 m 96 zls [.int zv]) := by
        refine lv_istore (lv' := [(7, .int zv), (0, .ref (ad 0)), (1, .int zx1), (4, .int zx4), (5, .int zx5), (6, .int zx6)]) hx hb dX7_block_96 hl (by decide) rfl (fun zls hl => ?_)
        refine lv_iload hx hb dX7_block_98 (lv_at hl 3 rfl) ?_
        refine lv_iload hx hb dX7_block_100 (lv_at hl 0 rfl) ?_
        refine lv_iload hx hb dX7_block_102 (lv_at hl 3 rfl) ?_
        refine lv_iand hx hb dX7_block_104 ?_
        obtain ⟨zv_1, hv_1, h⟩ := lT_el h
        have hj_1 : W p l e ({ frames := 2, cells := 0, slots := 0, locals := 43 } : Room) s m zargs zbelow zmeth c s.heap [] 0 0 zQ (F0 m 114 zls [.int zv_1, .int zx4]) := by
          refine lv_ior hx hb dX7_block_114 ?_
          obtain ⟨zx4_1, ex4_1, h⟩ := lT_el h
          refine tg_top ex4_1 ?_
          refine lv_istore (lv' := [(4, .int zx4_1), (7, .int zv), (0, .ref (ad 0)), (1, .int zx1), (5, .int zx5), (6, .int zx6)]) hx hb dX7_block_115 hl (by decide) rfl (fun zls hl => ?_)
          refine lv_iinc (v := (zx6 + 1)) (lv' := [(6, .int (zx6 + 1)), (4, .int zx4_1), (7, .int zv), (0, .ref (ad 0)), (1, .int zx1), (5, .int zx5)]) hx hb dX7_block_117 hl (k := 5) rfl rfl (by decide) rfl (fun zls hl => ?_)
          refine lv_goto (tgt := 65) hx hb dX7_block_120 (by decide) ?_
          exact ih _ _ _ h  _ (lv_sub hl [3, 4, 1, 5, 0] rfl) kk
        refine lv_if_eq (tgt := 113) hx hb dX7_block_105 (by decide) (fun cb_1 => ?_) (fun cb_1 => ?_)
        · rw [if_pos cb_1] at hv_1
          refine lv_iconst (v := 0) hx hb dX7_block_113 (by decide) ?_
          subst hv_1
          exact hj_1 
        · rw [if_neg cb_1] at hv_1
          refine lv_iload hx hb dX7_block_108 (lv_at hl 0 rfl) ?_
          refine lv_goto (tgt := 114) hx hb dX7_block_110 (by decide) ?_
          subst hv_1
          exact hj_1 
      refine lv_if_eq (tgt := 95) hx hb dX7_block_81 (by decide) (fun cb_2 => ?_) (fun cb_2 => ?_)
      · rw [if_pos cb_2] at hv
        refine lv_iconst (v := 0) hx hb dX7_block_95 (by decide) ?_
        cases hv
        exact hj 
      · rw [if_neg cb_2] at hv
        refine lv_aload_n hx hb dX7_block_84 rfl (lv_at hl 0 rfl) ?_
        refine lv_iload hx hb dX7_block_85 (lv_at hl 4 rfl) ?_
        refine lv_iload hx hb dX7_block_87 (lv_at hl 2 rfl) ?_
        obtain ⟨zr_1, hc_1, hv⟩ := bd_el hv
        refine tg_cRi (va_runV (As := [.int zx6, .int zx4]) (rest := []) ⟨hx, hb, hml, hown, hts⟩ (qX7_setOf l D cI cZ ad n many image turn shelf groups inn now makers makerMany queue zx6 zx4 F zr_1 hc_1) (cwV 2 hts gX7_block_X7_setOf rfl rfl rfl zVX7_setOf ⟨Nat.le_of_ble_eq_true rfl, Nat.le_of_ble_eq_true rfl⟩) (tg_preV (r := (RX7, TX7, 11)) (ci := 6) (q0 := 0) hP hK hN rfl rfl) rfl rfl hl.1 rfl (lv_room (Nat.le_of_ble_eq_true rfl)) dX7_block_89 ⟨Nat.zero_le _, Nat.zero_le _⟩) ?_
        refine lv_goto (tgt := 96) hx hb dX7_block_92 (by decide) ?_
        cases hv
        exact hj 
set_option maxRecDepth 100000 in
set_option maxHeartbeats 4000000 in
theorem wX7_block_L51 {p : Program} {l : Launch} {e : Env} {s : State} {m : MethodId} {zargs : Array Value} {zbelow : List Frame} {zmeth : Method} {c : Code} {D : va_G} {zQ : State → Prop} {ad : Nat → Nat} {cI cZ : ClassId} {n : Int32} {many : Int32} {image : Nat → Int32} {turn : Int32} {shelf : Nat → Int32} {groups : Int32} {inn : Nat → Int32} {now : Nat → Int32} {makers : Nat → Int32} {makerMany : Nat → Int32} {queue : Nat → Int32} {zx1 : Int32} (C0 : tg_C p s m zmeth c zargs cX7_block RX7 wsX7_block 8 D [(cI, .int), (cZ, .boolean)]) (hP : va_P D vwCl (wM cI cZ ad n many image turn shelf groups inn now makers makerMany queue) s.heap) (hlocks : zmeth.locks = false) (hr : zmeth.sig.returnType = (some .int)) (F : Nat) : ∀ (f : Nat) (zx4 : Int32) (zx5 : Int32) (zo4 : Int32), mX7_block_L51 F zx1 n many image inn f zx4 zx5 = some zo4 → ∀ (zls : Array Slot), lv_has zls 8 [(0, .ref (ad 0)), (1, .int zx1), (4, .int zx4), (5, .int zx5)] → (∀ (zls : Array Slot), lv_has zls 8 [(4, .int zo4)] → W p l e ({ frames := 2, cells := 0, slots := 0, locals := 43 } : Room) s m zargs zbelow zmeth c s.heap [] 0 0 zQ (F0 m 126 zls [])) → W p l e ({ frames := 2, cells := 0, slots := 0, locals := 43 } : Room) s m zargs zbelow zmeth c s.heap [] 0 0 zQ (F0 m 51 zls []) := by
  obtain ⟨hx, hb, hml, hown, hts, hK, hN⟩ := C0
  intro f
  induction f with
  | zero => intro _ _ _ h; exact absurd (show none = some _ from h) (fun h9 => by cases h9)
  | succ f ih =>
    intro zx4 zx5 zo4 h  zls hl kk
    rw [mX7_block_L51_s] at h
    refine lv_iload hx hb dX7_block_51 (lv_at hl 2 rfl) ?_
    refine lv_iload hx hb dX7_block_53 (lv_at hl 3 rfl) ?_
    refine lv_icmp_eq (tgt := 126) hx hb dX7_block_55 (by decide) (fun cb => ?_) (fun cb => ?_)
    · rw [if_pos cb] at h
      cases h
      exact kk  _ (lv_sub hl [2] rfl)
    · rw [if_neg cb] at h
      refine lv_iload hx hb dX7_block_58 (lv_at hl 2 rfl) ?_
      refine lv_istore (lv' := [(5, .int zx4), (0, .ref (ad 0)), (1, .int zx1), (4, .int zx4)]) hx hb dX7_block_60 hl (by decide) rfl (fun zls hl => ?_)
      refine lv_iconst (v := 0) hx hb dX7_block_62 (by decide) ?_
      refine lv_istore (lv' := [(6, .int 0), (5, .int zx4), (0, .ref (ad 0)), (1, .int zx1), (4, .int zx4)]) hx hb dX7_block_63 hl (by decide) rfl (fun zls hl => ?_)
      obtain ⟨zx4_1, hv, h⟩ := bd_el h
      refine wX7_block_L65 ⟨hx, hb, hml, hown, hts, hK, hN⟩ hP hlocks hr F F _ _ _ hv  _ (lv_sub hl [2, 3, 4, 1, 0] rfl) (fun zls hl => ?_)
      refine lv_goto (tgt := 51) hx hb dX7_block_123 (by decide) ?_
      exact ih _ _ _ h  _ (lv_sub hl [0, 1, 2, 3] rfl) kk
set_option maxRecDepth 100000 in
set_option maxHeartbeats 4000000 in
theorem qX7_block (l : Launch) (D : va_G) (cI : ClassId) (cZ : ClassId) (ad : Nat → Nat) (n : Int32) (many : Int32) (image : Nat → Int32) (turn : Int32) (shelf : Nat → Int32) (groups : Int32) (inn : Nat → Int32) (now : Nat → Int32) (makers : Nat → Int32) (makerMany : Nat → Int32) (queue : Nat → Int32) (zx1 : Int32) (zx2 : Int32) (zx3 : Int32) (F : Nat) (zr0 : Int32) (h : mX7_block F n many image groups inn zx1 zx2 zx3 = some zr0) : Met l yX7_block wsX7_block ({ frames := 2, cells := 0, slots := 0, locals := 43 } : Room) (tg_P D [(cI, .int), (cZ, .boolean)] [.ref (ad 0), .int zx1, .int zx2, .int zx3] ((wM cI cZ ad n many image turn shelf groups inn now makers makerMany queue))) (tg_Ri zr0) 0 0 (fun _ => False) := by
  refine Met.ofW (cc := cX7_block) (maxL := 8) (ret := (some .int)) (by decide) rfl ?_
  intro p e s m zargs zbelow zmeth c s₁ B hml hv
  obtain ⟨hargs, hP, hK, hN⟩ := hv
  have hx := B.exec
  have hb := B.bytes
  have hr := B.returns
  have hts := atoms_spec (ws := wsX7_block) B.pre
  have hown : s.vm.findClass RX7 = some m.cls := findClass_of_methodNamed B.named
  have hlocks := B.notSynchronized
  have hl := lv_entry ([.ref (ad 0), .int zx1, .int zx2, .int zx3]) (n := 8) (Nat.le_of_ble_eq_true rfl)
  refine W.eq (g2 := entryFrame m ([.ref (ad 0), .int zx1, .int zx2, .int zx3] : List Value).toArray 8) (by rw [hargs]) ?_
  rw [lg_entry_eq]
  generalize (lg_sl ([.ref (ad 0), .int zx1, .int zx2, .int zx3]) ++ List.replicate (8 - (lg_sl ([.ref (ad 0), .int zx1, .int zx2, .int zx3])).length) Slot.unset).toArray = zls at hl ⊢
  have hl : lv_has zls 8 [(0, .ref (ad 0)), (1, .int zx1), (2, .int zx2), (3, .int zx3)] := hl
  rw [mX7_block] at h
  refine lv_aload_n hx hb dX7_block_0 rfl (lv_at hl 0 rfl) ?_
  refine lv_iload_n hx hb dX7_block_1 rfl (lv_at hl 1 rfl) ?_
  obtain ⟨zr, hc, h⟩ := bd_el h
  refine tg_cRi (va_runV (As := [.int zx1]) (rest := []) ⟨hx, hb, hml, hown, hts⟩ (qX7_isGroup l D cI cZ ad n many image turn shelf groups inn now makers makerMany queue zx1 zr hc) (cwV 1 hts gX7_block_X7_isGroup rfl rfl rfl zVX7_isGroup ⟨Nat.le_of_ble_eq_true rfl, Nat.le_of_ble_eq_true rfl⟩) (tg_preV (r := (RX7, TX7, 11)) (ci := 6) (q0 := 0) hP hK hN rfl rfl) rfl rfl hl.1 rfl (lv_room (Nat.le_of_ble_eq_true rfl)) dX7_block_2 ⟨Nat.zero_le _, Nat.zero_le _⟩) ?_
  refine lv_if_eq (tgt := 36) hx hb dX7_block_5 (by decide) (fun cb => ?_) (fun cb => ?_)
  · rw [if_pos cb] at h
    refine lv_bipush (v := (-2)) hx hb dX7_block_36 (by decide) ?_
    cases h
    exact W.iret hx hb hr (fun t ht hW => ⟨rfl, ht⟩) (fun _ h9 => absurd h9 List.not_mem_nil) dX7_block_38
  · rw [if_neg cb] at h
    refine lv_iload_n hx hb dX7_block_8 rfl (lv_at hl 2 rfl) ?_
    refine lv_iconst (v := 0) hx hb dX7_block_9 (by decide) ?_
    refine lv_aload_n hx hb dX7_block_10 rfl (lv_at hl 0 rfl) ?_
    refine va_get (D := D) (ci := 6) (v := .int n) (C := RX7) (T := TX7) (N := 11) hx hb hts uX7_block_RX7 hown hK hP 0 rfl rfl 0 (by decide) (hts _ kX7_block_1) (fun _ h9 => h9) rfl dX7_block_11 ?_
    refine lv_iconst (v := 1) hx hb dX7_block_14 (by decide) ?_
    refine lv_isub hx hb dX7_block_15 ?_
    refine tg_cRi (va_runS (As := [.int zx2, .int 0, .int (n - 1)]) (rest := []) ⟨hx, hb, hml, hown, hts⟩ (qX7_isIn l D zx2 0 (n - 1) _ rfl) (va_cwS 3 hts gX7_block_X7_isIn rfl rfl rfl zSX7_isIn ⟨Nat.le_of_ble_eq_true rfl, Nat.le_of_ble_eq_true rfl⟩) (tg_preS tg_nil (hK.sub (tys' := []) [] rfl) hN) rfl rfl hl.1 rfl (lv_room (Nat.le_of_ble_eq_true rfl)) dX7_block_16 ⟨Nat.zero_le _, Nat.zero_le _⟩) ?_
    refine lv_if_eq (tgt := 36) hx hb dX7_block_19 (by decide) (fun cb_1 => ?_) (fun cb_1 => ?_)
    · rw [if_pos cb_1] at h
      refine lv_bipush (v := (-2)) hx hb dX7_block_36 (by decide) ?_
      cases h
      exact W.iret hx hb hr (fun t ht hW => ⟨rfl, ht⟩) (fun _ h9 => absurd h9 List.not_mem_nil) dX7_block_38
    · rw [if_neg cb_1] at h
      refine lv_iload_n hx hb dX7_block_22 rfl (lv_at hl 3 rfl) ?_
      refine lv_iconst (v := 0) hx hb dX7_block_23 (by decide) ?_
      refine lv_aload_n hx hb dX7_block_24 rfl (lv_at hl 0 rfl) ?_
      refine va_get (D := D) (ci := 6) (v := .int n) (C := RX7) (T := TX7) (N := 11) hx hb hts uX7_block_RX7 hown hK hP 0 rfl rfl 0 (by decide) (hts _ kX7_block_1) (fun _ h9 => h9) rfl dX7_block_25 ?_
      refine lv_iconst (v := 1) hx hb dX7_block_28 (by decide) ?_
      refine lv_isub hx hb dX7_block_29 ?_
      refine tg_cRi (va_runS (As := [.int zx3, .int 0, .int (n - 1)]) (rest := []) ⟨hx, hb, hml, hown, hts⟩ (qX7_isIn l D zx3 0 (n - 1) _ rfl) (va_cwS 3 hts gX7_block_X7_isIn rfl rfl rfl zSX7_isIn ⟨Nat.le_of_ble_eq_true rfl, Nat.le_of_ble_eq_true rfl⟩) (tg_preS tg_nil (hK.sub (tys' := []) [] rfl) hN) rfl rfl hl.1 rfl (lv_room (Nat.le_of_ble_eq_true rfl)) dX7_block_30 ⟨Nat.zero_le _, Nat.zero_le _⟩) ?_
      refine lv_if_ne (tgt := 39) hx hb dX7_block_33 (by decide) (fun cb_2 => ?_) (fun cb_2 => ?_)
      · rw [if_neg cb_2] at h
        refine lv_iconst (v := 1) hx hb dX7_block_39 (by decide) ?_
        refine lv_iload_n hx hb dX7_block_40 rfl (lv_at hl 2 rfl) ?_
        refine lv_ishl hx hb dX7_block_41 ?_
        refine lv_iconst (v := 1) hx hb dX7_block_42 (by decide) ?_
        refine lv_iload_n hx hb dX7_block_43 rfl (lv_at hl 3 rfl) ?_
        refine lv_ishl hx hb dX7_block_44 ?_
        refine lv_ior hx hb dX7_block_45 ?_
        obtain ⟨zx4, ex4, h⟩ := lT_el h
        refine tg_top ex4 ?_
        refine lv_istore (lv' := [(4, .int zx4), (0, .ref (ad 0)), (1, .int zx1), (2, .int zx2), (3, .int zx3)]) hx hb dX7_block_46 hl (by decide) rfl (fun zls hl => ?_)
        refine lv_iconst (v := 0) hx hb dX7_block_48 (by decide) ?_
        refine lv_istore (lv' := [(5, .int 0), (4, .int zx4), (0, .ref (ad 0)), (1, .int zx1), (2, .int zx2), (3, .int zx3)]) hx hb dX7_block_49 hl (by decide) rfl (fun zls hl => ?_)
        obtain ⟨zx4_1, hv, h⟩ := bd_el h
        refine wX7_block_L51 ⟨hx, hb, hml, hown, hts, hK, hN⟩ hP hlocks hr F F _ _ _ hv  _ (lv_sub hl [2, 3, 1, 0] rfl) (fun zls hl => ?_)
        refine lv_iload hx hb dX7_block_126 (lv_at hl 0 rfl) ?_
        cases h
        exact W.iret hx hb hr (fun t ht hW => ⟨rfl, ht⟩) (fun _ h9 => absurd h9 List.not_mem_nil) dX7_block_128
      · rw [if_pos cb_2] at h
        refine lv_bipush (v := (-2)) hx hb dX7_block_36 (by decide) ?_
        cases h
        exact W.iret hx hb hr (fun t ht hW => ⟨rfl, ht⟩) (fun _ h9 => absurd h9 List.not_mem_nil) dX7_block_38
theorem zVX7_block : yX7_block.cls = RX7 ∧ yX7_block.cls ≠ "java/lang/invoke/MethodHandle" ∧ yX7_block.cls ≠ "java/lang/invoke/VarHandle" ∧ (parseMethodDescriptor yX7_block.desc).map (fun d => d.parameters.length) = some 3 := by decide +kernel

/-! ===== public int steps(int); ===== -/
def mX7_steps_L27 (F : Nat) (n : Int32) (many : Int32) (image : Nat → Int32) : Nat → Int32 → Int32 → (Nat → Int32) → (Nat → Int32) → (Nat → Int32) → (Nat → Int32) → (Nat → Int32) → Option (Int32 × (Nat → Int32) × (Nat → Int32) × (Nat → Int32) × (Nat → Int32) × (Nat → Int32))
  | 0, _, _, _, _, _, _, _ => none
  | f + 1, zx2, zx3, inn, now, makers, makerMany, queue => if zx3 ≤ 1 then (some (zx2, inn, now, makers, makerMany, queue)) else (bd5 (mX7_goDown F n many image inn now makers makerMany queue 12) (fun inn_1 now_1 makers_1 makerMany_1 queue_1 => bd (mX7_copy F many inn_1 11 12) (fun inn_2 => bd (mX7_sizeOf F many inn_2 12) (fun zr => if zr = zx3 then (some ((-1 : Int32), inn_2, now_1, makers_1, makerMany_1, queue_1)) else (mX7_steps_L27 F n many image f (zx2 + 1) zr inn_2 now_1 makers_1 makerMany_1 queue_1)))))
theorem mX7_steps_L27_s (F : Nat) (n : Int32) (many : Int32) (image : Nat → Int32) (f : Nat) (zx2 : Int32) (zx3 : Int32) (inn : Nat → Int32) (now : Nat → Int32) (makers : Nat → Int32) (makerMany : Nat → Int32) (queue : Nat → Int32) : mX7_steps_L27 F n many image (f + 1) zx2 zx3 inn now makers makerMany queue = (if zx3 ≤ 1 then (some (zx2, inn, now, makers, makerMany, queue)) else (bd5 (mX7_goDown F n many image inn now makers makerMany queue 12) (fun inn_1 now_1 makers_1 makerMany_1 queue_1 => bd (mX7_copy F many inn_1 11 12) (fun inn_2 => bd (mX7_sizeOf F many inn_2 12) (fun zr => if zr = zx3 then (some ((-1 : Int32), inn_2, now_1, makers_1, makerMany_1, queue_1)) else (mX7_steps_L27 F n many image f (zx2 + 1) zr inn_2 now_1 makers_1 makerMany_1 queue_1)))))) := rfl
def mX7_steps (F : Nat) (n : Int32) (many : Int32) (image : Nat → Int32) (groups : Int32) (inn : Nat → Int32) (now : Nat → Int32) (makers : Nat → Int32) (makerMany : Nat → Int32) (queue : Nat → Int32) (zx1 : Int32) : Option (Int32 × (Nat → Int32) × (Nat → Int32) × (Nat → Int32) × (Nat → Int32) × (Nat → Int32)) := bd (mX7_isGroup groups zx1) (fun zr => if zr = 0 then (some ((-2 : Int32), inn, now, makers, makerMany, queue)) else (bd (mX7_copy F many inn zx1 12) (fun inn_1 => bd (mX7_sizeOf F many inn_1 12) (fun zr_1 => mX7_steps_L27 F n many image F 0 zr_1 inn_1 now makers makerMany queue))))
set_option maxRecDepth 100000 in
set_option maxHeartbeats 4000000 in
theorem wX7_steps_L27 {p : Program} {l : Launch} {e : Env} {s : State} {m : MethodId} {zargs : Array Value} {zbelow : List Frame} {zmeth : Method} {c : Code} {D : va_G} {zA : Nat → Prop} {zQc : Array Value → State → Outcome → State → Prop} {ad : Nat → Nat} {cI cZ : ClassId} {n : Int32} {many : Int32} {image : Nat → Int32} {turn : Int32} {shelf : Nat → Int32} {groups : Int32} (C0 : tg_C p s m zmeth c zargs cX7_steps RX7 wsX7_steps 5 D [(cI, .int), (cZ, .boolean)]) (hDD : tg_DD zA [ad 0, ad 1, ad 2, ad 3, ad 4, ad 5, ad 6, ad 7]) (hlocks : zmeth.locks = false) (hr : zmeth.sig.returnType = (some .int)) (F : Nat) : ∀ (f : Nat) (zx2 : Int32) (zx3 : Int32) (inn : Nat → Int32) (now : Nat → Int32) (makers : Nat → Int32) (makerMany : Nat → Int32) (queue : Nat → Int32) (zr0 : Int32) (oinn : Nat → Int32) (onow : Nat → Int32) (omakers : Nat → Int32) (omakerMany : Nat → Int32) (oqueue : Nat → Int32), mX7_steps_L27 F n many image f zx2 zx3 inn now makers makerMany queue = some (zr0, oinn, onow, omakers, omakerMany, oqueue) → ∀ (zH : Heap) (zlocs : List Loc), va_P D vwCl (wM cI cZ ad n many image turn shelf groups inn now makers makerMany queue) zH → va_S zA s.heap zH zlocs → ∀ (zls : Array Slot), lv_has zls 5 [(0, .ref (ad 0)), (2, .int zx2), (3, .int zx3)] → (∀ (zH : Heap) (zlocs : List Loc), va_P D vwCl (wM cI cZ ad n many image turn shelf groups oinn onow omakers omakerMany oqueue) zH → va_S zA s.heap zH zlocs → ∀ t : State, t.heap = zH → s.WarmedH t.vm → zQc zargs s (.returned (some (.int zr0))) t) → W p l e ({ frames := 5, cells := 0, slots := 0, locals := 122 } : Room) s m zargs zbelow zmeth c zH zlocs 0 0 (MQ zbelow zQc zargs s 0 0 zA) (F0 m 27 zls []) := by
  obtain ⟨hx, hb, hml, hown, hts, hK, hN⟩ := C0
  intro f
  induction f with
  | zero => intro _ _ _ _ _ _ _ _ _ _ _ _ _ h; exact absurd (show none = some _ from h) (fun h9 => by cases h9)
  | succ f ih =>
    intro zx2 zx3 inn now makers makerMany queue zr0 oinn onow omakers omakerMany oqueue h zH zlocs hP hS zls hl hq
    rw [mX7_steps_L27_s] at h
    refine lv_iload_n hx hb dX7_steps_27 rfl (lv_at hl 2 rfl) ?_
    refine lv_iconst (v := 1) hx hb dX7_steps_28 (by decide) ?_
    refine lv_icmp_le (tgt := 71) hx hb dX7_steps_29 (by decide) (fun cb => ?_) (fun cb => ?_)
    · rw [if_pos cb] at h
      refine lv_iload_n hx hb dX7_steps_71 rfl (lv_at hl 1 rfl) ?_
      cases h
      exact W.iret hx hb hr (hq _ _ hP hS) hS.2.2 dX7_steps_72
    · rw [if_neg cb] at h
      refine lv_aload_n hx hb dX7_steps_32 rfl (lv_at hl 0 rfl) ?_
      refine lv_bipush (v := 12) hx hb dX7_steps_33 (by decide) ?_
      obtain ⟨inn_1, now_1, makers_1, makerMany_1, queue_1, hc, h⟩ := bd5_el h
      refine tg_cMv (va_runV (As := [.int 12]) (rest := []) ⟨hx, hb, hml, hown, hts⟩ (qX7_goDown l D cI cZ ad n many image turn shelf groups inn now makers makerMany queue 12 F inn_1 now_1 makers_1 makerMany_1 queue_1 hc) (cwV 1 hts gX7_steps_X7_goDown rfl rfl rfl zVX7_goDown ⟨Nat.le_of_ble_eq_true rfl, Nat.le_of_ble_eq_true rfl⟩) (tg_preVM (r := (RX7, TX7, 11)) (ci := 6) (q0 := 0) hP (hDD _ rfl) hK hN rfl rfl) rfl rfl hl.1 rfl (lv_room (Nat.le_of_ble_eq_true rfl)) dX7_steps_35 ⟨Nat.zero_le _, Nat.zero_le _⟩) hS (tg_inA (hDD _ rfl)) (fun zH zlocs _ hP hS => ?_)
      refine lv_aload_n hx hb dX7_steps_38 rfl (lv_at hl 0 rfl) ?_
      refine lv_bipush (v := 11) hx hb dX7_steps_39 (by decide) ?_
      refine lv_bipush (v := 12) hx hb dX7_steps_41 (by decide) ?_
      obtain ⟨inn_2, hc_1, h⟩ := bd_el h
      refine tg_cMv (va_runV (As := [.int 11, .int 12]) (rest := []) ⟨hx, hb, hml, hown, hts⟩ (qX7_copy l D cI cZ ad n many image turn shelf groups inn_1 now_1 makers_1 makerMany_1 queue_1 11 12 F inn_2 hc_1) (cwV 2 hts gX7_steps_X7_copy rfl rfl rfl zVX7_copy ⟨Nat.le_of_ble_eq_true rfl, Nat.le_of_ble_eq_true rfl⟩) (tg_preVM (r := (RX7, TX7, 11)) (ci := 6) (q0 := 0) hP (hDD _ rfl) hK hN rfl rfl) rfl rfl hl.1 rfl (lv_room (Nat.le_of_ble_eq_true rfl)) dX7_steps_43 ⟨Nat.zero_le _, Nat.zero_le _⟩) hS (tg_inA (hDD _ rfl)) (fun zH zlocs _ hP hS => ?_)
      refine lv_aload_n hx hb dX7_steps_46 rfl (lv_at hl 0 rfl) ?_
      refine lv_bipush (v := 12) hx hb dX7_steps_47 (by decide) ?_
      obtain ⟨zr, hc_2, h⟩ := bd_el h
      refine tg_cRi (va_runV (As := [.int 12]) (rest := []) ⟨hx, hb, hml, hown, hts⟩ (qX7_sizeOf l D cI cZ ad n many image turn shelf groups inn_2 now_1 makers_1 makerMany_1 queue_1 12 F zr hc_2) (cwV 1 hts gX7_steps_X7_sizeOf rfl rfl rfl zVX7_sizeOf ⟨Nat.le_of_ble_eq_true rfl, Nat.le_of_ble_eq_true rfl⟩) (tg_preV (r := (RX7, TX7, 11)) (ci := 6) (q0 := 0) hP hK hN rfl rfl) rfl rfl hl.1 rfl (lv_room (Nat.le_of_ble_eq_true rfl)) dX7_steps_49 ⟨Nat.zero_le _, Nat.zero_le _⟩) ?_
      refine lv_istore (lv' := [(4, .int zr), (0, .ref (ad 0)), (2, .int zx2), (3, .int zx3)]) hx hb dX7_steps_52 hl (by decide) rfl (fun zls hl => ?_)
      refine lv_iload hx hb dX7_steps_54 (lv_at hl 0 rfl) ?_
      refine lv_iload_n hx hb dX7_steps_56 rfl (lv_at hl 3 rfl) ?_
      refine lv_icmp_ne (tgt := 62) hx hb dX7_steps_57 (by decide) (fun cb_1 => ?_) (fun cb_1 => ?_)
      · rw [if_neg cb_1] at h
        refine lv_iload hx hb dX7_steps_62 (lv_at hl 0 rfl) ?_
        refine lv_istore_n (lv' := [(3, .int zr), (4, .int zr), (0, .ref (ad 0)), (2, .int zx2)]) hx hb dX7_steps_64 rfl hl (by decide) rfl (fun zls hl => ?_)
        refine lv_iinc (v := (zx2 + 1)) (lv' := [(2, .int (zx2 + 1)), (3, .int zr), (4, .int zr), (0, .ref (ad 0))]) hx hb dX7_steps_65 hl (k := 3) rfl rfl (by decide) rfl (fun zls hl => ?_)
        refine lv_goto (tgt := 27) hx hb dX7_steps_68 (by decide) ?_
        exact ih _ _ _ _ _ _ _ _ _ _ _ _ _ h _ _ hP hS _ (lv_sub hl [3, 0, 1] rfl) hq
      · rw [if_pos cb_1] at h
        refine lv_iconst (v := (-1)) hx hb dX7_steps_60 (by decide) ?_
        cases h
        exact W.iret hx hb hr (hq _ _ hP hS) hS.2.2 dX7_steps_61
set_option maxRecDepth 100000 in
set_option maxHeartbeats 4000000 in
theorem qX7_steps (l : Launch) (D : va_G) (cI : ClassId) (cZ : ClassId) (ad : Nat → Nat) (n : Int32) (many : Int32) (image : Nat → Int32) (turn : Int32) (shelf : Nat → Int32) (groups : Int32) (inn : Nat → Int32) (now : Nat → Int32) (makers : Nat → Int32) (makerMany : Nat → Int32) (queue : Nat → Int32) (zx1 : Int32) (F : Nat) (zr0 : Int32) (oinn : Nat → Int32) (onow : Nat → Int32) (omakers : Nat → Int32) (omakerMany : Nat → Int32) (oqueue : Nat → Int32) (h : mX7_steps F n many image groups inn now makers makerMany queue zx1 = some (zr0, oinn, onow, omakers, omakerMany, oqueue)) : Met l yX7_steps wsX7_steps ({ frames := 5, cells := 0, slots := 0, locals := 122 } : Room) (tg_PM D [(cI, .int), (cZ, .boolean)] [.ref (ad 0), .int zx1] (wM cI cZ ad n many image turn shelf groups inn now makers makerMany queue)) (tg_Mi D (wM cI cZ ad n many image turn shelf groups inn now makers makerMany queue) (wM cI cZ ad n many image turn shelf groups oinn onow omakers omakerMany oqueue) zr0) 0 0 (tg_in (wM cI cZ ad n many image turn shelf groups inn now makers makerMany queue)) := by
  refine Met.ofW (cc := cX7_steps) (maxL := 5) (ret := (some .int)) (by decide) rfl ?_
  intro p e s m zargs zbelow zmeth c s₁ B hml hv
  obtain ⟨hargs, hP, hK, hN, hD0⟩ := hv
  have hx := B.exec
  have hb := B.bytes
  have hr := B.returns
  have hts := atoms_spec (ws := wsX7_steps) B.pre
  have hown : s.vm.findClass RX7 = some m.cls := findClass_of_methodNamed B.named
  have hlocks := B.notSynchronized
  have hDD : tg_DD (tg_in (wM cI cZ ad n many image turn shelf groups inn now makers makerMany queue)) [ad 0, ad 1, ad 2, ad 3, ad 4, ad 5, ad 6, ad 7] := tg_DD.of (tg_D hD0) rfl
  have hS : va_S (tg_in (wM cI cZ ad n many image turn shelf groups inn now makers makerMany queue)) s.heap s.heap [] := va_S.rf
  have hl := lv_entry ([.ref (ad 0), .int zx1]) (n := 5) (Nat.le_of_ble_eq_true rfl)
  refine W.eq (g2 := entryFrame m ([.ref (ad 0), .int zx1] : List Value).toArray 5) (by rw [hargs]) ?_
  rw [lg_entry_eq]
  generalize (lg_sl ([.ref (ad 0), .int zx1]) ++ List.replicate (5 - (lg_sl ([.ref (ad 0), .int zx1])).length) Slot.unset).toArray = zls at hl ⊢
  have hl : lv_has zls 5 [(0, .ref (ad 0)), (1, .int zx1)] := hl
  rw [mX7_steps] at h
  refine lv_aload_n hx hb dX7_steps_0 rfl (lv_at hl 0 rfl) ?_
  refine lv_iload_n hx hb dX7_steps_1 rfl (lv_at hl 1 rfl) ?_
  obtain ⟨zr, hc, h⟩ := bd_el h
  refine tg_cRi (va_runV (As := [.int zx1]) (rest := []) ⟨hx, hb, hml, hown, hts⟩ (qX7_isGroup l D cI cZ ad n many image turn shelf groups inn now makers makerMany queue zx1 zr hc) (cwV 1 hts gX7_steps_X7_isGroup rfl rfl rfl zVX7_isGroup ⟨Nat.le_of_ble_eq_true rfl, Nat.le_of_ble_eq_true rfl⟩) (tg_preV (r := (RX7, TX7, 11)) (ci := 6) (q0 := 0) hP hK hN rfl rfl) rfl rfl hl.1 rfl (lv_room (Nat.le_of_ble_eq_true rfl)) dX7_steps_2 ⟨Nat.zero_le _, Nat.zero_le _⟩) ?_
  refine lv_if_ne (tgt := 11) hx hb dX7_steps_5 (by decide) (fun cb => ?_) (fun cb => ?_)
  · rw [if_neg cb] at h
    refine lv_iconst (v := 0) hx hb dX7_steps_11 (by decide) ?_
    refine lv_istore_n (lv' := [(2, .int 0), (0, .ref (ad 0)), (1, .int zx1)]) hx hb dX7_steps_12 rfl hl (by decide) rfl (fun zls hl => ?_)
    refine lv_aload_n hx hb dX7_steps_13 rfl (lv_at hl 1 rfl) ?_
    refine lv_iload_n hx hb dX7_steps_14 rfl (lv_at hl 2 rfl) ?_
    refine lv_bipush (v := 12) hx hb dX7_steps_15 (by decide) ?_
    obtain ⟨inn_1, hc_1, h⟩ := bd_el h
    refine tg_cMv (va_runV (As := [.int zx1, .int 12]) (rest := []) ⟨hx, hb, hml, hown, hts⟩ (qX7_copy l D cI cZ ad n many image turn shelf groups inn now makers makerMany queue zx1 12 F inn_1 hc_1) (cwV 2 hts gX7_steps_X7_copy rfl rfl rfl zVX7_copy ⟨Nat.le_of_ble_eq_true rfl, Nat.le_of_ble_eq_true rfl⟩) (tg_preVM (r := (RX7, TX7, 11)) (ci := 6) (q0 := 0) hP (hDD _ rfl) hK hN rfl rfl) rfl rfl hl.1 rfl (lv_room (Nat.le_of_ble_eq_true rfl)) dX7_steps_17 ⟨Nat.zero_le _, Nat.zero_le _⟩) hS (tg_inA (hDD _ rfl)) (fun zH zlocs _ hP hS => ?_)
    refine lv_aload_n hx hb dX7_steps_20 rfl (lv_at hl 1 rfl) ?_
    refine lv_bipush (v := 12) hx hb dX7_steps_21 (by decide) ?_
    obtain ⟨zr_1, hc_2, h⟩ := bd_el h
    refine tg_cRi (va_runV (As := [.int 12]) (rest := []) ⟨hx, hb, hml, hown, hts⟩ (qX7_sizeOf l D cI cZ ad n many image turn shelf groups inn_1 now makers makerMany queue 12 F zr_1 hc_2) (cwV 1 hts gX7_steps_X7_sizeOf rfl rfl rfl zVX7_sizeOf ⟨Nat.le_of_ble_eq_true rfl, Nat.le_of_ble_eq_true rfl⟩) (tg_preV (r := (RX7, TX7, 11)) (ci := 6) (q0 := 0) hP hK hN rfl rfl) rfl rfl hl.1 rfl (lv_room (Nat.le_of_ble_eq_true rfl)) dX7_steps_23 ⟨Nat.zero_le _, Nat.zero_le _⟩) ?_
    refine lv_istore_n (lv' := [(3, .int zr_1), (2, .int 0), (0, .ref (ad 0)), (1, .int zx1)]) hx hb dX7_steps_26 rfl hl (by decide) rfl (fun zls hl => ?_)
    exact wX7_steps_L27 ⟨hx, hb, hml, hown, hts, hK, hN⟩ hDD hlocks hr F F _ _ _ _ _ _ _ _ _ _ _ _ _ h _ _ hP hS _ (lv_sub hl [2, 1, 0] rfl) (fun zH zlocs hP hS t ht hW => ⟨rfl, by rw [ht]; exact hP, hS.F ht⟩)
  · rw [if_pos cb] at h
    refine lv_bipush (v := (-2)) hx hb dX7_steps_8 (by decide) ?_
    cases h
    exact W.iret hx hb hr (fun t ht hW => ⟨rfl, by rw [ht]; exact hP, hS.F ht⟩) hS.2.2 dX7_steps_10
theorem zVX7_steps : yX7_steps.cls = RX7 ∧ yX7_steps.cls ≠ "java/lang/invoke/MethodHandle" ∧ yX7_steps.cls ≠ "java/lang/invoke/VarHandle" ∧ (parseMethodDescriptor yX7_steps.desc).map (fun d => d.parameters.length) = some 1 := by decide +kernel

/-! ===== public int still(int, int); ===== -/
theorem kX7_still_1 : Cond.fieldLink RX7 7 "TurnGroupsModel" "n" "I" ∈ wsX7_still := by decide +kernel
theorem kX7_still_2 : Cond.fieldLink RX7 46 "TurnGroupsModel" "many" "I" ∈ wsX7_still := by decide +kernel
theorem uX7_still_RX7 : ∀ w ∈ u_ws RX7 TX7 11, w ∈ wsX7_still := by decide +kernel
def mX7_still_L28 (F : Nat) (zx1 : Int32) (zx2 : Int32) (n : Int32) (many : Int32) (image : Nat → Int32) (inn : Nat → Int32) : Nat → Int32 → Int32 → Option (Int32)
  | 0, _, _ => none
  | f + 1, zx3, zx4 => if many ≤ zx4 then (some zx3) else (bd (mX7_hasIt inn zx1 zx4) (fun zr => bd (if zr = 0 then (some (0 : Int32)) else (bd (mX7_stillIn F n image zx4) (fun zr_1 => if zr_1 = zx2 then (some (1 : Int32)) else (some (0 : Int32))))) (fun zv => lT (zx3 + zv) (fun zx3_1 => mX7_still_L28 F zx1 zx2 n many image inn f zx3_1 (zx4 + 1)))))
theorem mX7_still_L28_s (F : Nat) (zx1 : Int32) (zx2 : Int32) (n : Int32) (many : Int32) (image : Nat → Int32) (inn : Nat → Int32) (f : Nat) (zx3 : Int32) (zx4 : Int32) : mX7_still_L28 F zx1 zx2 n many image inn (f + 1) zx3 zx4 = (if many ≤ zx4 then (some zx3) else (bd (mX7_hasIt inn zx1 zx4) (fun zr => bd (if zr = 0 then (some (0 : Int32)) else (bd (mX7_stillIn F n image zx4) (fun zr_1 => if zr_1 = zx2 then (some (1 : Int32)) else (some (0 : Int32))))) (fun zv => lT (zx3 + zv) (fun zx3_1 => mX7_still_L28 F zx1 zx2 n many image inn f zx3_1 (zx4 + 1)))))) := rfl
def mX7_still (F : Nat) (n : Int32) (many : Int32) (image : Nat → Int32) (groups : Int32) (inn : Nat → Int32) (zx1 : Int32) (zx2 : Int32) : Option (Int32) := bd (mX7_isGroup groups zx1) (fun zr => if zr = 0 then (some (-2 : Int32)) else (if (mX7_isIn zx2 0 n) = 0 then (some (-2 : Int32)) else (bd (mX7_still_L28 F zx1 zx2 n many image inn F 0 0) (fun zx3 => some zx3))))
set_option maxRecDepth 100000 in
set_option maxHeartbeats 4000000 in
theorem wX7_still_L28 {p : Program} {l : Launch} {e : Env} {s : State} {m : MethodId} {zargs : Array Value} {zbelow : List Frame} {zmeth : Method} {c : Code} {D : va_G} {zQ : State → Prop} {ad : Nat → Nat} {cI cZ : ClassId} {n : Int32} {many : Int32} {image : Nat → Int32} {turn : Int32} {shelf : Nat → Int32} {groups : Int32} {inn : Nat → Int32} {now : Nat → Int32} {makers : Nat → Int32} {makerMany : Nat → Int32} {queue : Nat → Int32} {zx1 : Int32} {zx2 : Int32} (C0 : tg_C p s m zmeth c zargs cX7_still RX7 wsX7_still 5 D [(cI, .int), (cZ, .boolean)]) (hP : va_P D vwCl (wM cI cZ ad n many image turn shelf groups inn now makers makerMany queue) s.heap) (hlocks : zmeth.locks = false) (hr : zmeth.sig.returnType = (some .int)) (F : Nat) : ∀ (f : Nat) (zx3 : Int32) (zx4 : Int32) (zo3 : Int32), mX7_still_L28 F zx1 zx2 n many image inn f zx3 zx4 = some zo3 → ∀ (zls : Array Slot), lv_has zls 5 [(0, .ref (ad 0)), (1, .int zx1), (2, .int zx2), (3, .int zx3), (4, .int zx4)] → (∀ (zls : Array Slot), lv_has zls 5 [(3, .int zo3)] → W p l e ({ frames := 2, cells := 0, slots := 0, locals := 43 } : Room) s m zargs zbelow zmeth c s.heap [] 0 0 zQ (F0 m 71 zls [])) → W p l e ({ frames := 2, cells := 0, slots := 0, locals := 43 } : Room) s m zargs zbelow zmeth c s.heap [] 0 0 zQ (F0 m 28 zls []) := by
  obtain ⟨hx, hb, hml, hown, hts, hK, hN⟩ := C0
  intro f
  induction f with
  | zero => intro _ _ _ h; exact absurd (show none = some _ from h) (fun h9 => by cases h9)
  | succ f ih =>
    intro zx3 zx4 zo3 h  zls hl kk
    rw [mX7_still_L28_s] at h
    refine lv_iload hx hb dX7_still_28 (lv_at hl 4 rfl) ?_
    refine lv_aload_n hx hb dX7_still_30 rfl (lv_at hl 0 rfl) ?_
    refine va_get (D := D) (ci := 6) (v := .int many) (C := RX7) (T := TX7) (N := 11) hx hb hts uX7_still_RX7 hown hK hP 0 rfl rfl 1 (by decide) (hts _ kX7_still_2) (fun _ h9 => h9) rfl dX7_still_31 ?_
    refine lv_icmp_ge (tgt := 71) hx hb dX7_still_34 (by decide) (fun cb => ?_) (fun cb => ?_)
    · rw [if_pos cb] at h
      cases h
      exact kk  _ (lv_sub hl [3] rfl)
    · rw [if_neg cb] at h
      refine lv_iload_n hx hb dX7_still_37 rfl (lv_at hl 3 rfl) ?_
      refine lv_aload_n hx hb dX7_still_38 rfl (lv_at hl 0 rfl) ?_
      refine lv_iload_n hx hb dX7_still_39 rfl (lv_at hl 1 rfl) ?_
      refine lv_iload hx hb dX7_still_40 (lv_at hl 4 rfl) ?_
      obtain ⟨zr, hc, h⟩ := bd_el h
      refine tg_cRi (va_runV (As := [.int zx1, .int zx4]) (rest := [.int zx3]) ⟨hx, hb, hml, hown, hts⟩ (qX7_hasIt l D cI cZ ad n many image turn shelf groups inn now makers makerMany queue zx1 zx4 zr hc) (cwV 2 hts gX7_still_X7_hasIt rfl rfl rfl zVX7_hasIt ⟨Nat.le_of_ble_eq_true rfl, Nat.le_of_ble_eq_true rfl⟩) (tg_preV (r := (RX7, TX7, 11)) (ci := 6) (q0 := 0) hP hK hN rfl rfl) rfl rfl hl.1 rfl (lv_room (Nat.le_of_ble_eq_true rfl)) dX7_still_42 ⟨Nat.zero_le _, Nat.zero_le _⟩) ?_
      obtain ⟨zv, hv, h⟩ := bd_el h
      have hj : W p l e ({ frames := 2, cells := 0, slots := 0, locals := 43 } : Room) s m zargs zbelow zmeth c s.heap [] 0 0 zQ (F0 m 63 zls [.int zv, .int zx3]) := by
        refine lv_iadd hx hb dX7_still_63 ?_
        obtain ⟨zx3_1, ex3_1, h⟩ := lT_el h
        refine tg_top ex3_1 ?_
        refine lv_istore_n (lv' := [(3, .int zx3_1), (0, .ref (ad 0)), (1, .int zx1), (2, .int zx2), (4, .int zx4)]) hx hb dX7_still_64 rfl hl (by decide) rfl (fun zls hl => ?_)
        refine lv_iinc (v := (zx4 + 1)) (lv' := [(4, .int (zx4 + 1)), (3, .int zx3_1), (0, .ref (ad 0)), (1, .int zx1), (2, .int zx2)]) hx hb dX7_still_65 hl (k := 4) rfl rfl (by decide) rfl (fun zls hl => ?_)
        refine lv_goto (tgt := 28) hx hb dX7_still_68 (by decide) ?_
        exact ih _ _ _ h  _ (lv_sub hl [2, 3, 4, 1, 0] rfl) kk
      refine lv_if_eq (tgt := 62) hx hb dX7_still_45 (by decide) (fun cb_1 => ?_) (fun cb_1 => ?_)
      · rw [if_pos cb_1] at hv
        refine lv_iconst (v := 0) hx hb dX7_still_62 (by decide) ?_
        cases hv
        exact hj 
      · rw [if_neg cb_1] at hv
        refine lv_aload_n hx hb dX7_still_48 rfl (lv_at hl 0 rfl) ?_
        refine lv_iload hx hb dX7_still_49 (lv_at hl 4 rfl) ?_
        obtain ⟨zr_1, hc_1, hv⟩ := bd_el hv
        refine tg_cRi (va_runV (As := [.int zx4]) (rest := [.int zx3]) ⟨hx, hb, hml, hown, hts⟩ (qX7_stillIn l D cI cZ ad n many image turn shelf groups inn now makers makerMany queue zx4 F zr_1 hc_1) (cwV 1 hts gX7_still_X7_stillIn rfl rfl rfl zVX7_stillIn ⟨Nat.le_of_ble_eq_true rfl, Nat.le_of_ble_eq_true rfl⟩) (tg_preV (r := (RX7, TX7, 11)) (ci := 6) (q0 := 0) hP hK hN rfl rfl) rfl rfl hl.1 rfl (lv_room (Nat.le_of_ble_eq_true rfl)) dX7_still_51 ⟨Nat.zero_le _, Nat.zero_le _⟩) ?_
        refine lv_iload_n hx hb dX7_still_54 rfl (lv_at hl 2 rfl) ?_
        refine lv_icmp_ne (tgt := 62) hx hb dX7_still_55 (by decide) (fun cb_2 => ?_) (fun cb_2 => ?_)
        · rw [if_neg cb_2] at hv
          refine lv_iconst (v := 0) hx hb dX7_still_62 (by decide) ?_
          cases hv
          exact hj 
        · rw [if_pos cb_2] at hv
          refine lv_iconst (v := 1) hx hb dX7_still_58 (by decide) ?_
          refine lv_goto (tgt := 63) hx hb dX7_still_59 (by decide) ?_
          cases hv
          exact hj 
set_option maxRecDepth 100000 in
set_option maxHeartbeats 4000000 in
theorem qX7_still (l : Launch) (D : va_G) (cI : ClassId) (cZ : ClassId) (ad : Nat → Nat) (n : Int32) (many : Int32) (image : Nat → Int32) (turn : Int32) (shelf : Nat → Int32) (groups : Int32) (inn : Nat → Int32) (now : Nat → Int32) (makers : Nat → Int32) (makerMany : Nat → Int32) (queue : Nat → Int32) (zx1 : Int32) (zx2 : Int32) (F : Nat) (zr0 : Int32) (h : mX7_still F n many image groups inn zx1 zx2 = some zr0) : Met l yX7_still wsX7_still ({ frames := 2, cells := 0, slots := 0, locals := 43 } : Room) (tg_P D [(cI, .int), (cZ, .boolean)] [.ref (ad 0), .int zx1, .int zx2] ((wM cI cZ ad n many image turn shelf groups inn now makers makerMany queue))) (tg_Ri zr0) 0 0 (fun _ => False) := by
  refine Met.ofW (cc := cX7_still) (maxL := 5) (ret := (some .int)) (by decide) rfl ?_
  intro p e s m zargs zbelow zmeth c s₁ B hml hv
  obtain ⟨hargs, hP, hK, hN⟩ := hv
  have hx := B.exec
  have hb := B.bytes
  have hr := B.returns
  have hts := atoms_spec (ws := wsX7_still) B.pre
  have hown : s.vm.findClass RX7 = some m.cls := findClass_of_methodNamed B.named
  have hlocks := B.notSynchronized
  have hl := lv_entry ([.ref (ad 0), .int zx1, .int zx2]) (n := 5) (Nat.le_of_ble_eq_true rfl)
  refine W.eq (g2 := entryFrame m ([.ref (ad 0), .int zx1, .int zx2] : List Value).toArray 5) (by rw [hargs]) ?_
  rw [lg_entry_eq]
  generalize (lg_sl ([.ref (ad 0), .int zx1, .int zx2]) ++ List.replicate (5 - (lg_sl ([.ref (ad 0), .int zx1, .int zx2])).length) Slot.unset).toArray = zls at hl ⊢
  have hl : lv_has zls 5 [(0, .ref (ad 0)), (1, .int zx1), (2, .int zx2)] := hl
  rw [mX7_still] at h
  refine lv_aload_n hx hb dX7_still_0 rfl (lv_at hl 0 rfl) ?_
  refine lv_iload_n hx hb dX7_still_1 rfl (lv_at hl 1 rfl) ?_
  obtain ⟨zr, hc, h⟩ := bd_el h
  refine tg_cRi (va_runV (As := [.int zx1]) (rest := []) ⟨hx, hb, hml, hown, hts⟩ (qX7_isGroup l D cI cZ ad n many image turn shelf groups inn now makers makerMany queue zx1 zr hc) (cwV 1 hts gX7_still_X7_isGroup rfl rfl rfl zVX7_isGroup ⟨Nat.le_of_ble_eq_true rfl, Nat.le_of_ble_eq_true rfl⟩) (tg_preV (r := (RX7, TX7, 11)) (ci := 6) (q0 := 0) hP hK hN rfl rfl) rfl rfl hl.1 rfl (lv_room (Nat.le_of_ble_eq_true rfl)) dX7_still_2 ⟨Nat.zero_le _, Nat.zero_le _⟩) ?_
  refine lv_if_eq (tgt := 20) hx hb dX7_still_5 (by decide) (fun cb => ?_) (fun cb => ?_)
  · rw [if_pos cb] at h
    refine lv_bipush (v := (-2)) hx hb dX7_still_20 (by decide) ?_
    cases h
    exact W.iret hx hb hr (fun t ht hW => ⟨rfl, ht⟩) (fun _ h9 => absurd h9 List.not_mem_nil) dX7_still_22
  · rw [if_neg cb] at h
    refine lv_iload_n hx hb dX7_still_8 rfl (lv_at hl 2 rfl) ?_
    refine lv_iconst (v := 0) hx hb dX7_still_9 (by decide) ?_
    refine lv_aload_n hx hb dX7_still_10 rfl (lv_at hl 0 rfl) ?_
    refine va_get (D := D) (ci := 6) (v := .int n) (C := RX7) (T := TX7) (N := 11) hx hb hts uX7_still_RX7 hown hK hP 0 rfl rfl 0 (by decide) (hts _ kX7_still_1) (fun _ h9 => h9) rfl dX7_still_11 ?_
    refine tg_cRi (va_runS (As := [.int zx2, .int 0, .int n]) (rest := []) ⟨hx, hb, hml, hown, hts⟩ (qX7_isIn l D zx2 0 n _ rfl) (va_cwS 3 hts gX7_still_X7_isIn rfl rfl rfl zSX7_isIn ⟨Nat.le_of_ble_eq_true rfl, Nat.le_of_ble_eq_true rfl⟩) (tg_preS tg_nil (hK.sub (tys' := []) [] rfl) hN) rfl rfl hl.1 rfl (lv_room (Nat.le_of_ble_eq_true rfl)) dX7_still_14 ⟨Nat.zero_le _, Nat.zero_le _⟩) ?_
    refine lv_if_ne (tgt := 23) hx hb dX7_still_17 (by decide) (fun cb_1 => ?_) (fun cb_1 => ?_)
    · rw [if_neg cb_1] at h
      refine lv_iconst (v := 0) hx hb dX7_still_23 (by decide) ?_
      refine lv_istore_n (lv' := [(3, .int 0), (0, .ref (ad 0)), (1, .int zx1), (2, .int zx2)]) hx hb dX7_still_24 rfl hl (by decide) rfl (fun zls hl => ?_)
      refine lv_iconst (v := 0) hx hb dX7_still_25 (by decide) ?_
      refine lv_istore (lv' := [(4, .int 0), (3, .int 0), (0, .ref (ad 0)), (1, .int zx1), (2, .int zx2)]) hx hb dX7_still_26 hl (by decide) rfl (fun zls hl => ?_)
      obtain ⟨zx3, hv, h⟩ := bd_el h
      refine wX7_still_L28 ⟨hx, hb, hml, hown, hts, hK, hN⟩ hP hlocks hr F F _ _ _ hv  _ (lv_sub hl [2, 3, 4, 1, 0] rfl) (fun zls hl => ?_)
      refine lv_iload_n hx hb dX7_still_71 rfl (lv_at hl 0 rfl) ?_
      cases h
      exact W.iret hx hb hr (fun t ht hW => ⟨rfl, ht⟩) (fun _ h9 => absurd h9 List.not_mem_nil) dX7_still_72
    · rw [if_pos cb_1] at h
      refine lv_bipush (v := (-2)) hx hb dX7_still_20 (by decide) ?_
      cases h
      exact W.iret hx hb hr (fun t ht hW => ⟨rfl, ht⟩) (fun _ h9 => absurd h9 List.not_mem_nil) dX7_still_22
theorem zVX7_still : yX7_still.cls = RX7 ∧ yX7_still.cls ≠ "java/lang/invoke/MethodHandle" ∧ yX7_still.cls ≠ "java/lang/invoke/VarHandle" ∧ (parseMethodDescriptor yX7_still.desc).map (fun d => d.parameters.length) = some 2 := by decide +kernel

/-! ===== public int element(int, int); ===== -/
theorem kX7_element_1 : Cond.fieldLink RX7 46 "TurnGroupsModel" "many" "I" ∈ wsX7_element := by decide +kernel
theorem kX7_element_2 : Cond.fieldLink RX7 64 "TurnGroupsModel" "turn" "I" ∈ wsX7_element := by decide +kernel
theorem uX7_element_RX7 : ∀ w ∈ u_ws RX7 TX7 11, w ∈ wsX7_element := by decide +kernel
def mX7_element_L20 (zx1 : Int32) (many : Int32) (turn : Int32) (inn : Nat → Int32) : Nat → Int32 → Int32 → Option (Int32 × Int32)
  | 0, _, _ => none
  | f + 1, zx3, zx4 => if many ≤ zx4 then (some ((-2 : Int32), turn)) else (bd (mX7_hasIt inn zx1 zx4) (fun zr => if zr = 0 then (mX7_element_L20 zx1 many turn inn f zx3 (zx4 + 1)) else (if zx3 = 0 then (some ((1 : Int32), zx4)) else (mX7_element_L20 zx1 many turn inn f (zx3 + (-1)) (zx4 + 1)))))
theorem mX7_element_L20_s (zx1 : Int32) (many : Int32) (turn : Int32) (inn : Nat → Int32) (f : Nat) (zx3 : Int32) (zx4 : Int32) : mX7_element_L20 zx1 many turn inn (f + 1) zx3 zx4 = (if many ≤ zx4 then (some ((-2 : Int32), turn)) else (bd (mX7_hasIt inn zx1 zx4) (fun zr => if zr = 0 then (mX7_element_L20 zx1 many turn inn f zx3 (zx4 + 1)) else (if zx3 = 0 then (some ((1 : Int32), zx4)) else (mX7_element_L20 zx1 many turn inn f (zx3 + (-1)) (zx4 + 1)))))) := rfl
def mX7_element (F : Nat) (many : Int32) (turn : Int32) (groups : Int32) (inn : Nat → Int32) (zx1 : Int32) (zx2 : Int32) : Option (Int32 × Int32) := bd (mX7_isGroup groups zx1) (fun zr => if zr = 0 then (some ((-2 : Int32), turn)) else (if 0 ≤ zx2 then (mX7_element_L20 zx1 many turn inn F zx2 0) else (some ((-2 : Int32), turn))))
set_option maxRecDepth 100000 in
set_option maxHeartbeats 4000000 in
theorem wX7_element_L20 {p : Program} {l : Launch} {e : Env} {s : State} {m : MethodId} {zargs : Array Value} {zbelow : List Frame} {zmeth : Method} {c : Code} {D : va_G} {zA : Nat → Prop} {zQc : Array Value → State → Outcome → State → Prop} {ad : Nat → Nat} {cI cZ : ClassId} {n : Int32} {many : Int32} {image : Nat → Int32} {turn : Int32} {shelf : Nat → Int32} {groups : Int32} {inn : Nat → Int32} {now : Nat → Int32} {makers : Nat → Int32} {makerMany : Nat → Int32} {queue : Nat → Int32} {zx1 : Int32} (C0 : tg_C p s m zmeth c zargs cX7_element RX7 wsX7_element 5 D [(cI, .int), (cZ, .boolean)]) (hDD : tg_DD zA [ad 0, ad 1, ad 2, ad 3, ad 4, ad 5, ad 6, ad 7]) (hlocks : zmeth.locks = false) (hr : zmeth.sig.returnType = (some .int)) (F : Nat) : ∀ (f : Nat) (zx3 : Int32) (zx4 : Int32) (zr0 : Int32) (oturn : Int32), mX7_element_L20 zx1 many turn inn f zx3 zx4 = some (zr0, oturn) → ∀ (zH : Heap) (zlocs : List Loc), va_P D vwCl (wM cI cZ ad n many image turn shelf groups inn now makers makerMany queue) zH → va_S zA s.heap zH zlocs → ∀ (zls : Array Slot), lv_has zls 5 [(0, .ref (ad 0)), (1, .int zx1), (3, .int zx3), (4, .int zx4)] → (∀ (zH : Heap) (zlocs : List Loc), va_P D vwCl (wM cI cZ ad n many image oturn shelf groups inn now makers makerMany queue) zH → va_S zA s.heap zH zlocs → ∀ t : State, t.heap = zH → s.WarmedH t.vm → zQc zargs s (.returned (some (.int zr0))) t) → W p l e ({ frames := 2, cells := 0, slots := 0, locals := 43 } : Room) s m zargs zbelow zmeth c zH zlocs 0 0 (MQ zbelow zQc zargs s 0 0 zA) (F0 m 20 zls []) := by
  obtain ⟨hx, hb, hml, hown, hts, hK, hN⟩ := C0
  intro f
  induction f with
  | zero => intro _ _ _ _ h; exact absurd (show none = some _ from h) (fun h9 => by cases h9)
  | succ f ih =>
    intro zx3 zx4 zr0 oturn h zH zlocs hP hS zls hl hq
    rw [mX7_element_L20_s] at h
    refine lv_iload hx hb dX7_element_20 (lv_at hl 3 rfl) ?_
    refine lv_aload_n hx hb dX7_element_22 rfl (lv_at hl 0 rfl) ?_
    refine va_get (D := D) (ci := 6) (v := .int many) (C := RX7) (T := TX7) (N := 11) hx hb hts uX7_element_RX7 hown hK hP 0 rfl rfl 1 (by decide) (hts _ kX7_element_1) (fun _ h9 => h9) rfl dX7_element_23 ?_
    refine lv_icmp_ge (tgt := 60) hx hb dX7_element_26 (by decide) (fun cb => ?_) (fun cb => ?_)
    · rw [if_pos cb] at h
      refine lv_bipush (v := (-2)) hx hb dX7_element_60 (by decide) ?_
      cases h
      exact W.iret hx hb hr (hq _ _ hP hS) hS.2.2 dX7_element_62
    · rw [if_neg cb] at h
      refine lv_aload_n hx hb dX7_element_29 rfl (lv_at hl 0 rfl) ?_
      refine lv_iload_n hx hb dX7_element_30 rfl (lv_at hl 1 rfl) ?_
      refine lv_iload hx hb dX7_element_31 (lv_at hl 3 rfl) ?_
      obtain ⟨zr, hc, h⟩ := bd_el h
      refine tg_cRi (va_runV (As := [.int zx1, .int zx4]) (rest := []) ⟨hx, hb, hml, hown, hts⟩ (qX7_hasIt l D cI cZ ad n many image turn shelf groups inn now makers makerMany queue zx1 zx4 zr hc) (cwV 2 hts gX7_element_X7_hasIt rfl rfl rfl zVX7_hasIt ⟨Nat.le_of_ble_eq_true rfl, Nat.le_of_ble_eq_true rfl⟩) (tg_preV (r := (RX7, TX7, 11)) (ci := 6) (q0 := 0) hP hK hN rfl rfl) rfl rfl hl.1 rfl (lv_room (Nat.le_of_ble_eq_true rfl)) dX7_element_33 ⟨Nat.zero_le _, Nat.zero_le _⟩) ?_
      refine lv_if_eq (tgt := 54) hx hb dX7_element_36 (by decide) (fun cb_1 => ?_) (fun cb_1 => ?_)
      · rw [if_pos cb_1] at h
        refine lv_iinc (v := (zx4 + 1)) (lv' := [(4, .int (zx4 + 1)), (0, .ref (ad 0)), (1, .int zx1), (3, .int zx3)]) hx hb dX7_element_54 hl (k := 3) rfl rfl (by decide) rfl (fun zls hl => ?_)
        refine lv_goto (tgt := 20) hx hb dX7_element_57 (by decide) ?_
        exact ih _ _ _ _ h _ _ hP hS _ (lv_sub hl [1, 2, 3, 0] rfl) hq
      · rw [if_neg cb_1] at h
        refine lv_iload_n hx hb dX7_element_39 rfl (lv_at hl 2 rfl) ?_
        refine lv_if_ne (tgt := 51) hx hb dX7_element_40 (by decide) (fun cb_2 => ?_) (fun cb_2 => ?_)
        · rw [if_neg cb_2] at h
          refine lv_iinc (v := (zx3 + (-1))) (lv' := [(3, .int (zx3 + (-1))), (0, .ref (ad 0)), (1, .int zx1), (4, .int zx4)]) hx hb dX7_element_51 hl (k := 2) rfl rfl (by decide) rfl (fun zls hl => ?_)
          refine lv_iinc (v := (zx4 + 1)) (lv' := [(4, .int (zx4 + 1)), (3, .int (zx3 + (-1))), (0, .ref (ad 0)), (1, .int zx1)]) hx hb dX7_element_54 hl (k := 3) rfl rfl (by decide) rfl (fun zls hl => ?_)
          refine lv_goto (tgt := 20) hx hb dX7_element_57 (by decide) ?_
          exact ih _ _ _ _ h _ _ hP hS _ (lv_sub hl [2, 3, 1, 0] rfl) hq
        · rw [if_pos cb_2] at h
          refine lv_aload_n hx hb dX7_element_43 rfl (lv_at hl 0 rfl) ?_
          refine lv_iload hx hb dX7_element_44 (lv_at hl 3 rfl) ?_
          refine va_put (D := D) (ci := 6) (v := .int zx4) (ty := .int) (C := RX7) (T := TX7) (N := 11) hx hb hts uX7_element_RX7 tyX7 tyX7_ok nmX7 hown hK hP (hDD _ rfl) hS 0 rfl rfl 3 (by decide) (hts _ kX7_element_2) (fun _ h9 => h9) rfl (by decide +kernel) rfl rfl (Nat.le_of_ble_eq_true rfl) dX7_element_46 (fun zH zlocs hP _ hS => ?_)
          have hP : va_P D vwCl (wM cI cZ ad n many image zx4 shelf groups inn now makers makerMany queue) zH := hP
          refine lv_iconst (v := 1) hx hb dX7_element_49 (by decide) ?_
          cases h
          exact W.iret hx hb hr (hq _ _ hP hS) hS.2.2 dX7_element_50
set_option maxRecDepth 100000 in
set_option maxHeartbeats 4000000 in
theorem qX7_element (l : Launch) (D : va_G) (cI : ClassId) (cZ : ClassId) (ad : Nat → Nat) (n : Int32) (many : Int32) (image : Nat → Int32) (turn : Int32) (shelf : Nat → Int32) (groups : Int32) (inn : Nat → Int32) (now : Nat → Int32) (makers : Nat → Int32) (makerMany : Nat → Int32) (queue : Nat → Int32) (zx1 : Int32) (zx2 : Int32) (F : Nat) (zr0 : Int32) (oturn : Int32) (h : mX7_element F many turn groups inn zx1 zx2 = some (zr0, oturn)) : Met l yX7_element wsX7_element ({ frames := 2, cells := 0, slots := 0, locals := 43 } : Room) (tg_PM D [(cI, .int), (cZ, .boolean)] [.ref (ad 0), .int zx1, .int zx2] (wM cI cZ ad n many image turn shelf groups inn now makers makerMany queue)) (tg_Mi D (wM cI cZ ad n many image turn shelf groups inn now makers makerMany queue) (wM cI cZ ad n many image oturn shelf groups inn now makers makerMany queue) zr0) 0 0 (tg_in (wM cI cZ ad n many image turn shelf groups inn now makers makerMany queue)) := by
  refine Met.ofW (cc := cX7_element) (maxL := 5) (ret := (some .int)) (by decide) rfl ?_
  intro p e s m zargs zbelow zmeth c s₁ B hml hv
  obtain ⟨hargs, hP, hK, hN, hD0⟩ := hv
  have hx := B.exec
  have hb := B.bytes
  have hr := B.returns
  have hts := atoms_spec (ws := wsX7_element) B.pre
  have hown : s.vm.findClass RX7 = some m.cls := findClass_of_methodNamed B.named
  have hlocks := B.notSynchronized
  have hDD : tg_DD (tg_in (wM cI cZ ad n many image turn shelf groups inn now makers makerMany queue)) [ad 0, ad 1, ad 2, ad 3, ad 4, ad 5, ad 6, ad 7] := tg_DD.of (tg_D hD0) rfl
  have hS : va_S (tg_in (wM cI cZ ad n many image turn shelf groups inn now makers makerMany queue)) s.heap s.heap [] := va_S.rf
  have hl := lv_entry ([.ref (ad 0), .int zx1, .int zx2]) (n := 5) (Nat.le_of_ble_eq_true rfl)
  refine W.eq (g2 := entryFrame m ([.ref (ad 0), .int zx1, .int zx2] : List Value).toArray 5) (by rw [hargs]) ?_
  rw [lg_entry_eq]
  generalize (lg_sl ([.ref (ad 0), .int zx1, .int zx2]) ++ List.replicate (5 - (lg_sl ([.ref (ad 0), .int zx1, .int zx2])).length) Slot.unset).toArray = zls at hl ⊢
  have hl : lv_has zls 5 [(0, .ref (ad 0)), (1, .int zx1), (2, .int zx2)] := hl
  rw [mX7_element] at h
  refine lv_aload_n hx hb dX7_element_0 rfl (lv_at hl 0 rfl) ?_
  refine lv_iload_n hx hb dX7_element_1 rfl (lv_at hl 1 rfl) ?_
  obtain ⟨zr, hc, h⟩ := bd_el h
  refine tg_cRi (va_runV (As := [.int zx1]) (rest := []) ⟨hx, hb, hml, hown, hts⟩ (qX7_isGroup l D cI cZ ad n many image turn shelf groups inn now makers makerMany queue zx1 zr hc) (cwV 1 hts gX7_element_X7_isGroup rfl rfl rfl zVX7_isGroup ⟨Nat.le_of_ble_eq_true rfl, Nat.le_of_ble_eq_true rfl⟩) (tg_preV (r := (RX7, TX7, 11)) (ci := 6) (q0 := 0) hP hK hN rfl rfl) rfl rfl hl.1 rfl (lv_room (Nat.le_of_ble_eq_true rfl)) dX7_element_2 ⟨Nat.zero_le _, Nat.zero_le _⟩) ?_
  refine lv_if_eq (tgt := 12) hx hb dX7_element_5 (by decide) (fun cb => ?_) (fun cb => ?_)
  · rw [if_pos cb] at h
    refine lv_bipush (v := (-2)) hx hb dX7_element_12 (by decide) ?_
    cases h
    exact W.iret hx hb hr (fun t ht hW => ⟨rfl, by rw [ht]; exact hP, hS.F ht⟩) hS.2.2 dX7_element_14
  · rw [if_neg cb] at h
    refine lv_iload_n hx hb dX7_element_8 rfl (lv_at hl 2 rfl) ?_
    refine lv_if_ge (tgt := 15) hx hb dX7_element_9 (by decide) (fun cb_1 => ?_) (fun cb_1 => ?_)
    · rw [if_pos cb_1] at h
      refine lv_iload_n hx hb dX7_element_15 rfl (lv_at hl 2 rfl) ?_
      refine lv_istore_n (lv' := [(3, .int zx2), (0, .ref (ad 0)), (1, .int zx1), (2, .int zx2)]) hx hb dX7_element_16 rfl hl (by decide) rfl (fun zls hl => ?_)
      refine lv_iconst (v := 0) hx hb dX7_element_17 (by decide) ?_
      refine lv_istore (lv' := [(4, .int 0), (3, .int zx2), (0, .ref (ad 0)), (1, .int zx1), (2, .int zx2)]) hx hb dX7_element_18 hl (by decide) rfl (fun zls hl => ?_)
      exact wX7_element_L20 ⟨hx, hb, hml, hown, hts, hK, hN⟩ hDD hlocks hr F F _ _ _ _ h _ _ hP hS _ (lv_sub hl [2, 3, 1, 0] rfl) (fun zH zlocs hP hS t ht hW => ⟨rfl, by rw [ht]; exact hP, hS.F ht⟩)
    · rw [if_neg cb_1] at h
      refine lv_bipush (v := (-2)) hx hb dX7_element_12 (by decide) ?_
      cases h
      exact W.iret hx hb hr (fun t ht hW => ⟨rfl, by rw [ht]; exact hP, hS.F ht⟩) hS.2.2 dX7_element_14
theorem zVX7_element : yX7_element.cls = RX7 ∧ yX7_element.cls ≠ "java/lang/invoke/MethodHandle" ∧ yX7_element.cls ≠ "java/lang/invoke/VarHandle" ∧ (parseMethodDescriptor yX7_element.desc).map (fun d => d.parameters.length) = some 2 := by decide +kernel

/-! ===== public int place(int); ===== -/
theorem kX7_place_1 : Cond.fieldLink RX7 64 "TurnGroupsModel" "turn" "I" ∈ wsX7_place := by decide +kernel
theorem uX7_place_RX7 : ∀ w ∈ u_ws RX7 TX7 11, w ∈ wsX7_place := by decide +kernel
def mX7_place_L15 (zx1 : Int32) (turn : Int32) (inn : Nat → Int32) : Nat → Int32 → Int32 → Option (Int32)
  | 0, _, _ => none
  | f + 1, zx2, zx3 => if turn ≤ zx3 then (some zx2) else (bd (mX7_hasIt inn zx1 zx3) (fun zr => lT (if zr = 0 then (0 : Int32) else (1 : Int32)) (fun zv => lT (zx2 + zv) (fun zx2_1 => mX7_place_L15 zx1 turn inn f zx2_1 (zx3 + 1)))))
theorem mX7_place_L15_s (zx1 : Int32) (turn : Int32) (inn : Nat → Int32) (f : Nat) (zx2 : Int32) (zx3 : Int32) : mX7_place_L15 zx1 turn inn (f + 1) zx2 zx3 = (if turn ≤ zx3 then (some zx2) else (bd (mX7_hasIt inn zx1 zx3) (fun zr => lT (if zr = 0 then (0 : Int32) else (1 : Int32)) (fun zv => lT (zx2 + zv) (fun zx2_1 => mX7_place_L15 zx1 turn inn f zx2_1 (zx3 + 1)))))) := rfl
def mX7_place (F : Nat) (turn : Int32) (groups : Int32) (inn : Nat → Int32) (zx1 : Int32) : Option (Int32) := bd (mX7_isGroup groups zx1) (fun zr => if zr = 0 then (some (-2 : Int32)) else (bd (mX7_place_L15 zx1 turn inn F 0 0) (fun zx2 => some zx2)))
set_option maxRecDepth 100000 in
set_option maxHeartbeats 4000000 in
theorem wX7_place_L15 {p : Program} {l : Launch} {e : Env} {s : State} {m : MethodId} {zargs : Array Value} {zbelow : List Frame} {zmeth : Method} {c : Code} {D : va_G} {zQ : State → Prop} {ad : Nat → Nat} {cI cZ : ClassId} {n : Int32} {many : Int32} {image : Nat → Int32} {turn : Int32} {shelf : Nat → Int32} {groups : Int32} {inn : Nat → Int32} {now : Nat → Int32} {makers : Nat → Int32} {makerMany : Nat → Int32} {queue : Nat → Int32} {zx1 : Int32} (C0 : tg_C p s m zmeth c zargs cX7_place RX7 wsX7_place 4 D [(cI, .int), (cZ, .boolean)]) (hP : va_P D vwCl (wM cI cZ ad n many image turn shelf groups inn now makers makerMany queue) s.heap) (hlocks : zmeth.locks = false) (hr : zmeth.sig.returnType = (some .int)) (F : Nat) : ∀ (f : Nat) (zx2 : Int32) (zx3 : Int32) (zo2 : Int32), mX7_place_L15 zx1 turn inn f zx2 zx3 = some zo2 → ∀ (zls : Array Slot), lv_has zls 4 [(0, .ref (ad 0)), (1, .int zx1), (2, .int zx2), (3, .int zx3)] → (∀ (zls : Array Slot), lv_has zls 4 [(2, .int zo2)] → W p l e ({ frames := 2, cells := 0, slots := 0, locals := 43 } : Room) s m zargs zbelow zmeth c s.heap [] 0 0 zQ (F0 m 46 zls [])) → W p l e ({ frames := 2, cells := 0, slots := 0, locals := 43 } : Room) s m zargs zbelow zmeth c s.heap [] 0 0 zQ (F0 m 15 zls []) := by
  obtain ⟨hx, hb, hml, hown, hts, hK, hN⟩ := C0
  intro f
  induction f with
  | zero => intro _ _ _ h; exact absurd (show none = some _ from h) (fun h9 => by cases h9)
  | succ f ih =>
    intro zx2 zx3 zo2 h  zls hl kk
    rw [mX7_place_L15_s] at h
    refine lv_iload_n hx hb dX7_place_15 rfl (lv_at hl 3 rfl) ?_
    refine lv_aload_n hx hb dX7_place_16 rfl (lv_at hl 0 rfl) ?_
    refine va_get (D := D) (ci := 6) (v := .int turn) (C := RX7) (T := TX7) (N := 11) hx hb hts uX7_place_RX7 hown hK hP 0 rfl rfl 3 (by decide) (hts _ kX7_place_1) (fun _ h9 => h9) rfl dX7_place_17 ?_
    refine lv_icmp_ge (tgt := 46) hx hb dX7_place_20 (by decide) (fun cb => ?_) (fun cb => ?_)
    · rw [if_pos cb] at h
      cases h
      exact kk  _ (lv_sub hl [2] rfl)
    · rw [if_neg cb] at h
      refine lv_iload_n hx hb dX7_place_23 rfl (lv_at hl 2 rfl) ?_
      refine lv_aload_n hx hb dX7_place_24 rfl (lv_at hl 0 rfl) ?_
      refine lv_iload_n hx hb dX7_place_25 rfl (lv_at hl 1 rfl) ?_
      refine lv_iload_n hx hb dX7_place_26 rfl (lv_at hl 3 rfl) ?_
      obtain ⟨zr, hc, h⟩ := bd_el h
      refine tg_cRi (va_runV (As := [.int zx1, .int zx3]) (rest := [.int zx2]) ⟨hx, hb, hml, hown, hts⟩ (qX7_hasIt l D cI cZ ad n many image turn shelf groups inn now makers makerMany queue zx1 zx3 zr hc) (cwV 2 hts gX7_place_X7_hasIt rfl rfl rfl zVX7_hasIt ⟨Nat.le_of_ble_eq_true rfl, Nat.le_of_ble_eq_true rfl⟩) (tg_preV (r := (RX7, TX7, 11)) (ci := 6) (q0 := 0) hP hK hN rfl rfl) rfl rfl hl.1 rfl (lv_room (Nat.le_of_ble_eq_true rfl)) dX7_place_27 ⟨Nat.zero_le _, Nat.zero_le _⟩) ?_
      obtain ⟨zv, hv, h⟩ := lT_el h
      have hj : W p l e ({ frames := 2, cells := 0, slots := 0, locals := 43 } : Room) s m zargs zbelow zmeth c s.heap [] 0 0 zQ (F0 m 38 zls [.int zv, .int zx2]) := by
        refine lv_iadd hx hb dX7_place_38 ?_
        obtain ⟨zx2_1, ex2_1, h⟩ := lT_el h
        refine tg_top ex2_1 ?_
        refine lv_istore_n (lv' := [(2, .int zx2_1), (0, .ref (ad 0)), (1, .int zx1), (3, .int zx3)]) hx hb dX7_place_39 rfl hl (by decide) rfl (fun zls hl => ?_)
        refine lv_iinc (v := (zx3 + 1)) (lv' := [(3, .int (zx3 + 1)), (2, .int zx2_1), (0, .ref (ad 0)), (1, .int zx1)]) hx hb dX7_place_40 hl (k := 3) rfl rfl (by decide) rfl (fun zls hl => ?_)
        refine lv_goto (tgt := 15) hx hb dX7_place_43 (by decide) ?_
        exact ih _ _ _ h  _ (lv_sub hl [2, 3, 1, 0] rfl) kk
      refine lv_if_eq (tgt := 37) hx hb dX7_place_30 (by decide) (fun cb_1 => ?_) (fun cb_1 => ?_)
      · rw [if_pos cb_1] at hv
        refine lv_iconst (v := 0) hx hb dX7_place_37 (by decide) ?_
        subst hv
        exact hj 
      · rw [if_neg cb_1] at hv
        refine lv_iconst (v := 1) hx hb dX7_place_33 (by decide) ?_
        refine lv_goto (tgt := 38) hx hb dX7_place_34 (by decide) ?_
        subst hv
        exact hj 
set_option maxRecDepth 100000 in
set_option maxHeartbeats 4000000 in
theorem qX7_place (l : Launch) (D : va_G) (cI : ClassId) (cZ : ClassId) (ad : Nat → Nat) (n : Int32) (many : Int32) (image : Nat → Int32) (turn : Int32) (shelf : Nat → Int32) (groups : Int32) (inn : Nat → Int32) (now : Nat → Int32) (makers : Nat → Int32) (makerMany : Nat → Int32) (queue : Nat → Int32) (zx1 : Int32) (F : Nat) (zr0 : Int32) (h : mX7_place F turn groups inn zx1 = some zr0) : Met l yX7_place wsX7_place ({ frames := 2, cells := 0, slots := 0, locals := 43 } : Room) (tg_P D [(cI, .int), (cZ, .boolean)] [.ref (ad 0), .int zx1] ((wM cI cZ ad n many image turn shelf groups inn now makers makerMany queue))) (tg_Ri zr0) 0 0 (fun _ => False) := by
  refine Met.ofW (cc := cX7_place) (maxL := 4) (ret := (some .int)) (by decide) rfl ?_
  intro p e s m zargs zbelow zmeth c s₁ B hml hv
  obtain ⟨hargs, hP, hK, hN⟩ := hv
  have hx := B.exec
  have hb := B.bytes
  have hr := B.returns
  have hts := atoms_spec (ws := wsX7_place) B.pre
  have hown : s.vm.findClass RX7 = some m.cls := findClass_of_methodNamed B.named
  have hlocks := B.notSynchronized
  have hl := lv_entry ([.ref (ad 0), .int zx1]) (n := 4) (Nat.le_of_ble_eq_true rfl)
  refine W.eq (g2 := entryFrame m ([.ref (ad 0), .int zx1] : List Value).toArray 4) (by rw [hargs]) ?_
  rw [lg_entry_eq]
  generalize (lg_sl ([.ref (ad 0), .int zx1]) ++ List.replicate (4 - (lg_sl ([.ref (ad 0), .int zx1])).length) Slot.unset).toArray = zls at hl ⊢
  have hl : lv_has zls 4 [(0, .ref (ad 0)), (1, .int zx1)] := hl
  rw [mX7_place] at h
  refine lv_aload_n hx hb dX7_place_0 rfl (lv_at hl 0 rfl) ?_
  refine lv_iload_n hx hb dX7_place_1 rfl (lv_at hl 1 rfl) ?_
  obtain ⟨zr, hc, h⟩ := bd_el h
  refine tg_cRi (va_runV (As := [.int zx1]) (rest := []) ⟨hx, hb, hml, hown, hts⟩ (qX7_isGroup l D cI cZ ad n many image turn shelf groups inn now makers makerMany queue zx1 zr hc) (cwV 1 hts gX7_place_X7_isGroup rfl rfl rfl zVX7_isGroup ⟨Nat.le_of_ble_eq_true rfl, Nat.le_of_ble_eq_true rfl⟩) (tg_preV (r := (RX7, TX7, 11)) (ci := 6) (q0 := 0) hP hK hN rfl rfl) rfl rfl hl.1 rfl (lv_room (Nat.le_of_ble_eq_true rfl)) dX7_place_2 ⟨Nat.zero_le _, Nat.zero_le _⟩) ?_
  refine lv_if_ne (tgt := 11) hx hb dX7_place_5 (by decide) (fun cb => ?_) (fun cb => ?_)
  · rw [if_neg cb] at h
    refine lv_iconst (v := 0) hx hb dX7_place_11 (by decide) ?_
    refine lv_istore_n (lv' := [(2, .int 0), (0, .ref (ad 0)), (1, .int zx1)]) hx hb dX7_place_12 rfl hl (by decide) rfl (fun zls hl => ?_)
    refine lv_iconst (v := 0) hx hb dX7_place_13 (by decide) ?_
    refine lv_istore_n (lv' := [(3, .int 0), (2, .int 0), (0, .ref (ad 0)), (1, .int zx1)]) hx hb dX7_place_14 rfl hl (by decide) rfl (fun zls hl => ?_)
    obtain ⟨zx2, hv, h⟩ := bd_el h
    refine wX7_place_L15 ⟨hx, hb, hml, hown, hts, hK, hN⟩ hP hlocks hr F F _ _ _ hv  _ (lv_sub hl [2, 3, 1, 0] rfl) (fun zls hl => ?_)
    refine lv_iload_n hx hb dX7_place_46 rfl (lv_at hl 0 rfl) ?_
    cases h
    exact W.iret hx hb hr (fun t ht hW => ⟨rfl, ht⟩) (fun _ h9 => absurd h9 List.not_mem_nil) dX7_place_47
  · rw [if_pos cb] at h
    refine lv_bipush (v := (-2)) hx hb dX7_place_8 (by decide) ?_
    cases h
    exact W.iret hx hb hr (fun t ht hW => ⟨rfl, ht⟩) (fun _ h9 => absurd h9 List.not_mem_nil) dX7_place_10
theorem zVX7_place : yX7_place.cls = RX7 ∧ yX7_place.cls ≠ "java/lang/invoke/MethodHandle" ∧ yX7_place.cls ≠ "java/lang/invoke/VarHandle" ∧ (parseMethodDescriptor yX7_place.desc).map (fun d => d.parameters.length) = some 1 := by decide +kernel

/-! ===== public int carry(int, int, int); ===== -/
theorem kX7_carry_1 : Cond.fieldLink RX7 7 "TurnGroupsModel" "n" "I" ∈ wsX7_carry := by decide +kernel
theorem kX7_carry_2 : Cond.fieldLink RX7 46 "TurnGroupsModel" "many" "I" ∈ wsX7_carry := by decide +kernel
theorem kX7_carry_3 : Cond.fieldLink RX7 64 "TurnGroupsModel" "turn" "I" ∈ wsX7_carry := by decide +kernel
theorem uX7_carry_RX7 : ∀ w ∈ u_ws RX7 TX7 11, w ∈ wsX7_carry := by decide +kernel
def mX7_carry_L44 (F : Nat) (zx1 : Int32) (zx2 : Int32) (zx3 : Int32) (n : Int32) (many : Int32) (image : Nat → Int32) (turn : Int32) (inn : Nat → Int32) : Nat → Int32 → Option (Int32 × Int32)
  | 0, _ => none
  | f + 1, zx5 => if many ≤ zx5 then (some ((-1 : Int32), turn)) else (bd (mX7_hasIt inn zx1 zx5) (fun zr => if zr = 0 then (mX7_carry_L44 F zx1 zx2 zx3 n many image turn inn f (zx5 + 1)) else (bd (mX7_setOf F n image zx5 zx2) (fun zr_1 => if zr_1 = zx3 then (some ((1 : Int32), zx5)) else (mX7_carry_L44 F zx1 zx2 zx3 n many image turn inn f (zx5 + 1))))))
theorem mX7_carry_L44_s (F : Nat) (zx1 : Int32) (zx2 : Int32) (zx3 : Int32) (n : Int32) (many : Int32) (image : Nat → Int32) (turn : Int32) (inn : Nat → Int32) (f : Nat) (zx5 : Int32) : mX7_carry_L44 F zx1 zx2 zx3 n many image turn inn (f + 1) zx5 = (if many ≤ zx5 then (some ((-1 : Int32), turn)) else (bd (mX7_hasIt inn zx1 zx5) (fun zr => if zr = 0 then (mX7_carry_L44 F zx1 zx2 zx3 n many image turn inn f (zx5 + 1)) else (bd (mX7_setOf F n image zx5 zx2) (fun zr_1 => if zr_1 = zx3 then (some ((1 : Int32), zx5)) else (mX7_carry_L44 F zx1 zx2 zx3 n many image turn inn f (zx5 + 1))))))) := rfl
def mX7_carry (F : Nat) (n : Int32) (many : Int32) (image : Nat → Int32) (turn : Int32) (groups : Int32) (inn : Nat → Int32) (zx1 : Int32) (zx2 : Int32) (zx3 : Int32) : Option (Int32 × Int32) := lT ((1 <<< (n &&& 31)) - 1) (fun zx4 => bd (mX7_isGroup groups zx1) (fun zr => if zr = 0 then (some ((-2 : Int32), turn)) else (if (mX7_isIn zx2 0 zx4) = 0 then (some ((-2 : Int32), turn)) else (if (mX7_isIn zx3 0 zx4) = 0 then (some ((-2 : Int32), turn)) else (mX7_carry_L44 F zx1 zx2 zx3 n many image turn inn F 0)))))
set_option maxRecDepth 100000 in
set_option maxHeartbeats 4000000 in
theorem wX7_carry_L44 {p : Program} {l : Launch} {e : Env} {s : State} {m : MethodId} {zargs : Array Value} {zbelow : List Frame} {zmeth : Method} {c : Code} {D : va_G} {zA : Nat → Prop} {zQc : Array Value → State → Outcome → State → Prop} {ad : Nat → Nat} {cI cZ : ClassId} {n : Int32} {many : Int32} {image : Nat → Int32} {turn : Int32} {shelf : Nat → Int32} {groups : Int32} {inn : Nat → Int32} {now : Nat → Int32} {makers : Nat → Int32} {makerMany : Nat → Int32} {queue : Nat → Int32} {zx1 : Int32} {zx2 : Int32} {zx3 : Int32} (C0 : tg_C p s m zmeth c zargs cX7_carry RX7 wsX7_carry 6 D [(cI, .int), (cZ, .boolean)]) (hDD : tg_DD zA [ad 0, ad 1, ad 2, ad 3, ad 4, ad 5, ad 6, ad 7]) (hlocks : zmeth.locks = false) (hr : zmeth.sig.returnType = (some .int)) (F : Nat) : ∀ (f : Nat) (zx5 : Int32) (zr0 : Int32) (oturn : Int32), mX7_carry_L44 F zx1 zx2 zx3 n many image turn inn f zx5 = some (zr0, oturn) → ∀ (zH : Heap) (zlocs : List Loc), va_P D vwCl (wM cI cZ ad n many image turn shelf groups inn now makers makerMany queue) zH → va_S zA s.heap zH zlocs → ∀ (zls : Array Slot), lv_has zls 6 [(0, .ref (ad 0)), (1, .int zx1), (2, .int zx2), (3, .int zx3), (5, .int zx5)] → (∀ (zH : Heap) (zlocs : List Loc), va_P D vwCl (wM cI cZ ad n many image oturn shelf groups inn now makers makerMany queue) zH → va_S zA s.heap zH zlocs → ∀ t : State, t.heap = zH → s.WarmedH t.vm → zQc zargs s (.returned (some (.int zr0))) t) → W p l e ({ frames := 2, cells := 0, slots := 0, locals := 43 } : Room) s m zargs zbelow zmeth c zH zlocs 0 0 (MQ zbelow zQc zargs s 0 0 zA) (F0 m 44 zls []) := by
  obtain ⟨hx, hb, hml, hown, hts, hK, hN⟩ := C0
  intro f
  induction f with
  | zero => intro _ _ _ h; exact absurd (show none = some _ from h) (fun h9 => by cases h9)
  | succ f ih =>
    intro zx5 zr0 oturn h zH zlocs hP hS zls hl hq
    rw [mX7_carry_L44_s] at h
    refine lv_iload hx hb dX7_carry_44 (lv_at hl 4 rfl) ?_
    refine lv_aload_n hx hb dX7_carry_46 rfl (lv_at hl 0 rfl) ?_
    refine va_get (D := D) (ci := 6) (v := .int many) (C := RX7) (T := TX7) (N := 11) hx hb hts uX7_carry_RX7 hown hK hP 0 rfl rfl 1 (by decide) (hts _ kX7_carry_2) (fun _ h9 => h9) rfl dX7_carry_47 ?_
    refine lv_icmp_ge (tgt := 88) hx hb dX7_carry_50 (by decide) (fun cb => ?_) (fun cb => ?_)
    · rw [if_pos cb] at h
      refine lv_iconst (v := (-1)) hx hb dX7_carry_88 (by decide) ?_
      cases h
      exact W.iret hx hb hr (hq _ _ hP hS) hS.2.2 dX7_carry_89
    · rw [if_neg cb] at h
      refine lv_aload_n hx hb dX7_carry_53 rfl (lv_at hl 0 rfl) ?_
      refine lv_iload_n hx hb dX7_carry_54 rfl (lv_at hl 1 rfl) ?_
      refine lv_iload hx hb dX7_carry_55 (lv_at hl 4 rfl) ?_
      obtain ⟨zr, hc, h⟩ := bd_el h
      refine tg_cRi (va_runV (As := [.int zx1, .int zx5]) (rest := []) ⟨hx, hb, hml, hown, hts⟩ (qX7_hasIt l D cI cZ ad n many image turn shelf groups inn now makers makerMany queue zx1 zx5 zr hc) (cwV 2 hts gX7_carry_X7_hasIt rfl rfl rfl zVX7_hasIt ⟨Nat.le_of_ble_eq_true rfl, Nat.le_of_ble_eq_true rfl⟩) (tg_preV (r := (RX7, TX7, 11)) (ci := 6) (q0 := 0) hP hK hN rfl rfl) rfl rfl hl.1 rfl (lv_room (Nat.le_of_ble_eq_true rfl)) dX7_carry_57 ⟨Nat.zero_le _, Nat.zero_le _⟩) ?_
      refine lv_if_eq (tgt := 82) hx hb dX7_carry_60 (by decide) (fun cb_1 => ?_) (fun cb_1 => ?_)
      · rw [if_pos cb_1] at h
        refine lv_iinc (v := (zx5 + 1)) (lv' := [(5, .int (zx5 + 1)), (0, .ref (ad 0)), (1, .int zx1), (2, .int zx2), (3, .int zx3)]) hx hb dX7_carry_82 hl (k := 4) rfl rfl (by decide) rfl (fun zls hl => ?_)
        refine lv_goto (tgt := 44) hx hb dX7_carry_85 (by decide) ?_
        exact ih _ _ _ h _ _ hP hS _ (lv_sub hl [1, 2, 3, 4, 0] rfl) hq
      · rw [if_neg cb_1] at h
        refine lv_aload_n hx hb dX7_carry_63 rfl (lv_at hl 0 rfl) ?_
        refine lv_iload hx hb dX7_carry_64 (lv_at hl 4 rfl) ?_
        refine lv_iload_n hx hb dX7_carry_66 rfl (lv_at hl 2 rfl) ?_
        obtain ⟨zr_1, hc_1, h⟩ := bd_el h
        refine tg_cRi (va_runV (As := [.int zx5, .int zx2]) (rest := []) ⟨hx, hb, hml, hown, hts⟩ (qX7_setOf l D cI cZ ad n many image turn shelf groups inn now makers makerMany queue zx5 zx2 F zr_1 hc_1) (cwV 2 hts gX7_carry_X7_setOf rfl rfl rfl zVX7_setOf ⟨Nat.le_of_ble_eq_true rfl, Nat.le_of_ble_eq_true rfl⟩) (tg_preV (r := (RX7, TX7, 11)) (ci := 6) (q0 := 0) hP hK hN rfl rfl) rfl rfl hl.1 rfl (lv_room (Nat.le_of_ble_eq_true rfl)) dX7_carry_67 ⟨Nat.zero_le _, Nat.zero_le _⟩) ?_
        refine lv_iload_n hx hb dX7_carry_70 rfl (lv_at hl 3 rfl) ?_
        refine lv_icmp_ne (tgt := 82) hx hb dX7_carry_71 (by decide) (fun cb_2 => ?_) (fun cb_2 => ?_)
        · rw [if_neg cb_2] at h
          refine lv_iinc (v := (zx5 + 1)) (lv' := [(5, .int (zx5 + 1)), (0, .ref (ad 0)), (1, .int zx1), (2, .int zx2), (3, .int zx3)]) hx hb dX7_carry_82 hl (k := 4) rfl rfl (by decide) rfl (fun zls hl => ?_)
          refine lv_goto (tgt := 44) hx hb dX7_carry_85 (by decide) ?_
          exact ih _ _ _ h _ _ hP hS _ (lv_sub hl [1, 2, 3, 4, 0] rfl) hq
        · rw [if_pos cb_2] at h
          refine lv_aload_n hx hb dX7_carry_74 rfl (lv_at hl 0 rfl) ?_
          refine lv_iload hx hb dX7_carry_75 (lv_at hl 4 rfl) ?_
          refine va_put (D := D) (ci := 6) (v := .int zx5) (ty := .int) (C := RX7) (T := TX7) (N := 11) hx hb hts uX7_carry_RX7 tyX7 tyX7_ok nmX7 hown hK hP (hDD _ rfl) hS 0 rfl rfl 3 (by decide) (hts _ kX7_carry_3) (fun _ h9 => h9) rfl (by decide +kernel) rfl rfl (Nat.le_of_ble_eq_true rfl) dX7_carry_77 (fun zH zlocs hP _ hS => ?_)
          have hP : va_P D vwCl (wM cI cZ ad n many image zx5 shelf groups inn now makers makerMany queue) zH := hP
          refine lv_iconst (v := 1) hx hb dX7_carry_80 (by decide) ?_
          cases h
          exact W.iret hx hb hr (hq _ _ hP hS) hS.2.2 dX7_carry_81
set_option maxRecDepth 100000 in
set_option maxHeartbeats 4000000 in
theorem qX7_carry (l : Launch) (D : va_G) (cI : ClassId) (cZ : ClassId) (ad : Nat → Nat) (n : Int32) (many : Int32) (image : Nat → Int32) (turn : Int32) (shelf : Nat → Int32) (groups : Int32) (inn : Nat → Int32) (now : Nat → Int32) (makers : Nat → Int32) (makerMany : Nat → Int32) (queue : Nat → Int32) (zx1 : Int32) (zx2 : Int32) (zx3 : Int32) (F : Nat) (zr0 : Int32) (oturn : Int32) (h : mX7_carry F n many image turn groups inn zx1 zx2 zx3 = some (zr0, oturn)) : Met l yX7_carry wsX7_carry ({ frames := 2, cells := 0, slots := 0, locals := 43 } : Room) (tg_PM D [(cI, .int), (cZ, .boolean)] [.ref (ad 0), .int zx1, .int zx2, .int zx3] (wM cI cZ ad n many image turn shelf groups inn now makers makerMany queue)) (tg_Mi D (wM cI cZ ad n many image turn shelf groups inn now makers makerMany queue) (wM cI cZ ad n many image oturn shelf groups inn now makers makerMany queue) zr0) 0 0 (tg_in (wM cI cZ ad n many image turn shelf groups inn now makers makerMany queue)) := by
  refine Met.ofW (cc := cX7_carry) (maxL := 6) (ret := (some .int)) (by decide) rfl ?_
  intro p e s m zargs zbelow zmeth c s₁ B hml hv
  obtain ⟨hargs, hP, hK, hN, hD0⟩ := hv
  have hx := B.exec
  have hb := B.bytes
  have hr := B.returns
  have hts := atoms_spec (ws := wsX7_carry) B.pre
  have hown : s.vm.findClass RX7 = some m.cls := findClass_of_methodNamed B.named
  have hlocks := B.notSynchronized
  have hDD : tg_DD (tg_in (wM cI cZ ad n many image turn shelf groups inn now makers makerMany queue)) [ad 0, ad 1, ad 2, ad 3, ad 4, ad 5, ad 6, ad 7] := tg_DD.of (tg_D hD0) rfl
  have hS : va_S (tg_in (wM cI cZ ad n many image turn shelf groups inn now makers makerMany queue)) s.heap s.heap [] := va_S.rf
  have hl := lv_entry ([.ref (ad 0), .int zx1, .int zx2, .int zx3]) (n := 6) (Nat.le_of_ble_eq_true rfl)
  refine W.eq (g2 := entryFrame m ([.ref (ad 0), .int zx1, .int zx2, .int zx3] : List Value).toArray 6) (by rw [hargs]) ?_
  rw [lg_entry_eq]
  generalize (lg_sl ([.ref (ad 0), .int zx1, .int zx2, .int zx3]) ++ List.replicate (6 - (lg_sl ([.ref (ad 0), .int zx1, .int zx2, .int zx3])).length) Slot.unset).toArray = zls at hl ⊢
  have hl : lv_has zls 6 [(0, .ref (ad 0)), (1, .int zx1), (2, .int zx2), (3, .int zx3)] := hl
  rw [mX7_carry] at h
  refine lv_iconst (v := 1) hx hb dX7_carry_0 (by decide) ?_
  refine lv_aload_n hx hb dX7_carry_1 rfl (lv_at hl 0 rfl) ?_
  refine va_get (D := D) (ci := 6) (v := .int n) (C := RX7) (T := TX7) (N := 11) hx hb hts uX7_carry_RX7 hown hK hP 0 rfl rfl 0 (by decide) (hts _ kX7_carry_1) (fun _ h9 => h9) rfl dX7_carry_2 ?_
  refine lv_ishl hx hb dX7_carry_5 ?_
  refine lv_iconst (v := 1) hx hb dX7_carry_6 (by decide) ?_
  refine lv_isub hx hb dX7_carry_7 ?_
  obtain ⟨zx4, ex4, h⟩ := lT_el h
  refine tg_top ex4 ?_
  refine lv_istore (lv' := [(4, .int zx4), (0, .ref (ad 0)), (1, .int zx1), (2, .int zx2), (3, .int zx3)]) hx hb dX7_carry_8 hl (by decide) rfl (fun zls hl => ?_)
  refine lv_aload_n hx hb dX7_carry_10 rfl (lv_at hl 1 rfl) ?_
  refine lv_iload_n hx hb dX7_carry_11 rfl (lv_at hl 2 rfl) ?_
  obtain ⟨zr, hc, h⟩ := bd_el h
  refine tg_cRi (va_runV (As := [.int zx1]) (rest := []) ⟨hx, hb, hml, hown, hts⟩ (qX7_isGroup l D cI cZ ad n many image turn shelf groups inn now makers makerMany queue zx1 zr hc) (cwV 1 hts gX7_carry_X7_isGroup rfl rfl rfl zVX7_isGroup ⟨Nat.le_of_ble_eq_true rfl, Nat.le_of_ble_eq_true rfl⟩) (tg_preV (r := (RX7, TX7, 11)) (ci := 6) (q0 := 0) hP hK hN rfl rfl) rfl rfl hl.1 rfl (lv_room (Nat.le_of_ble_eq_true rfl)) dX7_carry_12 ⟨Nat.zero_le _, Nat.zero_le _⟩) ?_
  refine lv_if_eq (tgt := 38) hx hb dX7_carry_15 (by decide) (fun cb => ?_) (fun cb => ?_)
  · rw [if_pos cb] at h
    refine lv_bipush (v := (-2)) hx hb dX7_carry_38 (by decide) ?_
    cases h
    exact W.iret hx hb hr (fun t ht hW => ⟨rfl, by rw [ht]; exact hP, hS.F ht⟩) hS.2.2 dX7_carry_40
  · rw [if_neg cb] at h
    refine lv_iload_n hx hb dX7_carry_18 rfl (lv_at hl 3 rfl) ?_
    refine lv_iconst (v := 0) hx hb dX7_carry_19 (by decide) ?_
    refine lv_iload hx hb dX7_carry_20 (lv_at hl 0 rfl) ?_
    refine tg_cRi (va_runS (As := [.int zx2, .int 0, .int zx4]) (rest := []) ⟨hx, hb, hml, hown, hts⟩ (qX7_isIn l D zx2 0 zx4 _ rfl) (va_cwS 3 hts gX7_carry_X7_isIn rfl rfl rfl zSX7_isIn ⟨Nat.le_of_ble_eq_true rfl, Nat.le_of_ble_eq_true rfl⟩) (tg_preS tg_nil (hK.sub (tys' := []) [] rfl) hN) rfl rfl hl.1 rfl (lv_room (Nat.le_of_ble_eq_true rfl)) dX7_carry_22 ⟨Nat.zero_le _, Nat.zero_le _⟩) ?_
    refine lv_if_eq (tgt := 38) hx hb dX7_carry_25 (by decide) (fun cb_1 => ?_) (fun cb_1 => ?_)
    · rw [if_pos cb_1] at h
      refine lv_bipush (v := (-2)) hx hb dX7_carry_38 (by decide) ?_
      cases h
      exact W.iret hx hb hr (fun t ht hW => ⟨rfl, by rw [ht]; exact hP, hS.F ht⟩) hS.2.2 dX7_carry_40
    · rw [if_neg cb_1] at h
      refine lv_iload_n hx hb dX7_carry_28 rfl (lv_at hl 4 rfl) ?_
      refine lv_iconst (v := 0) hx hb dX7_carry_29 (by decide) ?_
      refine lv_iload hx hb dX7_carry_30 (lv_at hl 0 rfl) ?_
      refine tg_cRi (va_runS (As := [.int zx3, .int 0, .int zx4]) (rest := []) ⟨hx, hb, hml, hown, hts⟩ (qX7_isIn l D zx3 0 zx4 _ rfl) (va_cwS 3 hts gX7_carry_X7_isIn rfl rfl rfl zSX7_isIn ⟨Nat.le_of_ble_eq_true rfl, Nat.le_of_ble_eq_true rfl⟩) (tg_preS tg_nil (hK.sub (tys' := []) [] rfl) hN) rfl rfl hl.1 rfl (lv_room (Nat.le_of_ble_eq_true rfl)) dX7_carry_32 ⟨Nat.zero_le _, Nat.zero_le _⟩) ?_
      refine lv_if_ne (tgt := 41) hx hb dX7_carry_35 (by decide) (fun cb_2 => ?_) (fun cb_2 => ?_)
      · rw [if_neg cb_2] at h
        refine lv_iconst (v := 0) hx hb dX7_carry_41 (by decide) ?_
        refine lv_istore (lv' := [(5, .int 0), (4, .int zx4), (0, .ref (ad 0)), (1, .int zx1), (2, .int zx2), (3, .int zx3)]) hx hb dX7_carry_42 hl (by decide) rfl (fun zls hl => ?_)
        exact wX7_carry_L44 ⟨hx, hb, hml, hown, hts, hK, hN⟩ hDD hlocks hr F F _ _ _ h _ _ hP hS _ (lv_sub hl [2, 3, 4, 5, 0] rfl) (fun zH zlocs hP hS t ht hW => ⟨rfl, by rw [ht]; exact hP, hS.F ht⟩)
      · rw [if_pos cb_2] at h
        refine lv_bipush (v := (-2)) hx hb dX7_carry_38 (by decide) ?_
        cases h
        exact W.iret hx hb hr (fun t ht hW => ⟨rfl, by rw [ht]; exact hP, hS.F ht⟩) hS.2.2 dX7_carry_40
theorem zVX7_carry : yX7_carry.cls = RX7 ∧ yX7_carry.cls ≠ "java/lang/invoke/MethodHandle" ∧ yX7_carry.cls ≠ "java/lang/invoke/VarHandle" ∧ (parseMethodDescriptor yX7_carry.desc).map (fun d => d.parameters.length) = some 3 := by decide +kernel

/-! ===== public int count(int); ===== -/
theorem kX7_count_1 : Cond.fieldLink RX7 7 "TurnGroupsModel" "n" "I" ∈ wsX7_count := by decide +kernel
theorem kX7_count_2 : Cond.fieldLink RX7 61 "TurnGroupsModel" "groups" "I" ∈ wsX7_count := by decide +kernel
theorem kX7_count_3 : Cond.fieldLink RX7 64 "TurnGroupsModel" "turn" "I" ∈ wsX7_count := by decide +kernel
theorem uX7_count_RX7 : ∀ w ∈ u_ws RX7 TX7 11, w ∈ wsX7_count := by decide +kernel
def mX7_count (F : Nat) (n : Int32) (image : Nat → Int32) (turn : Int32) (groups : Int32) (zx1 : Int32) : Option (Int32) := if zx1 = 0 then (some n) else (if zx1 = 1 then (some groups) else (if zx1 = 2 then (bd (mX7_stillIn F n image turn) (fun zr => some zr)) else (if zx1 = 3 then (bd (mX7_isEven F n image turn) (fun zr_1 => if zr_1 = 0 then (some (0 : Int32)) else (some (1 : Int32)))) else (some (-2 : Int32)))))
set_option maxRecDepth 100000 in
set_option maxHeartbeats 4000000 in
theorem qX7_count (l : Launch) (D : va_G) (cI : ClassId) (cZ : ClassId) (ad : Nat → Nat) (n : Int32) (many : Int32) (image : Nat → Int32) (turn : Int32) (shelf : Nat → Int32) (groups : Int32) (inn : Nat → Int32) (now : Nat → Int32) (makers : Nat → Int32) (makerMany : Nat → Int32) (queue : Nat → Int32) (zx1 : Int32) (F : Nat) (zr0 : Int32) (h : mX7_count F n image turn groups zx1 = some zr0) : Met l yX7_count wsX7_count ({ frames := 1, cells := 0, slots := 0, locals := 24 } : Room) (tg_P D [(cI, .int), (cZ, .boolean)] [.ref (ad 0), .int zx1] ((wM cI cZ ad n many image turn shelf groups inn now makers makerMany queue))) (tg_Ri zr0) 0 0 (fun _ => False) := by
  refine Met.ofW (cc := cX7_count) (maxL := 2) (ret := (some .int)) (by decide) rfl ?_
  intro p e s m zargs zbelow zmeth c s₁ B hml hv
  obtain ⟨hargs, hP, hK, hN⟩ := hv
  have hx := B.exec
  have hb := B.bytes
  have hr := B.returns
  have hts := atoms_spec (ws := wsX7_count) B.pre
  have hown : s.vm.findClass RX7 = some m.cls := findClass_of_methodNamed B.named
  have hlocks := B.notSynchronized
  have hl := lv_entry ([.ref (ad 0), .int zx1]) (n := 2) (Nat.le_of_ble_eq_true rfl)
  refine W.eq (g2 := entryFrame m ([.ref (ad 0), .int zx1] : List Value).toArray 2) (by rw [hargs]) ?_
  rw [lg_entry_eq]
  generalize (lg_sl ([.ref (ad 0), .int zx1]) ++ List.replicate (2 - (lg_sl ([.ref (ad 0), .int zx1])).length) Slot.unset).toArray = zls at hl ⊢
  have hl : lv_has zls 2 [(0, .ref (ad 0)), (1, .int zx1)] := hl
  rw [mX7_count] at h
  refine lv_iload_n hx hb dX7_count_0 rfl (lv_at hl 1 rfl) ?_
  by_cases cb : zx1 = 0
  · rw [if_pos cb] at h
    refine tg_top (y := 0) cb.symm ?_
    refine lv_tableIn (tgt := 32) hx hb dX7_count_1 (by decide) (by decide) rfl (by decide) ?_
    refine lv_aload_n hx hb dX7_count_32 rfl (lv_at hl 0 rfl) ?_
    refine va_get (D := D) (ci := 6) (v := .int n) (C := RX7) (T := TX7) (N := 11) hx hb hts uX7_count_RX7 hown hK hP 0 rfl rfl 0 (by decide) (hts _ kX7_count_1) (fun _ h9 => h9) rfl dX7_count_33 ?_
    cases h
    exact W.iret hx hb hr (fun t ht hW => ⟨rfl, ht⟩) (fun _ h9 => absurd h9 List.not_mem_nil) dX7_count_36
  · rw [if_neg cb] at h
    by_cases cb_1 : zx1 = 1
    · rw [if_pos cb_1] at h
      refine tg_top (y := 1) cb_1.symm ?_
      refine lv_tableIn (tgt := 37) hx hb dX7_count_1 (by decide) (by decide) rfl (by decide) ?_
      refine lv_aload_n hx hb dX7_count_37 rfl (lv_at hl 0 rfl) ?_
      refine va_get (D := D) (ci := 6) (v := .int groups) (C := RX7) (T := TX7) (N := 11) hx hb hts uX7_count_RX7 hown hK hP 0 rfl rfl 5 (by decide) (hts _ kX7_count_2) (fun _ h9 => h9) rfl dX7_count_38 ?_
      cases h
      exact W.iret hx hb hr (fun t ht hW => ⟨rfl, ht⟩) (fun _ h9 => absurd h9 List.not_mem_nil) dX7_count_41
    · rw [if_neg cb_1] at h
      by_cases cb_2 : zx1 = 2
      · rw [if_pos cb_2] at h
        refine tg_top (y := 2) cb_2.symm ?_
        refine lv_tableIn (tgt := 42) hx hb dX7_count_1 (by decide) (by decide) rfl (by decide) ?_
        refine lv_aload_n hx hb dX7_count_42 rfl (lv_at hl 0 rfl) ?_
        refine lv_aload_n hx hb dX7_count_43 rfl (lv_at hl 0 rfl) ?_
        refine va_get (D := D) (ci := 6) (v := .int turn) (C := RX7) (T := TX7) (N := 11) hx hb hts uX7_count_RX7 hown hK hP 0 rfl rfl 3 (by decide) (hts _ kX7_count_3) (fun _ h9 => h9) rfl dX7_count_44 ?_
        obtain ⟨zr, hc, h⟩ := bd_el h
        refine tg_cRi (va_runV (As := [.int turn]) (rest := []) ⟨hx, hb, hml, hown, hts⟩ (qX7_stillIn l D cI cZ ad n many image turn shelf groups inn now makers makerMany queue turn F zr hc) (cwV 1 hts gX7_count_X7_stillIn rfl rfl rfl zVX7_stillIn ⟨Nat.le_of_ble_eq_true rfl, Nat.le_of_ble_eq_true rfl⟩) (tg_preV (r := (RX7, TX7, 11)) (ci := 6) (q0 := 0) hP hK hN rfl rfl) rfl rfl hl.1 rfl (lv_room (Nat.le_of_ble_eq_true rfl)) dX7_count_47 ⟨Nat.zero_le _, Nat.zero_le _⟩) ?_
        cases h
        exact W.iret hx hb hr (fun t ht hW => ⟨rfl, ht⟩) (fun _ h9 => absurd h9 List.not_mem_nil) dX7_count_50
      · rw [if_neg cb_2] at h
        by_cases cb_3 : zx1 = 3
        · rw [if_pos cb_3] at h
          refine tg_top (y := 3) cb_3.symm ?_
          refine lv_tableIn (tgt := 51) hx hb dX7_count_1 (by decide) (by decide) rfl (by decide) ?_
          refine lv_aload_n hx hb dX7_count_51 rfl (lv_at hl 0 rfl) ?_
          refine lv_aload_n hx hb dX7_count_52 rfl (lv_at hl 0 rfl) ?_
          refine va_get (D := D) (ci := 6) (v := .int turn) (C := RX7) (T := TX7) (N := 11) hx hb hts uX7_count_RX7 hown hK hP 0 rfl rfl 3 (by decide) (hts _ kX7_count_3) (fun _ h9 => h9) rfl dX7_count_53 ?_
          obtain ⟨zr_1, hc_1, h⟩ := bd_el h
          refine tg_cRi (va_runV (As := [.int turn]) (rest := []) ⟨hx, hb, hml, hown, hts⟩ (qX7_isEven l D cI cZ ad n many image turn shelf groups inn now makers makerMany queue turn F zr_1 hc_1) (cwV 1 hts gX7_count_X7_isEven rfl rfl rfl zVX7_isEven ⟨Nat.le_of_ble_eq_true rfl, Nat.le_of_ble_eq_true rfl⟩) (tg_preV (r := (RX7, TX7, 11)) (ci := 6) (q0 := 0) hP hK hN rfl rfl) rfl rfl hl.1 rfl (lv_room (Nat.le_of_ble_eq_true rfl)) dX7_count_56 ⟨Nat.zero_le _, Nat.zero_le _⟩) ?_
          refine lv_if_eq (tgt := 66) hx hb dX7_count_59 (by decide) (fun cb_4 => ?_) (fun cb_4 => ?_)
          · rw [if_pos cb_4] at h
            refine lv_iconst (v := 0) hx hb dX7_count_66 (by decide) ?_
            cases h
            exact W.iret hx hb hr (fun t ht hW => ⟨rfl, ht⟩) (fun _ h9 => absurd h9 List.not_mem_nil) dX7_count_67
          · rw [if_neg cb_4] at h
            refine lv_iconst (v := 1) hx hb dX7_count_62 (by decide) ?_
            refine lv_goto (tgt := 67) hx hb dX7_count_63 (by decide) ?_
            cases h
            exact W.iret hx hb hr (fun t ht hW => ⟨rfl, ht⟩) (fun _ h9 => absurd h9 List.not_mem_nil) dX7_count_67
        · rw [if_neg cb_3] at h
          refine lv_tableOut (tgt := 68) hx hb dX7_count_1 (sw4 cb cb_1 cb_2 cb_3) (by decide) ?_
          refine lv_bipush (v := (-2)) hx hb dX7_count_68 (by decide) ?_
          cases h
          exact W.iret hx hb hr (fun t ht hW => ⟨rfl, ht⟩) (fun _ h9 => absurd h9 List.not_mem_nil) dX7_count_70
theorem zVX7_count : yX7_count.cls = RX7 ∧ yX7_count.cls ≠ "java/lang/invoke/MethodHandle" ∧ yX7_count.cls ≠ "java/lang/invoke/VarHandle" ∧ (parseMethodDescriptor yX7_count.desc).map (fun d => d.parameters.length) = some 1 := by decide +kernel
