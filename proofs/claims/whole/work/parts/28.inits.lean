/-- a method that only reads, and hands back nothing -/
def tg_Rv : Array Value → State → Outcome → State → Prop := fun _ st oc t => oc = .returned none ∧ t.heap = st.heap
theorem tg_cRv {p : Program} {l : Launch} {e : Env} {R : Room} {s : State} {m : MethodId} {args : Array Value} {below : List Frame} {meth : Method} {c : Code} {H : Heap} {locs : List Loc} {cells slots : Nat} {Q : State → Prop} {pc : Nat} {ls : Array Slot} {rest st0 : List Value} {a : Array Value} (hr : va_Run p l e R s m args below meth c H locs cells slots 0 0 (F0 m pc ls st0) rest (tg_Rv a) (fun _ => False)) (kk : W p l e R s m args below meth c H locs cells slots Q (F0 m (pc + 3) ls rest)) : W p l e R s m args below meth c H locs cells slots Q (F0 m pc ls st0) := by
  intro T hT X
  obtain ⟨v, st₀, t, T', L, h0, X', hL, e1, -, ⟨hv, hh⟩, st⟩ := hr T hT X
  cases hv
  obtain ⟨t2, a1, b1⟩ := kk T' (by rw [e1, hh, h0]) (Stand.forget X' (fun q h => (hL q h).elim))
  exact ⟨t2, st t2 a1, b1⟩
theorem kX5_init_1 : Cond.methodLink RX5 1 objectInit ∈ wsX5_init := by decide +kernel
theorem kX5_init_2 : Cond.instanceMethod objectInit ∈ wsX5_init := by decide +kernel
set_option maxRecDepth 100000 in
set_option maxHeartbeats 4000000 in
theorem qX5_init (l : Launch) (D : va_G) (a : Nat) : Met l yX5_init wsX5_init ({ frames := 1, cells := 0, slots := 0, locals := 12 } : Room) (tg_P D [] [.ref a] []) tg_Rv 0 0 (fun _ => False) := by
  refine Met.ofW (cc := cX5_init) (maxL := 1) (ret := none) (by decide) rfl ?_
  intro p e s m zargs zbelow zmeth c s₁ B hml hv
  obtain ⟨hargs, hP, hK, hN⟩ := hv
  have hx := B.exec
  have hb := B.bytes
  have hr := B.returns
  have hts := atoms_spec (ws := wsX5_init) B.pre
  have hown : s.vm.findClass RX5 = some m.cls := findClass_of_methodNamed B.named
  have hlocks := B.notSynchronized
  have hl := lv_entry ([.ref a]) (n := 1) (Nat.le_of_ble_eq_true rfl)
  refine W.eq (g2 := entryFrame m ([.ref a] : List Value).toArray 1) (by rw [hargs]) ?_
  rw [lg_entry_eq]
  generalize (lg_sl ([.ref a]) ++ List.replicate (1 - (lg_sl ([.ref a])).length) Slot.unset).toArray = zls at hl ⊢
  have hl : lv_has zls 1 [(0, .ref a)] := hl
  refine lv_aload_n hx hb dX5_init_0 rfl (lv_at hl 0 rfl) ?_
  refine W.objInit hx hb hown (hts _ kX5_init_1) (hts _ kX5_init_2) (hts _ (List.mem_cons_of_mem _ (List.mem_of_getElem? (i := 2) rfl))) rfl (by rw [hml]; exact hl.1) rfl dX5_init_1 (Nat.le_of_ble_eq_true rfl) (Nat.le_of_ble_eq_true rfl) ?_
  refine W.eq (g2 := F0 m 4 zls []) rfl ?_
  exact W.vret hx hb hr (fun t ht hW => ⟨rfl, ht⟩) (fun _ h9 => absurd h9 List.not_mem_nil) dX5_init_4
theorem zSX5_init : yX5_init.cls ≠ "java/lang/invoke/MethodHandle" ∧ yX5_init.cls ≠ "java/lang/invoke/VarHandle" ∧ (parseMethodDescriptor yX5_init.desc).map (fun d => d.parameters.length) = some 0 := by decide +kernel
theorem kX0_init_1 : Cond.initialized RX5 ∈ wsX0_init := by decide +kernel
theorem kX0_init_2 : Cond.instanceMethod yX5_init ∈ wsX0_init := by decide +kernel
theorem uX0_init_RX0 : ∀ w ∈ u_ws RX0 TX0 2, w ∈ wsX0_init := by decide +kernel
theorem kX0_init_f0 : Cond.fieldLink RX0 7 "TurnGroups$CarriesSet" "from" "I" ∈ wsX0_init := by decide +kernel
theorem kX0_init_f1 : Cond.fieldLink RX0 13 "TurnGroups$CarriesSet" "onto" "I" ∈ wsX0_init := by decide +kernel
set_option maxRecDepth 100000 in
set_option maxHeartbeats 4000000 in
theorem qX0_init (l : Launch) (D : va_G) (ad : Nat → Nat) (z0 : Int32) (z1 : Int32) (zx1 : Int32) (zx2 : Int32) : Met l yX0_init wsX0_init ({ frames := 2, cells := 0, slots := 0, locals := 32 } : Room) (tg_PM D [] [.ref (ad 0), .int zx1, .int zx2] ([(ad 0, .inr (0, [.int z0, .int z1]))])) (tg_Mv D ([(ad 0, .inr (0, [.int z0, .int z1]))]) ([(ad 0, .inr (0, [.int zx1, .int zx2]))])) 0 0 (tg_in ([(ad 0, .inr (0, [.int z0, .int z1]))])) := by
  refine Met.ofW (cc := cX0_init) (maxL := 3) (ret := none) (by decide) rfl ?_
  intro p e s m zargs zbelow zmeth c s₁ B hml hv
  obtain ⟨hargs, hP, hK, hN, hD0⟩ := hv
  have hx := B.exec
  have hb := B.bytes
  have hr := B.returns
  have hts := atoms_spec (ws := wsX0_init) B.pre
  have hown : s.vm.findClass RX0 = some m.cls := findClass_of_methodNamed B.named
  have hlocks := B.notSynchronized
  have hin : zmeth.name = "<init>" := (name_of_methodNamed B.named B.method).1
  have hDD : tg_DD (tg_in ([(ad 0, .inr (0, [.int z0, .int z1]))])) [ad 0] := tg_DD.of (tg_D hD0) rfl
  have hS : va_S (tg_in ([(ad 0, .inr (0, [.int z0, .int z1]))])) s.heap s.heap [] := va_S.rf
  have hl := lv_entry ([.ref (ad 0), .int zx1, .int zx2]) (n := 3) (Nat.le_of_ble_eq_true rfl)
  refine W.eq (g2 := entryFrame m ([.ref (ad 0), .int zx1, .int zx2] : List Value).toArray 3) (by rw [hargs]) ?_
  rw [lg_entry_eq]
  generalize (lg_sl ([.ref (ad 0), .int zx1, .int zx2]) ++ List.replicate (3 - (lg_sl ([.ref (ad 0), .int zx1, .int zx2])).length) Slot.unset).toArray = zls at hl ⊢
  have hl : lv_has zls 3 [(0, .ref (ad 0)), (1, .int zx1), (2, .int zx2)] := hl
  refine lv_aload_n hx hb dX0_init_0 rfl (lv_at hl 0 rfl) ?_
  refine tg_cRv (va_runIN (As := []) (rest := []) ⟨hx, hb, hml, hown, hts⟩ (qX5_init l D (ad 0)) ⟨va_cnB 0 hts gX0_init_X5_init_n1 rfl rfl rfl (hN _ nw_X0_1) (hts _ kX0_init_1) zSX5_init ⟨Nat.le_of_ble_eq_true rfl, Nat.le_of_ble_eq_true rfl⟩, rfl, hts _ kX0_init_2⟩ (tg_preS tg_nil (hK.sub (tys' := []) [] rfl) hN) rfl rfl hl.1 rfl (lv_room (Nat.le_of_ble_eq_true rfl)) dX0_init_1 ⟨Nat.zero_le _, Nat.zero_le _⟩) ?_
  refine W.eq (g2 := F0 m 4 zls []) rfl ?_
  refine lv_aload_n hx hb dX0_init_4 rfl (lv_at hl 0 rfl) ?_
  refine lv_iload_n hx hb dX0_init_5 rfl (lv_at hl 1 rfl) ?_
  refine va_putF (D := D) (ci := 0) (v := .int zx1) (ty := .int) (C := RX0) (T := TX0) (N := 2) hx hb hts uX0_init_RX0 tyX0 tyX0_ok nmX0 hown hK hP (hDD _ rfl) hS 0 rfl rfl 0 (by decide) (hts _ kX0_init_f0) (fun _ h9 => h9) rfl hin rfl (by decide +kernel) rfl rfl (Nat.le_of_ble_eq_true rfl) dX0_init_6 (fun zH zlocs hP _ hS => ?_)
  have hP : va_P D vwCl [(ad 0, .inr (0, [.int zx1, .int z1]))] zH := hP
  refine lv_aload_n hx hb dX0_init_9 rfl (lv_at hl 0 rfl) ?_
  refine lv_iload_n hx hb dX0_init_10 rfl (lv_at hl 2 rfl) ?_
  refine va_putF (D := D) (ci := 0) (v := .int zx2) (ty := .int) (C := RX0) (T := TX0) (N := 2) hx hb hts uX0_init_RX0 tyX0 tyX0_ok nmX0 hown hK hP (hDD _ rfl) hS 0 rfl rfl 1 (by decide) (hts _ kX0_init_f1) (fun _ h9 => h9) rfl hin rfl (by decide +kernel) rfl rfl (Nat.le_of_ble_eq_true rfl) dX0_init_11 (fun zH zlocs hP _ hS => ?_)
  have hP : va_P D vwCl [(ad 0, .inr (0, [.int zx1, .int zx2]))] zH := hP
  exact W.vret hx hb hr (fun t ht hW => ⟨rfl, by rw [ht]; exact hP, hS.F ht⟩) hS.2.2 dX0_init_14
theorem zSX0_init : yX0_init.cls ≠ "java/lang/invoke/MethodHandle" ∧ yX0_init.cls ≠ "java/lang/invoke/VarHandle" ∧ (parseMethodDescriptor yX0_init.desc).map (fun d => d.parameters.length) = some 2 := by decide +kernel
theorem kX2_init_1 : Cond.initialized RX5 ∈ wsX2_init := by decide +kernel
theorem kX2_init_2 : Cond.instanceMethod yX5_init ∈ wsX2_init := by decide +kernel
theorem uX2_init_RX2 : ∀ w ∈ u_ws RX2 TX2 1, w ∈ wsX2_init := by decide +kernel
theorem kX2_init_f0 : Cond.fieldLink RX2 7 "TurnGroups$FixesSet" "set" "I" ∈ wsX2_init := by decide +kernel
set_option maxRecDepth 100000 in
set_option maxHeartbeats 4000000 in
theorem qX2_init (l : Launch) (D : va_G) (ad : Nat → Nat) (z0 : Int32) (zx1 : Int32) : Met l yX2_init wsX2_init ({ frames := 2, cells := 0, slots := 0, locals := 32 } : Room) (tg_PM D [] [.ref (ad 0), .int zx1] ([(ad 0, .inr (2, [.int z0]))])) (tg_Mv D ([(ad 0, .inr (2, [.int z0]))]) ([(ad 0, .inr (2, [.int zx1]))])) 0 0 (tg_in ([(ad 0, .inr (2, [.int z0]))])) := by
  refine Met.ofW (cc := cX2_init) (maxL := 2) (ret := none) (by decide) rfl ?_
  intro p e s m zargs zbelow zmeth c s₁ B hml hv
  obtain ⟨hargs, hP, hK, hN, hD0⟩ := hv
  have hx := B.exec
  have hb := B.bytes
  have hr := B.returns
  have hts := atoms_spec (ws := wsX2_init) B.pre
  have hown : s.vm.findClass RX2 = some m.cls := findClass_of_methodNamed B.named
  have hlocks := B.notSynchronized
  have hin : zmeth.name = "<init>" := (name_of_methodNamed B.named B.method).1
  have hDD : tg_DD (tg_in ([(ad 0, .inr (2, [.int z0]))])) [ad 0] := tg_DD.of (tg_D hD0) rfl
  have hS : va_S (tg_in ([(ad 0, .inr (2, [.int z0]))])) s.heap s.heap [] := va_S.rf
  have hl := lv_entry ([.ref (ad 0), .int zx1]) (n := 2) (Nat.le_of_ble_eq_true rfl)
  refine W.eq (g2 := entryFrame m ([.ref (ad 0), .int zx1] : List Value).toArray 2) (by rw [hargs]) ?_
  rw [lg_entry_eq]
  generalize (lg_sl ([.ref (ad 0), .int zx1]) ++ List.replicate (2 - (lg_sl ([.ref (ad 0), .int zx1])).length) Slot.unset).toArray = zls at hl ⊢
  have hl : lv_has zls 2 [(0, .ref (ad 0)), (1, .int zx1)] := hl
  refine lv_aload_n hx hb dX2_init_0 rfl (lv_at hl 0 rfl) ?_
  refine tg_cRv (va_runIN (As := []) (rest := []) ⟨hx, hb, hml, hown, hts⟩ (qX5_init l D (ad 0)) ⟨va_cnB 0 hts gX2_init_X5_init_n1 rfl rfl rfl (hN _ nw_X2_1) (hts _ kX2_init_1) zSX5_init ⟨Nat.le_of_ble_eq_true rfl, Nat.le_of_ble_eq_true rfl⟩, rfl, hts _ kX2_init_2⟩ (tg_preS tg_nil (hK.sub (tys' := []) [] rfl) hN) rfl rfl hl.1 rfl (lv_room (Nat.le_of_ble_eq_true rfl)) dX2_init_1 ⟨Nat.zero_le _, Nat.zero_le _⟩) ?_
  refine W.eq (g2 := F0 m 4 zls []) rfl ?_
  refine lv_aload_n hx hb dX2_init_4 rfl (lv_at hl 0 rfl) ?_
  refine lv_iload_n hx hb dX2_init_5 rfl (lv_at hl 1 rfl) ?_
  refine va_putF (D := D) (ci := 2) (v := .int zx1) (ty := .int) (C := RX2) (T := TX2) (N := 1) hx hb hts uX2_init_RX2 tyX2 tyX2_ok nmX2 hown hK hP (hDD _ rfl) hS 0 rfl rfl 0 (by decide) (hts _ kX2_init_f0) (fun _ h9 => h9) rfl hin rfl (by decide +kernel) rfl rfl (Nat.le_of_ble_eq_true rfl) dX2_init_6 (fun zH zlocs hP _ hS => ?_)
  have hP : va_P D vwCl [(ad 0, .inr (2, [.int zx1]))] zH := hP
  exact W.vret hx hb hr (fun t ht hW => ⟨rfl, by rw [ht]; exact hP, hS.F ht⟩) hS.2.2 dX2_init_9
theorem zSX2_init : yX2_init.cls ≠ "java/lang/invoke/MethodHandle" ∧ yX2_init.cls ≠ "java/lang/invoke/VarHandle" ∧ (parseMethodDescriptor yX2_init.desc).map (fun d => d.parameters.length) = some 1 := by decide +kernel
theorem kX1_init_1 : Cond.initialized RX5 ∈ wsX1_init := by decide +kernel
theorem kX1_init_2 : Cond.instanceMethod yX5_init ∈ wsX1_init := by decide +kernel
theorem uX1_init_RX1 : ∀ w ∈ u_ws RX1 TX1 1, w ∈ wsX1_init := by decide +kernel
theorem kX1_init_f0 : Cond.fieldLink RX1 7 "TurnGroups$Commutes" "tower" "LTurnGroups$Tower;" ∈ wsX1_init := by decide +kernel
set_option maxRecDepth 100000 in
set_option maxHeartbeats 4000000 in
theorem qX1_init (l : Launch) (D : va_G) (ad : Nat → Nat) (od : Nat → Nat) : Met l yX1_init wsX1_init ({ frames := 2, cells := 0, slots := 0, locals := 32 } : Room) (tg_PM D [] [.ref (ad 0), .ref (od 0)] ([(ad 0, .inr (1, [.null]))])) (tg_Mv D ([(ad 0, .inr (1, [.null]))]) ([(ad 0, .inr (1, [.ref (od 0)]))])) 0 0 (tg_in ([(ad 0, .inr (1, [.null]))])) := by
  refine Met.ofW (cc := cX1_init) (maxL := 2) (ret := none) (by decide) rfl ?_
  intro p e s m zargs zbelow zmeth c s₁ B hml hv
  obtain ⟨hargs, hP, hK, hN, hD0⟩ := hv
  have hx := B.exec
  have hb := B.bytes
  have hr := B.returns
  have hts := atoms_spec (ws := wsX1_init) B.pre
  have hown : s.vm.findClass RX1 = some m.cls := findClass_of_methodNamed B.named
  have hlocks := B.notSynchronized
  have hin : zmeth.name = "<init>" := (name_of_methodNamed B.named B.method).1
  have hDD : tg_DD (tg_in ([(ad 0, .inr (1, [.null]))])) [ad 0] := tg_DD.of (tg_D hD0) rfl
  have hS : va_S (tg_in ([(ad 0, .inr (1, [.null]))])) s.heap s.heap [] := va_S.rf
  have hl := lv_entry ([.ref (ad 0), .ref (od 0)]) (n := 2) (Nat.le_of_ble_eq_true rfl)
  refine W.eq (g2 := entryFrame m ([.ref (ad 0), .ref (od 0)] : List Value).toArray 2) (by rw [hargs]) ?_
  rw [lg_entry_eq]
  generalize (lg_sl ([.ref (ad 0), .ref (od 0)]) ++ List.replicate (2 - (lg_sl ([.ref (ad 0), .ref (od 0)])).length) Slot.unset).toArray = zls at hl ⊢
  have hl : lv_has zls 2 [(0, .ref (ad 0)), (1, .ref (od 0))] := hl
  refine lv_aload_n hx hb dX1_init_0 rfl (lv_at hl 0 rfl) ?_
  refine tg_cRv (va_runIN (As := []) (rest := []) ⟨hx, hb, hml, hown, hts⟩ (qX5_init l D (ad 0)) ⟨va_cnB 0 hts gX1_init_X5_init_n1 rfl rfl rfl (hN _ nw_X1_1) (hts _ kX1_init_1) zSX5_init ⟨Nat.le_of_ble_eq_true rfl, Nat.le_of_ble_eq_true rfl⟩, rfl, hts _ kX1_init_2⟩ (tg_preS tg_nil (hK.sub (tys' := []) [] rfl) hN) rfl rfl hl.1 rfl (lv_room (Nat.le_of_ble_eq_true rfl)) dX1_init_1 ⟨Nat.zero_le _, Nat.zero_le _⟩) ?_
  refine W.eq (g2 := F0 m 4 zls []) rfl ?_
  refine lv_aload_n hx hb dX1_init_4 rfl (lv_at hl 0 rfl) ?_
  refine lv_aload_n hx hb dX1_init_5 rfl (lv_at hl 1 rfl) ?_
  refine va_putF (D := D) (ci := 1) (v := .ref (od 0)) (ty := (.object "TurnGroups$Tower")) (C := RX1) (T := TX1) (N := 1) hx hb hts uX1_init_RX1 tyX1 tyX1_ok nmX1 hown hK hP (hDD _ rfl) hS 0 rfl rfl 0 (by decide) (hts _ kX1_init_f0) (fun _ h9 => h9) rfl hin rfl (by decide +kernel) rfl rfl (Nat.le_of_ble_eq_true rfl) dX1_init_6 (fun zH zlocs hP _ hS => ?_)
  have hP : va_P D vwCl [(ad 0, .inr (1, [.ref (od 0)]))] zH := hP
  exact W.vret hx hb hr (fun t ht hW => ⟨rfl, by rw [ht]; exact hP, hS.F ht⟩) hS.2.2 dX1_init_9
theorem zSX1_init : yX1_init.cls ≠ "java/lang/invoke/MethodHandle" ∧ yX1_init.cls ≠ "java/lang/invoke/VarHandle" ∧ (parseMethodDescriptor yX1_init.desc).map (fun d => d.parameters.length) = some 1 := by decide +kernel
theorem kX3_init_1 : Cond.initialized RX5 ∈ wsX3_init := by decide +kernel
theorem kX3_init_2 : Cond.instanceMethod yX5_init ∈ wsX3_init := by decide +kernel
theorem uX3_init_RX3 : ∀ w ∈ u_ws RX3 TX3 1, w ∈ wsX3_init := by decide +kernel
theorem kX3_init_f0 : Cond.fieldLink RX3 7 "TurnGroups$InTower" "tower" "LTurnGroups$Tower;" ∈ wsX3_init := by decide +kernel
set_option maxRecDepth 100000 in
set_option maxHeartbeats 4000000 in
theorem qX3_init (l : Launch) (D : va_G) (ad : Nat → Nat) (od : Nat → Nat) : Met l yX3_init wsX3_init ({ frames := 2, cells := 0, slots := 0, locals := 32 } : Room) (tg_PM D [] [.ref (ad 0), .ref (od 0)] ([(ad 0, .inr (3, [.null]))])) (tg_Mv D ([(ad 0, .inr (3, [.null]))]) ([(ad 0, .inr (3, [.ref (od 0)]))])) 0 0 (tg_in ([(ad 0, .inr (3, [.null]))])) := by
  refine Met.ofW (cc := cX3_init) (maxL := 2) (ret := none) (by decide) rfl ?_
  intro p e s m zargs zbelow zmeth c s₁ B hml hv
  obtain ⟨hargs, hP, hK, hN, hD0⟩ := hv
  have hx := B.exec
  have hb := B.bytes
  have hr := B.returns
  have hts := atoms_spec (ws := wsX3_init) B.pre
  have hown : s.vm.findClass RX3 = some m.cls := findClass_of_methodNamed B.named
  have hlocks := B.notSynchronized
  have hin : zmeth.name = "<init>" := (name_of_methodNamed B.named B.method).1
  have hDD : tg_DD (tg_in ([(ad 0, .inr (3, [.null]))])) [ad 0] := tg_DD.of (tg_D hD0) rfl
  have hS : va_S (tg_in ([(ad 0, .inr (3, [.null]))])) s.heap s.heap [] := va_S.rf
  have hl := lv_entry ([.ref (ad 0), .ref (od 0)]) (n := 2) (Nat.le_of_ble_eq_true rfl)
  refine W.eq (g2 := entryFrame m ([.ref (ad 0), .ref (od 0)] : List Value).toArray 2) (by rw [hargs]) ?_
  rw [lg_entry_eq]
  generalize (lg_sl ([.ref (ad 0), .ref (od 0)]) ++ List.replicate (2 - (lg_sl ([.ref (ad 0), .ref (od 0)])).length) Slot.unset).toArray = zls at hl ⊢
  have hl : lv_has zls 2 [(0, .ref (ad 0)), (1, .ref (od 0))] := hl
  refine lv_aload_n hx hb dX3_init_0 rfl (lv_at hl 0 rfl) ?_
  refine tg_cRv (va_runIN (As := []) (rest := []) ⟨hx, hb, hml, hown, hts⟩ (qX5_init l D (ad 0)) ⟨va_cnB 0 hts gX3_init_X5_init_n1 rfl rfl rfl (hN _ nw_X3_1) (hts _ kX3_init_1) zSX5_init ⟨Nat.le_of_ble_eq_true rfl, Nat.le_of_ble_eq_true rfl⟩, rfl, hts _ kX3_init_2⟩ (tg_preS tg_nil (hK.sub (tys' := []) [] rfl) hN) rfl rfl hl.1 rfl (lv_room (Nat.le_of_ble_eq_true rfl)) dX3_init_1 ⟨Nat.zero_le _, Nat.zero_le _⟩) ?_
  refine W.eq (g2 := F0 m 4 zls []) rfl ?_
  refine lv_aload_n hx hb dX3_init_4 rfl (lv_at hl 0 rfl) ?_
  refine lv_aload_n hx hb dX3_init_5 rfl (lv_at hl 1 rfl) ?_
  refine va_putF (D := D) (ci := 3) (v := .ref (od 0)) (ty := (.object "TurnGroups$Tower")) (C := RX3) (T := TX3) (N := 1) hx hb hts uX3_init_RX3 tyX3 tyX3_ok nmX3 hown hK hP (hDD _ rfl) hS 0 rfl rfl 0 (by decide) (hts _ kX3_init_f0) (fun _ h9 => h9) rfl hin rfl (by decide +kernel) rfl rfl (Nat.le_of_ble_eq_true rfl) dX3_init_6 (fun zH zlocs hP _ hS => ?_)
  have hP : va_P D vwCl [(ad 0, .inr (3, [.ref (od 0)]))] zH := hP
  exact W.vret hx hb hr (fun t ht hW => ⟨rfl, by rw [ht]; exact hP, hS.F ht⟩) hS.2.2 dX3_init_9
theorem zSX3_init : yX3_init.cls ≠ "java/lang/invoke/MethodHandle" ∧ yX3_init.cls ≠ "java/lang/invoke/VarHandle" ∧ (parseMethodDescriptor yX3_init.desc).map (fun d => d.parameters.length) = some 1 := by decide +kernel
