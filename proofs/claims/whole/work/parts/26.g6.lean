/-! ===== public static void fill(int[], int); ===== -/
def mJ7_fill_53178_L5 (zx1 : Int32) (zx3 : Int32) : Nat → Int32 → (Nat → Int32) → Option ((Nat → Int32))
  | 0, _, _ => none
  | f + 1, zx2, row => if zx3 ≤ zx2 then (some row) else (gd (inb zx2 8) (lT (upd row (Int32.toNatClampNeg zx2) zx1) (fun row_1 => mJ7_fill_53178_L5 zx1 zx3 f (zx2 + 1) row_1)))
theorem mJ7_fill_53178_L5_s (zx1 : Int32) (zx3 : Int32) (f : Nat) (zx2 : Int32) (row : Nat → Int32) : mJ7_fill_53178_L5 zx1 zx3 (f + 1) zx2 row = (if zx3 ≤ zx2 then (some row) else (gd (inb zx2 8) (lT (upd row (Int32.toNatClampNeg zx2) zx1) (fun row_1 => mJ7_fill_53178_L5 zx1 zx3 f (zx2 + 1) row_1)))) := rfl
def mJ7_fill_53178 (F : Nat) (row : Nat → Int32) (zx1 : Int32) : Option ((Nat → Int32)) := bd (mJ7_fill_53178_L5 zx1 8 F 0 row) (fun row_1 => some row_1)
set_option maxRecDepth 100000 in
set_option maxHeartbeats 4000000 in
theorem wJ7_fill_53178_L5 {p : Program} {l : Launch} {e : Env} {s : State} {m : MethodId} {zargs : Array Value} {zbelow : List Frame} {zmeth : Method} {c : Code} {D : va_G} {zQ : State → Prop} {zA : Nat → Prop} {ad : Nat → Nat} {cI : ClassId} {zx1 : Int32} {zx3 : Int32} (C0 : tg_C p s m zmeth c zargs cJ7_fill_53178 RJ7 wsJ7_fill_53178 4 D [(cI, .int)]) (hDD : tg_DD zA [ad 0]) (hlocks : zmeth.locks = false) (hr : zmeth.sig.returnType = none) (F : Nat) : ∀ (f : Nat) (zx2 : Int32) (row : Nat → Int32) (orow : Nat → Int32), mJ7_fill_53178_L5 zx1 zx3 f zx2 row = some orow → ∀ (zH : Heap) (zlocs : List Loc), va_P D vwCl (wA cI ad row) zH → va_S zA s.heap zH zlocs → ∀ (zls : Array Slot), lv_has zls 4 [(0, .ref (ad 0)), (1, .int zx1), (2, .int zx2), (3, .int zx3)] → (∀ (zH : Heap) (zlocs : List Loc), va_P D vwCl (wA cI ad orow) zH → va_S zA s.heap zH zlocs → ∀ (zls : Array Slot), lv_has zls 4 [] → W p l e ({ frames := 0, cells := 0, slots := 0, locals := 0 } : Room) s m zargs zbelow zmeth c zH zlocs 0 0 zQ (F0 m 20 zls [])) → W p l e ({ frames := 0, cells := 0, slots := 0, locals := 0 } : Room) s m zargs zbelow zmeth c zH zlocs 0 0 zQ (F0 m 5 zls []) := by
  obtain ⟨hx, hb, hml, hown, hts, hK, hN⟩ := C0
  intro f
  induction f with
  | zero => intro _ _ _ h; exact absurd (show none = some _ from h) (fun h9 => by cases h9)
  | succ f ih =>
    intro zx2 row orow h zH zlocs hP hS zls hl kk
    rw [mJ7_fill_53178_L5_s] at h
    refine lv_iload_n hx hb dJ7_fill_53178_5 rfl (lv_at hl 2 rfl) ?_
    refine lv_iload_n hx hb dJ7_fill_53178_6 rfl (lv_at hl 3 rfl) ?_
    refine lv_icmp_ge (tgt := 20) hx hb dJ7_fill_53178_7 (by decide) (fun cb => ?_) (fun cb => ?_)
    · rw [if_pos cb] at h
      cases h
      exact kk _ _ hP hS _ (lv_sub hl [] rfl)
    · rw [if_neg cb] at h
      refine lv_aload_n hx hb dJ7_fill_53178_10 rfl (lv_at hl 0 rfl) ?_
      refine lv_iload_n hx hb dJ7_fill_53178_11 rfl (lv_at hl 2 rfl) ?_
      refine lv_iload_n hx hb dJ7_fill_53178_12 rfl (lv_at hl 1 rfl) ?_
      obtain ⟨gg, h⟩ := gd_el h
      obtain ⟨row_1, erow_1, h⟩ := lT_el h
      refine va_iast hx hb hK hP (hDD _ rfl) hS 0 0 rfl rfl (inb_in gg) dJ7_fill_53178_13 (fun zH zlocs hP _ hS => ?_)
      have hP : va_P D vwCl (wA cI ad (upd row (Int32.toNatClampNeg zx2) zx1)) zH := hP
      rw [← erow_1] at hP
      refine lv_iinc (v := (zx2 + 1)) (lv' := [(2, .int (zx2 + 1)), (0, .ref (ad 0)), (1, .int zx1), (3, .int zx3)]) hx hb dJ7_fill_53178_14 hl (k := 2) rfl rfl (by decide) rfl (fun zls hl => ?_)
      refine lv_goto (tgt := 5) hx hb dJ7_fill_53178_17 (by decide) ?_
      exact ih _ _ _ h _ _ hP hS _ (lv_sub hl [1, 2, 0, 3] rfl) kk
set_option maxRecDepth 100000 in
set_option maxHeartbeats 4000000 in
theorem qJ7_fill_53178 (l : Launch) (D : va_G) (cI : ClassId) (ad : Nat → Nat) (row : Nat → Int32) (zx1 : Int32) (F : Nat) (orow : Nat → Int32) (h : mJ7_fill_53178 F row zx1 = some orow) : Met l yJ7_fill_53178 wsJ7_fill_53178 ({ frames := 0, cells := 0, slots := 0, locals := 0 } : Room) (tg_PM D [(cI, .int)] [.ref (ad 0), .int zx1] (wA cI ad row)) (tg_Mv D (wA cI ad row) (wA cI ad orow)) 0 0 (tg_in (wA cI ad row)) := by
  refine Met.ofW (cc := cJ7_fill_53178) (maxL := 4) (ret := none) (by decide) rfl ?_
  intro p e s m zargs zbelow zmeth c s₁ B hml hv
  obtain ⟨hargs, hP, hK, hN, hD0⟩ := hv
  have hx := B.exec
  have hb := B.bytes
  have hr := B.returns
  have hts := atoms_spec (ws := wsJ7_fill_53178) B.pre
  have hown : s.vm.findClass RJ7 = some m.cls := findClass_of_methodNamed B.named
  have hlocks := B.notSynchronized
  have hDD : tg_DD (tg_in (wA cI ad row)) [ad 0] := tg_DD.of (tg_D hD0) rfl
  have hS : va_S (tg_in (wA cI ad row)) s.heap s.heap [] := va_S.rf
  have hl := lv_entry ([.ref (ad 0), .int zx1]) (n := 4) (Nat.le_of_ble_eq_true rfl)
  refine W.eq (g2 := entryFrame m ([.ref (ad 0), .int zx1] : List Value).toArray 4) (by rw [hargs]) ?_
  rw [lg_entry_eq]
  generalize (lg_sl ([.ref (ad 0), .int zx1]) ++ List.replicate (4 - (lg_sl ([.ref (ad 0), .int zx1])).length) Slot.unset).toArray = zls at hl ⊢
  have hl : lv_has zls 4 [(0, .ref (ad 0)), (1, .int zx1)] := hl
  rw [mJ7_fill_53178] at h
  refine lv_iconst (v := 0) hx hb dJ7_fill_53178_0 (by decide) ?_
  refine lv_istore_n (lv' := [(2, .int 0), (0, .ref (ad 0)), (1, .int zx1)]) hx hb dJ7_fill_53178_1 rfl hl (by decide) rfl (fun zls hl => ?_)
  refine lv_aload_n hx hb dJ7_fill_53178_2 rfl (lv_at hl 1 rfl) ?_
  refine va_alen (v := 8) hx hb hK hP 0 0 rfl rfl rfl dJ7_fill_53178_3 ?_
  refine lv_istore_n (lv' := [(3, .int 8), (2, .int 0), (0, .ref (ad 0)), (1, .int zx1)]) hx hb dJ7_fill_53178_4 rfl hl (by decide) rfl (fun zls hl => ?_)
  obtain ⟨row_1, hv, h⟩ := bd_el h
  refine wJ7_fill_53178_L5 ⟨hx, hb, hml, hown, hts, hK, hN⟩ hDD hlocks hr F F _ _ _ hv _ _ hP hS _ (lv_sub hl [2, 3, 1, 0] rfl) (fun zH zlocs hP hS zls hl => ?_)
  cases h
  exact W.vret hx hb hr (fun t ht hW => ⟨rfl, by rw [ht]; exact hP, hS.F ht⟩) hS.2.2 dJ7_fill_53178_20
theorem zSJ7_fill_53178 : yJ7_fill_53178.cls ≠ "java/lang/invoke/MethodHandle" ∧ yJ7_fill_53178.cls ≠ "java/lang/invoke/VarHandle" ∧ (parseMethodDescriptor yJ7_fill_53178.desc).map (fun d => d.parameters.length) = some 2 := by decide +kernel

/-! ===== private boolean isPoint(int); ===== -/
theorem kX6_isPoint_1 : Cond.fieldLink RX6 156 "TurnGroups" "pointCount" "I" ∈ wsX6_isPoint := by decide +kernel
theorem uX6_isPoint_RX6 : ∀ w ∈ u_ws RX6 TX6 6, w ∈ wsX6_isPoint := by decide +kernel
def mX6_isPoint (np : Int32) (zx1 : Int32) : Int32 := if zx1 < 0 then (0 : Int32) else (if np ≤ zx1 then (0 : Int32) else (1 : Int32))
set_option maxRecDepth 100000 in
set_option maxHeartbeats 4000000 in
theorem qX6_isPoint (l : Launch) (D : va_G) (cI : ClassId) (cT : ClassId) (ga : Nat → Nat) (ta : Nat → Nat → Nat) (shelf : Nat → Int32) (np : Int32) (ng : Int32) (cur : Int32) (tw : Nat → TW) (zx1 : Int32) (zr0 : Int32) (h : mX6_isPoint np zx1 = zr0) : Met l yX6_isPoint wsX6_isPoint ({ frames := 0, cells := 0, slots := 0, locals := 0 } : Room) (tg_P D [(cI, .int), (cT, .object "TurnGroups$Tower")] [.ref (ga 0), .int zx1] ((wG ta cI cT ga shelf np ng cur tw))) (tg_Ri zr0) 0 0 (fun _ => False) := by
  refine Met.ofW (cc := cX6_isPoint) (maxL := 2) (ret := (some .boolean)) (by decide) rfl ?_
  intro p e s m zargs zbelow zmeth c s₁ B hml hv
  obtain ⟨hargs, hP, hK, hN⟩ := hv
  have hx := B.exec
  have hb := B.bytes
  have hr := B.returns
  have hts := atoms_spec (ws := wsX6_isPoint) B.pre
  have hown : s.vm.findClass RX6 = some m.cls := findClass_of_methodNamed B.named
  have hlocks := B.notSynchronized
  have hl := lv_entry ([.ref (ga 0), .int zx1]) (n := 2) (Nat.le_of_ble_eq_true rfl)
  refine W.eq (g2 := entryFrame m ([.ref (ga 0), .int zx1] : List Value).toArray 2) (by rw [hargs]) ?_
  rw [lg_entry_eq]
  generalize (lg_sl ([.ref (ga 0), .int zx1]) ++ List.replicate (2 - (lg_sl ([.ref (ga 0), .int zx1])).length) Slot.unset).toArray = zls at hl ⊢
  have hl : lv_has zls 2 [(0, .ref (ga 0)), (1, .int zx1)] := hl
  rw [mX6_isPoint] at h
  refine lv_iload_n hx hb dX6_isPoint_0 rfl (lv_at hl 1 rfl) ?_
  refine lv_if_lt (tgt := 16) hx hb dX6_isPoint_1 (by decide) (fun cb => ?_) (fun cb => ?_)
  · rw [if_pos cb] at h
    refine lv_iconst (v := 0) hx hb dX6_isPoint_16 (by decide) ?_
    subst h
    exact W.zret hx hb hr rfl (fun t ht hW => ⟨rfl, ht⟩) (fun _ h9 => absurd h9 List.not_mem_nil) dX6_isPoint_17
  · rw [if_neg cb] at h
    refine lv_iload_n hx hb dX6_isPoint_4 rfl (lv_at hl 1 rfl) ?_
    refine lv_aload_n hx hb dX6_isPoint_5 rfl (lv_at hl 0 rfl) ?_
    refine va_get (D := D) (ci := 5) (v := .int np) (C := RX6) (T := TX6) (N := 6) hx hb hts uX6_isPoint_RX6 hown hK hP 0 rfl rfl 3 (by decide) (hts _ kX6_isPoint_1) (fun _ h9 => h9) rfl dX6_isPoint_6 ?_
    refine lv_icmp_ge (tgt := 16) hx hb dX6_isPoint_9 (by decide) (fun cb_1 => ?_) (fun cb_1 => ?_)
    · rw [if_pos cb_1] at h
      refine lv_iconst (v := 0) hx hb dX6_isPoint_16 (by decide) ?_
      subst h
      exact W.zret hx hb hr rfl (fun t ht hW => ⟨rfl, ht⟩) (fun _ h9 => absurd h9 List.not_mem_nil) dX6_isPoint_17
    · rw [if_neg cb_1] at h
      refine lv_iconst (v := 1) hx hb dX6_isPoint_12 (by decide) ?_
      refine lv_goto (tgt := 17) hx hb dX6_isPoint_13 (by decide) ?_
      subst h
      exact W.zret hx hb hr rfl (fun t ht hW => ⟨rfl, ht⟩) (fun _ h9 => absurd h9 List.not_mem_nil) dX6_isPoint_17
theorem zVX6_isPoint : yX6_isPoint.cls = RX6 ∧ yX6_isPoint.cls ≠ "java/lang/invoke/MethodHandle" ∧ yX6_isPoint.cls ≠ "java/lang/invoke/VarHandle" ∧ (parseMethodDescriptor yX6_isPoint.desc).map (fun d => d.parameters.length) = some 1 := by decide +kernel

/-! ===== private boolean isSet(int); ===== -/
theorem kX6_isSet_1 : Cond.fieldLink RX6 156 "TurnGroups" "pointCount" "I" ∈ wsX6_isSet := by decide +kernel
theorem uX6_isSet_RX6 : ∀ w ∈ u_ws RX6 TX6 6, w ∈ wsX6_isSet := by decide +kernel
def mX6_isSet (np : Int32) (zx1 : Int32) : Int32 := if zx1 < 0 then (0 : Int32) else (if (1 <<< (np &&& 31)) ≤ zx1 then (0 : Int32) else (1 : Int32))
set_option maxRecDepth 100000 in
set_option maxHeartbeats 4000000 in
theorem qX6_isSet (l : Launch) (D : va_G) (cI : ClassId) (cT : ClassId) (ga : Nat → Nat) (ta : Nat → Nat → Nat) (shelf : Nat → Int32) (np : Int32) (ng : Int32) (cur : Int32) (tw : Nat → TW) (zx1 : Int32) (zr0 : Int32) (h : mX6_isSet np zx1 = zr0) : Met l yX6_isSet wsX6_isSet ({ frames := 0, cells := 0, slots := 0, locals := 0 } : Room) (tg_P D [(cI, .int), (cT, .object "TurnGroups$Tower")] [.ref (ga 0), .int zx1] ((wG ta cI cT ga shelf np ng cur tw))) (tg_Ri zr0) 0 0 (fun _ => False) := by
  refine Met.ofW (cc := cX6_isSet) (maxL := 2) (ret := (some .boolean)) (by decide) rfl ?_
  intro p e s m zargs zbelow zmeth c s₁ B hml hv
  obtain ⟨hargs, hP, hK, hN⟩ := hv
  have hx := B.exec
  have hb := B.bytes
  have hr := B.returns
  have hts := atoms_spec (ws := wsX6_isSet) B.pre
  have hown : s.vm.findClass RX6 = some m.cls := findClass_of_methodNamed B.named
  have hlocks := B.notSynchronized
  have hl := lv_entry ([.ref (ga 0), .int zx1]) (n := 2) (Nat.le_of_ble_eq_true rfl)
  refine W.eq (g2 := entryFrame m ([.ref (ga 0), .int zx1] : List Value).toArray 2) (by rw [hargs]) ?_
  rw [lg_entry_eq]
  generalize (lg_sl ([.ref (ga 0), .int zx1]) ++ List.replicate (2 - (lg_sl ([.ref (ga 0), .int zx1])).length) Slot.unset).toArray = zls at hl ⊢
  have hl : lv_has zls 2 [(0, .ref (ga 0)), (1, .int zx1)] := hl
  rw [mX6_isSet] at h
  refine lv_iload_n hx hb dX6_isSet_0 rfl (lv_at hl 1 rfl) ?_
  refine lv_if_lt (tgt := 18) hx hb dX6_isSet_1 (by decide) (fun cb => ?_) (fun cb => ?_)
  · rw [if_pos cb] at h
    refine lv_iconst (v := 0) hx hb dX6_isSet_18 (by decide) ?_
    subst h
    exact W.zret hx hb hr rfl (fun t ht hW => ⟨rfl, ht⟩) (fun _ h9 => absurd h9 List.not_mem_nil) dX6_isSet_19
  · rw [if_neg cb] at h
    refine lv_iload_n hx hb dX6_isSet_4 rfl (lv_at hl 1 rfl) ?_
    refine lv_iconst (v := 1) hx hb dX6_isSet_5 (by decide) ?_
    refine lv_aload_n hx hb dX6_isSet_6 rfl (lv_at hl 0 rfl) ?_
    refine va_get (D := D) (ci := 5) (v := .int np) (C := RX6) (T := TX6) (N := 6) hx hb hts uX6_isSet_RX6 hown hK hP 0 rfl rfl 3 (by decide) (hts _ kX6_isSet_1) (fun _ h9 => h9) rfl dX6_isSet_7 ?_
    refine lv_ishl hx hb dX6_isSet_10 ?_
    refine lv_icmp_ge (tgt := 18) hx hb dX6_isSet_11 (by decide) (fun cb_1 => ?_) (fun cb_1 => ?_)
    · rw [if_pos cb_1] at h
      refine lv_iconst (v := 0) hx hb dX6_isSet_18 (by decide) ?_
      subst h
      exact W.zret hx hb hr rfl (fun t ht hW => ⟨rfl, ht⟩) (fun _ h9 => absurd h9 List.not_mem_nil) dX6_isSet_19
    · rw [if_neg cb_1] at h
      refine lv_iconst (v := 1) hx hb dX6_isSet_14 (by decide) ?_
      refine lv_goto (tgt := 19) hx hb dX6_isSet_15 (by decide) ?_
      subst h
      exact W.zret hx hb hr rfl (fun t ht hW => ⟨rfl, ht⟩) (fun _ h9 => absurd h9 List.not_mem_nil) dX6_isSet_19
theorem zVX6_isSet : yX6_isSet.cls = RX6 ∧ yX6_isSet.cls ≠ "java/lang/invoke/MethodHandle" ∧ yX6_isSet.cls ≠ "java/lang/invoke/VarHandle" ∧ (parseMethodDescriptor yX6_isSet.desc).map (fun d => d.parameters.length) = some 1 := by decide +kernel

/-! ===== private boolean isGroup(int); ===== -/
theorem kX6_isGroup_1 : Cond.fieldLink RX6 27 "TurnGroups" "groupCount" "I" ∈ wsX6_isGroup := by decide +kernel
theorem uX6_isGroup_RX6 : ∀ w ∈ u_ws RX6 TX6 6, w ∈ wsX6_isGroup := by decide +kernel
def mX6_isGroup (ng : Int32) (zx1 : Int32) : Int32 := if zx1 < 0 then (0 : Int32) else (if ng ≤ zx1 then (0 : Int32) else (1 : Int32))
set_option maxRecDepth 100000 in
set_option maxHeartbeats 4000000 in
theorem qX6_isGroup (l : Launch) (D : va_G) (cI : ClassId) (cT : ClassId) (ga : Nat → Nat) (ta : Nat → Nat → Nat) (shelf : Nat → Int32) (np : Int32) (ng : Int32) (cur : Int32) (tw : Nat → TW) (zx1 : Int32) (zr0 : Int32) (h : mX6_isGroup ng zx1 = zr0) : Met l yX6_isGroup wsX6_isGroup ({ frames := 0, cells := 0, slots := 0, locals := 0 } : Room) (tg_P D [(cI, .int), (cT, .object "TurnGroups$Tower")] [.ref (ga 0), .int zx1] ((wG ta cI cT ga shelf np ng cur tw))) (tg_Ri zr0) 0 0 (fun _ => False) := by
  refine Met.ofW (cc := cX6_isGroup) (maxL := 2) (ret := (some .boolean)) (by decide) rfl ?_
  intro p e s m zargs zbelow zmeth c s₁ B hml hv
  obtain ⟨hargs, hP, hK, hN⟩ := hv
  have hx := B.exec
  have hb := B.bytes
  have hr := B.returns
  have hts := atoms_spec (ws := wsX6_isGroup) B.pre
  have hown : s.vm.findClass RX6 = some m.cls := findClass_of_methodNamed B.named
  have hlocks := B.notSynchronized
  have hl := lv_entry ([.ref (ga 0), .int zx1]) (n := 2) (Nat.le_of_ble_eq_true rfl)
  refine W.eq (g2 := entryFrame m ([.ref (ga 0), .int zx1] : List Value).toArray 2) (by rw [hargs]) ?_
  rw [lg_entry_eq]
  generalize (lg_sl ([.ref (ga 0), .int zx1]) ++ List.replicate (2 - (lg_sl ([.ref (ga 0), .int zx1])).length) Slot.unset).toArray = zls at hl ⊢
  have hl : lv_has zls 2 [(0, .ref (ga 0)), (1, .int zx1)] := hl
  rw [mX6_isGroup] at h
  refine lv_iload_n hx hb dX6_isGroup_0 rfl (lv_at hl 1 rfl) ?_
  refine lv_if_lt (tgt := 16) hx hb dX6_isGroup_1 (by decide) (fun cb => ?_) (fun cb => ?_)
  · rw [if_pos cb] at h
    refine lv_iconst (v := 0) hx hb dX6_isGroup_16 (by decide) ?_
    subst h
    exact W.zret hx hb hr rfl (fun t ht hW => ⟨rfl, ht⟩) (fun _ h9 => absurd h9 List.not_mem_nil) dX6_isGroup_17
  · rw [if_neg cb] at h
    refine lv_iload_n hx hb dX6_isGroup_4 rfl (lv_at hl 1 rfl) ?_
    refine lv_aload_n hx hb dX6_isGroup_5 rfl (lv_at hl 0 rfl) ?_
    refine va_get (D := D) (ci := 5) (v := .int ng) (C := RX6) (T := TX6) (N := 6) hx hb hts uX6_isGroup_RX6 hown hK hP 0 rfl rfl 4 (by decide) (hts _ kX6_isGroup_1) (fun _ h9 => h9) rfl dX6_isGroup_6 ?_
    refine lv_icmp_ge (tgt := 16) hx hb dX6_isGroup_9 (by decide) (fun cb_1 => ?_) (fun cb_1 => ?_)
    · rw [if_pos cb_1] at h
      refine lv_iconst (v := 0) hx hb dX6_isGroup_16 (by decide) ?_
      subst h
      exact W.zret hx hb hr rfl (fun t ht hW => ⟨rfl, ht⟩) (fun _ h9 => absurd h9 List.not_mem_nil) dX6_isGroup_17
    · rw [if_neg cb_1] at h
      refine lv_iconst (v := 1) hx hb dX6_isGroup_12 (by decide) ?_
      refine lv_goto (tgt := 17) hx hb dX6_isGroup_13 (by decide) ?_
      subst h
      exact W.zret hx hb hr rfl (fun t ht hW => ⟨rfl, ht⟩) (fun _ h9 => absurd h9 List.not_mem_nil) dX6_isGroup_17
theorem zVX6_isGroup : yX6_isGroup.cls = RX6 ∧ yX6_isGroup.cls ≠ "java/lang/invoke/MethodHandle" ∧ yX6_isGroup.cls ≠ "java/lang/invoke/VarHandle" ∧ (parseMethodDescriptor yX6_isGroup.desc).map (fun d => d.parameters.length) = some 1 := by decide +kernel

/-! ===== private boolean isFull(); ===== -/
theorem kX6_isFull_1 : Cond.fieldLink RX6 27 "TurnGroups" "groupCount" "I" ∈ wsX6_isFull := by decide +kernel
theorem uX6_isFull_RX6 : ∀ w ∈ u_ws RX6 TX6 6, w ∈ wsX6_isFull := by decide +kernel
def mX6_isFull (ng : Int32) : Int32 := if ng < 10 then (0 : Int32) else (1 : Int32)
set_option maxRecDepth 100000 in
set_option maxHeartbeats 4000000 in
theorem qX6_isFull (l : Launch) (D : va_G) (cI : ClassId) (cT : ClassId) (ga : Nat → Nat) (ta : Nat → Nat → Nat) (shelf : Nat → Int32) (np : Int32) (ng : Int32) (cur : Int32) (tw : Nat → TW) (zr0 : Int32) (h : mX6_isFull ng = zr0) : Met l yX6_isFull wsX6_isFull ({ frames := 0, cells := 0, slots := 0, locals := 0 } : Room) (tg_P D [(cI, .int), (cT, .object "TurnGroups$Tower")] [.ref (ga 0)] ((wG ta cI cT ga shelf np ng cur tw))) (tg_Ri zr0) 0 0 (fun _ => False) := by
  refine Met.ofW (cc := cX6_isFull) (maxL := 1) (ret := (some .boolean)) (by decide) rfl ?_
  intro p e s m zargs zbelow zmeth c s₁ B hml hv
  obtain ⟨hargs, hP, hK, hN⟩ := hv
  have hx := B.exec
  have hb := B.bytes
  have hr := B.returns
  have hts := atoms_spec (ws := wsX6_isFull) B.pre
  have hown : s.vm.findClass RX6 = some m.cls := findClass_of_methodNamed B.named
  have hlocks := B.notSynchronized
  have hl := lv_entry ([.ref (ga 0)]) (n := 1) (Nat.le_of_ble_eq_true rfl)
  refine W.eq (g2 := entryFrame m ([.ref (ga 0)] : List Value).toArray 1) (by rw [hargs]) ?_
  rw [lg_entry_eq]
  generalize (lg_sl ([.ref (ga 0)]) ++ List.replicate (1 - (lg_sl ([.ref (ga 0)])).length) Slot.unset).toArray = zls at hl ⊢
  have hl : lv_has zls 1 [(0, .ref (ga 0))] := hl
  rw [mX6_isFull] at h
  refine lv_aload_n hx hb dX6_isFull_0 rfl (lv_at hl 0 rfl) ?_
  refine va_get (D := D) (ci := 5) (v := .int ng) (C := RX6) (T := TX6) (N := 6) hx hb hts uX6_isFull_RX6 hown hK hP 0 rfl rfl 4 (by decide) (hts _ kX6_isFull_1) (fun _ h9 => h9) rfl dX6_isFull_1 ?_
  refine lv_bipush (v := 10) hx hb dX6_isFull_4 (by decide) ?_
  refine lv_icmp_lt (tgt := 13) hx hb dX6_isFull_6 (by decide) (fun cb => ?_) (fun cb => ?_)
  · rw [if_pos cb] at h
    refine lv_iconst (v := 0) hx hb dX6_isFull_13 (by decide) ?_
    subst h
    exact W.zret hx hb hr rfl (fun t ht hW => ⟨rfl, ht⟩) (fun _ h9 => absurd h9 List.not_mem_nil) dX6_isFull_14
  · rw [if_neg cb] at h
    refine lv_iconst (v := 1) hx hb dX6_isFull_9 (by decide) ?_
    refine lv_goto (tgt := 14) hx hb dX6_isFull_10 (by decide) ?_
    subst h
    exact W.zret hx hb hr rfl (fun t ht hW => ⟨rfl, ht⟩) (fun _ h9 => absurd h9 List.not_mem_nil) dX6_isFull_14
theorem zVX6_isFull : yX6_isFull.cls = RX6 ∧ yX6_isFull.cls ≠ "java/lang/invoke/MethodHandle" ∧ yX6_isFull.cls ≠ "java/lang/invoke/VarHandle" ∧ (parseMethodDescriptor yX6_isFull.desc).map (fun d => d.parameters.length) = some 0 := by decide +kernel

/-! ===== private long ownBits(); ===== -/
theorem kX6_ownBits_1 : Cond.fieldLink RX6 156 "TurnGroups" "pointCount" "I" ∈ wsX6_ownBits := by decide +kernel
theorem uX6_ownBits_RX6 : ∀ w ∈ u_ws RX6 TX6 6, w ∈ wsX6_ownBits := by decide +kernel
def mX6_ownBits (np : Int32) : Int64 := ((1 <<< (Int32.toInt64 (4 * np) &&& 63)) - 1)
set_option maxRecDepth 100000 in
set_option maxHeartbeats 4000000 in
theorem qX6_ownBits (l : Launch) (D : va_G) (cI : ClassId) (cT : ClassId) (ga : Nat → Nat) (ta : Nat → Nat → Nat) (shelf : Nat → Int32) (np : Int32) (ng : Int32) (cur : Int32) (tw : Nat → TW) (zr0 : Int64) (h : mX6_ownBits np = zr0) : Met l yX6_ownBits wsX6_ownBits ({ frames := 0, cells := 0, slots := 0, locals := 0 } : Room) (tg_P D [(cI, .int), (cT, .object "TurnGroups$Tower")] [.ref (ga 0)] ((wG ta cI cT ga shelf np ng cur tw))) (tg_Rl zr0) 0 0 (fun _ => False) := by
  refine Met.ofW (cc := cX6_ownBits) (maxL := 1) (ret := (some .long)) (by decide) rfl ?_
  intro p e s m zargs zbelow zmeth c s₁ B hml hv
  obtain ⟨hargs, hP, hK, hN⟩ := hv
  have hx := B.exec
  have hb := B.bytes
  have hr := B.returns
  have hts := atoms_spec (ws := wsX6_ownBits) B.pre
  have hown : s.vm.findClass RX6 = some m.cls := findClass_of_methodNamed B.named
  have hlocks := B.notSynchronized
  have hl := lv_entry ([.ref (ga 0)]) (n := 1) (Nat.le_of_ble_eq_true rfl)
  refine W.eq (g2 := entryFrame m ([.ref (ga 0)] : List Value).toArray 1) (by rw [hargs]) ?_
  rw [lg_entry_eq]
  generalize (lg_sl ([.ref (ga 0)]) ++ List.replicate (1 - (lg_sl ([.ref (ga 0)])).length) Slot.unset).toArray = zls at hl ⊢
  have hl : lv_has zls 1 [(0, .ref (ga 0))] := hl
  rw [mX6_ownBits] at h
  refine lv_lconst (v := 1) hx hb dX6_ownBits_0 (by decide) ?_
  refine lv_iconst (v := 4) hx hb dX6_ownBits_1 (by decide) ?_
  refine lv_aload_n hx hb dX6_ownBits_2 rfl (lv_at hl 0 rfl) ?_
  refine va_get (D := D) (ci := 5) (v := .int np) (C := RX6) (T := TX6) (N := 6) hx hb hts uX6_ownBits_RX6 hown hK hP 0 rfl rfl 3 (by decide) (hts _ kX6_ownBits_1) (fun _ h9 => h9) rfl dX6_ownBits_3 ?_
  refine lv_imul hx hb dX6_ownBits_6 ?_
  refine lv_lshl (v := (1 <<< (Int32.toInt64 (4 * np) &&& 63))) hx hb dX6_ownBits_7 rfl ?_
  refine lv_lconst (v := 1) hx hb dX6_ownBits_8 (by decide) ?_
  refine lv_lsub hx hb dX6_ownBits_9 ?_
  subst h
  exact W.lret hx hb hr (fun t ht hW => ⟨rfl, ht⟩) (fun _ h9 => absurd h9 List.not_mem_nil) dX6_ownBits_10
theorem zVX6_ownBits : yX6_ownBits.cls = RX6 ∧ yX6_ownBits.cls ≠ "java/lang/invoke/MethodHandle" ∧ yX6_ownBits.cls ≠ "java/lang/invoke/VarHandle" ∧ (parseMethodDescriptor yX6_ownBits.desc).map (fun d => d.parameters.length) = some 0 := by decide +kernel

/-! ===== private boolean tellsTurn(long); ===== -/
theorem kX6_tellsTurn_1 : Cond.constantLong RX6 41 (-1) ∈ wsX6_tellsTurn := by decide +kernel
theorem kX6_tellsTurn_2 : Cond.fieldLink RX6 156 "TurnGroups" "pointCount" "I" ∈ wsX6_tellsTurn := by decide +kernel
theorem uX6_tellsTurn_RX6 : ∀ w ∈ u_ws RX6 TX6 6, w ∈ wsX6_tellsTurn := by decide +kernel
def mX6_tellsTurn_L22 (zx1 : Int64) (np : Int32) : Nat → Int32 → Int32 → Option (Int32)
  | 0, _, _ => none
  | f + 1, zx3, zx4 => if np ≤ zx4 then (if (mJ6_bitCount_0f7a4 zx3) = np then (some (1 : Int32)) else (some (0 : Int32))) else (lT ((Int64.toInt32 (zx1 >>> (Int32.toInt64 (4 * zx4) &&& 63))) &&& 15) (fun zx5 => if zx5 < np then (lT (zx3 ||| (1 <<< (zx5 &&& 31))) (fun zx3_1 => mX6_tellsTurn_L22 zx1 np f zx3_1 (zx4 + 1))) else (some (0 : Int32))))
theorem mX6_tellsTurn_L22_s (zx1 : Int64) (np : Int32) (f : Nat) (zx3 : Int32) (zx4 : Int32) : mX6_tellsTurn_L22 zx1 np (f + 1) zx3 zx4 = (if np ≤ zx4 then (if (mJ6_bitCount_0f7a4 zx3) = np then (some (1 : Int32)) else (some (0 : Int32))) else (lT ((Int64.toInt32 (zx1 >>> (Int32.toInt64 (4 * zx4) &&& 63))) &&& 15) (fun zx5 => if zx5 < np then (lT (zx3 ||| (1 <<< (zx5 &&& 31))) (fun zx3_1 => mX6_tellsTurn_L22 zx1 np f zx3_1 (zx4 + 1))) else (some (0 : Int32))))) := rfl
def mX6_tellsTurn (F : Nat) (np : Int32) (zx1 : Int64) : Option (Int32) := if (lg_cmp (zx1 &&& ((mX6_ownBits np) ^^^ (-1))) 0) = 0 then (mX6_tellsTurn_L22 zx1 np F 0 0) else (some (0 : Int32))
set_option maxRecDepth 100000 in
set_option maxHeartbeats 4000000 in
theorem wX6_tellsTurn_L22 {p : Program} {l : Launch} {e : Env} {s : State} {m : MethodId} {zargs : Array Value} {zbelow : List Frame} {zmeth : Method} {c : Code} {D : va_G} {ga : Nat → Nat} {ta : Nat → Nat → Nat} {cI cT : ClassId} {shelf : Nat → Int32} {np : Int32} {ng : Int32} {cur : Int32} {tw : Nat → TW} {zx1 : Int64} (C0 : tg_C p s m zmeth c zargs cX6_tellsTurn RX6 wsX6_tellsTurn 6 D [(cI, .int), (cT, .object "TurnGroups$Tower")]) (hP : va_P D vwCl (wG ta cI cT ga shelf np ng cur tw) s.heap) (hlocks : zmeth.locks = false) (hr : zmeth.sig.returnType = (some .boolean)) (F : Nat) : ∀ (f : Nat) (zx3 : Int32) (zx4 : Int32) (zr0 : Int32), mX6_tellsTurn_L22 zx1 np f zx3 zx4 = some zr0 → ∀ (zls : Array Slot), lv_has zls 6 [(0, .ref (ga 0)), (1, .long zx1), (3, .int zx3), (4, .int zx4)] → W p l e ({ frames := 1, cells := 0, slots := 0, locals := 20 } : Room) s m zargs zbelow zmeth c s.heap [] 0 0 (MQ zbelow (tg_Ri zr0) zargs s 0 0 (fun _ => False)) (F0 m 22 zls []) := by
  obtain ⟨hx, hb, hml, hown, hts, hK, hN⟩ := C0
  intro f
  induction f with
  | zero => intro _ _ _ h; exact absurd (show none = some _ from h) (fun h9 => by cases h9)
  | succ f ih =>
    intro zx3 zx4 zr0 h  zls hl 
    rw [mX6_tellsTurn_L22_s] at h
    refine lv_iload hx hb dX6_tellsTurn_22 (lv_at hl 3 rfl) ?_
    refine lv_aload_n hx hb dX6_tellsTurn_24 rfl (lv_at hl 0 rfl) ?_
    refine va_get (D := D) (ci := 5) (v := .int np) (C := RX6) (T := TX6) (N := 6) hx hb hts uX6_tellsTurn_RX6 hown hK hP 0 rfl rfl 3 (by decide) (hts _ kX6_tellsTurn_2) (fun _ h9 => h9) rfl dX6_tellsTurn_25 ?_
    refine lv_icmp_ge (tgt := 67) hx hb dX6_tellsTurn_28 (by decide) (fun cb => ?_) (fun cb => ?_)
    · rw [if_pos cb] at h
      refine lv_iload_n hx hb dX6_tellsTurn_67 rfl (lv_at hl 2 rfl) ?_
      refine tg_cRi (va_runS (As := [.int zx3]) (rest := []) ⟨hx, hb, hml, hown, hts⟩ (qJ6_bitCount_0f7a4 l D zx3 _ rfl) (va_cwS 1 hts gX6_tellsTurn_J6_bitCount_0f7a4 rfl rfl rfl zSJ6_bitCount_0f7a4 ⟨Nat.le_of_ble_eq_true rfl, Nat.le_of_ble_eq_true rfl⟩) (tg_preS tg_nil (hK.sub (tys' := []) [] rfl) hN) rfl rfl hl.1 rfl (lv_room (Nat.le_of_ble_eq_true rfl)) dX6_tellsTurn_68 ⟨Nat.zero_le _, Nat.zero_le _⟩) ?_
      refine lv_aload_n hx hb dX6_tellsTurn_71 rfl (lv_at hl 0 rfl) ?_
      refine va_get (D := D) (ci := 5) (v := .int np) (C := RX6) (T := TX6) (N := 6) hx hb hts uX6_tellsTurn_RX6 hown hK hP 0 rfl rfl 3 (by decide) (hts _ kX6_tellsTurn_2) (fun _ h9 => h9) rfl dX6_tellsTurn_72 ?_
      refine lv_icmp_ne (tgt := 82) hx hb dX6_tellsTurn_75 (by decide) (fun cb_1 => ?_) (fun cb_1 => ?_)
      · rw [if_neg cb_1] at h
        refine lv_iconst (v := 0) hx hb dX6_tellsTurn_82 (by decide) ?_
        cases h
        exact W.zret hx hb hr rfl (fun t ht hW => ⟨rfl, ht⟩) (fun _ h9 => absurd h9 List.not_mem_nil) dX6_tellsTurn_83
      · rw [if_pos cb_1] at h
        refine lv_iconst (v := 1) hx hb dX6_tellsTurn_78 (by decide) ?_
        refine lv_goto (tgt := 83) hx hb dX6_tellsTurn_79 (by decide) ?_
        cases h
        exact W.zret hx hb hr rfl (fun t ht hW => ⟨rfl, ht⟩) (fun _ h9 => absurd h9 List.not_mem_nil) dX6_tellsTurn_83
    · rw [if_neg cb] at h
      refine lv_lload_n hx hb dX6_tellsTurn_31 rfl (lv_at hl 1 rfl) ?_
      refine lv_iconst (v := 4) hx hb dX6_tellsTurn_32 (by decide) ?_
      refine lv_iload hx hb dX6_tellsTurn_33 (lv_at hl 3 rfl) ?_
      refine lv_imul hx hb dX6_tellsTurn_35 ?_
      refine lv_lshr (v := (zx1 >>> (Int32.toInt64 (4 * zx4) &&& 63))) hx hb dX6_tellsTurn_36 rfl ?_
      refine lv_l2i (v := (Int64.toInt32 (zx1 >>> (Int32.toInt64 (4 * zx4) &&& 63)))) hx hb dX6_tellsTurn_37 rfl ?_
      refine lv_bipush (v := 15) hx hb dX6_tellsTurn_38 (by decide) ?_
      refine lv_iand hx hb dX6_tellsTurn_40 ?_
      obtain ⟨zx5, ex5, h⟩ := lT_el h
      refine tg_top ex5 ?_
      refine lv_istore (lv' := [(5, .int zx5), (0, .ref (ga 0)), (1, .long zx1), (3, .int zx3), (4, .int zx4)]) hx hb dX6_tellsTurn_41 hl (by decide) rfl (fun zls hl => ?_)
      refine lv_iload hx hb dX6_tellsTurn_43 (lv_at hl 0 rfl) ?_
      refine lv_aload_n hx hb dX6_tellsTurn_45 rfl (lv_at hl 1 rfl) ?_
      refine va_get (D := D) (ci := 5) (v := .int np) (C := RX6) (T := TX6) (N := 6) hx hb hts uX6_tellsTurn_RX6 hown hK hP 0 rfl rfl 3 (by decide) (hts _ kX6_tellsTurn_2) (fun _ h9 => h9) rfl dX6_tellsTurn_46 ?_
      refine lv_icmp_lt (tgt := 54) hx hb dX6_tellsTurn_49 (by decide) (fun cb_2 => ?_) (fun cb_2 => ?_)
      · rw [if_pos cb_2] at h
        refine lv_iload_n hx hb dX6_tellsTurn_54 rfl (lv_at hl 3 rfl) ?_
        refine lv_iconst (v := 1) hx hb dX6_tellsTurn_55 (by decide) ?_
        refine lv_iload hx hb dX6_tellsTurn_56 (lv_at hl 0 rfl) ?_
        refine lv_ishl hx hb dX6_tellsTurn_58 ?_
        refine lv_ior hx hb dX6_tellsTurn_59 ?_
        obtain ⟨zx3_1, ex3_1, h⟩ := lT_el h
        refine tg_top ex3_1 ?_
        refine lv_istore_n (lv' := [(3, .int zx3_1), (5, .int zx5), (0, .ref (ga 0)), (1, .long zx1), (4, .int zx4)]) hx hb dX6_tellsTurn_60 rfl hl (by decide) rfl (fun zls hl => ?_)
        refine lv_iinc (v := (zx4 + 1)) (lv' := [(4, .int (zx4 + 1)), (3, .int zx3_1), (5, .int zx5), (0, .ref (ga 0)), (1, .long zx1)]) hx hb dX6_tellsTurn_61 hl (k := 4) rfl rfl (by decide) rfl (fun zls hl => ?_)
        refine lv_goto (tgt := 22) hx hb dX6_tellsTurn_64 (by decide) ?_
        exact ih _ _ _ h  _ (lv_sub hl [3, 4, 1, 0] rfl) 
      · rw [if_neg cb_2] at h
        refine lv_iconst (v := 0) hx hb dX6_tellsTurn_52 (by decide) ?_
        cases h
        exact W.zret hx hb hr rfl (fun t ht hW => ⟨rfl, ht⟩) (fun _ h9 => absurd h9 List.not_mem_nil) dX6_tellsTurn_53
set_option maxRecDepth 100000 in
set_option maxHeartbeats 4000000 in
theorem qX6_tellsTurn (l : Launch) (D : va_G) (cI : ClassId) (cT : ClassId) (ga : Nat → Nat) (ta : Nat → Nat → Nat) (shelf : Nat → Int32) (np : Int32) (ng : Int32) (cur : Int32) (tw : Nat → TW) (zx1 : Int64) (F : Nat) (zr0 : Int32) (h : mX6_tellsTurn F np zx1 = some zr0) : Met l yX6_tellsTurn wsX6_tellsTurn ({ frames := 1, cells := 0, slots := 0, locals := 20 } : Room) (tg_P D [(cI, .int), (cT, .object "TurnGroups$Tower")] [.ref (ga 0), .long zx1] ((wG ta cI cT ga shelf np ng cur tw))) (tg_Ri zr0) 0 0 (fun _ => False) := by
  refine Met.ofW (cc := cX6_tellsTurn) (maxL := 6) (ret := (some .boolean)) (by decide) rfl ?_
  intro p e s m zargs zbelow zmeth c s₁ B hml hv
  obtain ⟨hargs, hP, hK, hN⟩ := hv
  have hx := B.exec
  have hb := B.bytes
  have hr := B.returns
  have hts := atoms_spec (ws := wsX6_tellsTurn) B.pre
  have hown : s.vm.findClass RX6 = some m.cls := findClass_of_methodNamed B.named
  have hlocks := B.notSynchronized
  have hl := lv_entry ([.ref (ga 0), .long zx1]) (n := 6) (Nat.le_of_ble_eq_true rfl)
  refine W.eq (g2 := entryFrame m ([.ref (ga 0), .long zx1] : List Value).toArray 6) (by rw [hargs]) ?_
  rw [lg_entry_eq]
  generalize (lg_sl ([.ref (ga 0), .long zx1]) ++ List.replicate (6 - (lg_sl ([.ref (ga 0), .long zx1])).length) Slot.unset).toArray = zls at hl ⊢
  have hl : lv_has zls 6 [(0, .ref (ga 0)), (1, .long zx1)] := hl
  rw [mX6_tellsTurn] at h
  refine lv_lload_n hx hb dX6_tellsTurn_0 rfl (lv_at hl 1 rfl) ?_
  refine lv_aload_n hx hb dX6_tellsTurn_1 rfl (lv_at hl 0 rfl) ?_
  refine tg_cRl (va_runV (As := []) (rest := [.long zx1]) ⟨hx, hb, hml, hown, hts⟩ (qX6_ownBits l D cI cT ga ta shelf np ng cur tw _ rfl) (cwV 0 hts gX6_tellsTurn_X6_ownBits rfl rfl rfl zVX6_ownBits ⟨Nat.le_of_ble_eq_true rfl, Nat.le_of_ble_eq_true rfl⟩) (tg_preV (r := (RX6, TX6, 6)) (ci := 5) (q0 := 0) hP hK hN rfl rfl) rfl rfl hl.1 rfl (lv_room (Nat.le_of_ble_eq_true rfl)) dX6_tellsTurn_2 ⟨Nat.zero_le _, Nat.zero_le _⟩) ?_
  refine lv_ldc2 hx hb hown (hts _ kX6_tellsTurn_1) dX6_tellsTurn_5 ?_
  refine lv_lxor hx hb dX6_tellsTurn_8 ?_
  refine lv_land hx hb dX6_tellsTurn_9 ?_
  refine lv_lconst (v := 0) hx hb dX6_tellsTurn_10 (by decide) ?_
  refine W.lcmp hx hb dX6_tellsTurn_11 ?_
  refine lv_if_eq (tgt := 17) hx hb dX6_tellsTurn_12 (by decide) (fun cb => ?_) (fun cb => ?_)
  · rw [if_pos cb] at h
    refine lv_iconst (v := 0) hx hb dX6_tellsTurn_17 (by decide) ?_
    refine lv_istore_n (lv' := [(3, .int 0), (0, .ref (ga 0)), (1, .long zx1)]) hx hb dX6_tellsTurn_18 rfl hl (by decide) rfl (fun zls hl => ?_)
    refine lv_iconst (v := 0) hx hb dX6_tellsTurn_19 (by decide) ?_
    refine lv_istore (lv' := [(4, .int 0), (3, .int 0), (0, .ref (ga 0)), (1, .long zx1)]) hx hb dX6_tellsTurn_20 hl (by decide) rfl (fun zls hl => ?_)
    exact wX6_tellsTurn_L22 ⟨hx, hb, hml, hown, hts, hK, hN⟩ hP hlocks hr F F _ _ _ h  _ (lv_sub hl [2, 3, 1, 0] rfl) 
  · rw [if_neg cb] at h
    refine lv_iconst (v := 0) hx hb dX6_tellsTurn_15 (by decide) ?_
    cases h
    exact W.zret hx hb hr rfl (fun t ht hW => ⟨rfl, ht⟩) (fun _ h9 => absurd h9 List.not_mem_nil) dX6_tellsTurn_16
theorem zVX6_tellsTurn : yX6_tellsTurn.cls = RX6 ∧ yX6_tellsTurn.cls ≠ "java/lang/invoke/MethodHandle" ∧ yX6_tellsTurn.cls ≠ "java/lang/invoke/VarHandle" ∧ (parseMethodDescriptor yX6_tellsTurn.desc).map (fun d => d.parameters.length) = some 1 := by decide +kernel

/-! ===== private void beginWith(int); ===== -/
theorem kX6_beginWith_1 : Cond.fieldLink RX6 156 "TurnGroups" "pointCount" "I" ∈ wsX6_beginWith := by decide +kernel
theorem kX6_beginWith_2 : Cond.fieldLink RX6 27 "TurnGroups" "groupCount" "I" ∈ wsX6_beginWith := by decide +kernel
theorem kX6_beginWith_3 : Cond.constant RX6 73 (1985229328) ∈ wsX6_beginWith := by decide +kernel
theorem kX6_beginWith_4 : Cond.fieldLink RX6 43 "TurnGroups" "current" "I" ∈ wsX6_beginWith := by decide +kernel
theorem kX6_beginWith_5 : Cond.fieldLink RX6 9 "TurnGroups" "shelf" "[I" ∈ wsX6_beginWith := by decide +kernel
theorem uX6_beginWith_RX6 : ∀ w ∈ u_ws RX6 TX6 6, w ∈ wsX6_beginWith := by decide +kernel
def mX6_beginWith (F : Nat) (shelf : Nat → Int32) (np : Int32) (ng : Int32) (cur : Int32) (zx1 : Int32) : Option ((Nat → Int32) × Int32 × Int32 × Int32) := bd (mJ7_fill_53178 F shelf 1985229328) (fun shelf_1 => some (shelf_1, zx1, 0, 1985229328))
set_option maxRecDepth 100000 in
set_option maxHeartbeats 4000000 in
theorem qX6_beginWith (l : Launch) (D : va_G) (cI : ClassId) (cT : ClassId) (ga : Nat → Nat) (ta : Nat → Nat → Nat) (shelf : Nat → Int32) (np : Int32) (ng : Int32) (cur : Int32) (tw : Nat → TW) (zx1 : Int32) (F : Nat) (oshelf : Nat → Int32) (onp : Int32) (ong : Int32) (ocur : Int32) (h : mX6_beginWith F shelf np ng cur zx1 = some (oshelf, onp, ong, ocur)) : Met l yX6_beginWith wsX6_beginWith ({ frames := 1, cells := 0, slots := 0, locals := 23 } : Room) (tg_PM D [(cI, .int), (cT, .object "TurnGroups$Tower")] [.ref (ga 0), .int zx1] (wG ta cI cT ga shelf np ng cur tw)) (tg_Mv D (wG ta cI cT ga shelf np ng cur tw) (wG ta cI cT ga oshelf onp ong ocur tw)) 0 0 (tg_in (wG ta cI cT ga shelf np ng cur tw)) := by
  refine Met.ofW (cc := cX6_beginWith) (maxL := 2) (ret := none) (by decide) rfl ?_
  intro p e s m zargs zbelow zmeth c s₁ B hml hv
  obtain ⟨hargs, hP, hK, hN, hD0⟩ := hv
  have hx := B.exec
  have hb := B.bytes
  have hr := B.returns
  have hts := atoms_spec (ws := wsX6_beginWith) B.pre
  have hown : s.vm.findClass RX6 = some m.cls := findClass_of_methodNamed B.named
  have hlocks := B.notSynchronized
  have hDD : tg_DD (tg_in (wG ta cI cT ga shelf np ng cur tw)) (adG ta ga) := tg_DD.of (tg_D hD0) wG_ad
  have hS : va_S (tg_in (wG ta cI cT ga shelf np ng cur tw)) s.heap s.heap [] := va_S.rf
  have hl := lv_entry ([.ref (ga 0), .int zx1]) (n := 2) (Nat.le_of_ble_eq_true rfl)
  refine W.eq (g2 := entryFrame m ([.ref (ga 0), .int zx1] : List Value).toArray 2) (by rw [hargs]) ?_
  rw [lg_entry_eq]
  generalize (lg_sl ([.ref (ga 0), .int zx1]) ++ List.replicate (2 - (lg_sl ([.ref (ga 0), .int zx1])).length) Slot.unset).toArray = zls at hl ⊢
  have hl : lv_has zls 2 [(0, .ref (ga 0)), (1, .int zx1)] := hl
  rw [mX6_beginWith] at h
  refine lv_aload_n hx hb dX6_beginWith_0 rfl (lv_at hl 0 rfl) ?_
  refine lv_iload_n hx hb dX6_beginWith_1 rfl (lv_at hl 1 rfl) ?_
  refine va_put (D := D) (ci := 5) (v := .int zx1) (ty := .int) (C := RX6) (T := TX6) (N := 6) hx hb hts uX6_beginWith_RX6 tyX6 tyX6_ok nmX6 hown hK hP (hDD _ wG_ad) hS 0 rfl rfl 3 (by decide) (hts _ kX6_beginWith_1) (fun _ h9 => h9) rfl (by decide +kernel) rfl rfl (Nat.le_of_ble_eq_true rfl) dX6_beginWith_2 (fun zH zlocs hP _ hS => ?_)
  have hP : va_P D vwCl (wG ta cI cT ga shelf zx1 ng cur tw) zH := hP
  refine lv_aload_n hx hb dX6_beginWith_5 rfl (lv_at hl 0 rfl) ?_
  refine lv_iconst (v := 0) hx hb dX6_beginWith_6 (by decide) ?_
  refine va_put (D := D) (ci := 5) (v := .int 0) (ty := .int) (C := RX6) (T := TX6) (N := 6) hx hb hts uX6_beginWith_RX6 tyX6 tyX6_ok nmX6 hown hK hP (hDD _ wG_ad) hS 0 rfl rfl 4 (by decide) (hts _ kX6_beginWith_2) (fun _ h9 => h9) rfl (by decide +kernel) rfl rfl (Nat.le_of_ble_eq_true rfl) dX6_beginWith_7 (fun zH zlocs hP _ hS => ?_)
  have hP : va_P D vwCl (wG ta cI cT ga shelf zx1 0 cur tw) zH := hP
  refine lv_aload_n hx hb dX6_beginWith_10 rfl (lv_at hl 0 rfl) ?_
  refine lv_ldc hx hb hown (hts _ kX6_beginWith_3) dX6_beginWith_11 ?_
  refine va_put (D := D) (ci := 5) (v := .int 1985229328) (ty := .int) (C := RX6) (T := TX6) (N := 6) hx hb hts uX6_beginWith_RX6 tyX6 tyX6_ok nmX6 hown hK hP (hDD _ wG_ad) hS 0 rfl rfl 5 (by decide) (hts _ kX6_beginWith_4) (fun _ h9 => h9) rfl (by decide +kernel) rfl rfl (Nat.le_of_ble_eq_true rfl) dX6_beginWith_13 (fun zH zlocs hP _ hS => ?_)
  have hP : va_P D vwCl (wG ta cI cT ga shelf zx1 0 1985229328 tw) zH := hP
  refine lv_aload_n hx hb dX6_beginWith_16 rfl (lv_at hl 0 rfl) ?_
  refine va_get (D := D) (ci := 5) (v := .ref (ga 1)) (C := RX6) (T := TX6) (N := 6) hx hb hts uX6_beginWith_RX6 hown hK hP 0 rfl rfl 0 (by decide) (hts _ kX6_beginWith_5) (fun _ h9 => h9) rfl dX6_beginWith_17 ?_
  refine lv_ldc hx hb hown (hts _ kX6_beginWith_3) dX6_beginWith_20 ?_
  obtain ⟨shelf_1, hc, h⟩ := bd_el h
  refine tg_cMv (va_runS (As := [.ref (ga 1), .int 1985229328]) (rest := []) ⟨hx, hb, hml, hown, hts⟩ (qJ7_fill_53178 l D cI (fun _ => ga 1) shelf 1985229328 F shelf_1 hc) (va_cwS 2 hts gX6_beginWith_J7_fill_53178 rfl rfl rfl zSJ7_fill_53178 ⟨Nat.le_of_ble_eq_true rfl, Nat.le_of_ble_eq_true rfl⟩) (tg_preSM (tg_shP hP) (wG_Dsh hDD) (hK.sub (tys' := [(cI, .int)]) [0] rfl) hN) rfl rfl hl.1 rfl (lv_room (Nat.le_of_ble_eq_true rfl)) dX6_beginWith_22 ⟨Nat.zero_le _, Nat.zero_le _⟩) hS (tg_inA (wG_Dsh hDD)) (fun zH zlocs hf9 hP9 hS => ?_)
  have hP := wG_shelf hP hDD hf9 hP9
  cases h
  exact W.vret hx hb hr (fun t ht hW => ⟨rfl, by rw [ht]; exact hP, hS.F ht⟩) hS.2.2 dX6_beginWith_25
theorem zVX6_beginWith : yX6_beginWith.cls = RX6 ∧ yX6_beginWith.cls ≠ "java/lang/invoke/MethodHandle" ∧ yX6_beginWith.cls ≠ "java/lang/invoke/VarHandle" ∧ (parseMethodDescriptor yX6_beginWith.desc).map (fun d => d.parameters.length) = some 1 := by decide +kernel

/-! ===== public int points(int); ===== -/
theorem kX6_points_1 : Cond.fieldLink RX6 27 "TurnGroups" "groupCount" "I" ∈ wsX6_points := by decide +kernel
theorem uX6_points_RX6 : ∀ w ∈ u_ws RX6 TX6 6, w ∈ wsX6_points := by decide +kernel
def mX6_points (F : Nat) (shelf : Nat → Int32) (np : Int32) (ng : Int32) (cur : Int32) (zx1 : Int32) : Option (Int32 × (Nat → Int32) × Int32 × Int32 × Int32) := if zx1 < 2 then (some ((-2 : Int32), shelf, np, ng, cur)) else (if zx1 ≤ 8 then (bd4 (mX6_beginWith F shelf np ng cur zx1) (fun shelf_1 np_1 ng_1 cur_1 => some (ng, shelf_1, np_1, ng_1, cur_1))) else (some ((-2 : Int32), shelf, np, ng, cur)))
set_option maxRecDepth 100000 in
set_option maxHeartbeats 4000000 in
theorem qX6_points (l : Launch) (D : va_G) (cI : ClassId) (cT : ClassId) (ga : Nat → Nat) (ta : Nat → Nat → Nat) (shelf : Nat → Int32) (np : Int32) (ng : Int32) (cur : Int32) (tw : Nat → TW) (zx1 : Int32) (F : Nat) (zr0 : Int32) (oshelf : Nat → Int32) (onp : Int32) (ong : Int32) (ocur : Int32) (h : mX6_points F shelf np ng cur zx1 = some (zr0, oshelf, onp, ong, ocur)) : Met l yX6_points wsX6_points ({ frames := 2, cells := 0, slots := 0, locals := 44 } : Room) (tg_PM D [(cI, .int), (cT, .object "TurnGroups$Tower")] [.ref (ga 0), .int zx1] (wG ta cI cT ga shelf np ng cur tw)) (tg_Mi D (wG ta cI cT ga shelf np ng cur tw) (wG ta cI cT ga oshelf onp ong ocur tw) zr0) 0 0 (tg_in (wG ta cI cT ga shelf np ng cur tw)) := by
  refine Met.ofW (cc := cX6_points) (maxL := 3) (ret := (some .int)) (by decide) rfl ?_
  intro p e s m zargs zbelow zmeth c s₁ B hml hv
  obtain ⟨hargs, hP, hK, hN, hD0⟩ := hv
  have hx := B.exec
  have hb := B.bytes
  have hr := B.returns
  have hts := atoms_spec (ws := wsX6_points) B.pre
  have hown : s.vm.findClass RX6 = some m.cls := findClass_of_methodNamed B.named
  have hlocks := B.notSynchronized
  have hDD : tg_DD (tg_in (wG ta cI cT ga shelf np ng cur tw)) (adG ta ga) := tg_DD.of (tg_D hD0) wG_ad
  have hS : va_S (tg_in (wG ta cI cT ga shelf np ng cur tw)) s.heap s.heap [] := va_S.rf
  have hl := lv_entry ([.ref (ga 0), .int zx1]) (n := 3) (Nat.le_of_ble_eq_true rfl)
  refine W.eq (g2 := entryFrame m ([.ref (ga 0), .int zx1] : List Value).toArray 3) (by rw [hargs]) ?_
  rw [lg_entry_eq]
  generalize (lg_sl ([.ref (ga 0), .int zx1]) ++ List.replicate (3 - (lg_sl ([.ref (ga 0), .int zx1])).length) Slot.unset).toArray = zls at hl ⊢
  have hl : lv_has zls 3 [(0, .ref (ga 0)), (1, .int zx1)] := hl
  rw [mX6_points] at h
  refine lv_iload_n hx hb dX6_points_0 rfl (lv_at hl 1 rfl) ?_
  refine lv_iconst (v := 2) hx hb dX6_points_1 (by decide) ?_
  refine lv_icmp_lt (tgt := 11) hx hb dX6_points_2 (by decide) (fun cb => ?_) (fun cb => ?_)
  · rw [if_pos cb] at h
    refine lv_bipush (v := (-2)) hx hb dX6_points_11 (by decide) ?_
    cases h
    exact W.iret hx hb hr (fun t ht hW => ⟨rfl, by rw [ht]; exact hP, hS.F ht⟩) hS.2.2 dX6_points_13
  · rw [if_neg cb] at h
    refine lv_iload_n hx hb dX6_points_5 rfl (lv_at hl 1 rfl) ?_
    refine lv_bipush (v := 8) hx hb dX6_points_6 (by decide) ?_
    refine lv_icmp_le (tgt := 14) hx hb dX6_points_8 (by decide) (fun cb_1 => ?_) (fun cb_1 => ?_)
    · rw [if_pos cb_1] at h
      refine lv_aload_n hx hb dX6_points_14 rfl (lv_at hl 0 rfl) ?_
      refine va_get (D := D) (ci := 5) (v := .int ng) (C := RX6) (T := TX6) (N := 6) hx hb hts uX6_points_RX6 hown hK hP 0 rfl rfl 4 (by decide) (hts _ kX6_points_1) (fun _ h9 => h9) rfl dX6_points_15 ?_
      refine lv_istore_n (lv' := [(2, .int ng), (0, .ref (ga 0)), (1, .int zx1)]) hx hb dX6_points_18 rfl hl (by decide) rfl (fun zls hl => ?_)
      refine lv_aload_n hx hb dX6_points_19 rfl (lv_at hl 1 rfl) ?_
      refine lv_iload_n hx hb dX6_points_20 rfl (lv_at hl 2 rfl) ?_
      obtain ⟨shelf_1, np_1, ng_1, cur_1, hc, h⟩ := bd4_el h
      refine tg_cMv (va_runV (As := [.int zx1]) (rest := []) ⟨hx, hb, hml, hown, hts⟩ (qX6_beginWith l D cI cT ga ta shelf np ng cur tw zx1 F shelf_1 np_1 ng_1 cur_1 hc) (cwV 1 hts gX6_points_X6_beginWith rfl rfl rfl zVX6_beginWith ⟨Nat.le_of_ble_eq_true rfl, Nat.le_of_ble_eq_true rfl⟩) (tg_preVM (r := (RX6, TX6, 6)) (ci := 5) (q0 := 0) hP (hDD _ wG_ad) hK hN rfl rfl) rfl rfl hl.1 rfl (lv_room (Nat.le_of_ble_eq_true rfl)) dX6_points_21 ⟨Nat.zero_le _, Nat.zero_le _⟩) hS (tg_inA (hDD _ wG_ad)) (fun zH zlocs _ hP hS => ?_)
      refine lv_iload_n hx hb dX6_points_24 rfl (lv_at hl 0 rfl) ?_
      cases h
      exact W.iret hx hb hr (fun t ht hW => ⟨rfl, by rw [ht]; exact hP, hS.F ht⟩) hS.2.2 dX6_points_25
    · rw [if_neg cb_1] at h
      refine lv_bipush (v := (-2)) hx hb dX6_points_11 (by decide) ?_
      cases h
      exact W.iret hx hb hr (fun t ht hW => ⟨rfl, by rw [ht]; exact hP, hS.F ht⟩) hS.2.2 dX6_points_13
theorem zVX6_points : yX6_points.cls = RX6 ∧ yX6_points.cls ≠ "java/lang/invoke/MethodHandle" ∧ yX6_points.cls ≠ "java/lang/invoke/VarHandle" ∧ (parseMethodDescriptor yX6_points.desc).map (fun d => d.parameters.length) = some 1 := by decide +kernel

/-! ===== public int turn(long); ===== -/
theorem kX6_turn_1 : Cond.constantLong RX6 35 (1985229328) ∈ wsX6_turn := by decide +kernel
theorem kX6_turn_2 : Cond.constantLong RX6 41 (-1) ∈ wsX6_turn := by decide +kernel
theorem kX6_turn_3 : Cond.fieldLink RX6 43 "TurnGroups" "current" "I" ∈ wsX6_turn := by decide +kernel
theorem uX6_turn_RX6 : ∀ w ∈ u_ws RX6 TX6 6, w ∈ wsX6_turn := by decide +kernel
def mX6_turn (F : Nat) (np : Int32) (cur : Int32) (zx1 : Int64) : Option (Int32 × Int32) := bd (mX6_tellsTurn F np zx1) (fun zr => if zr = 0 then (some ((-2 : Int32), cur)) else (lT (1985229328 &&& ((mX6_ownBits np) ^^^ (-1))) (fun zx3 => lT (Int64.toInt32 (zx1 ||| zx3)) (fun cur_1 => some ((1 : Int32), cur_1)))))
set_option maxRecDepth 100000 in
set_option maxHeartbeats 4000000 in
theorem qX6_turn (l : Launch) (D : va_G) (cI : ClassId) (cT : ClassId) (ga : Nat → Nat) (ta : Nat → Nat → Nat) (shelf : Nat → Int32) (np : Int32) (ng : Int32) (cur : Int32) (tw : Nat → TW) (zx1 : Int64) (F : Nat) (zr0 : Int32) (ocur : Int32) (h : mX6_turn F np cur zx1 = some (zr0, ocur)) : Met l yX6_turn wsX6_turn ({ frames := 2, cells := 0, slots := 0, locals := 45 } : Room) (tg_PM D [(cI, .int), (cT, .object "TurnGroups$Tower")] [.ref (ga 0), .long zx1] (wG ta cI cT ga shelf np ng cur tw)) (tg_Mi D (wG ta cI cT ga shelf np ng cur tw) (wG ta cI cT ga shelf np ng ocur tw) zr0) 0 0 (tg_in (wG ta cI cT ga shelf np ng cur tw)) := by
  refine Met.ofW (cc := cX6_turn) (maxL := 5) (ret := (some .int)) (by decide) rfl ?_
  intro p e s m zargs zbelow zmeth c s₁ B hml hv
  obtain ⟨hargs, hP, hK, hN, hD0⟩ := hv
  have hx := B.exec
  have hb := B.bytes
  have hr := B.returns
  have hts := atoms_spec (ws := wsX6_turn) B.pre
  have hown : s.vm.findClass RX6 = some m.cls := findClass_of_methodNamed B.named
  have hlocks := B.notSynchronized
  have hDD : tg_DD (tg_in (wG ta cI cT ga shelf np ng cur tw)) (adG ta ga) := tg_DD.of (tg_D hD0) wG_ad
  have hS : va_S (tg_in (wG ta cI cT ga shelf np ng cur tw)) s.heap s.heap [] := va_S.rf
  have hl := lv_entry ([.ref (ga 0), .long zx1]) (n := 5) (Nat.le_of_ble_eq_true rfl)
  refine W.eq (g2 := entryFrame m ([.ref (ga 0), .long zx1] : List Value).toArray 5) (by rw [hargs]) ?_
  rw [lg_entry_eq]
  generalize (lg_sl ([.ref (ga 0), .long zx1]) ++ List.replicate (5 - (lg_sl ([.ref (ga 0), .long zx1])).length) Slot.unset).toArray = zls at hl ⊢
  have hl : lv_has zls 5 [(0, .ref (ga 0)), (1, .long zx1)] := hl
  rw [mX6_turn] at h
  refine lv_aload_n hx hb dX6_turn_0 rfl (lv_at hl 0 rfl) ?_
  refine lv_lload_n hx hb dX6_turn_1 rfl (lv_at hl 1 rfl) ?_
  obtain ⟨zr, hc, h⟩ := bd_el h
  refine tg_cRi (va_runV (As := [.long zx1]) (rest := []) ⟨hx, hb, hml, hown, hts⟩ (qX6_tellsTurn l D cI cT ga ta shelf np ng cur tw zx1 F zr hc) (cwV 1 hts gX6_turn_X6_tellsTurn rfl rfl rfl zVX6_tellsTurn ⟨Nat.le_of_ble_eq_true rfl, Nat.le_of_ble_eq_true rfl⟩) (tg_preV (r := (RX6, TX6, 6)) (ci := 5) (q0 := 0) hP hK hN rfl rfl) rfl rfl hl.1 rfl (lv_room (Nat.le_of_ble_eq_true rfl)) dX6_turn_2 ⟨Nat.zero_le _, Nat.zero_le _⟩) ?_
  refine lv_if_ne (tgt := 11) hx hb dX6_turn_5 (by decide) (fun cb => ?_) (fun cb => ?_)
  · rw [if_neg cb] at h
    refine lv_ldc2 hx hb hown (hts _ kX6_turn_1) dX6_turn_11 ?_
    refine lv_aload_n hx hb dX6_turn_14 rfl (lv_at hl 0 rfl) ?_
    refine tg_cRl (va_runV (As := []) (rest := [.long 1985229328]) ⟨hx, hb, hml, hown, hts⟩ (qX6_ownBits l D cI cT ga ta shelf np ng cur tw _ rfl) (cwV 0 hts gX6_turn_X6_ownBits rfl rfl rfl zVX6_ownBits ⟨Nat.le_of_ble_eq_true rfl, Nat.le_of_ble_eq_true rfl⟩) (tg_preV (r := (RX6, TX6, 6)) (ci := 5) (q0 := 0) hP hK hN rfl rfl) rfl rfl hl.1 rfl (lv_room (Nat.le_of_ble_eq_true rfl)) dX6_turn_15 ⟨Nat.zero_le _, Nat.zero_le _⟩) ?_
    refine lv_ldc2 hx hb hown (hts _ kX6_turn_2) dX6_turn_18 ?_
    refine lv_lxor hx hb dX6_turn_21 ?_
    refine lv_land hx hb dX6_turn_22 ?_
    obtain ⟨zx3, ex3, h⟩ := lT_el h
    refine tg_topl ex3 ?_
    refine lv_lstore_n (lv' := [(3, .long zx3), (0, .ref (ga 0)), (1, .long zx1)]) hx hb dX6_turn_23 rfl hl (by decide) rfl (fun zls hl => ?_)
    refine lv_aload_n hx hb dX6_turn_24 rfl (lv_at hl 1 rfl) ?_
    refine lv_lload_n hx hb dX6_turn_25 rfl (lv_at hl 2 rfl) ?_
    refine lv_lload_n hx hb dX6_turn_26 rfl (lv_at hl 0 rfl) ?_
    refine lv_lor hx hb dX6_turn_27 ?_
    refine lv_l2i (v := (Int64.toInt32 (zx1 ||| zx3))) hx hb dX6_turn_28 rfl ?_
    obtain ⟨cur_1, ecur_1, h⟩ := lT_el h
    refine tg_top ecur_1 ?_
    refine va_put (D := D) (ci := 5) (v := .int cur_1) (ty := .int) (C := RX6) (T := TX6) (N := 6) hx hb hts uX6_turn_RX6 tyX6 tyX6_ok nmX6 hown hK hP (hDD _ wG_ad) hS 0 rfl rfl 5 (by decide) (hts _ kX6_turn_3) (fun _ h9 => h9) rfl (by decide +kernel) rfl rfl (Nat.le_of_ble_eq_true rfl) dX6_turn_29 (fun zH zlocs hP _ hS => ?_)
    have hP : va_P D vwCl (wG ta cI cT ga shelf np ng cur_1 tw) zH := hP
    refine lv_iconst (v := 1) hx hb dX6_turn_32 (by decide) ?_
    cases h
    exact W.iret hx hb hr (fun t ht hW => ⟨rfl, by rw [ht]; exact hP, hS.F ht⟩) hS.2.2 dX6_turn_33
  · rw [if_pos cb] at h
    refine lv_bipush (v := (-2)) hx hb dX6_turn_8 (by decide) ?_
    cases h
    exact W.iret hx hb hr (fun t ht hW => ⟨rfl, by rw [ht]; exact hP, hS.F ht⟩) hS.2.2 dX6_turn_10
theorem zVX6_turn : yX6_turn.cls = RX6 ∧ yX6_turn.cls ≠ "java/lang/invoke/MethodHandle" ∧ yX6_turn.cls ≠ "java/lang/invoke/VarHandle" ∧ (parseMethodDescriptor yX6_turn.desc).map (fun d => d.parameters.length) = some 1 := by decide +kernel

/-! ===== public long told(); ===== -/
theorem kX6_told_1 : Cond.fieldLink RX6 43 "TurnGroups" "current" "I" ∈ wsX6_told := by decide +kernel
theorem uX6_told_RX6 : ∀ w ∈ u_ws RX6 TX6 6, w ∈ wsX6_told := by decide +kernel
def mX6_told (np : Int32) (cur : Int32) : Int64 := ((Int32.toInt64 cur) &&& (mX6_ownBits np))
set_option maxRecDepth 100000 in
set_option maxHeartbeats 4000000 in
theorem qX6_told (l : Launch) (D : va_G) (cI : ClassId) (cT : ClassId) (ga : Nat → Nat) (ta : Nat → Nat → Nat) (shelf : Nat → Int32) (np : Int32) (ng : Int32) (cur : Int32) (tw : Nat → TW) (zr0 : Int64) (h : mX6_told np cur = zr0) : Met l yX6_told wsX6_told ({ frames := 1, cells := 0, slots := 0, locals := 20 } : Room) (tg_P D [(cI, .int), (cT, .object "TurnGroups$Tower")] [.ref (ga 0)] ((wG ta cI cT ga shelf np ng cur tw))) (tg_Rl zr0) 0 0 (fun _ => False) := by
  refine Met.ofW (cc := cX6_told) (maxL := 1) (ret := (some .long)) (by decide) rfl ?_
  intro p e s m zargs zbelow zmeth c s₁ B hml hv
  obtain ⟨hargs, hP, hK, hN⟩ := hv
  have hx := B.exec
  have hb := B.bytes
  have hr := B.returns
  have hts := atoms_spec (ws := wsX6_told) B.pre
  have hown : s.vm.findClass RX6 = some m.cls := findClass_of_methodNamed B.named
  have hlocks := B.notSynchronized
  have hl := lv_entry ([.ref (ga 0)]) (n := 1) (Nat.le_of_ble_eq_true rfl)
  refine W.eq (g2 := entryFrame m ([.ref (ga 0)] : List Value).toArray 1) (by rw [hargs]) ?_
  rw [lg_entry_eq]
  generalize (lg_sl ([.ref (ga 0)]) ++ List.replicate (1 - (lg_sl ([.ref (ga 0)])).length) Slot.unset).toArray = zls at hl ⊢
  have hl : lv_has zls 1 [(0, .ref (ga 0))] := hl
  rw [mX6_told] at h
  refine lv_aload_n hx hb dX6_told_0 rfl (lv_at hl 0 rfl) ?_
  refine va_get (D := D) (ci := 5) (v := .int cur) (C := RX6) (T := TX6) (N := 6) hx hb hts uX6_told_RX6 hown hK hP 0 rfl rfl 5 (by decide) (hts _ kX6_told_1) (fun _ h9 => h9) rfl dX6_told_1 ?_
  refine lv_i2l (v := (Int32.toInt64 cur)) hx hb dX6_told_4 rfl ?_
  refine lv_aload_n hx hb dX6_told_5 rfl (lv_at hl 0 rfl) ?_
  refine tg_cRl (va_runV (As := []) (rest := [.long (Int32.toInt64 cur)]) ⟨hx, hb, hml, hown, hts⟩ (qX6_ownBits l D cI cT ga ta shelf np ng cur tw _ rfl) (cwV 0 hts gX6_told_X6_ownBits rfl rfl rfl zVX6_ownBits ⟨Nat.le_of_ble_eq_true rfl, Nat.le_of_ble_eq_true rfl⟩) (tg_preV (r := (RX6, TX6, 6)) (ci := 5) (q0 := 0) hP hK hN rfl rfl) rfl rfl hl.1 rfl (lv_room (Nat.le_of_ble_eq_true rfl)) dX6_told_6 ⟨Nat.zero_le _, Nat.zero_le _⟩) ?_
  refine lv_land hx hb dX6_told_9 ?_
  subst h
  exact W.lret hx hb hr (fun t ht hW => ⟨rfl, ht⟩) (fun _ h9 => absurd h9 List.not_mem_nil) dX6_told_10
theorem zVX6_told : yX6_told.cls = RX6 ∧ yX6_told.cls ≠ "java/lang/invoke/MethodHandle" ∧ yX6_told.cls ≠ "java/lang/invoke/VarHandle" ∧ (parseMethodDescriptor yX6_told.desc).map (fun d => d.parameters.length) = some 0 := by decide +kernel

/-! ===== public int to(int); ===== -/
theorem kX6_to_1 : Cond.fieldLink RX6 43 "TurnGroups" "current" "I" ∈ wsX6_to := by decide +kernel
theorem uX6_to_RX6 : ∀ w ∈ u_ws RX6 TX6 6, w ∈ wsX6_to := by decide +kernel
def mX6_to (np : Int32) (cur : Int32) (zx1 : Int32) : Int32 := if (mX6_isPoint np zx1) = 0 then (-2 : Int32) else (mX6_image cur zx1)
set_option maxRecDepth 100000 in
set_option maxHeartbeats 4000000 in
theorem qX6_to (l : Launch) (D : va_G) (cI : ClassId) (cT : ClassId) (ga : Nat → Nat) (ta : Nat → Nat → Nat) (shelf : Nat → Int32) (np : Int32) (ng : Int32) (cur : Int32) (tw : Nat → TW) (zx1 : Int32) (zr0 : Int32) (h : mX6_to np cur zx1 = zr0) : Met l yX6_to wsX6_to ({ frames := 1, cells := 0, slots := 0, locals := 21 } : Room) (tg_P D [(cI, .int), (cT, .object "TurnGroups$Tower")] [.ref (ga 0), .int zx1] ((wG ta cI cT ga shelf np ng cur tw))) (tg_Ri zr0) 0 0 (fun _ => False) := by
  refine Met.ofW (cc := cX6_to) (maxL := 2) (ret := (some .int)) (by decide) rfl ?_
  intro p e s m zargs zbelow zmeth c s₁ B hml hv
  obtain ⟨hargs, hP, hK, hN⟩ := hv
  have hx := B.exec
  have hb := B.bytes
  have hr := B.returns
  have hts := atoms_spec (ws := wsX6_to) B.pre
  have hown : s.vm.findClass RX6 = some m.cls := findClass_of_methodNamed B.named
  have hlocks := B.notSynchronized
  have hl := lv_entry ([.ref (ga 0), .int zx1]) (n := 2) (Nat.le_of_ble_eq_true rfl)
  refine W.eq (g2 := entryFrame m ([.ref (ga 0), .int zx1] : List Value).toArray 2) (by rw [hargs]) ?_
  rw [lg_entry_eq]
  generalize (lg_sl ([.ref (ga 0), .int zx1]) ++ List.replicate (2 - (lg_sl ([.ref (ga 0), .int zx1])).length) Slot.unset).toArray = zls at hl ⊢
  have hl : lv_has zls 2 [(0, .ref (ga 0)), (1, .int zx1)] := hl
  rw [mX6_to] at h
  refine lv_aload_n hx hb dX6_to_0 rfl (lv_at hl 0 rfl) ?_
  refine lv_iload_n hx hb dX6_to_1 rfl (lv_at hl 1 rfl) ?_
  refine tg_cRi (va_runV (As := [.int zx1]) (rest := []) ⟨hx, hb, hml, hown, hts⟩ (qX6_isPoint l D cI cT ga ta shelf np ng cur tw zx1 _ rfl) (cwV 1 hts gX6_to_X6_isPoint rfl rfl rfl zVX6_isPoint ⟨Nat.le_of_ble_eq_true rfl, Nat.le_of_ble_eq_true rfl⟩) (tg_preV (r := (RX6, TX6, 6)) (ci := 5) (q0 := 0) hP hK hN rfl rfl) rfl rfl hl.1 rfl (lv_room (Nat.le_of_ble_eq_true rfl)) dX6_to_2 ⟨Nat.zero_le _, Nat.zero_le _⟩) ?_
  refine lv_if_eq (tgt := 19) hx hb dX6_to_5 (by decide) (fun cb => ?_) (fun cb => ?_)
  · rw [if_pos cb] at h
    refine lv_bipush (v := (-2)) hx hb dX6_to_19 (by decide) ?_
    subst h
    exact W.iret hx hb hr (fun t ht hW => ⟨rfl, ht⟩) (fun _ h9 => absurd h9 List.not_mem_nil) dX6_to_21
  · rw [if_neg cb] at h
    refine lv_aload_n hx hb dX6_to_8 rfl (lv_at hl 0 rfl) ?_
    refine va_get (D := D) (ci := 5) (v := .int cur) (C := RX6) (T := TX6) (N := 6) hx hb hts uX6_to_RX6 hown hK hP 0 rfl rfl 5 (by decide) (hts _ kX6_to_1) (fun _ h9 => h9) rfl dX6_to_9 ?_
    refine lv_iload_n hx hb dX6_to_12 rfl (lv_at hl 1 rfl) ?_
    refine tg_cRi (va_runS (As := [.int cur, .int zx1]) (rest := []) ⟨hx, hb, hml, hown, hts⟩ (qX6_image l D cur zx1 _ rfl) (va_cwS 2 hts gX6_to_X6_image rfl rfl rfl zSX6_image ⟨Nat.le_of_ble_eq_true rfl, Nat.le_of_ble_eq_true rfl⟩) (tg_preS tg_nil (hK.sub (tys' := []) [] rfl) hN) rfl rfl hl.1 rfl (lv_room (Nat.le_of_ble_eq_true rfl)) dX6_to_13 ⟨Nat.zero_le _, Nat.zero_le _⟩) ?_
    refine lv_goto (tgt := 21) hx hb dX6_to_16 (by decide) ?_
    subst h
    exact W.iret hx hb hr (fun t ht hW => ⟨rfl, ht⟩) (fun _ h9 => absurd h9 List.not_mem_nil) dX6_to_21
theorem zVX6_to : yX6_to.cls = RX6 ∧ yX6_to.cls ≠ "java/lang/invoke/MethodHandle" ∧ yX6_to.cls ≠ "java/lang/invoke/VarHandle" ∧ (parseMethodDescriptor yX6_to.desc).map (fun d => d.parameters.length) = some 1 := by decide +kernel

/-! ===== public int lay(int); ===== -/
theorem kX6_lay_1 : Cond.fieldLink RX6 9 "TurnGroups" "shelf" "[I" ∈ wsX6_lay := by decide +kernel
theorem kX6_lay_2 : Cond.fieldLink RX6 43 "TurnGroups" "current" "I" ∈ wsX6_lay := by decide +kernel
theorem uX6_lay_RX6 : ∀ w ∈ u_ws RX6 TX6 6, w ∈ wsX6_lay := by decide +kernel
def mX6_lay (shelf : Nat → Int32) (cur : Int32) (zx1 : Int32) : Option (Int32 × (Nat → Int32)) := if (mX6_isShelfPlace zx1) = 0 then (some ((-2 : Int32), shelf)) else (gd (inb zx1 8) (lT (upd shelf (Int32.toNatClampNeg zx1) cur) (fun shelf_1 => some ((1 : Int32), shelf_1))))
set_option maxRecDepth 100000 in
set_option maxHeartbeats 4000000 in
theorem qX6_lay (l : Launch) (D : va_G) (cI : ClassId) (cT : ClassId) (ga : Nat → Nat) (ta : Nat → Nat → Nat) (shelf : Nat → Int32) (np : Int32) (ng : Int32) (cur : Int32) (tw : Nat → TW) (zx1 : Int32) (zr0 : Int32) (oshelf : Nat → Int32) (h : mX6_lay shelf cur zx1 = some (zr0, oshelf)) : Met l yX6_lay wsX6_lay ({ frames := 1, cells := 0, slots := 0, locals := 20 } : Room) (tg_PM D [(cI, .int), (cT, .object "TurnGroups$Tower")] [.ref (ga 0), .int zx1] (wG ta cI cT ga shelf np ng cur tw)) (tg_Mi D (wG ta cI cT ga shelf np ng cur tw) (wG ta cI cT ga oshelf np ng cur tw) zr0) 0 0 (tg_in (wG ta cI cT ga shelf np ng cur tw)) := by
  refine Met.ofW (cc := cX6_lay) (maxL := 2) (ret := (some .int)) (by decide) rfl ?_
  intro p e s m zargs zbelow zmeth c s₁ B hml hv
  obtain ⟨hargs, hP, hK, hN, hD0⟩ := hv
  have hx := B.exec
  have hb := B.bytes
  have hr := B.returns
  have hts := atoms_spec (ws := wsX6_lay) B.pre
  have hown : s.vm.findClass RX6 = some m.cls := findClass_of_methodNamed B.named
  have hlocks := B.notSynchronized
  have hDD : tg_DD (tg_in (wG ta cI cT ga shelf np ng cur tw)) (adG ta ga) := tg_DD.of (tg_D hD0) wG_ad
  have hS : va_S (tg_in (wG ta cI cT ga shelf np ng cur tw)) s.heap s.heap [] := va_S.rf
  have hl := lv_entry ([.ref (ga 0), .int zx1]) (n := 2) (Nat.le_of_ble_eq_true rfl)
  refine W.eq (g2 := entryFrame m ([.ref (ga 0), .int zx1] : List Value).toArray 2) (by rw [hargs]) ?_
  rw [lg_entry_eq]
  generalize (lg_sl ([.ref (ga 0), .int zx1]) ++ List.replicate (2 - (lg_sl ([.ref (ga 0), .int zx1])).length) Slot.unset).toArray = zls at hl ⊢
  have hl : lv_has zls 2 [(0, .ref (ga 0)), (1, .int zx1)] := hl
  rw [mX6_lay] at h
  refine lv_iload_n hx hb dX6_lay_0 rfl (lv_at hl 1 rfl) ?_
  refine tg_cRi (va_runS (As := [.int zx1]) (rest := []) ⟨hx, hb, hml, hown, hts⟩ (qX6_isShelfPlace l D zx1 _ rfl) (va_cwS 1 hts gX6_lay_X6_isShelfPlace rfl rfl rfl zSX6_isShelfPlace ⟨Nat.le_of_ble_eq_true rfl, Nat.le_of_ble_eq_true rfl⟩) (tg_preS tg_nil (hK.sub (tys' := []) [] rfl) hN) rfl rfl hl.1 rfl (lv_room (Nat.le_of_ble_eq_true rfl)) dX6_lay_1 ⟨Nat.zero_le _, Nat.zero_le _⟩) ?_
  refine lv_if_ne (tgt := 10) hx hb dX6_lay_4 (by decide) (fun cb => ?_) (fun cb => ?_)
  · rw [if_neg cb] at h
    refine lv_aload_n hx hb dX6_lay_10 rfl (lv_at hl 0 rfl) ?_
    refine va_get (D := D) (ci := 5) (v := .ref (ga 1)) (C := RX6) (T := TX6) (N := 6) hx hb hts uX6_lay_RX6 hown hK hP 0 rfl rfl 0 (by decide) (hts _ kX6_lay_1) (fun _ h9 => h9) rfl dX6_lay_11 ?_
    refine lv_iload_n hx hb dX6_lay_14 rfl (lv_at hl 1 rfl) ?_
    refine lv_aload_n hx hb dX6_lay_15 rfl (lv_at hl 0 rfl) ?_
    refine va_get (D := D) (ci := 5) (v := .int cur) (C := RX6) (T := TX6) (N := 6) hx hb hts uX6_lay_RX6 hown hK hP 0 rfl rfl 5 (by decide) (hts _ kX6_lay_2) (fun _ h9 => h9) rfl dX6_lay_16 ?_
    obtain ⟨gg, h⟩ := gd_el h
    obtain ⟨shelf_1, eshelf_1, h⟩ := lT_el h
    refine va_iast hx hb hK hP (hDD _ wG_ad) hS 1 0 rfl rfl (inb_in gg) dX6_lay_19 (fun zH zlocs hP _ hS => ?_)
    have hP : va_P D vwCl (wG ta cI cT ga (upd shelf (Int32.toNatClampNeg zx1) cur) np ng cur tw) zH := hP
    rw [← eshelf_1] at hP
    refine lv_iconst (v := 1) hx hb dX6_lay_20 (by decide) ?_
    cases h
    exact W.iret hx hb hr (fun t ht hW => ⟨rfl, by rw [ht]; exact hP, hS.F ht⟩) hS.2.2 dX6_lay_21
  · rw [if_pos cb] at h
    refine lv_bipush (v := (-2)) hx hb dX6_lay_7 (by decide) ?_
    cases h
    exact W.iret hx hb hr (fun t ht hW => ⟨rfl, by rw [ht]; exact hP, hS.F ht⟩) hS.2.2 dX6_lay_9
theorem zVX6_lay : yX6_lay.cls = RX6 ∧ yX6_lay.cls ≠ "java/lang/invoke/MethodHandle" ∧ yX6_lay.cls ≠ "java/lang/invoke/VarHandle" ∧ (parseMethodDescriptor yX6_lay.desc).map (fun d => d.parameters.length) = some 1 := by decide +kernel

/-! ===== public int take(int); ===== -/
theorem kX6_take_1 : Cond.fieldLink RX6 9 "TurnGroups" "shelf" "[I" ∈ wsX6_take := by decide +kernel
theorem kX6_take_2 : Cond.fieldLink RX6 43 "TurnGroups" "current" "I" ∈ wsX6_take := by decide +kernel
theorem uX6_take_RX6 : ∀ w ∈ u_ws RX6 TX6 6, w ∈ wsX6_take := by decide +kernel
def mX6_take (shelf : Nat → Int32) (cur : Int32) (zx1 : Int32) : Option (Int32 × Int32) := if (mX6_isShelfPlace zx1) = 0 then (some ((-2 : Int32), cur)) else (gd (inb zx1 8) (lT (shelf (Int32.toNatClampNeg zx1)) (fun cur_1 => some ((1 : Int32), cur_1))))
set_option maxRecDepth 100000 in
set_option maxHeartbeats 4000000 in
theorem qX6_take (l : Launch) (D : va_G) (cI : ClassId) (cT : ClassId) (ga : Nat → Nat) (ta : Nat → Nat → Nat) (shelf : Nat → Int32) (np : Int32) (ng : Int32) (cur : Int32) (tw : Nat → TW) (zx1 : Int32) (zr0 : Int32) (ocur : Int32) (h : mX6_take shelf cur zx1 = some (zr0, ocur)) : Met l yX6_take wsX6_take ({ frames := 1, cells := 0, slots := 0, locals := 20 } : Room) (tg_PM D [(cI, .int), (cT, .object "TurnGroups$Tower")] [.ref (ga 0), .int zx1] (wG ta cI cT ga shelf np ng cur tw)) (tg_Mi D (wG ta cI cT ga shelf np ng cur tw) (wG ta cI cT ga shelf np ng ocur tw) zr0) 0 0 (tg_in (wG ta cI cT ga shelf np ng cur tw)) := by
  refine Met.ofW (cc := cX6_take) (maxL := 2) (ret := (some .int)) (by decide) rfl ?_
  intro p e s m zargs zbelow zmeth c s₁ B hml hv
  obtain ⟨hargs, hP, hK, hN, hD0⟩ := hv
  have hx := B.exec
  have hb := B.bytes
  have hr := B.returns
  have hts := atoms_spec (ws := wsX6_take) B.pre
  have hown : s.vm.findClass RX6 = some m.cls := findClass_of_methodNamed B.named
  have hlocks := B.notSynchronized
  have hDD : tg_DD (tg_in (wG ta cI cT ga shelf np ng cur tw)) (adG ta ga) := tg_DD.of (tg_D hD0) wG_ad
  have hS : va_S (tg_in (wG ta cI cT ga shelf np ng cur tw)) s.heap s.heap [] := va_S.rf
  have hl := lv_entry ([.ref (ga 0), .int zx1]) (n := 2) (Nat.le_of_ble_eq_true rfl)
  refine W.eq (g2 := entryFrame m ([.ref (ga 0), .int zx1] : List Value).toArray 2) (by rw [hargs]) ?_
  rw [lg_entry_eq]
  generalize (lg_sl ([.ref (ga 0), .int zx1]) ++ List.replicate (2 - (lg_sl ([.ref (ga 0), .int zx1])).length) Slot.unset).toArray = zls at hl ⊢
  have hl : lv_has zls 2 [(0, .ref (ga 0)), (1, .int zx1)] := hl
  rw [mX6_take] at h
  refine lv_iload_n hx hb dX6_take_0 rfl (lv_at hl 1 rfl) ?_
  refine tg_cRi (va_runS (As := [.int zx1]) (rest := []) ⟨hx, hb, hml, hown, hts⟩ (qX6_isShelfPlace l D zx1 _ rfl) (va_cwS 1 hts gX6_take_X6_isShelfPlace rfl rfl rfl zSX6_isShelfPlace ⟨Nat.le_of_ble_eq_true rfl, Nat.le_of_ble_eq_true rfl⟩) (tg_preS tg_nil (hK.sub (tys' := []) [] rfl) hN) rfl rfl hl.1 rfl (lv_room (Nat.le_of_ble_eq_true rfl)) dX6_take_1 ⟨Nat.zero_le _, Nat.zero_le _⟩) ?_
  refine lv_if_ne (tgt := 10) hx hb dX6_take_4 (by decide) (fun cb => ?_) (fun cb => ?_)
  · rw [if_neg cb] at h
    refine lv_aload_n hx hb dX6_take_10 rfl (lv_at hl 0 rfl) ?_
    refine lv_aload_n hx hb dX6_take_11 rfl (lv_at hl 0 rfl) ?_
    refine va_get (D := D) (ci := 5) (v := .ref (ga 1)) (C := RX6) (T := TX6) (N := 6) hx hb hts uX6_take_RX6 hown hK hP 0 rfl rfl 0 (by decide) (hts _ kX6_take_1) (fun _ h9 => h9) rfl dX6_take_12 ?_
    refine lv_iload_n hx hb dX6_take_15 rfl (lv_at hl 1 rfl) ?_
    obtain ⟨gg, h⟩ := gd_el h
    refine va_iald hx hb hK hP 1 0 rfl rfl (inb_in gg) dX6_take_16 ?_
    obtain ⟨cur_1, ecur_1, h⟩ := lT_el h
    refine tg_top ecur_1 ?_
    refine va_put (D := D) (ci := 5) (v := .int cur_1) (ty := .int) (C := RX6) (T := TX6) (N := 6) hx hb hts uX6_take_RX6 tyX6 tyX6_ok nmX6 hown hK hP (hDD _ wG_ad) hS 0 rfl rfl 5 (by decide) (hts _ kX6_take_2) (fun _ h9 => h9) rfl (by decide +kernel) rfl rfl (Nat.le_of_ble_eq_true rfl) dX6_take_17 (fun zH zlocs hP _ hS => ?_)
    have hP : va_P D vwCl (wG ta cI cT ga shelf np ng cur_1 tw) zH := hP
    refine lv_iconst (v := 1) hx hb dX6_take_20 (by decide) ?_
    cases h
    exact W.iret hx hb hr (fun t ht hW => ⟨rfl, by rw [ht]; exact hP, hS.F ht⟩) hS.2.2 dX6_take_21
  · rw [if_pos cb] at h
    refine lv_bipush (v := (-2)) hx hb dX6_take_7 (by decide) ?_
    cases h
    exact W.iret hx hb hr (fun t ht hW => ⟨rfl, by rw [ht]; exact hP, hS.F ht⟩) hS.2.2 dX6_take_9
theorem zVX6_take : yX6_take.cls = RX6 ∧ yX6_take.cls ≠ "java/lang/invoke/MethodHandle" ∧ yX6_take.cls ≠ "java/lang/invoke/VarHandle" ∧ (parseMethodDescriptor yX6_take.desc).map (fun d => d.parameters.length) = some 1 := by decide +kernel

/-! ===== public int then(int); ===== -/
theorem kX6_then_1 : Cond.fieldLink RX6 43 "TurnGroups" "current" "I" ∈ wsX6_then := by decide +kernel
theorem kX6_then_2 : Cond.fieldLink RX6 9 "TurnGroups" "shelf" "[I" ∈ wsX6_then := by decide +kernel
theorem uX6_then_RX6 : ∀ w ∈ u_ws RX6 TX6 6, w ∈ wsX6_then := by decide +kernel
def mX6_then (F : Nat) (shelf : Nat → Int32) (cur : Int32) (zx1 : Int32) : Option (Int32 × Int32) := if (mX6_isShelfPlace zx1) = 0 then (some ((-2 : Int32), cur)) else (gd (inb zx1 8) (bd (mX6_chain F cur (shelf (Int32.toNatClampNeg zx1))) (fun zr_1 => some ((1 : Int32), zr_1))))
set_option maxRecDepth 100000 in
set_option maxHeartbeats 4000000 in
theorem qX6_then (l : Launch) (D : va_G) (cI : ClassId) (cT : ClassId) (ga : Nat → Nat) (ta : Nat → Nat → Nat) (shelf : Nat → Int32) (np : Int32) (ng : Int32) (cur : Int32) (tw : Nat → TW) (zx1 : Int32) (F : Nat) (zr0 : Int32) (ocur : Int32) (h : mX6_then F shelf cur zx1 = some (zr0, ocur)) : Met l yX6_then wsX6_then ({ frames := 1, cells := 0, slots := 0, locals := 24 } : Room) (tg_PM D [(cI, .int), (cT, .object "TurnGroups$Tower")] [.ref (ga 0), .int zx1] (wG ta cI cT ga shelf np ng cur tw)) (tg_Mi D (wG ta cI cT ga shelf np ng cur tw) (wG ta cI cT ga shelf np ng ocur tw) zr0) 0 0 (tg_in (wG ta cI cT ga shelf np ng cur tw)) := by
  refine Met.ofW (cc := cX6_then) (maxL := 2) (ret := (some .int)) (by decide) rfl ?_
  intro p e s m zargs zbelow zmeth c s₁ B hml hv
  obtain ⟨hargs, hP, hK, hN, hD0⟩ := hv
  have hx := B.exec
  have hb := B.bytes
  have hr := B.returns
  have hts := atoms_spec (ws := wsX6_then) B.pre
  have hown : s.vm.findClass RX6 = some m.cls := findClass_of_methodNamed B.named
  have hlocks := B.notSynchronized
  have hDD : tg_DD (tg_in (wG ta cI cT ga shelf np ng cur tw)) (adG ta ga) := tg_DD.of (tg_D hD0) wG_ad
  have hS : va_S (tg_in (wG ta cI cT ga shelf np ng cur tw)) s.heap s.heap [] := va_S.rf
  have hl := lv_entry ([.ref (ga 0), .int zx1]) (n := 2) (Nat.le_of_ble_eq_true rfl)
  refine W.eq (g2 := entryFrame m ([.ref (ga 0), .int zx1] : List Value).toArray 2) (by rw [hargs]) ?_
  rw [lg_entry_eq]
  generalize (lg_sl ([.ref (ga 0), .int zx1]) ++ List.replicate (2 - (lg_sl ([.ref (ga 0), .int zx1])).length) Slot.unset).toArray = zls at hl ⊢
  have hl : lv_has zls 2 [(0, .ref (ga 0)), (1, .int zx1)] := hl
  rw [mX6_then] at h
  refine lv_iload_n hx hb dX6_then_0 rfl (lv_at hl 1 rfl) ?_
  refine tg_cRi (va_runS (As := [.int zx1]) (rest := []) ⟨hx, hb, hml, hown, hts⟩ (qX6_isShelfPlace l D zx1 _ rfl) (va_cwS 1 hts gX6_then_X6_isShelfPlace rfl rfl rfl zSX6_isShelfPlace ⟨Nat.le_of_ble_eq_true rfl, Nat.le_of_ble_eq_true rfl⟩) (tg_preS tg_nil (hK.sub (tys' := []) [] rfl) hN) rfl rfl hl.1 rfl (lv_room (Nat.le_of_ble_eq_true rfl)) dX6_then_1 ⟨Nat.zero_le _, Nat.zero_le _⟩) ?_
  refine lv_if_ne (tgt := 10) hx hb dX6_then_4 (by decide) (fun cb => ?_) (fun cb => ?_)
  · rw [if_neg cb] at h
    refine lv_aload_n hx hb dX6_then_10 rfl (lv_at hl 0 rfl) ?_
    refine lv_aload_n hx hb dX6_then_11 rfl (lv_at hl 0 rfl) ?_
    refine va_get (D := D) (ci := 5) (v := .int cur) (C := RX6) (T := TX6) (N := 6) hx hb hts uX6_then_RX6 hown hK hP 0 rfl rfl 5 (by decide) (hts _ kX6_then_1) (fun _ h9 => h9) rfl dX6_then_12 ?_
    refine lv_aload_n hx hb dX6_then_15 rfl (lv_at hl 0 rfl) ?_
    refine va_get (D := D) (ci := 5) (v := .ref (ga 1)) (C := RX6) (T := TX6) (N := 6) hx hb hts uX6_then_RX6 hown hK hP 0 rfl rfl 0 (by decide) (hts _ kX6_then_2) (fun _ h9 => h9) rfl dX6_then_16 ?_
    refine lv_iload_n hx hb dX6_then_19 rfl (lv_at hl 1 rfl) ?_
    obtain ⟨gg, h⟩ := gd_el h
    refine va_iald hx hb hK hP 1 0 rfl rfl (inb_in gg) dX6_then_20 ?_
    obtain ⟨zr_1, hc, h⟩ := bd_el h
    refine tg_cRi (va_runS (As := [.int cur, .int (shelf (Int32.toNatClampNeg zx1))]) (rest := [.ref (ga 0)]) ⟨hx, hb, hml, hown, hts⟩ (qX6_chain l D cur (shelf (Int32.toNatClampNeg zx1)) F zr_1 hc) (va_cwS 2 hts gX6_then_X6_chain rfl rfl rfl zSX6_chain ⟨Nat.le_of_ble_eq_true rfl, Nat.le_of_ble_eq_true rfl⟩) (tg_preS tg_nil (hK.sub (tys' := []) [] rfl) hN) rfl rfl hl.1 rfl (lv_room (Nat.le_of_ble_eq_true rfl)) dX6_then_21 ⟨Nat.zero_le _, Nat.zero_le _⟩) ?_
    refine va_put (D := D) (ci := 5) (v := .int zr_1) (ty := .int) (C := RX6) (T := TX6) (N := 6) hx hb hts uX6_then_RX6 tyX6 tyX6_ok nmX6 hown hK hP (hDD _ wG_ad) hS 0 rfl rfl 5 (by decide) (hts _ kX6_then_1) (fun _ h9 => h9) rfl (by decide +kernel) rfl rfl (Nat.le_of_ble_eq_true rfl) dX6_then_24 (fun zH zlocs hP _ hS => ?_)
    have hP : va_P D vwCl (wG ta cI cT ga shelf np ng zr_1 tw) zH := hP
    refine lv_iconst (v := 1) hx hb dX6_then_27 (by decide) ?_
    cases h
    exact W.iret hx hb hr (fun t ht hW => ⟨rfl, by rw [ht]; exact hP, hS.F ht⟩) hS.2.2 dX6_then_28
  · rw [if_pos cb] at h
    refine lv_bipush (v := (-2)) hx hb dX6_then_7 (by decide) ?_
    cases h
    exact W.iret hx hb hr (fun t ht hW => ⟨rfl, by rw [ht]; exact hP, hS.F ht⟩) hS.2.2 dX6_then_9
theorem zVX6_then : yX6_then.cls = RX6 ∧ yX6_then.cls ≠ "java/lang/invoke/MethodHandle" ∧ yX6_then.cls ≠ "java/lang/invoke/VarHandle" ∧ (parseMethodDescriptor yX6_then.desc).map (fun d => d.parameters.length) = some 1 := by decide +kernel

/-! ===== public int back(); ===== -/
theorem kX6_back_1 : Cond.fieldLink RX6 43 "TurnGroups" "current" "I" ∈ wsX6_back := by decide +kernel
theorem uX6_back_RX6 : ∀ w ∈ u_ws RX6 TX6 6, w ∈ wsX6_back := by decide +kernel
def mX6_back (F : Nat) (cur : Int32) : Option (Int32 × Int32) := bd (mX6_timesToOne F cur) (fun zr => bd (mX6_reverse F cur) (fun zr_1 => some (zr, zr_1)))
set_option maxRecDepth 100000 in
set_option maxHeartbeats 4000000 in
theorem qX6_back (l : Launch) (D : va_G) (cI : ClassId) (cT : ClassId) (ga : Nat → Nat) (ta : Nat → Nat → Nat) (shelf : Nat → Int32) (np : Int32) (ng : Int32) (cur : Int32) (tw : Nat → TW) (F : Nat) (zr0 : Int32) (ocur : Int32) (h : mX6_back F cur = some (zr0, ocur)) : Met l yX6_back wsX6_back ({ frames := 2, cells := 0, slots := 0, locals := 46 } : Room) (tg_PM D [(cI, .int), (cT, .object "TurnGroups$Tower")] [.ref (ga 0)] (wG ta cI cT ga shelf np ng cur tw)) (tg_Mi D (wG ta cI cT ga shelf np ng cur tw) (wG ta cI cT ga shelf np ng ocur tw) zr0) 0 0 (tg_in (wG ta cI cT ga shelf np ng cur tw)) := by
  refine Met.ofW (cc := cX6_back) (maxL := 2) (ret := (some .int)) (by decide) rfl ?_
  intro p e s m zargs zbelow zmeth c s₁ B hml hv
  obtain ⟨hargs, hP, hK, hN, hD0⟩ := hv
  have hx := B.exec
  have hb := B.bytes
  have hr := B.returns
  have hts := atoms_spec (ws := wsX6_back) B.pre
  have hown : s.vm.findClass RX6 = some m.cls := findClass_of_methodNamed B.named
  have hlocks := B.notSynchronized
  have hDD : tg_DD (tg_in (wG ta cI cT ga shelf np ng cur tw)) (adG ta ga) := tg_DD.of (tg_D hD0) wG_ad
  have hS : va_S (tg_in (wG ta cI cT ga shelf np ng cur tw)) s.heap s.heap [] := va_S.rf
  have hl := lv_entry ([.ref (ga 0)]) (n := 2) (Nat.le_of_ble_eq_true rfl)
  refine W.eq (g2 := entryFrame m ([.ref (ga 0)] : List Value).toArray 2) (by rw [hargs]) ?_
  rw [lg_entry_eq]
  generalize (lg_sl ([.ref (ga 0)]) ++ List.replicate (2 - (lg_sl ([.ref (ga 0)])).length) Slot.unset).toArray = zls at hl ⊢
  have hl : lv_has zls 2 [(0, .ref (ga 0))] := hl
  rw [mX6_back] at h
  refine lv_aload_n hx hb dX6_back_0 rfl (lv_at hl 0 rfl) ?_
  refine va_get (D := D) (ci := 5) (v := .int cur) (C := RX6) (T := TX6) (N := 6) hx hb hts uX6_back_RX6 hown hK hP 0 rfl rfl 5 (by decide) (hts _ kX6_back_1) (fun _ h9 => h9) rfl dX6_back_1 ?_
  obtain ⟨zr, hc, h⟩ := bd_el h
  refine tg_cRi (va_runS (As := [.int cur]) (rest := []) ⟨hx, hb, hml, hown, hts⟩ (qX6_timesToOne l D cur F zr hc) (va_cwS 1 hts gX6_back_X6_timesToOne rfl rfl rfl zSX6_timesToOne ⟨Nat.le_of_ble_eq_true rfl, Nat.le_of_ble_eq_true rfl⟩) (tg_preS tg_nil (hK.sub (tys' := []) [] rfl) hN) rfl rfl hl.1 rfl (lv_room (Nat.le_of_ble_eq_true rfl)) dX6_back_4 ⟨Nat.zero_le _, Nat.zero_le _⟩) ?_
  refine lv_istore_n (lv' := [(1, .int zr), (0, .ref (ga 0))]) hx hb dX6_back_7 rfl hl (by decide) rfl (fun zls hl => ?_)
  refine lv_aload_n hx hb dX6_back_8 rfl (lv_at hl 1 rfl) ?_
  refine lv_aload_n hx hb dX6_back_9 rfl (lv_at hl 1 rfl) ?_
  refine va_get (D := D) (ci := 5) (v := .int cur) (C := RX6) (T := TX6) (N := 6) hx hb hts uX6_back_RX6 hown hK hP 0 rfl rfl 5 (by decide) (hts _ kX6_back_1) (fun _ h9 => h9) rfl dX6_back_10 ?_
  obtain ⟨zr_1, hc_1, h⟩ := bd_el h
  refine tg_cRi (va_runS (As := [.int cur]) (rest := [.ref (ga 0)]) ⟨hx, hb, hml, hown, hts⟩ (qX6_reverse l D cur F zr_1 hc_1) (va_cwS 1 hts gX6_back_X6_reverse rfl rfl rfl zSX6_reverse ⟨Nat.le_of_ble_eq_true rfl, Nat.le_of_ble_eq_true rfl⟩) (tg_preS tg_nil (hK.sub (tys' := []) [] rfl) hN) rfl rfl hl.1 rfl (lv_room (Nat.le_of_ble_eq_true rfl)) dX6_back_13 ⟨Nat.zero_le _, Nat.zero_le _⟩) ?_
  refine va_put (D := D) (ci := 5) (v := .int zr_1) (ty := .int) (C := RX6) (T := TX6) (N := 6) hx hb hts uX6_back_RX6 tyX6 tyX6_ok nmX6 hown hK hP (hDD _ wG_ad) hS 0 rfl rfl 5 (by decide) (hts _ kX6_back_1) (fun _ h9 => h9) rfl (by decide +kernel) rfl rfl (Nat.le_of_ble_eq_true rfl) dX6_back_16 (fun zH zlocs hP _ hS => ?_)
  have hP : va_P D vwCl (wG ta cI cT ga shelf np ng zr_1 tw) zH := hP
  refine lv_iload_n hx hb dX6_back_19 rfl (lv_at hl 0 rfl) ?_
  cases h
  exact W.iret hx hb hr (fun t ht hW => ⟨rfl, by rw [ht]; exact hP, hS.F ht⟩) hS.2.2 dX6_back_20
theorem zVX6_back : yX6_back.cls = RX6 ∧ yX6_back.cls ≠ "java/lang/invoke/MethodHandle" ∧ yX6_back.cls ≠ "java/lang/invoke/VarHandle" ∧ (parseMethodDescriptor yX6_back.desc).map (fun d => d.parameters.length) = some 0 := by decide +kernel

/-! ===== public int power(int); ===== -/
theorem kX6_power_1 : Cond.methodLink RX6 67 Lib.MathLoose.abs_long.x ∈ wsX6_power := by decide +kernel
theorem kX6_power_2 : Cond.static Lib.MathLoose.abs_long.x ∈ wsX6_power := by decide +kernel
theorem kX6_power_3 : Cond.initialized "java/lang/Math" ∈ wsX6_power := by decide +kernel
theorem kX6_power_4 : Cond.code Lib.MathLoose.abs_long.x Lib.MathLoose.abs_long.code 2 (some .long) ∈ wsX6_power := by decide +kernel
theorem kX6_power_5 : Cond.constant RX6 73 (1985229328) ∈ wsX6_power := by decide +kernel
theorem kX6_power_6 : Cond.fieldLink RX6 43 "TurnGroups" "current" "I" ∈ wsX6_power := by decide +kernel
theorem uX6_power_RX6 : ∀ w ∈ u_ws RX6 TX6 6, w ∈ wsX6_power := by decide +kernel
def mX6_power_L33 (F : Nat) : Nat → Int32 → Int32 → Int64 → Option (Int32)
  | 0, _, _, _ => none
  | f + 1, zx4, zx5, zx6 => if (lg_cmp zx6 0) ≤ 0 then (some zx5) else (bd (if (lg_cmp (zx6 &&& 1) 1) = 0 then (bd (mX6_chain F zx5 zx4) (fun zr_1 => some zr_1)) else (some zx5)) (fun zx5_1 => bd (mX6_chain F zx4 zx4) (fun zr => lT (zx6 >>> (Int32.toInt64 1 &&& 63)) (fun zx6_1 => mX6_power_L33 F f zr zx5_1 zx6_1))))
theorem mX6_power_L33_s (F : Nat) (f : Nat) (zx4 : Int32) (zx5 : Int32) (zx6 : Int64) : mX6_power_L33 F (f + 1) zx4 zx5 zx6 = (if (lg_cmp zx6 0) ≤ 0 then (some zx5) else (bd (if (lg_cmp (zx6 &&& 1) 1) = 0 then (bd (mX6_chain F zx5 zx4) (fun zr_1 => some zr_1)) else (some zx5)) (fun zx5_1 => bd (mX6_chain F zx4 zx4) (fun zr => lT (zx6 >>> (Int32.toInt64 1 &&& 63)) (fun zx6_1 => mX6_power_L33 F f zr zx5_1 zx6_1))))) := rfl
def mX6_power (F : Nat) (cur : Int32) (zx1 : Int32) : Option (Int32 × Int32) := lT (if 0 < (Int32.toInt64 zx1) then (Int32.toInt64 zx1) else -(Int32.toInt64 zx1)) (fun zx2 => bd (if 0 ≤ zx1 then (some cur) else (bd (mX6_reverse F cur) (fun zr_1 => some zr_1))) (fun zv => bd (mX6_power_L33 F F zv 1985229328 zx2) (fun zx5 => lT (if zx5 = 1985229328 then (1 : Int32) else (0 : Int32)) (fun zv_1 => some ((mX6_truth zv_1), zx5)))))
set_option maxRecDepth 100000 in
set_option maxHeartbeats 4000000 in
theorem wX6_power_L33 {p : Program} {l : Launch} {e : Env} {s : State} {m : MethodId} {zargs : Array Value} {zbelow : List Frame} {zmeth : Method} {c : Code} {D : va_G} {zQ : State → Prop} {zA : Nat → Prop} {ga : Nat → Nat} {ta : Nat → Nat → Nat} {cI cT : ClassId} {shelf : Nat → Int32} {np : Int32} {ng : Int32} {cur : Int32} {tw : Nat → TW} (C0 : tg_C p s m zmeth c zargs cX6_power RX6 wsX6_power 8 D [(cI, .int), (cT, .object "TurnGroups$Tower")]) (hDD : tg_DD zA (adG ta ga)) (hlocks : zmeth.locks = false) (hr : zmeth.sig.returnType = (some .int)) (F : Nat) : ∀ (f : Nat) (zx4 : Int32) (zx5 : Int32) (zx6 : Int64) (zo5 : Int32), mX6_power_L33 F f zx4 zx5 zx6 = some zo5 → ∀ (zH : Heap) (zlocs : List Loc), va_P D vwCl (wG ta cI cT ga shelf np ng cur tw) zH → va_S zA s.heap zH zlocs → ∀ (zls : Array Slot), lv_has zls 8 [(0, .ref (ga 0)), (4, .int zx4), (5, .int zx5), (6, .long zx6)] → (∀ (zH : Heap) (zlocs : List Loc), va_P D vwCl (wG ta cI cT ga shelf np ng cur tw) zH → va_S zA s.heap zH zlocs → ∀ (zls : Array Slot), lv_has zls 8 [(0, .ref (ga 0)), (5, .int zo5)] → W p l e ({ frames := 1, cells := 0, slots := 0, locals := 24 } : Room) s m zargs zbelow zmeth c zH zlocs 0 0 zQ (F0 m 76 zls [])) → W p l e ({ frames := 1, cells := 0, slots := 0, locals := 24 } : Room) s m zargs zbelow zmeth c zH zlocs 0 0 zQ (F0 m 33 zls []) := by
  obtain ⟨hx, hb, hml, hown, hts, hK, hN⟩ := C0
  intro f
  induction f with
  | zero => intro _ _ _ _ h; exact absurd (show none = some _ from h) (fun h9 => by cases h9)
  | succ f ih =>
    intro zx4 zx5 zx6 zo5 h zH zlocs hP hS zls hl kk
    rw [mX6_power_L33_s] at h
    refine lv_lload hx hb dX6_power_33 (lv_at hl 3 rfl) ?_
    refine lv_lconst (v := 0) hx hb dX6_power_35 (by decide) ?_
    refine W.lcmp hx hb dX6_power_36 ?_
    refine lv_if_le (tgt := 76) hx hb dX6_power_37 (by decide) (fun cb => ?_) (fun cb => ?_)
    · rw [if_pos cb] at h
      cases h
      exact kk _ _ hP hS _ (lv_sub hl [0, 2] rfl)
    · rw [if_neg cb] at h
      refine lv_lload hx hb dX6_power_40 (lv_at hl 3 rfl) ?_
      refine lv_lconst (v := 1) hx hb dX6_power_42 (by decide) ?_
      refine lv_land hx hb dX6_power_43 ?_
      refine lv_lconst (v := 1) hx hb dX6_power_44 (by decide) ?_
      refine W.lcmp hx hb dX6_power_45 ?_
      obtain ⟨zx5_1, hv, h⟩ := bd_el h
      have hj : ∀ (zls : Array Slot), lv_has zls 8 [(0, .ref (ga 0)), (4, .int zx4), (5, .int zx5_1), (6, .long zx6)] → W p l e ({ frames := 1, cells := 0, slots := 0, locals := 24 } : Room) s m zargs zbelow zmeth c zH zlocs 0 0 zQ (F0 m 58 zls []) := by
        intro zls hl
        refine lv_iload hx hb dX6_power_58 (lv_at hl 1 rfl) ?_
        refine lv_iload hx hb dX6_power_60 (lv_at hl 1 rfl) ?_
        obtain ⟨zr, hc, h⟩ := bd_el h
        refine tg_cRi (va_runS (As := [.int zx4, .int zx4]) (rest := []) ⟨hx, hb, hml, hown, hts⟩ (qX6_chain l D zx4 zx4 F zr hc) (va_cwS 2 hts gX6_power_X6_chain rfl rfl rfl zSX6_chain ⟨Nat.le_of_ble_eq_true rfl, Nat.le_of_ble_eq_true rfl⟩) (tg_preS tg_nil (hK.sub (tys' := []) [] rfl) hN) rfl rfl hl.1 rfl (lv_room (Nat.le_of_ble_eq_true rfl)) dX6_power_62 ⟨Nat.zero_le _, Nat.zero_le _⟩) ?_
        refine lv_istore (lv' := [(4, .int zr), (0, .ref (ga 0)), (5, .int zx5_1), (6, .long zx6)]) hx hb dX6_power_65 hl (by decide) rfl (fun zls hl => ?_)
        refine lv_lload hx hb dX6_power_67 (lv_at hl 3 rfl) ?_
        refine lv_iconst (v := 1) hx hb dX6_power_69 (by decide) ?_
        refine lv_lshr (v := (zx6 >>> (Int32.toInt64 1 &&& 63))) hx hb dX6_power_70 rfl ?_
        obtain ⟨zx6_1, ex6_1, h⟩ := lT_el h
        refine tg_topl ex6_1 ?_
        refine lv_lstore (lv' := [(6, .long zx6_1), (4, .int zr), (0, .ref (ga 0)), (5, .int zx5_1)]) hx hb dX6_power_71 hl (by decide) rfl (fun zls hl => ?_)
        refine lv_goto (tgt := 33) hx hb dX6_power_73 (by decide) ?_
        exact ih _ _ _ _ h _ _ hP hS _ (lv_sub hl [2, 1, 3, 0] rfl) kk
      refine lv_if_ne (tgt := 58) hx hb dX6_power_46 (by decide) (fun cb_1 => ?_) (fun cb_1 => ?_)
      · rw [if_neg cb_1] at hv
        cases hv
        exact hj _ (lv_sub hl [0, 1, 2, 3] rfl)
      · rw [if_pos cb_1] at hv
        refine lv_iload hx hb dX6_power_49 (lv_at hl 2 rfl) ?_
        refine lv_iload hx hb dX6_power_51 (lv_at hl 1 rfl) ?_
        obtain ⟨zr_1, hc_1, hv⟩ := bd_el hv
        refine tg_cRi (va_runS (As := [.int zx5, .int zx4]) (rest := []) ⟨hx, hb, hml, hown, hts⟩ (qX6_chain l D zx5 zx4 F zr_1 hc_1) (va_cwS 2 hts gX6_power_X6_chain rfl rfl rfl zSX6_chain ⟨Nat.le_of_ble_eq_true rfl, Nat.le_of_ble_eq_true rfl⟩) (tg_preS tg_nil (hK.sub (tys' := []) [] rfl) hN) rfl rfl hl.1 rfl (lv_room (Nat.le_of_ble_eq_true rfl)) dX6_power_53 ⟨Nat.zero_le _, Nat.zero_le _⟩) ?_
        refine lv_istore (lv' := [(5, .int zr_1), (0, .ref (ga 0)), (4, .int zx4), (6, .long zx6)]) hx hb dX6_power_56 hl (by decide) rfl (fun zls hl => ?_)
        cases hv
        exact hj _ (lv_sub hl [1, 2, 0, 3] rfl)
set_option maxRecDepth 100000 in
set_option maxHeartbeats 4000000 in
theorem qX6_power (l : Launch) (D : va_G) (cI : ClassId) (cT : ClassId) (ga : Nat → Nat) (ta : Nat → Nat → Nat) (shelf : Nat → Int32) (np : Int32) (ng : Int32) (cur : Int32) (tw : Nat → TW) (zx1 : Int32) (F : Nat) (zr0 : Int32) (ocur : Int32) (h : mX6_power F cur zx1 = some (zr0, ocur)) : Met l yX6_power wsX6_power ({ frames := 1, cells := 0, slots := 0, locals := 24 } : Room) (tg_PM D [(cI, .int), (cT, .object "TurnGroups$Tower")] [.ref (ga 0), .int zx1] (wG ta cI cT ga shelf np ng cur tw)) (tg_Mi D (wG ta cI cT ga shelf np ng cur tw) (wG ta cI cT ga shelf np ng ocur tw) zr0) 0 0 (tg_in (wG ta cI cT ga shelf np ng cur tw)) := by
  refine Met.ofW (cc := cX6_power) (maxL := 8) (ret := (some .int)) (by decide) rfl ?_
  intro p e s m zargs zbelow zmeth c s₁ B hml hv
  obtain ⟨hargs, hP, hK, hN, hD0⟩ := hv
  have hx := B.exec
  have hb := B.bytes
  have hr := B.returns
  have hts := atoms_spec (ws := wsX6_power) B.pre
  have hown : s.vm.findClass RX6 = some m.cls := findClass_of_methodNamed B.named
  have hlocks := B.notSynchronized
  have hDD : tg_DD (tg_in (wG ta cI cT ga shelf np ng cur tw)) (adG ta ga) := tg_DD.of (tg_D hD0) wG_ad
  have hS : va_S (tg_in (wG ta cI cT ga shelf np ng cur tw)) s.heap s.heap [] := va_S.rf
  have hl := lv_entry ([.ref (ga 0), .int zx1]) (n := 8) (Nat.le_of_ble_eq_true rfl)
  refine W.eq (g2 := entryFrame m ([.ref (ga 0), .int zx1] : List Value).toArray 8) (by rw [hargs]) ?_
  rw [lg_entry_eq]
  generalize (lg_sl ([.ref (ga 0), .int zx1]) ++ List.replicate (8 - (lg_sl ([.ref (ga 0), .int zx1])).length) Slot.unset).toArray = zls at hl ⊢
  have hl : lv_has zls 8 [(0, .ref (ga 0)), (1, .int zx1)] := hl
  rw [mX6_power] at h
  refine lv_iload_n hx hb dX6_power_0 rfl (lv_at hl 1 rfl) ?_
  refine lv_i2l (v := (Int32.toInt64 zx1)) hx hb dX6_power_1 rfl ?_
  refine va_mabs_long hx hb (hml.trans hl.1.symm) hown (hts _ kX6_power_1) (hts _ kX6_power_2) (hts _ kX6_power_3) (hts _ kX6_power_4) (Nat.le_of_ble_eq_true rfl) (Nat.le_of_ble_eq_true rfl) (Nat.zero_le _) (Nat.zero_le _) dX6_power_2 ?_
  obtain ⟨zx2, ex2, h⟩ := lT_el h
  refine tg_topl ex2 ?_
  refine lv_lstore_n (lv' := [(2, .long zx2), (0, .ref (ga 0)), (1, .int zx1)]) hx hb dX6_power_5 rfl hl (by decide) rfl (fun zls hl => ?_)
  refine lv_iload_n hx hb dX6_power_6 rfl (lv_at hl 2 rfl) ?_
  obtain ⟨zv, hv, h⟩ := bd_el h
  have hj : W p l e ({ frames := 1, cells := 0, slots := 0, locals := 24 } : Room) s m zargs zbelow zmeth c s.heap [] 0 0 (MQ zbelow (tg_Mi D (wG ta cI cT ga shelf np ng cur tw) (wG ta cI cT ga shelf np ng ocur tw) zr0) zargs s 0 0 (tg_in (wG ta cI cT ga shelf np ng cur tw))) (F0 m 24 zls [.int zv]) := by
    refine lv_istore (lv' := [(4, .int zv), (2, .long zx2), (0, .ref (ga 0)), (1, .int zx1)]) hx hb dX6_power_24 hl (by decide) rfl (fun zls hl => ?_)
    refine lv_ldc hx hb hown (hts _ kX6_power_5) dX6_power_26 ?_
    refine lv_istore (lv' := [(5, .int 1985229328), (4, .int zv), (2, .long zx2), (0, .ref (ga 0)), (1, .int zx1)]) hx hb dX6_power_28 hl (by decide) rfl (fun zls hl => ?_)
    refine lv_lload_n hx hb dX6_power_30 rfl (lv_at hl 2 rfl) ?_
    refine lv_lstore (lv' := [(6, .long zx2), (5, .int 1985229328), (4, .int zv), (2, .long zx2), (0, .ref (ga 0)), (1, .int zx1)]) hx hb dX6_power_31 hl (by decide) rfl (fun zls hl => ?_)
    obtain ⟨zx5, hv_1, h⟩ := bd_el h
    refine wX6_power_L33 ⟨hx, hb, hml, hown, hts, hK, hN⟩ hDD hlocks hr F F _ _ _ _ hv_1 _ _ hP hS _ (lv_sub hl [4, 2, 1, 0] rfl) (fun zH zlocs hP hS zls hl => ?_)
    refine lv_aload_n hx hb dX6_power_76 rfl (lv_at hl 0 rfl) ?_
    refine lv_iload hx hb dX6_power_77 (lv_at hl 1 rfl) ?_
    refine va_put (D := D) (ci := 5) (v := .int zx5) (ty := .int) (C := RX6) (T := TX6) (N := 6) hx hb hts uX6_power_RX6 tyX6 tyX6_ok nmX6 hown hK hP (hDD _ wG_ad) hS 0 rfl rfl 5 (by decide) (hts _ kX6_power_6) (fun _ h9 => h9) rfl (by decide +kernel) rfl rfl (Nat.le_of_ble_eq_true rfl) dX6_power_79 (fun zH zlocs hP _ hS => ?_)
    have hP : va_P D vwCl (wG ta cI cT ga shelf np ng zx5 tw) zH := hP
    refine lv_iload hx hb dX6_power_82 (lv_at hl 1 rfl) ?_
    refine lv_ldc hx hb hown (hts _ kX6_power_5) dX6_power_84 ?_
    obtain ⟨zv_1, hv_2, h⟩ := lT_el h
    have hv_2 := hv_2.symm
    have hj_1 : W p l e ({ frames := 1, cells := 0, slots := 0, locals := 24 } : Room) s m zargs zbelow zmeth c zH zlocs 0 0 (MQ zbelow (tg_Mi D (wG ta cI cT ga shelf np ng cur tw) (wG ta cI cT ga shelf np ng ocur tw) zr0) zargs s 0 0 (tg_in (wG ta cI cT ga shelf np ng cur tw))) (F0 m 94 zls [.int zv_1]) := by
      refine tg_cRi (va_runS (As := [.int zv_1]) (rest := []) ⟨hx, hb, hml, hown, hts⟩ (qX6_truth l D zv_1 _ rfl) (va_cwS 1 hts gX6_power_X6_truth rfl rfl rfl zSX6_truth ⟨Nat.le_of_ble_eq_true rfl, Nat.le_of_ble_eq_true rfl⟩) (tg_preS tg_nil (hK.sub (tys' := []) [] rfl) hN) rfl rfl hl.1 rfl (lv_room (Nat.le_of_ble_eq_true rfl)) dX6_power_94 ⟨Nat.zero_le _, Nat.zero_le _⟩) ?_
      cases h
      exact W.iret hx hb hr (fun t ht hW => ⟨rfl, by rw [ht]; exact hP, hS.F ht⟩) hS.2.2 dX6_power_97
    refine lv_icmp_ne (tgt := 93) hx hb dX6_power_86 (by decide) (fun cb => ?_) (fun cb => ?_)
    · rw [if_neg cb] at hv_2
      refine lv_iconst (v := 0) hx hb dX6_power_93 (by decide) ?_
      subst hv_2
      exact hj_1 
    · rw [if_pos cb] at hv_2
      refine lv_iconst (v := 1) hx hb dX6_power_89 (by decide) ?_
      refine lv_goto (tgt := 94) hx hb dX6_power_90 (by decide) ?_
      subst hv_2
      exact hj_1 
  refine lv_if_ge (tgt := 20) hx hb dX6_power_7 (by decide) (fun cb_1 => ?_) (fun cb_1 => ?_)
  · rw [if_pos cb_1] at hv
    refine lv_aload_n hx hb dX6_power_20 rfl (lv_at hl 1 rfl) ?_
    refine va_get (D := D) (ci := 5) (v := .int cur) (C := RX6) (T := TX6) (N := 6) hx hb hts uX6_power_RX6 hown hK hP 0 rfl rfl 5 (by decide) (hts _ kX6_power_6) (fun _ h9 => h9) rfl dX6_power_21 ?_
    cases hv
    exact hj 
  · rw [if_neg cb_1] at hv
    refine lv_aload_n hx hb dX6_power_10 rfl (lv_at hl 1 rfl) ?_
    refine va_get (D := D) (ci := 5) (v := .int cur) (C := RX6) (T := TX6) (N := 6) hx hb hts uX6_power_RX6 hown hK hP 0 rfl rfl 5 (by decide) (hts _ kX6_power_6) (fun _ h9 => h9) rfl dX6_power_11 ?_
    obtain ⟨zr_1, hc, hv⟩ := bd_el hv
    refine tg_cRi (va_runS (As := [.int cur]) (rest := []) ⟨hx, hb, hml, hown, hts⟩ (qX6_reverse l D cur F zr_1 hc) (va_cwS 1 hts gX6_power_X6_reverse rfl rfl rfl zSX6_reverse ⟨Nat.le_of_ble_eq_true rfl, Nat.le_of_ble_eq_true rfl⟩) (tg_preS tg_nil (hK.sub (tys' := []) [] rfl) hN) rfl rfl hl.1 rfl (lv_room (Nat.le_of_ble_eq_true rfl)) dX6_power_14 ⟨Nat.zero_le _, Nat.zero_le _⟩) ?_
    refine lv_goto (tgt := 24) hx hb dX6_power_17 (by decide) ?_
    cases hv
    exact hj 
theorem zVX6_power : yX6_power.cls = RX6 ∧ yX6_power.cls ≠ "java/lang/invoke/MethodHandle" ∧ yX6_power.cls ≠ "java/lang/invoke/VarHandle" ∧ (parseMethodDescriptor yX6_power.desc).map (fun d => d.parameters.length) = some 1 := by decide +kernel

/-! ===== public int undo(); ===== -/
theorem kX6_undo_1 : Cond.fieldLink RX6 27 "TurnGroups" "groupCount" "I" ∈ wsX6_undo := by decide +kernel
theorem uX6_undo_RX6 : ∀ w ∈ u_ws RX6 TX6 6, w ∈ wsX6_undo := by decide +kernel
def mX6_undo (ng : Int32) : Int32 × Int32 := if ng = 0 then ((-1 : Int32), ng) else (lT (ng - 1) (fun ng_1 => (ng_1, ng_1)))
set_option maxRecDepth 100000 in
set_option maxHeartbeats 4000000 in
theorem qX6_undo (l : Launch) (D : va_G) (cI : ClassId) (cT : ClassId) (ga : Nat → Nat) (ta : Nat → Nat → Nat) (shelf : Nat → Int32) (np : Int32) (ng : Int32) (cur : Int32) (tw : Nat → TW) (zr0 : Int32) (ong : Int32) (h : mX6_undo ng = (zr0, ong)) : Met l yX6_undo wsX6_undo ({ frames := 0, cells := 0, slots := 0, locals := 0 } : Room) (tg_PM D [(cI, .int), (cT, .object "TurnGroups$Tower")] [.ref (ga 0)] (wG ta cI cT ga shelf np ng cur tw)) (tg_Mi D (wG ta cI cT ga shelf np ng cur tw) (wG ta cI cT ga shelf np ong cur tw) zr0) 0 0 (tg_in (wG ta cI cT ga shelf np ng cur tw)) := by
  refine Met.ofW (cc := cX6_undo) (maxL := 1) (ret := (some .int)) (by decide) rfl ?_
  intro p e s m zargs zbelow zmeth c s₁ B hml hv
  obtain ⟨hargs, hP, hK, hN, hD0⟩ := hv
  have hx := B.exec
  have hb := B.bytes
  have hr := B.returns
  have hts := atoms_spec (ws := wsX6_undo) B.pre
  have hown : s.vm.findClass RX6 = some m.cls := findClass_of_methodNamed B.named
  have hlocks := B.notSynchronized
  have hDD : tg_DD (tg_in (wG ta cI cT ga shelf np ng cur tw)) (adG ta ga) := tg_DD.of (tg_D hD0) wG_ad
  have hS : va_S (tg_in (wG ta cI cT ga shelf np ng cur tw)) s.heap s.heap [] := va_S.rf
  have hl := lv_entry ([.ref (ga 0)]) (n := 1) (Nat.le_of_ble_eq_true rfl)
  refine W.eq (g2 := entryFrame m ([.ref (ga 0)] : List Value).toArray 1) (by rw [hargs]) ?_
  rw [lg_entry_eq]
  generalize (lg_sl ([.ref (ga 0)]) ++ List.replicate (1 - (lg_sl ([.ref (ga 0)])).length) Slot.unset).toArray = zls at hl ⊢
  have hl : lv_has zls 1 [(0, .ref (ga 0))] := hl
  rw [mX6_undo] at h
  refine lv_aload_n hx hb dX6_undo_0 rfl (lv_at hl 0 rfl) ?_
  refine va_get (D := D) (ci := 5) (v := .int ng) (C := RX6) (T := TX6) (N := 6) hx hb hts uX6_undo_RX6 hown hK hP 0 rfl rfl 4 (by decide) (hts _ kX6_undo_1) (fun _ h9 => h9) rfl dX6_undo_1 ?_
  refine lv_if_ne (tgt := 9) hx hb dX6_undo_4 (by decide) (fun cb => ?_) (fun cb => ?_)
  · rw [if_neg cb] at h
    refine lv_aload_n hx hb dX6_undo_9 rfl (lv_at hl 0 rfl) ?_
    refine lv_dup hx hb dX6_undo_10 rfl ?_
    refine va_get (D := D) (ci := 5) (v := .int ng) (C := RX6) (T := TX6) (N := 6) hx hb hts uX6_undo_RX6 hown hK hP 0 rfl rfl 4 (by decide) (hts _ kX6_undo_1) (fun _ h9 => h9) rfl dX6_undo_11 ?_
    refine lv_iconst (v := 1) hx hb dX6_undo_14 (by decide) ?_
    refine lv_isub hx hb dX6_undo_15 ?_
    obtain ⟨ng_1, eng_1, h⟩ := lT_el h
    refine tg_top eng_1 ?_
    refine va_put (D := D) (ci := 5) (v := .int ng_1) (ty := .int) (C := RX6) (T := TX6) (N := 6) hx hb hts uX6_undo_RX6 tyX6 tyX6_ok nmX6 hown hK hP (hDD _ wG_ad) hS 0 rfl rfl 4 (by decide) (hts _ kX6_undo_1) (fun _ h9 => h9) rfl (by decide +kernel) rfl rfl (Nat.le_of_ble_eq_true rfl) dX6_undo_16 (fun zH zlocs hP _ hS => ?_)
    have hP : va_P D vwCl (wG ta cI cT ga shelf np ng_1 cur tw) zH := hP
    refine lv_aload_n hx hb dX6_undo_19 rfl (lv_at hl 0 rfl) ?_
    refine va_get (D := D) (ci := 5) (v := .int ng_1) (C := RX6) (T := TX6) (N := 6) hx hb hts uX6_undo_RX6 hown hK hP 0 rfl rfl 4 (by decide) (hts _ kX6_undo_1) (fun _ h9 => h9) rfl dX6_undo_20 ?_
    cases h
    exact W.iret hx hb hr (fun t ht hW => ⟨rfl, by rw [ht]; exact hP, hS.F ht⟩) hS.2.2 dX6_undo_23
  · rw [if_pos cb] at h
    refine lv_iconst (v := (-1)) hx hb dX6_undo_7 (by decide) ?_
    cases h
    exact W.iret hx hb hr (fun t ht hW => ⟨rfl, by rw [ht]; exact hP, hS.F ht⟩) hS.2.2 dX6_undo_8
theorem zVX6_undo : yX6_undo.cls = RX6 ∧ yX6_undo.cls ≠ "java/lang/invoke/MethodHandle" ∧ yX6_undo.cls ≠ "java/lang/invoke/VarHandle" ∧ (parseMethodDescriptor yX6_undo.desc).map (fun d => d.parameters.length) = some 0 := by decide +kernel

/-! ===== public int size(int); ===== -/
theorem kX6_size_1 : Cond.fieldLink RX6 15 "TurnGroups" "groups" "[LTurnGroups$Tower;" ∈ wsX6_size := by decide +kernel
theorem uX6_size_RX6 : ∀ w ∈ u_ws RX6 TX6 6, w ∈ wsX6_size := by decide +kernel
def mX6_size (F : Nat) (ng : Int32) (tw : Nat → TW) (zx1 : Int32) : Option (Int32) := if (mX6_isGroup ng zx1) = 0 then (some (-2 : Int32)) else (gd (inb zx1 10) (bd (mX4_turnsFrom F (tw (Int32.toNatClampNeg zx1)).2.2.1 0) (fun zr_1 => some zr_1)))
set_option maxRecDepth 100000 in
set_option maxHeartbeats 4000000 in
theorem qX6_size (l : Launch) (D : va_G) (cI : ClassId) (cT : ClassId) (ga : Nat → Nat) (ta : Nat → Nat → Nat) (shelf : Nat → Int32) (np : Int32) (ng : Int32) (cur : Int32) (tw : Nat → TW) (zx1 : Int32) (F : Nat) (zr0 : Int32) (h : mX6_size F ng tw zx1 = some zr0) : Met l yX6_size wsX6_size ({ frames := 2, cells := 0, slots := 0, locals := 43 } : Room) (tg_P D [(cI, .int), (cT, .object "TurnGroups$Tower")] [.ref (ga 0), .int zx1] ((wG ta cI cT ga shelf np ng cur tw))) (tg_Ri zr0) 0 0 (fun _ => False) := by
  refine Met.ofW (cc := cX6_size) (maxL := 2) (ret := (some .int)) (by decide) rfl ?_
  intro p e s m zargs zbelow zmeth c s₁ B hml hv
  obtain ⟨hargs, hP, hK, hN⟩ := hv
  have hx := B.exec
  have hb := B.bytes
  have hr := B.returns
  have hts := atoms_spec (ws := wsX6_size) B.pre
  have hown : s.vm.findClass RX6 = some m.cls := findClass_of_methodNamed B.named
  have hlocks := B.notSynchronized
  have hl := lv_entry ([.ref (ga 0), .int zx1]) (n := 2) (Nat.le_of_ble_eq_true rfl)
  refine W.eq (g2 := entryFrame m ([.ref (ga 0), .int zx1] : List Value).toArray 2) (by rw [hargs]) ?_
  rw [lg_entry_eq]
  generalize (lg_sl ([.ref (ga 0), .int zx1]) ++ List.replicate (2 - (lg_sl ([.ref (ga 0), .int zx1])).length) Slot.unset).toArray = zls at hl ⊢
  have hl : lv_has zls 2 [(0, .ref (ga 0)), (1, .int zx1)] := hl
  rw [mX6_size] at h
  refine lv_aload_n hx hb dX6_size_0 rfl (lv_at hl 0 rfl) ?_
  refine lv_iload_n hx hb dX6_size_1 rfl (lv_at hl 1 rfl) ?_
  refine tg_cRi (va_runV (As := [.int zx1]) (rest := []) ⟨hx, hb, hml, hown, hts⟩ (qX6_isGroup l D cI cT ga ta shelf np ng cur tw zx1 _ rfl) (cwV 1 hts gX6_size_X6_isGroup rfl rfl rfl zVX6_isGroup ⟨Nat.le_of_ble_eq_true rfl, Nat.le_of_ble_eq_true rfl⟩) (tg_preV (r := (RX6, TX6, 6)) (ci := 5) (q0 := 0) hP hK hN rfl rfl) rfl rfl hl.1 rfl (lv_room (Nat.le_of_ble_eq_true rfl)) dX6_size_2 ⟨Nat.zero_le _, Nat.zero_le _⟩) ?_
  refine lv_if_eq (tgt := 21) hx hb dX6_size_5 (by decide) (fun cb => ?_) (fun cb => ?_)
  · rw [if_pos cb] at h
    refine lv_bipush (v := (-2)) hx hb dX6_size_21 (by decide) ?_
    cases h
    exact W.iret hx hb hr (fun t ht hW => ⟨rfl, ht⟩) (fun _ h9 => absurd h9 List.not_mem_nil) dX6_size_23
  · rw [if_neg cb] at h
    refine lv_aload_n hx hb dX6_size_8 rfl (lv_at hl 0 rfl) ?_
    refine va_get (D := D) (ci := 5) (v := .ref (ga 2)) (C := RX6) (T := TX6) (N := 6) hx hb hts uX6_size_RX6 hown hK hP 0 rfl rfl 1 (by decide) (hts _ kX6_size_1) (fun _ h9 => h9) rfl dX6_size_9 ?_
    refine lv_iload_n hx hb dX6_size_12 rfl (lv_at hl 1 rfl) ?_
    obtain ⟨gg, h⟩ := gd_el h
    have hk : (Int32.toNatClampNeg zx1) < 12 := by have := inb_lt gg; omega
    refine va_aldq hx hb hK hP 2 1 rfl rfl (inb_in gg) dX6_size_13 ?_
    refine W.eq (g2 := F0 m 14 zls [.ref (ta (Int32.toNatClampNeg zx1) 0)]) rfl ?_
    refine lv_iconst (v := 0) hx hb dX6_size_14 (by decide) ?_
    obtain ⟨zr_1, hc, h⟩ := bd_el h
    refine tg_cRi (va_runV (As := [.int 0]) (rest := []) ⟨hx, hb, hml, hown, hts⟩ (qX4_turnsFrom l D cI (ta (Int32.toNatClampNeg zx1)) (tw (Int32.toNatClampNeg zx1)).1 (tw (Int32.toNatClampNeg zx1)).2.1 (tw (Int32.toNatClampNeg zx1)).2.2.1 (tw (Int32.toNatClampNeg zx1)).2.2.2.1 (tw (Int32.toNatClampNeg zx1)).2.2.2.2.1 (tw (Int32.toNatClampNeg zx1)).2.2.2.2.2.1 (tw (Int32.toNatClampNeg zx1)).2.2.2.2.2.2 0 F zr_1 hc) (cwV 1 hts gX6_size_X4_turnsFrom rfl rfl rfl zVX4_turnsFrom ⟨Nat.le_of_ble_eq_true rfl, Nat.le_of_ble_eq_true rfl⟩) (tg_preV (r := (RX4, TX4, 7)) (ci := 4) (q0 := 0) (wG_T hP hk) (hK.sub (tys' := [(cI, .int)]) [0] rfl) hN rfl rfl) rfl rfl hl.1 rfl (lv_room (Nat.le_of_ble_eq_true rfl)) dX6_size_15 ⟨Nat.zero_le _, Nat.zero_le _⟩) ?_
    refine lv_goto (tgt := 23) hx hb dX6_size_18 (by decide) ?_
    cases h
    exact W.iret hx hb hr (fun t ht hW => ⟨rfl, ht⟩) (fun _ h9 => absurd h9 List.not_mem_nil) dX6_size_23
theorem zVX6_size : yX6_size.cls = RX6 ∧ yX6_size.cls ≠ "java/lang/invoke/MethodHandle" ∧ yX6_size.cls ≠ "java/lang/invoke/VarHandle" ∧ (parseMethodDescriptor yX6_size.desc).map (fun d => d.parameters.length) = some 1 := by decide +kernel

/-! ===== public int has(int); ===== -/
theorem kX6_has_1 : Cond.fieldLink RX6 15 "TurnGroups" "groups" "[LTurnGroups$Tower;" ∈ wsX6_has := by decide +kernel
theorem kX6_has_2 : Cond.fieldLink RX6 43 "TurnGroups" "current" "I" ∈ wsX6_has := by decide +kernel
theorem uX6_has_RX6 : ∀ w ∈ u_ws RX6 TX6 6, w ∈ wsX6_has := by decide +kernel
def mX6_has (F : Nat) (ng : Int32) (cur : Int32) (tw : Nat → TW) (zx1 : Int32) : Option (Int32) := if (mX6_isGroup ng zx1) = 0 then (some (-2 : Int32)) else (gd (inb zx1 10) (bd (mX4_holds F (tw (Int32.toNatClampNeg zx1)).2.1 (tw (Int32.toNatClampNeg zx1)).2.2.1 cur) (fun zr_1 => some (mX6_truth zr_1))))
set_option maxRecDepth 100000 in
set_option maxHeartbeats 4000000 in
theorem qX6_has (l : Launch) (D : va_G) (cI : ClassId) (cT : ClassId) (ga : Nat → Nat) (ta : Nat → Nat → Nat) (shelf : Nat → Int32) (np : Int32) (ng : Int32) (cur : Int32) (tw : Nat → TW) (zx1 : Int32) (F : Nat) (zr0 : Int32) (h : mX6_has F ng cur tw zx1 = some zr0) : Met l yX6_has wsX6_has ({ frames := 3, cells := 0, slots := 0, locals := 70 } : Room) (tg_P D [(cI, .int), (cT, .object "TurnGroups$Tower")] [.ref (ga 0), .int zx1] ((wG ta cI cT ga shelf np ng cur tw))) (tg_Ri zr0) 0 0 (fun _ => False) := by
  refine Met.ofW (cc := cX6_has) (maxL := 2) (ret := (some .int)) (by decide) rfl ?_
  intro p e s m zargs zbelow zmeth c s₁ B hml hv
  obtain ⟨hargs, hP, hK, hN⟩ := hv
  have hx := B.exec
  have hb := B.bytes
  have hr := B.returns
  have hts := atoms_spec (ws := wsX6_has) B.pre
  have hown : s.vm.findClass RX6 = some m.cls := findClass_of_methodNamed B.named
  have hlocks := B.notSynchronized
  have hl := lv_entry ([.ref (ga 0), .int zx1]) (n := 2) (Nat.le_of_ble_eq_true rfl)
  refine W.eq (g2 := entryFrame m ([.ref (ga 0), .int zx1] : List Value).toArray 2) (by rw [hargs]) ?_
  rw [lg_entry_eq]
  generalize (lg_sl ([.ref (ga 0), .int zx1]) ++ List.replicate (2 - (lg_sl ([.ref (ga 0), .int zx1])).length) Slot.unset).toArray = zls at hl ⊢
  have hl : lv_has zls 2 [(0, .ref (ga 0)), (1, .int zx1)] := hl
  rw [mX6_has] at h
  refine lv_aload_n hx hb dX6_has_0 rfl (lv_at hl 0 rfl) ?_
  refine lv_iload_n hx hb dX6_has_1 rfl (lv_at hl 1 rfl) ?_
  refine tg_cRi (va_runV (As := [.int zx1]) (rest := []) ⟨hx, hb, hml, hown, hts⟩ (qX6_isGroup l D cI cT ga ta shelf np ng cur tw zx1 _ rfl) (cwV 1 hts gX6_has_X6_isGroup rfl rfl rfl zVX6_isGroup ⟨Nat.le_of_ble_eq_true rfl, Nat.le_of_ble_eq_true rfl⟩) (tg_preV (r := (RX6, TX6, 6)) (ci := 5) (q0 := 0) hP hK hN rfl rfl) rfl rfl hl.1 rfl (lv_room (Nat.le_of_ble_eq_true rfl)) dX6_has_2 ⟨Nat.zero_le _, Nat.zero_le _⟩) ?_
  refine lv_if_eq (tgt := 27) hx hb dX6_has_5 (by decide) (fun cb => ?_) (fun cb => ?_)
  · rw [if_pos cb] at h
    refine lv_bipush (v := (-2)) hx hb dX6_has_27 (by decide) ?_
    cases h
    exact W.iret hx hb hr (fun t ht hW => ⟨rfl, ht⟩) (fun _ h9 => absurd h9 List.not_mem_nil) dX6_has_29
  · rw [if_neg cb] at h
    refine lv_aload_n hx hb dX6_has_8 rfl (lv_at hl 0 rfl) ?_
    refine va_get (D := D) (ci := 5) (v := .ref (ga 2)) (C := RX6) (T := TX6) (N := 6) hx hb hts uX6_has_RX6 hown hK hP 0 rfl rfl 1 (by decide) (hts _ kX6_has_1) (fun _ h9 => h9) rfl dX6_has_9 ?_
    refine lv_iload_n hx hb dX6_has_12 rfl (lv_at hl 1 rfl) ?_
    obtain ⟨gg, h⟩ := gd_el h
    have hk : (Int32.toNatClampNeg zx1) < 12 := by have := inb_lt gg; omega
    refine va_aldq hx hb hK hP 2 1 rfl rfl (inb_in gg) dX6_has_13 ?_
    refine W.eq (g2 := F0 m 14 zls [.ref (ta (Int32.toNatClampNeg zx1) 0)]) rfl ?_
    refine lv_aload_n hx hb dX6_has_14 rfl (lv_at hl 0 rfl) ?_
    refine va_get (D := D) (ci := 5) (v := .int cur) (C := RX6) (T := TX6) (N := 6) hx hb hts uX6_has_RX6 hown hK hP 0 rfl rfl 5 (by decide) (hts _ kX6_has_2) (fun _ h9 => h9) rfl dX6_has_15 ?_
    obtain ⟨zr_1, hc, h⟩ := bd_el h
    refine tg_cRi (va_runV (As := [.int cur]) (rest := []) ⟨hx, hb, hml, hown, hts⟩ (qX4_holds l D cI (ta (Int32.toNatClampNeg zx1)) (tw (Int32.toNatClampNeg zx1)).1 (tw (Int32.toNatClampNeg zx1)).2.1 (tw (Int32.toNatClampNeg zx1)).2.2.1 (tw (Int32.toNatClampNeg zx1)).2.2.2.1 (tw (Int32.toNatClampNeg zx1)).2.2.2.2.1 (tw (Int32.toNatClampNeg zx1)).2.2.2.2.2.1 (tw (Int32.toNatClampNeg zx1)).2.2.2.2.2.2 cur F zr_1 hc) (cwV 1 hts gX6_has_X4_holds rfl rfl rfl zVX4_holds ⟨Nat.le_of_ble_eq_true rfl, Nat.le_of_ble_eq_true rfl⟩) (tg_preV (r := (RX4, TX4, 7)) (ci := 4) (q0 := 0) (wG_T hP hk) (hK.sub (tys' := [(cI, .int)]) [0] rfl) hN rfl rfl) rfl rfl hl.1 rfl (lv_room (Nat.le_of_ble_eq_true rfl)) dX6_has_18 ⟨Nat.zero_le _, Nat.zero_le _⟩) ?_
    refine tg_cRi (va_runS (As := [.int zr_1]) (rest := []) ⟨hx, hb, hml, hown, hts⟩ (qX6_truth l D zr_1 _ rfl) (va_cwS 1 hts gX6_has_X6_truth rfl rfl rfl zSX6_truth ⟨Nat.le_of_ble_eq_true rfl, Nat.le_of_ble_eq_true rfl⟩) (tg_preS tg_nil (hK.sub (tys' := []) [] rfl) hN) rfl rfl hl.1 rfl (lv_room (Nat.le_of_ble_eq_true rfl)) dX6_has_21 ⟨Nat.zero_le _, Nat.zero_le _⟩) ?_
    refine lv_goto (tgt := 29) hx hb dX6_has_24 (by decide) ?_
    cases h
    exact W.iret hx hb hr (fun t ht hW => ⟨rfl, ht⟩) (fun _ h9 => absurd h9 List.not_mem_nil) dX6_has_29
theorem zVX6_has : yX6_has.cls = RX6 ∧ yX6_has.cls ≠ "java/lang/invoke/MethodHandle" ∧ yX6_has.cls ≠ "java/lang/invoke/VarHandle" ∧ (parseMethodDescriptor yX6_has.desc).map (fun d => d.parameters.length) = some 1 := by decide +kernel

/-! ===== public int is(int, int, int); ===== -/
theorem kX6_is_1 : Cond.fieldLink RX6 15 "TurnGroups" "groups" "[LTurnGroups$Tower;" ∈ wsX6_is := by decide +kernel
theorem uX6_is_RX6 : ∀ w ∈ u_ws RX6 TX6 6, w ∈ wsX6_is := by decide +kernel
def mX6_is (F : Nat) (ng : Int32) (tw : Nat → TW) (zx1 : Int32) (zx2 : Int32) (zx3 : Int32) : Option (Int32) := if zx1 < 0 then (some (-2 : Int32)) else (if 2 < zx1 then (some (-2 : Int32)) else (if (mX6_isGroup ng zx2) = 0 then (some (-2 : Int32)) else (if (mX6_isGroup ng zx3) = 0 then (some (-2 : Int32)) else (gd (inb zx2 10) (gd (inb zx3 10) (bd (mX4_isWithin F (tw (Int32.toNatClampNeg zx2)).2.2.2.2.2.1 (tw (Int32.toNatClampNeg zx2)).2.2.2.2.2.2 (tw (Int32.toNatClampNeg zx3)).2.1 (tw (Int32.toNatClampNeg zx3)).2.2.1) (fun zr_2 => if zr_2 = 0 then (some (0 : Int32)) else (if zx1 = 1 then (gd (inb zx2 10) (gd (inb zx3 10) (bd (mX4_staysUnder F (tw (Int32.toNatClampNeg zx2)).2.1 (tw (Int32.toNatClampNeg zx2)).2.2.1 (tw (Int32.toNatClampNeg zx2)).2.2.2.2.2.1 (tw (Int32.toNatClampNeg zx2)).2.2.2.2.2.2 (tw (Int32.toNatClampNeg zx3)).2.2.2.2.2.1 (tw (Int32.toNatClampNeg zx3)).2.2.2.2.2.2) (fun zr_6 => some (mX6_truth zr_6))))) else (bd (if zx1 = 0 then (some (1 : Int32)) else (gd (inb zx2 10) (bd (mX4_turnsFrom F (tw (Int32.toNatClampNeg zx2)).2.2.1 0) (fun zr_4 => gd (inb zx3 10) (bd (mX4_turnsFrom F (tw (Int32.toNatClampNeg zx3)).2.2.1 0) (fun zr_5 => if zr_4 = zr_5 then (some (1 : Int32)) else (some (0 : Int32)))))))) (fun zv => some (mX6_truth zv)))))))))))
set_option maxRecDepth 100000 in
set_option maxHeartbeats 4000000 in
theorem qX6_is (l : Launch) (D : va_G) (cI : ClassId) (cT : ClassId) (ga : Nat → Nat) (ta : Nat → Nat → Nat) (shelf : Nat → Int32) (np : Int32) (ng : Int32) (cur : Int32) (tw : Nat → TW) (zx1 : Int32) (zx2 : Int32) (zx3 : Int32) (F : Nat) (zr0 : Int32) (h : mX6_is F ng tw zx1 zx2 zx3 = some zr0) : Met l yX6_is wsX6_is ({ frames := 4, cells := 0, slots := 0, locals := 93 } : Room) (tg_P D [(cI, .int), (cT, .object "TurnGroups$Tower")] [.ref (ga 0), .int zx1, .int zx2, .int zx3] ((wG ta cI cT ga shelf np ng cur tw))) (tg_Ri zr0) 0 0 (fun _ => False) := by
  refine Met.ofW (cc := cX6_is) (maxL := 4) (ret := (some .int)) (by decide) rfl ?_
  intro p e s m zargs zbelow zmeth c s₁ B hml hv
  obtain ⟨hargs, hP, hK, hN⟩ := hv
  have hx := B.exec
  have hb := B.bytes
  have hr := B.returns
  have hts := atoms_spec (ws := wsX6_is) B.pre
  have hown : s.vm.findClass RX6 = some m.cls := findClass_of_methodNamed B.named
  have hlocks := B.notSynchronized
  have hl := lv_entry ([.ref (ga 0), .int zx1, .int zx2, .int zx3]) (n := 4) (Nat.le_of_ble_eq_true rfl)
  refine W.eq (g2 := entryFrame m ([.ref (ga 0), .int zx1, .int zx2, .int zx3] : List Value).toArray 4) (by rw [hargs]) ?_
  rw [lg_entry_eq]
  generalize (lg_sl ([.ref (ga 0), .int zx1, .int zx2, .int zx3]) ++ List.replicate (4 - (lg_sl ([.ref (ga 0), .int zx1, .int zx2, .int zx3])).length) Slot.unset).toArray = zls at hl ⊢
  have hl : lv_has zls 4 [(0, .ref (ga 0)), (1, .int zx1), (2, .int zx2), (3, .int zx3)] := hl
  rw [mX6_is] at h
  refine lv_iload_n hx hb dX6_is_0 rfl (lv_at hl 1 rfl) ?_
  refine lv_if_lt (tgt := 25) hx hb dX6_is_1 (by decide) (fun cb => ?_) (fun cb => ?_)
  · rw [if_pos cb] at h
    refine lv_bipush (v := (-2)) hx hb dX6_is_25 (by decide) ?_
    cases h
    exact W.iret hx hb hr (fun t ht hW => ⟨rfl, ht⟩) (fun _ h9 => absurd h9 List.not_mem_nil) dX6_is_27
  · rw [if_neg cb] at h
    refine lv_iload_n hx hb dX6_is_4 rfl (lv_at hl 1 rfl) ?_
    refine lv_iconst (v := 2) hx hb dX6_is_5 (by decide) ?_
    refine lv_icmp_gt (tgt := 25) hx hb dX6_is_6 (by decide) (fun cb_1 => ?_) (fun cb_1 => ?_)
    · rw [if_pos cb_1] at h
      refine lv_bipush (v := (-2)) hx hb dX6_is_25 (by decide) ?_
      cases h
      exact W.iret hx hb hr (fun t ht hW => ⟨rfl, ht⟩) (fun _ h9 => absurd h9 List.not_mem_nil) dX6_is_27
    · rw [if_neg cb_1] at h
      refine lv_aload_n hx hb dX6_is_9 rfl (lv_at hl 0 rfl) ?_
      refine lv_iload_n hx hb dX6_is_10 rfl (lv_at hl 2 rfl) ?_
      refine tg_cRi (va_runV (As := [.int zx2]) (rest := []) ⟨hx, hb, hml, hown, hts⟩ (qX6_isGroup l D cI cT ga ta shelf np ng cur tw zx2 _ rfl) (cwV 1 hts gX6_is_X6_isGroup rfl rfl rfl zVX6_isGroup ⟨Nat.le_of_ble_eq_true rfl, Nat.le_of_ble_eq_true rfl⟩) (tg_preV (r := (RX6, TX6, 6)) (ci := 5) (q0 := 0) hP hK hN rfl rfl) rfl rfl hl.1 rfl (lv_room (Nat.le_of_ble_eq_true rfl)) dX6_is_11 ⟨Nat.zero_le _, Nat.zero_le _⟩) ?_
      refine lv_if_eq (tgt := 25) hx hb dX6_is_14 (by decide) (fun cb_2 => ?_) (fun cb_2 => ?_)
      · rw [if_pos cb_2] at h
        refine lv_bipush (v := (-2)) hx hb dX6_is_25 (by decide) ?_
        cases h
        exact W.iret hx hb hr (fun t ht hW => ⟨rfl, ht⟩) (fun _ h9 => absurd h9 List.not_mem_nil) dX6_is_27
      · rw [if_neg cb_2] at h
        refine lv_aload_n hx hb dX6_is_17 rfl (lv_at hl 0 rfl) ?_
        refine lv_iload_n hx hb dX6_is_18 rfl (lv_at hl 3 rfl) ?_
        refine tg_cRi (va_runV (As := [.int zx3]) (rest := []) ⟨hx, hb, hml, hown, hts⟩ (qX6_isGroup l D cI cT ga ta shelf np ng cur tw zx3 _ rfl) (cwV 1 hts gX6_is_X6_isGroup rfl rfl rfl zVX6_isGroup ⟨Nat.le_of_ble_eq_true rfl, Nat.le_of_ble_eq_true rfl⟩) (tg_preV (r := (RX6, TX6, 6)) (ci := 5) (q0 := 0) hP hK hN rfl rfl) rfl rfl hl.1 rfl (lv_room (Nat.le_of_ble_eq_true rfl)) dX6_is_19 ⟨Nat.zero_le _, Nat.zero_le _⟩) ?_
        refine lv_if_ne (tgt := 28) hx hb dX6_is_22 (by decide) (fun cb_3 => ?_) (fun cb_3 => ?_)
        · rw [if_neg cb_3] at h
          refine lv_aload_n hx hb dX6_is_28 rfl (lv_at hl 0 rfl) ?_
          refine va_get (D := D) (ci := 5) (v := .ref (ga 2)) (C := RX6) (T := TX6) (N := 6) hx hb hts uX6_is_RX6 hown hK hP 0 rfl rfl 1 (by decide) (hts _ kX6_is_1) (fun _ h9 => h9) rfl dX6_is_29 ?_
          refine lv_iload_n hx hb dX6_is_32 rfl (lv_at hl 2 rfl) ?_
          obtain ⟨gg, h⟩ := gd_el h
          have hk : (Int32.toNatClampNeg zx2) < 12 := by have := inb_lt gg; omega
          refine va_aldq hx hb hK hP 2 1 rfl rfl (inb_in gg) dX6_is_33 ?_
          refine W.eq (g2 := F0 m 34 zls [.ref (ta (Int32.toNatClampNeg zx2) 0)]) rfl ?_
          refine lv_aload_n hx hb dX6_is_34 rfl (lv_at hl 0 rfl) ?_
          refine va_get (D := D) (ci := 5) (v := .ref (ga 2)) (C := RX6) (T := TX6) (N := 6) hx hb hts uX6_is_RX6 hown hK hP 0 rfl rfl 1 (by decide) (hts _ kX6_is_1) (fun _ h9 => h9) rfl dX6_is_35 ?_
          refine lv_iload_n hx hb dX6_is_38 rfl (lv_at hl 3 rfl) ?_
          obtain ⟨gg_1, h⟩ := gd_el h
          have hk_1 : (Int32.toNatClampNeg zx3) < 12 := by have := inb_lt gg_1; omega
          refine va_aldq hx hb hK hP 2 1 rfl rfl (inb_in gg_1) dX6_is_39 ?_
          refine W.eq (g2 := F0 m 40 zls [.ref (ta (Int32.toNatClampNeg zx3) 0), .ref (ta (Int32.toNatClampNeg zx2) 0)]) rfl ?_
          obtain ⟨zr_2, hc, h⟩ := bd_el h
          refine tg_cRi (va_runV (As := [.ref (ta (Int32.toNatClampNeg zx3) 0)]) (rest := []) ⟨hx, hb, hml, hown, hts⟩ (qX4_isWithin l D cI (ta (Int32.toNatClampNeg zx2)) (tw (Int32.toNatClampNeg zx2)).1 (tw (Int32.toNatClampNeg zx2)).2.1 (tw (Int32.toNatClampNeg zx2)).2.2.1 (tw (Int32.toNatClampNeg zx2)).2.2.2.1 (tw (Int32.toNatClampNeg zx2)).2.2.2.2.1 (tw (Int32.toNatClampNeg zx2)).2.2.2.2.2.1 (tw (Int32.toNatClampNeg zx2)).2.2.2.2.2.2 (ta (Int32.toNatClampNeg zx3)) (tw (Int32.toNatClampNeg zx3)).1 (tw (Int32.toNatClampNeg zx3)).2.1 (tw (Int32.toNatClampNeg zx3)).2.2.1 (tw (Int32.toNatClampNeg zx3)).2.2.2.1 (tw (Int32.toNatClampNeg zx3)).2.2.2.2.1 (tw (Int32.toNatClampNeg zx3)).2.2.2.2.2.1 (tw (Int32.toNatClampNeg zx3)).2.2.2.2.2.2 F zr_2 hc) (cwV 1 hts gX6_is_X4_isWithin rfl rfl rfl zVX4_isWithin ⟨Nat.le_of_ble_eq_true rfl, Nat.le_of_ble_eq_true rfl⟩) (tg_preV (r := (RX4, TX4, 7)) (ci := 4) (q0 := 0) (va_P.app (wG_T hP hk) (wG_T hP hk_1)) (hK.sub (tys' := [(cI, .int)]) [0] rfl) hN rfl rfl) rfl rfl hl.1 rfl (lv_room (Nat.le_of_ble_eq_true rfl)) dX6_is_40 ⟨Nat.zero_le _, Nat.zero_le _⟩) ?_
          refine lv_if_ne (tgt := 48) hx hb dX6_is_43 (by decide) (fun cb_4 => ?_) (fun cb_4 => ?_)
          · rw [if_neg cb_4] at h
            refine lv_iload_n hx hb dX6_is_48 rfl (lv_at hl 1 rfl) ?_
            refine lv_iconst (v := 1) hx hb dX6_is_49 (by decide) ?_
            refine lv_icmp_ne (tgt := 72) hx hb dX6_is_50 (by decide) (fun cb_5 => ?_) (fun cb_5 => ?_)
            · rw [if_neg cb_5] at h
              refine lv_iload_n hx hb dX6_is_72 rfl (lv_at hl 1 rfl) ?_
              obtain ⟨zv, hv, h⟩ := bd_el h
              have hj : W p l e ({ frames := 4, cells := 0, slots := 0, locals := 93 } : Room) s m zargs zbelow zmeth c s.heap [] 0 0 (MQ zbelow (tg_Ri zr0) zargs s 0 0 (fun _ => False)) (F0 m 104 zls [.int zv]) := by
                refine tg_cRi (va_runS (As := [.int zv]) (rest := []) ⟨hx, hb, hml, hown, hts⟩ (qX6_truth l D zv _ rfl) (va_cwS 1 hts gX6_is_X6_truth rfl rfl rfl zSX6_truth ⟨Nat.le_of_ble_eq_true rfl, Nat.le_of_ble_eq_true rfl⟩) (tg_preS tg_nil (hK.sub (tys' := []) [] rfl) hN) rfl rfl hl.1 rfl (lv_room (Nat.le_of_ble_eq_true rfl)) dX6_is_104 ⟨Nat.zero_le _, Nat.zero_le _⟩) ?_
                cases h
                exact W.iret hx hb hr (fun t ht hW => ⟨rfl, ht⟩) (fun _ h9 => absurd h9 List.not_mem_nil) dX6_is_107
              refine lv_if_eq (tgt := 99) hx hb dX6_is_73 (by decide) (fun cb_6 => ?_) (fun cb_6 => ?_)
              · rw [if_pos cb_6] at hv
                refine lv_iconst (v := 1) hx hb dX6_is_99 (by decide) ?_
                refine lv_goto (tgt := 104) hx hb dX6_is_100 (by decide) ?_
                cases hv
                exact hj 
              · rw [if_neg cb_6] at hv
                refine lv_aload_n hx hb dX6_is_76 rfl (lv_at hl 0 rfl) ?_
                refine va_get (D := D) (ci := 5) (v := .ref (ga 2)) (C := RX6) (T := TX6) (N := 6) hx hb hts uX6_is_RX6 hown hK hP 0 rfl rfl 1 (by decide) (hts _ kX6_is_1) (fun _ h9 => h9) rfl dX6_is_77 ?_
                refine lv_iload_n hx hb dX6_is_80 rfl (lv_at hl 2 rfl) ?_
                obtain ⟨gg_2, hv⟩ := gd_el hv
                have hk_2 : (Int32.toNatClampNeg zx2) < 12 := by have := inb_lt gg_2; omega
                refine va_aldq hx hb hK hP 2 1 rfl rfl (inb_in gg_2) dX6_is_81 ?_
                refine W.eq (g2 := F0 m 82 zls [.ref (ta (Int32.toNatClampNeg zx2) 0)]) rfl ?_
                refine lv_iconst (v := 0) hx hb dX6_is_82 (by decide) ?_
                obtain ⟨zr_4, hc_1, hv⟩ := bd_el hv
                refine tg_cRi (va_runV (As := [.int 0]) (rest := []) ⟨hx, hb, hml, hown, hts⟩ (qX4_turnsFrom l D cI (ta (Int32.toNatClampNeg zx2)) (tw (Int32.toNatClampNeg zx2)).1 (tw (Int32.toNatClampNeg zx2)).2.1 (tw (Int32.toNatClampNeg zx2)).2.2.1 (tw (Int32.toNatClampNeg zx2)).2.2.2.1 (tw (Int32.toNatClampNeg zx2)).2.2.2.2.1 (tw (Int32.toNatClampNeg zx2)).2.2.2.2.2.1 (tw (Int32.toNatClampNeg zx2)).2.2.2.2.2.2 0 F zr_4 hc_1) (cwV 1 hts gX6_is_X4_turnsFrom rfl rfl rfl zVX4_turnsFrom ⟨Nat.le_of_ble_eq_true rfl, Nat.le_of_ble_eq_true rfl⟩) (tg_preV (r := (RX4, TX4, 7)) (ci := 4) (q0 := 0) (wG_T hP hk_2) (hK.sub (tys' := [(cI, .int)]) [0] rfl) hN rfl rfl) rfl rfl hl.1 rfl (lv_room (Nat.le_of_ble_eq_true rfl)) dX6_is_83 ⟨Nat.zero_le _, Nat.zero_le _⟩) ?_
                refine lv_aload_n hx hb dX6_is_86 rfl (lv_at hl 0 rfl) ?_
                refine va_get (D := D) (ci := 5) (v := .ref (ga 2)) (C := RX6) (T := TX6) (N := 6) hx hb hts uX6_is_RX6 hown hK hP 0 rfl rfl 1 (by decide) (hts _ kX6_is_1) (fun _ h9 => h9) rfl dX6_is_87 ?_
                refine lv_iload_n hx hb dX6_is_90 rfl (lv_at hl 3 rfl) ?_
                obtain ⟨gg_3, hv⟩ := gd_el hv
                have hk_3 : (Int32.toNatClampNeg zx3) < 12 := by have := inb_lt gg_3; omega
                refine va_aldq hx hb hK hP 2 1 rfl rfl (inb_in gg_3) dX6_is_91 ?_
                refine W.eq (g2 := F0 m 92 zls [.ref (ta (Int32.toNatClampNeg zx3) 0), .int zr_4]) rfl ?_
                refine lv_iconst (v := 0) hx hb dX6_is_92 (by decide) ?_
                obtain ⟨zr_5, hc_2, hv⟩ := bd_el hv
                refine tg_cRi (va_runV (As := [.int 0]) (rest := [.int zr_4]) ⟨hx, hb, hml, hown, hts⟩ (qX4_turnsFrom l D cI (ta (Int32.toNatClampNeg zx3)) (tw (Int32.toNatClampNeg zx3)).1 (tw (Int32.toNatClampNeg zx3)).2.1 (tw (Int32.toNatClampNeg zx3)).2.2.1 (tw (Int32.toNatClampNeg zx3)).2.2.2.1 (tw (Int32.toNatClampNeg zx3)).2.2.2.2.1 (tw (Int32.toNatClampNeg zx3)).2.2.2.2.2.1 (tw (Int32.toNatClampNeg zx3)).2.2.2.2.2.2 0 F zr_5 hc_2) (cwV 1 hts gX6_is_X4_turnsFrom rfl rfl rfl zVX4_turnsFrom ⟨Nat.le_of_ble_eq_true rfl, Nat.le_of_ble_eq_true rfl⟩) (tg_preV (r := (RX4, TX4, 7)) (ci := 4) (q0 := 0) (wG_T hP hk_3) (hK.sub (tys' := [(cI, .int)]) [0] rfl) hN rfl rfl) rfl rfl hl.1 rfl (lv_room (Nat.le_of_ble_eq_true rfl)) dX6_is_93 ⟨Nat.zero_le _, Nat.zero_le _⟩) ?_
                refine lv_icmp_ne (tgt := 103) hx hb dX6_is_96 (by decide) (fun cb_7 => ?_) (fun cb_7 => ?_)
                · rw [if_neg cb_7] at hv
                  refine lv_iconst (v := 0) hx hb dX6_is_103 (by decide) ?_
                  cases hv
                  exact hj 
                · rw [if_pos cb_7] at hv
                  refine lv_iconst (v := 1) hx hb dX6_is_99 (by decide) ?_
                  refine lv_goto (tgt := 104) hx hb dX6_is_100 (by decide) ?_
                  cases hv
                  exact hj 
            · rw [if_pos cb_5] at h
              refine lv_aload_n hx hb dX6_is_53 rfl (lv_at hl 0 rfl) ?_
              refine va_get (D := D) (ci := 5) (v := .ref (ga 2)) (C := RX6) (T := TX6) (N := 6) hx hb hts uX6_is_RX6 hown hK hP 0 rfl rfl 1 (by decide) (hts _ kX6_is_1) (fun _ h9 => h9) rfl dX6_is_54 ?_
              refine lv_iload_n hx hb dX6_is_57 rfl (lv_at hl 2 rfl) ?_
              obtain ⟨gg_4, h⟩ := gd_el h
              have hk_4 : (Int32.toNatClampNeg zx2) < 12 := by have := inb_lt gg_4; omega
              refine va_aldq hx hb hK hP 2 1 rfl rfl (inb_in gg_4) dX6_is_58 ?_
              refine W.eq (g2 := F0 m 59 zls [.ref (ta (Int32.toNatClampNeg zx2) 0)]) rfl ?_
              refine lv_aload_n hx hb dX6_is_59 rfl (lv_at hl 0 rfl) ?_
              refine va_get (D := D) (ci := 5) (v := .ref (ga 2)) (C := RX6) (T := TX6) (N := 6) hx hb hts uX6_is_RX6 hown hK hP 0 rfl rfl 1 (by decide) (hts _ kX6_is_1) (fun _ h9 => h9) rfl dX6_is_60 ?_
              refine lv_iload_n hx hb dX6_is_63 rfl (lv_at hl 3 rfl) ?_
              obtain ⟨gg_5, h⟩ := gd_el h
              have hk_5 : (Int32.toNatClampNeg zx3) < 12 := by have := inb_lt gg_5; omega
              refine va_aldq hx hb hK hP 2 1 rfl rfl (inb_in gg_5) dX6_is_64 ?_
              refine W.eq (g2 := F0 m 65 zls [.ref (ta (Int32.toNatClampNeg zx3) 0), .ref (ta (Int32.toNatClampNeg zx2) 0)]) rfl ?_
              obtain ⟨zr_6, hc_3, h⟩ := bd_el h
              refine tg_cRi (va_runV (As := [.ref (ta (Int32.toNatClampNeg zx3) 0)]) (rest := []) ⟨hx, hb, hml, hown, hts⟩ (qX4_staysUnder l D cI (ta (Int32.toNatClampNeg zx2)) (tw (Int32.toNatClampNeg zx2)).1 (tw (Int32.toNatClampNeg zx2)).2.1 (tw (Int32.toNatClampNeg zx2)).2.2.1 (tw (Int32.toNatClampNeg zx2)).2.2.2.1 (tw (Int32.toNatClampNeg zx2)).2.2.2.2.1 (tw (Int32.toNatClampNeg zx2)).2.2.2.2.2.1 (tw (Int32.toNatClampNeg zx2)).2.2.2.2.2.2 (ta (Int32.toNatClampNeg zx3)) (tw (Int32.toNatClampNeg zx3)).1 (tw (Int32.toNatClampNeg zx3)).2.1 (tw (Int32.toNatClampNeg zx3)).2.2.1 (tw (Int32.toNatClampNeg zx3)).2.2.2.1 (tw (Int32.toNatClampNeg zx3)).2.2.2.2.1 (tw (Int32.toNatClampNeg zx3)).2.2.2.2.2.1 (tw (Int32.toNatClampNeg zx3)).2.2.2.2.2.2 F zr_6 hc_3) (cwV 1 hts gX6_is_X4_staysUnder rfl rfl rfl zVX4_staysUnder ⟨Nat.le_of_ble_eq_true rfl, Nat.le_of_ble_eq_true rfl⟩) (tg_preV (r := (RX4, TX4, 7)) (ci := 4) (q0 := 0) (va_P.app (wG_T hP hk_4) (wG_T hP hk_5)) (hK.sub (tys' := [(cI, .int)]) [0] rfl) hN rfl rfl) rfl rfl hl.1 rfl (lv_room (Nat.le_of_ble_eq_true rfl)) dX6_is_65 ⟨Nat.zero_le _, Nat.zero_le _⟩) ?_
              refine tg_cRi (va_runS (As := [.int zr_6]) (rest := []) ⟨hx, hb, hml, hown, hts⟩ (qX6_truth l D zr_6 _ rfl) (va_cwS 1 hts gX6_is_X6_truth rfl rfl rfl zSX6_truth ⟨Nat.le_of_ble_eq_true rfl, Nat.le_of_ble_eq_true rfl⟩) (tg_preS tg_nil (hK.sub (tys' := []) [] rfl) hN) rfl rfl hl.1 rfl (lv_room (Nat.le_of_ble_eq_true rfl)) dX6_is_68 ⟨Nat.zero_le _, Nat.zero_le _⟩) ?_
              cases h
              exact W.iret hx hb hr (fun t ht hW => ⟨rfl, ht⟩) (fun _ h9 => absurd h9 List.not_mem_nil) dX6_is_71
          · rw [if_pos cb_4] at h
            refine lv_iconst (v := 0) hx hb dX6_is_46 (by decide) ?_
            cases h
            exact W.iret hx hb hr (fun t ht hW => ⟨rfl, ht⟩) (fun _ h9 => absurd h9 List.not_mem_nil) dX6_is_47
        · rw [if_pos cb_3] at h
          refine lv_bipush (v := (-2)) hx hb dX6_is_25 (by decide) ?_
          cases h
          exact W.iret hx hb hr (fun t ht hW => ⟨rfl, ht⟩) (fun _ h9 => absurd h9 List.not_mem_nil) dX6_is_27
theorem zVX6_is : yX6_is.cls = RX6 ∧ yX6_is.cls ≠ "java/lang/invoke/MethodHandle" ∧ yX6_is.cls ≠ "java/lang/invoke/VarHandle" ∧ (parseMethodDescriptor yX6_is.desc).map (fun d => d.parameters.length) = some 3 := by decide +kernel

/-! ===== public int orbit(int, int); ===== -/
theorem kX6_orbit_1 : Cond.fieldLink RX6 15 "TurnGroups" "groups" "[LTurnGroups$Tower;" ∈ wsX6_orbit := by decide +kernel
theorem uX6_orbit_RX6 : ∀ w ∈ u_ws RX6 TX6 6, w ∈ wsX6_orbit := by decide +kernel
def mX6_orbit (F : Nat) (np : Int32) (ng : Int32) (tw : Nat → TW) (zx1 : Int32) (zx2 : Int32) : Option (Int32) := if (mX6_isGroup ng zx1) = 0 then (some (-2 : Int32)) else (if (mX6_isPoint np zx2) = 0 then (some (-2 : Int32)) else (gd (inb zx1 10) (bd (mX4_orbitFrom F (tw (Int32.toNatClampNeg zx1)).1 (tw (Int32.toNatClampNeg zx1)).2.2.2.1 (tw (Int32.toNatClampNeg zx1)).2.2.2.2.1 0 zx2) (fun zr_2 => some zr_2))))
set_option maxRecDepth 100000 in
set_option maxHeartbeats 4000000 in
theorem qX6_orbit (l : Launch) (D : va_G) (cI : ClassId) (cT : ClassId) (ga : Nat → Nat) (ta : Nat → Nat → Nat) (shelf : Nat → Int32) (np : Int32) (ng : Int32) (cur : Int32) (tw : Nat → TW) (zx1 : Int32) (zx2 : Int32) (F : Nat) (zr0 : Int32) (h : mX6_orbit F np ng tw zx1 zx2 = some zr0) : Met l yX6_orbit wsX6_orbit ({ frames := 3, cells := 0, slots := 0, locals := 70 } : Room) (tg_P D [(cI, .int), (cT, .object "TurnGroups$Tower")] [.ref (ga 0), .int zx1, .int zx2] ((wG ta cI cT ga shelf np ng cur tw))) (tg_Ri zr0) 0 0 (fun _ => False) := by
  refine Met.ofW (cc := cX6_orbit) (maxL := 3) (ret := (some .int)) (by decide) rfl ?_
  intro p e s m zargs zbelow zmeth c s₁ B hml hv
  obtain ⟨hargs, hP, hK, hN⟩ := hv
  have hx := B.exec
  have hb := B.bytes
  have hr := B.returns
  have hts := atoms_spec (ws := wsX6_orbit) B.pre
  have hown : s.vm.findClass RX6 = some m.cls := findClass_of_methodNamed B.named
  have hlocks := B.notSynchronized
  have hl := lv_entry ([.ref (ga 0), .int zx1, .int zx2]) (n := 3) (Nat.le_of_ble_eq_true rfl)
  refine W.eq (g2 := entryFrame m ([.ref (ga 0), .int zx1, .int zx2] : List Value).toArray 3) (by rw [hargs]) ?_
  rw [lg_entry_eq]
  generalize (lg_sl ([.ref (ga 0), .int zx1, .int zx2]) ++ List.replicate (3 - (lg_sl ([.ref (ga 0), .int zx1, .int zx2])).length) Slot.unset).toArray = zls at hl ⊢
  have hl : lv_has zls 3 [(0, .ref (ga 0)), (1, .int zx1), (2, .int zx2)] := hl
  rw [mX6_orbit] at h
  refine lv_aload_n hx hb dX6_orbit_0 rfl (lv_at hl 0 rfl) ?_
  refine lv_iload_n hx hb dX6_orbit_1 rfl (lv_at hl 1 rfl) ?_
  refine tg_cRi (va_runV (As := [.int zx1]) (rest := []) ⟨hx, hb, hml, hown, hts⟩ (qX6_isGroup l D cI cT ga ta shelf np ng cur tw zx1 _ rfl) (cwV 1 hts gX6_orbit_X6_isGroup rfl rfl rfl zVX6_isGroup ⟨Nat.le_of_ble_eq_true rfl, Nat.le_of_ble_eq_true rfl⟩) (tg_preV (r := (RX6, TX6, 6)) (ci := 5) (q0 := 0) hP hK hN rfl rfl) rfl rfl hl.1 rfl (lv_room (Nat.le_of_ble_eq_true rfl)) dX6_orbit_2 ⟨Nat.zero_le _, Nat.zero_le _⟩) ?_
  refine lv_if_eq (tgt := 30) hx hb dX6_orbit_5 (by decide) (fun cb => ?_) (fun cb => ?_)
  · rw [if_pos cb] at h
    refine lv_bipush (v := (-2)) hx hb dX6_orbit_30 (by decide) ?_
    cases h
    exact W.iret hx hb hr (fun t ht hW => ⟨rfl, ht⟩) (fun _ h9 => absurd h9 List.not_mem_nil) dX6_orbit_32
  · rw [if_neg cb] at h
    refine lv_aload_n hx hb dX6_orbit_8 rfl (lv_at hl 0 rfl) ?_
    refine lv_iload_n hx hb dX6_orbit_9 rfl (lv_at hl 2 rfl) ?_
    refine tg_cRi (va_runV (As := [.int zx2]) (rest := []) ⟨hx, hb, hml, hown, hts⟩ (qX6_isPoint l D cI cT ga ta shelf np ng cur tw zx2 _ rfl) (cwV 1 hts gX6_orbit_X6_isPoint rfl rfl rfl zVX6_isPoint ⟨Nat.le_of_ble_eq_true rfl, Nat.le_of_ble_eq_true rfl⟩) (tg_preV (r := (RX6, TX6, 6)) (ci := 5) (q0 := 0) hP hK hN rfl rfl) rfl rfl hl.1 rfl (lv_room (Nat.le_of_ble_eq_true rfl)) dX6_orbit_10 ⟨Nat.zero_le _, Nat.zero_le _⟩) ?_
    refine lv_if_eq (tgt := 30) hx hb dX6_orbit_13 (by decide) (fun cb_1 => ?_) (fun cb_1 => ?_)
    · rw [if_pos cb_1] at h
      refine lv_bipush (v := (-2)) hx hb dX6_orbit_30 (by decide) ?_
      cases h
      exact W.iret hx hb hr (fun t ht hW => ⟨rfl, ht⟩) (fun _ h9 => absurd h9 List.not_mem_nil) dX6_orbit_32
    · rw [if_neg cb_1] at h
      refine lv_aload_n hx hb dX6_orbit_16 rfl (lv_at hl 0 rfl) ?_
      refine va_get (D := D) (ci := 5) (v := .ref (ga 2)) (C := RX6) (T := TX6) (N := 6) hx hb hts uX6_orbit_RX6 hown hK hP 0 rfl rfl 1 (by decide) (hts _ kX6_orbit_1) (fun _ h9 => h9) rfl dX6_orbit_17 ?_
      refine lv_iload_n hx hb dX6_orbit_20 rfl (lv_at hl 1 rfl) ?_
      obtain ⟨gg, h⟩ := gd_el h
      have hk : (Int32.toNatClampNeg zx1) < 12 := by have := inb_lt gg; omega
      refine va_aldq hx hb hK hP 2 1 rfl rfl (inb_in gg) dX6_orbit_21 ?_
      refine W.eq (g2 := F0 m 22 zls [.ref (ta (Int32.toNatClampNeg zx1) 0)]) rfl ?_
      refine lv_iconst (v := 0) hx hb dX6_orbit_22 (by decide) ?_
      refine lv_iload_n hx hb dX6_orbit_23 rfl (lv_at hl 2 rfl) ?_
      obtain ⟨zr_2, hc, h⟩ := bd_el h
      refine tg_cRi (va_runV (As := [.int 0, .int zx2]) (rest := []) ⟨hx, hb, hml, hown, hts⟩ (qX4_orbitFrom l D cI (ta (Int32.toNatClampNeg zx1)) (tw (Int32.toNatClampNeg zx1)).1 (tw (Int32.toNatClampNeg zx1)).2.1 (tw (Int32.toNatClampNeg zx1)).2.2.1 (tw (Int32.toNatClampNeg zx1)).2.2.2.1 (tw (Int32.toNatClampNeg zx1)).2.2.2.2.1 (tw (Int32.toNatClampNeg zx1)).2.2.2.2.2.1 (tw (Int32.toNatClampNeg zx1)).2.2.2.2.2.2 0 zx2 F zr_2 hc) (cwV 2 hts gX6_orbit_X4_orbitFrom rfl rfl rfl zVX4_orbitFrom ⟨Nat.le_of_ble_eq_true rfl, Nat.le_of_ble_eq_true rfl⟩) (tg_preV (r := (RX4, TX4, 7)) (ci := 4) (q0 := 0) (wG_T hP hk) (hK.sub (tys' := [(cI, .int)]) [0] rfl) hN rfl rfl) rfl rfl hl.1 rfl (lv_room (Nat.le_of_ble_eq_true rfl)) dX6_orbit_24 ⟨Nat.zero_le _, Nat.zero_le _⟩) ?_
      refine lv_goto (tgt := 32) hx hb dX6_orbit_27 (by decide) ?_
      cases h
      exact W.iret hx hb hr (fun t ht hW => ⟨rfl, ht⟩) (fun _ h9 => absurd h9 List.not_mem_nil) dX6_orbit_32
theorem zVX6_orbit : yX6_orbit.cls = RX6 ∧ yX6_orbit.cls ≠ "java/lang/invoke/MethodHandle" ∧ yX6_orbit.cls ≠ "java/lang/invoke/VarHandle" ∧ (parseMethodDescriptor yX6_orbit.desc).map (fun d => d.parameters.length) = some 2 := by decide +kernel

/-! ===== public int block(int, int, int); ===== -/
theorem kX6_block_1 : Cond.fieldLink RX6 15 "TurnGroups" "groups" "[LTurnGroups$Tower;" ∈ wsX6_block := by decide +kernel
theorem uX6_block_RX6 : ∀ w ∈ u_ws RX6 TX6 6, w ∈ wsX6_block := by decide +kernel
def mX6_block (F : Nat) (np : Int32) (ng : Int32) (tw : Nat → TW) (zx1 : Int32) (zx2 : Int32) (zx3 : Int32) : Option (Int32) := if (mX6_isGroup ng zx1) = 0 then (some (-2 : Int32)) else (if (mX6_isPoint np zx2) = 0 then (some (-2 : Int32)) else (if (mX6_isPoint np zx3) = 0 then (some (-2 : Int32)) else (gd (inb zx1 10) (bd (mX4_blockOf F (tw (Int32.toNatClampNeg zx1)).2.2.2.2.2.1 (tw (Int32.toNatClampNeg zx1)).2.2.2.2.2.2 zx2 zx3) (fun zr_3 => some zr_3)))))
set_option maxRecDepth 100000 in
set_option maxHeartbeats 4000000 in
theorem qX6_block (l : Launch) (D : va_G) (cI : ClassId) (cT : ClassId) (ga : Nat → Nat) (ta : Nat → Nat → Nat) (shelf : Nat → Int32) (np : Int32) (ng : Int32) (cur : Int32) (tw : Nat → TW) (zx1 : Int32) (zx2 : Int32) (zx3 : Int32) (F : Nat) (zr0 : Int32) (h : mX6_block F np ng tw zx1 zx2 zx3 = some zr0) : Met l yX6_block wsX6_block ({ frames := 4, cells := 0, slots := 0, locals := 95 } : Room) (tg_P D [(cI, .int), (cT, .object "TurnGroups$Tower")] [.ref (ga 0), .int zx1, .int zx2, .int zx3] ((wG ta cI cT ga shelf np ng cur tw))) (tg_Ri zr0) 0 0 (fun _ => False) := by
  refine Met.ofW (cc := cX6_block) (maxL := 4) (ret := (some .int)) (by decide) rfl ?_
  intro p e s m zargs zbelow zmeth c s₁ B hml hv
  obtain ⟨hargs, hP, hK, hN⟩ := hv
  have hx := B.exec
  have hb := B.bytes
  have hr := B.returns
  have hts := atoms_spec (ws := wsX6_block) B.pre
  have hown : s.vm.findClass RX6 = some m.cls := findClass_of_methodNamed B.named
  have hlocks := B.notSynchronized
  have hl := lv_entry ([.ref (ga 0), .int zx1, .int zx2, .int zx3]) (n := 4) (Nat.le_of_ble_eq_true rfl)
  refine W.eq (g2 := entryFrame m ([.ref (ga 0), .int zx1, .int zx2, .int zx3] : List Value).toArray 4) (by rw [hargs]) ?_
  rw [lg_entry_eq]
  generalize (lg_sl ([.ref (ga 0), .int zx1, .int zx2, .int zx3]) ++ List.replicate (4 - (lg_sl ([.ref (ga 0), .int zx1, .int zx2, .int zx3])).length) Slot.unset).toArray = zls at hl ⊢
  have hl : lv_has zls 4 [(0, .ref (ga 0)), (1, .int zx1), (2, .int zx2), (3, .int zx3)] := hl
  rw [mX6_block] at h
  refine lv_aload_n hx hb dX6_block_0 rfl (lv_at hl 0 rfl) ?_
  refine lv_iload_n hx hb dX6_block_1 rfl (lv_at hl 1 rfl) ?_
  refine tg_cRi (va_runV (As := [.int zx1]) (rest := []) ⟨hx, hb, hml, hown, hts⟩ (qX6_isGroup l D cI cT ga ta shelf np ng cur tw zx1 _ rfl) (cwV 1 hts gX6_block_X6_isGroup rfl rfl rfl zVX6_isGroup ⟨Nat.le_of_ble_eq_true rfl, Nat.le_of_ble_eq_true rfl⟩) (tg_preV (r := (RX6, TX6, 6)) (ci := 5) (q0 := 0) hP hK hN rfl rfl) rfl rfl hl.1 rfl (lv_room (Nat.le_of_ble_eq_true rfl)) dX6_block_2 ⟨Nat.zero_le _, Nat.zero_le _⟩) ?_
  refine lv_if_eq (tgt := 38) hx hb dX6_block_5 (by decide) (fun cb => ?_) (fun cb => ?_)
  · rw [if_pos cb] at h
    refine lv_bipush (v := (-2)) hx hb dX6_block_38 (by decide) ?_
    cases h
    exact W.iret hx hb hr (fun t ht hW => ⟨rfl, ht⟩) (fun _ h9 => absurd h9 List.not_mem_nil) dX6_block_40
  · rw [if_neg cb] at h
    refine lv_aload_n hx hb dX6_block_8 rfl (lv_at hl 0 rfl) ?_
    refine lv_iload_n hx hb dX6_block_9 rfl (lv_at hl 2 rfl) ?_
    refine tg_cRi (va_runV (As := [.int zx2]) (rest := []) ⟨hx, hb, hml, hown, hts⟩ (qX6_isPoint l D cI cT ga ta shelf np ng cur tw zx2 _ rfl) (cwV 1 hts gX6_block_X6_isPoint rfl rfl rfl zVX6_isPoint ⟨Nat.le_of_ble_eq_true rfl, Nat.le_of_ble_eq_true rfl⟩) (tg_preV (r := (RX6, TX6, 6)) (ci := 5) (q0 := 0) hP hK hN rfl rfl) rfl rfl hl.1 rfl (lv_room (Nat.le_of_ble_eq_true rfl)) dX6_block_10 ⟨Nat.zero_le _, Nat.zero_le _⟩) ?_
    refine lv_if_eq (tgt := 38) hx hb dX6_block_13 (by decide) (fun cb_1 => ?_) (fun cb_1 => ?_)
    · rw [if_pos cb_1] at h
      refine lv_bipush (v := (-2)) hx hb dX6_block_38 (by decide) ?_
      cases h
      exact W.iret hx hb hr (fun t ht hW => ⟨rfl, ht⟩) (fun _ h9 => absurd h9 List.not_mem_nil) dX6_block_40
    · rw [if_neg cb_1] at h
      refine lv_aload_n hx hb dX6_block_16 rfl (lv_at hl 0 rfl) ?_
      refine lv_iload_n hx hb dX6_block_17 rfl (lv_at hl 3 rfl) ?_
      refine tg_cRi (va_runV (As := [.int zx3]) (rest := []) ⟨hx, hb, hml, hown, hts⟩ (qX6_isPoint l D cI cT ga ta shelf np ng cur tw zx3 _ rfl) (cwV 1 hts gX6_block_X6_isPoint rfl rfl rfl zVX6_isPoint ⟨Nat.le_of_ble_eq_true rfl, Nat.le_of_ble_eq_true rfl⟩) (tg_preV (r := (RX6, TX6, 6)) (ci := 5) (q0 := 0) hP hK hN rfl rfl) rfl rfl hl.1 rfl (lv_room (Nat.le_of_ble_eq_true rfl)) dX6_block_18 ⟨Nat.zero_le _, Nat.zero_le _⟩) ?_
      refine lv_if_eq (tgt := 38) hx hb dX6_block_21 (by decide) (fun cb_2 => ?_) (fun cb_2 => ?_)
      · rw [if_pos cb_2] at h
        refine lv_bipush (v := (-2)) hx hb dX6_block_38 (by decide) ?_
        cases h
        exact W.iret hx hb hr (fun t ht hW => ⟨rfl, ht⟩) (fun _ h9 => absurd h9 List.not_mem_nil) dX6_block_40
      · rw [if_neg cb_2] at h
        refine lv_aload_n hx hb dX6_block_24 rfl (lv_at hl 0 rfl) ?_
        refine va_get (D := D) (ci := 5) (v := .ref (ga 2)) (C := RX6) (T := TX6) (N := 6) hx hb hts uX6_block_RX6 hown hK hP 0 rfl rfl 1 (by decide) (hts _ kX6_block_1) (fun _ h9 => h9) rfl dX6_block_25 ?_
        refine lv_iload_n hx hb dX6_block_28 rfl (lv_at hl 1 rfl) ?_
        obtain ⟨gg, h⟩ := gd_el h
        have hk : (Int32.toNatClampNeg zx1) < 12 := by have := inb_lt gg; omega
        refine va_aldq hx hb hK hP 2 1 rfl rfl (inb_in gg) dX6_block_29 ?_
        refine W.eq (g2 := F0 m 30 zls [.ref (ta (Int32.toNatClampNeg zx1) 0)]) rfl ?_
        refine lv_iload_n hx hb dX6_block_30 rfl (lv_at hl 2 rfl) ?_
        refine lv_iload_n hx hb dX6_block_31 rfl (lv_at hl 3 rfl) ?_
        obtain ⟨zr_3, hc, h⟩ := bd_el h
        refine tg_cRi (va_runV (As := [.int zx2, .int zx3]) (rest := []) ⟨hx, hb, hml, hown, hts⟩ (qX4_blockOf l D cI (ta (Int32.toNatClampNeg zx1)) (tw (Int32.toNatClampNeg zx1)).1 (tw (Int32.toNatClampNeg zx1)).2.1 (tw (Int32.toNatClampNeg zx1)).2.2.1 (tw (Int32.toNatClampNeg zx1)).2.2.2.1 (tw (Int32.toNatClampNeg zx1)).2.2.2.2.1 (tw (Int32.toNatClampNeg zx1)).2.2.2.2.2.1 (tw (Int32.toNatClampNeg zx1)).2.2.2.2.2.2 zx2 zx3 F zr_3 hc) (cwV 2 hts gX6_block_X4_blockOf rfl rfl rfl zVX4_blockOf ⟨Nat.le_of_ble_eq_true rfl, Nat.le_of_ble_eq_true rfl⟩) (tg_preV (r := (RX4, TX4, 7)) (ci := 4) (q0 := 0) (wG_T hP hk) (hK.sub (tys' := [(cI, .int)]) [0] rfl) hN rfl rfl) rfl rfl hl.1 rfl (lv_room (Nat.le_of_ble_eq_true rfl)) dX6_block_32 ⟨Nat.zero_le _, Nat.zero_le _⟩) ?_
        refine lv_goto (tgt := 40) hx hb dX6_block_35 (by decide) ?_
        cases h
        exact W.iret hx hb hr (fun t ht hW => ⟨rfl, ht⟩) (fun _ h9 => absurd h9 List.not_mem_nil) dX6_block_40
theorem zVX6_block : yX6_block.cls = RX6 ∧ yX6_block.cls ≠ "java/lang/invoke/MethodHandle" ∧ yX6_block.cls ≠ "java/lang/invoke/VarHandle" ∧ (parseMethodDescriptor yX6_block.desc).map (fun d => d.parameters.length) = some 3 := by decide +kernel

/-! ===== public int still(int, int); ===== -/
theorem kX6_still_1 : Cond.fieldLink RX6 156 "TurnGroups" "pointCount" "I" ∈ wsX6_still := by decide +kernel
theorem kX6_still_2 : Cond.fieldLink RX6 15 "TurnGroups" "groups" "[LTurnGroups$Tower;" ∈ wsX6_still := by decide +kernel
theorem uX6_still_RX6 : ∀ w ∈ u_ws RX6 TX6 6, w ∈ wsX6_still := by decide +kernel
def mX6_still (F : Nat) (np : Int32) (ng : Int32) (tw : Nat → TW) (zx1 : Int32) (zx2 : Int32) : Option (Int32) := if (mX6_isGroup ng zx1) = 0 then (some (-2 : Int32)) else (if zx2 < 0 then (some (-2 : Int32)) else (if zx2 ≤ np then (gd (inb zx1 10) (bd (mX4_turnsThatLeave F (tw (Int32.toNatClampNeg zx1)).1 (tw (Int32.toNatClampNeg zx1)).2.2.1 (tw (Int32.toNatClampNeg zx1)).2.2.2.1 (tw (Int32.toNatClampNeg zx1)).2.2.2.2.1 ((zx2 + 8) - np)) (fun zr_1 => some zr_1))) else (some (-2 : Int32))))
set_option maxRecDepth 100000 in
set_option maxHeartbeats 4000000 in
theorem qX6_still (l : Launch) (D : va_G) (cI : ClassId) (cT : ClassId) (ga : Nat → Nat) (ta : Nat → Nat → Nat) (shelf : Nat → Int32) (np : Int32) (ng : Int32) (cur : Int32) (tw : Nat → TW) (zx1 : Int32) (zx2 : Int32) (F : Nat) (zr0 : Int32) (h : mX6_still F np ng tw zx1 zx2 = some zr0) : Met l yX6_still wsX6_still ({ frames := 13, cells := 0, slots := 0, locals := 344 } : Room) (tg_P D [(cI, .int), (cT, .object "TurnGroups$Tower")] [.ref (ga 0), .int zx1, .int zx2] ((wG ta cI cT ga shelf np ng cur tw))) (tg_Ri zr0) 0 0 (fun _ => False) := by
  refine Met.ofW (cc := cX6_still) (maxL := 3) (ret := (some .int)) (by decide) rfl ?_
  intro p e s m zargs zbelow zmeth c s₁ B hml hv
  obtain ⟨hargs, hP, hK, hN⟩ := hv
  have hx := B.exec
  have hb := B.bytes
  have hr := B.returns
  have hts := atoms_spec (ws := wsX6_still) B.pre
  have hown : s.vm.findClass RX6 = some m.cls := findClass_of_methodNamed B.named
  have hlocks := B.notSynchronized
  have hl := lv_entry ([.ref (ga 0), .int zx1, .int zx2]) (n := 3) (Nat.le_of_ble_eq_true rfl)
  refine W.eq (g2 := entryFrame m ([.ref (ga 0), .int zx1, .int zx2] : List Value).toArray 3) (by rw [hargs]) ?_
  rw [lg_entry_eq]
  generalize (lg_sl ([.ref (ga 0), .int zx1, .int zx2]) ++ List.replicate (3 - (lg_sl ([.ref (ga 0), .int zx1, .int zx2])).length) Slot.unset).toArray = zls at hl ⊢
  have hl : lv_has zls 3 [(0, .ref (ga 0)), (1, .int zx1), (2, .int zx2)] := hl
  rw [mX6_still] at h
  refine lv_aload_n hx hb dX6_still_0 rfl (lv_at hl 0 rfl) ?_
  refine lv_iload_n hx hb dX6_still_1 rfl (lv_at hl 1 rfl) ?_
  refine tg_cRi (va_runV (As := [.int zx1]) (rest := []) ⟨hx, hb, hml, hown, hts⟩ (qX6_isGroup l D cI cT ga ta shelf np ng cur tw zx1 _ rfl) (cwV 1 hts gX6_still_X6_isGroup rfl rfl rfl zVX6_isGroup ⟨Nat.le_of_ble_eq_true rfl, Nat.le_of_ble_eq_true rfl⟩) (tg_preV (r := (RX6, TX6, 6)) (ci := 5) (q0 := 0) hP hK hN rfl rfl) rfl rfl hl.1 rfl (lv_room (Nat.le_of_ble_eq_true rfl)) dX6_still_2 ⟨Nat.zero_le _, Nat.zero_le _⟩) ?_
  refine lv_if_eq (tgt := 20) hx hb dX6_still_5 (by decide) (fun cb => ?_) (fun cb => ?_)
  · rw [if_pos cb] at h
    refine lv_bipush (v := (-2)) hx hb dX6_still_20 (by decide) ?_
    cases h
    exact W.iret hx hb hr (fun t ht hW => ⟨rfl, ht⟩) (fun _ h9 => absurd h9 List.not_mem_nil) dX6_still_22
  · rw [if_neg cb] at h
    refine lv_iload_n hx hb dX6_still_8 rfl (lv_at hl 2 rfl) ?_
    refine lv_if_lt (tgt := 20) hx hb dX6_still_9 (by decide) (fun cb_1 => ?_) (fun cb_1 => ?_)
    · rw [if_pos cb_1] at h
      refine lv_bipush (v := (-2)) hx hb dX6_still_20 (by decide) ?_
      cases h
      exact W.iret hx hb hr (fun t ht hW => ⟨rfl, ht⟩) (fun _ h9 => absurd h9 List.not_mem_nil) dX6_still_22
    · rw [if_neg cb_1] at h
      refine lv_iload_n hx hb dX6_still_12 rfl (lv_at hl 2 rfl) ?_
      refine lv_aload_n hx hb dX6_still_13 rfl (lv_at hl 0 rfl) ?_
      refine va_get (D := D) (ci := 5) (v := .int np) (C := RX6) (T := TX6) (N := 6) hx hb hts uX6_still_RX6 hown hK hP 0 rfl rfl 3 (by decide) (hts _ kX6_still_1) (fun _ h9 => h9) rfl dX6_still_14 ?_
      refine lv_icmp_le (tgt := 23) hx hb dX6_still_17 (by decide) (fun cb_2 => ?_) (fun cb_2 => ?_)
      · rw [if_pos cb_2] at h
        refine lv_aload_n hx hb dX6_still_23 rfl (lv_at hl 0 rfl) ?_
        refine va_get (D := D) (ci := 5) (v := .ref (ga 2)) (C := RX6) (T := TX6) (N := 6) hx hb hts uX6_still_RX6 hown hK hP 0 rfl rfl 1 (by decide) (hts _ kX6_still_2) (fun _ h9 => h9) rfl dX6_still_24 ?_
        refine lv_iload_n hx hb dX6_still_27 rfl (lv_at hl 1 rfl) ?_
        obtain ⟨gg, h⟩ := gd_el h
        have hk : (Int32.toNatClampNeg zx1) < 12 := by have := inb_lt gg; omega
        refine va_aldq hx hb hK hP 2 1 rfl rfl (inb_in gg) dX6_still_28 ?_
        refine W.eq (g2 := F0 m 29 zls [.ref (ta (Int32.toNatClampNeg zx1) 0)]) rfl ?_
        refine lv_iload_n hx hb dX6_still_29 rfl (lv_at hl 2 rfl) ?_
        refine lv_bipush (v := 8) hx hb dX6_still_30 (by decide) ?_
        refine lv_iadd hx hb dX6_still_32 ?_
        refine lv_aload_n hx hb dX6_still_33 rfl (lv_at hl 0 rfl) ?_
        refine va_get (D := D) (ci := 5) (v := .int np) (C := RX6) (T := TX6) (N := 6) hx hb hts uX6_still_RX6 hown hK hP 0 rfl rfl 3 (by decide) (hts _ kX6_still_1) (fun _ h9 => h9) rfl dX6_still_34 ?_
        refine lv_isub hx hb dX6_still_37 ?_
        obtain ⟨zr_1, hc, h⟩ := bd_el h
        refine tg_cRi (va_runV (As := [.int ((zx2 + 8) - np)]) (rest := []) ⟨hx, hb, hml, hown, hts⟩ (qX4_turnsThatLeave l D cI (ta (Int32.toNatClampNeg zx1)) (tw (Int32.toNatClampNeg zx1)).1 (tw (Int32.toNatClampNeg zx1)).2.1 (tw (Int32.toNatClampNeg zx1)).2.2.1 (tw (Int32.toNatClampNeg zx1)).2.2.2.1 (tw (Int32.toNatClampNeg zx1)).2.2.2.2.1 (tw (Int32.toNatClampNeg zx1)).2.2.2.2.2.1 (tw (Int32.toNatClampNeg zx1)).2.2.2.2.2.2 ((zx2 + 8) - np) F zr_1 hc) (cwV 1 hts gX6_still_X4_turnsThatLeave rfl rfl rfl zVX4_turnsThatLeave ⟨Nat.le_of_ble_eq_true rfl, Nat.le_of_ble_eq_true rfl⟩) (tg_preV (r := (RX4, TX4, 7)) (ci := 4) (q0 := 0) (wG_T hP hk) (hK.sub (tys' := [(cI, .int)]) [0] rfl) hN rfl rfl) rfl rfl hl.1 rfl (lv_room (Nat.le_of_ble_eq_true rfl)) dX6_still_38 ⟨Nat.zero_le _, Nat.zero_le _⟩) ?_
        cases h
        exact W.iret hx hb hr (fun t ht hW => ⟨rfl, ht⟩) (fun _ h9 => absurd h9 List.not_mem_nil) dX6_still_41
      · rw [if_neg cb_2] at h
        refine lv_bipush (v := (-2)) hx hb dX6_still_20 (by decide) ?_
        cases h
        exact W.iret hx hb hr (fun t ht hW => ⟨rfl, ht⟩) (fun _ h9 => absurd h9 List.not_mem_nil) dX6_still_22
theorem zVX6_still : yX6_still.cls = RX6 ∧ yX6_still.cls ≠ "java/lang/invoke/MethodHandle" ∧ yX6_still.cls ≠ "java/lang/invoke/VarHandle" ∧ (parseMethodDescriptor yX6_still.desc).map (fun d => d.parameters.length) = some 2 := by decide +kernel

/-! ===== public int element(int, int); ===== -/
theorem kX6_element_1 : Cond.fieldLink RX6 15 "TurnGroups" "groups" "[LTurnGroups$Tower;" ∈ wsX6_element := by decide +kernel
theorem kX6_element_2 : Cond.fieldLink RX6 43 "TurnGroups" "current" "I" ∈ wsX6_element := by decide +kernel
theorem uX6_element_RX6 : ∀ w ∈ u_ws RX6 TX6 6, w ∈ wsX6_element := by decide +kernel
def mX6_element (F : Nat) (ng : Int32) (cur : Int32) (tw : Nat → TW) (zx1 : Int32) (zx2 : Int32) : Option (Int32 × Int32) := if (mX6_isGroup ng zx1) = 0 then (some ((-2 : Int32), cur)) else (if zx2 < 0 then (some ((-2 : Int32), cur)) else (gd (inb zx1 10) (bd (mX4_turnsFrom F (tw (Int32.toNatClampNeg zx1)).2.2.1 0) (fun zr_1 => if zx2 < zr_1 then (gd (inb zx1 10) (bd (mX4_turnAt F (tw (Int32.toNatClampNeg zx1)).1 (tw (Int32.toNatClampNeg zx1)).2.2.1 zx2) (fun zr_2 => some ((1 : Int32), zr_2)))) else (some ((-2 : Int32), cur))))))
set_option maxRecDepth 100000 in
set_option maxHeartbeats 4000000 in
theorem qX6_element (l : Launch) (D : va_G) (cI : ClassId) (cT : ClassId) (ga : Nat → Nat) (ta : Nat → Nat → Nat) (shelf : Nat → Int32) (np : Int32) (ng : Int32) (cur : Int32) (tw : Nat → TW) (zx1 : Int32) (zx2 : Int32) (F : Nat) (zr0 : Int32) (ocur : Int32) (h : mX6_element F ng cur tw zx1 zx2 = some (zr0, ocur)) : Met l yX6_element wsX6_element ({ frames := 4, cells := 0, slots := 0, locals := 97 } : Room) (tg_PM D [(cI, .int), (cT, .object "TurnGroups$Tower")] [.ref (ga 0), .int zx1, .int zx2] (wG ta cI cT ga shelf np ng cur tw)) (tg_Mi D (wG ta cI cT ga shelf np ng cur tw) (wG ta cI cT ga shelf np ng ocur tw) zr0) 0 0 (tg_in (wG ta cI cT ga shelf np ng cur tw)) := by
  refine Met.ofW (cc := cX6_element) (maxL := 3) (ret := (some .int)) (by decide) rfl ?_
  intro p e s m zargs zbelow zmeth c s₁ B hml hv
  obtain ⟨hargs, hP, hK, hN, hD0⟩ := hv
  have hx := B.exec
  have hb := B.bytes
  have hr := B.returns
  have hts := atoms_spec (ws := wsX6_element) B.pre
  have hown : s.vm.findClass RX6 = some m.cls := findClass_of_methodNamed B.named
  have hlocks := B.notSynchronized
  have hDD : tg_DD (tg_in (wG ta cI cT ga shelf np ng cur tw)) (adG ta ga) := tg_DD.of (tg_D hD0) wG_ad
  have hS : va_S (tg_in (wG ta cI cT ga shelf np ng cur tw)) s.heap s.heap [] := va_S.rf
  have hl := lv_entry ([.ref (ga 0), .int zx1, .int zx2]) (n := 3) (Nat.le_of_ble_eq_true rfl)
  refine W.eq (g2 := entryFrame m ([.ref (ga 0), .int zx1, .int zx2] : List Value).toArray 3) (by rw [hargs]) ?_
  rw [lg_entry_eq]
  generalize (lg_sl ([.ref (ga 0), .int zx1, .int zx2]) ++ List.replicate (3 - (lg_sl ([.ref (ga 0), .int zx1, .int zx2])).length) Slot.unset).toArray = zls at hl ⊢
  have hl : lv_has zls 3 [(0, .ref (ga 0)), (1, .int zx1), (2, .int zx2)] := hl
  rw [mX6_element] at h
  refine lv_aload_n hx hb dX6_element_0 rfl (lv_at hl 0 rfl) ?_
  refine lv_iload_n hx hb dX6_element_1 rfl (lv_at hl 1 rfl) ?_
  refine tg_cRi (va_runV (As := [.int zx1]) (rest := []) ⟨hx, hb, hml, hown, hts⟩ (qX6_isGroup l D cI cT ga ta shelf np ng cur tw zx1 _ rfl) (cwV 1 hts gX6_element_X6_isGroup rfl rfl rfl zVX6_isGroup ⟨Nat.le_of_ble_eq_true rfl, Nat.le_of_ble_eq_true rfl⟩) (tg_preV (r := (RX6, TX6, 6)) (ci := 5) (q0 := 0) hP hK hN rfl rfl) rfl rfl hl.1 rfl (lv_room (Nat.le_of_ble_eq_true rfl)) dX6_element_2 ⟨Nat.zero_le _, Nat.zero_le _⟩) ?_
  refine lv_if_eq (tgt := 26) hx hb dX6_element_5 (by decide) (fun cb => ?_) (fun cb => ?_)
  · rw [if_pos cb] at h
    refine lv_bipush (v := (-2)) hx hb dX6_element_26 (by decide) ?_
    cases h
    exact W.iret hx hb hr (fun t ht hW => ⟨rfl, by rw [ht]; exact hP, hS.F ht⟩) hS.2.2 dX6_element_28
  · rw [if_neg cb] at h
    refine lv_iload_n hx hb dX6_element_8 rfl (lv_at hl 2 rfl) ?_
    refine lv_if_lt (tgt := 26) hx hb dX6_element_9 (by decide) (fun cb_1 => ?_) (fun cb_1 => ?_)
    · rw [if_pos cb_1] at h
      refine lv_bipush (v := (-2)) hx hb dX6_element_26 (by decide) ?_
      cases h
      exact W.iret hx hb hr (fun t ht hW => ⟨rfl, by rw [ht]; exact hP, hS.F ht⟩) hS.2.2 dX6_element_28
    · rw [if_neg cb_1] at h
      refine lv_iload_n hx hb dX6_element_12 rfl (lv_at hl 2 rfl) ?_
      refine lv_aload_n hx hb dX6_element_13 rfl (lv_at hl 0 rfl) ?_
      refine va_get (D := D) (ci := 5) (v := .ref (ga 2)) (C := RX6) (T := TX6) (N := 6) hx hb hts uX6_element_RX6 hown hK hP 0 rfl rfl 1 (by decide) (hts _ kX6_element_1) (fun _ h9 => h9) rfl dX6_element_14 ?_
      refine lv_iload_n hx hb dX6_element_17 rfl (lv_at hl 1 rfl) ?_
      obtain ⟨gg, h⟩ := gd_el h
      have hk : (Int32.toNatClampNeg zx1) < 12 := by have := inb_lt gg; omega
      refine va_aldq hx hb hK hP 2 1 rfl rfl (inb_in gg) dX6_element_18 ?_
      refine W.eq (g2 := F0 m 19 zls [.ref (ta (Int32.toNatClampNeg zx1) 0), .int zx2]) rfl ?_
      refine lv_iconst (v := 0) hx hb dX6_element_19 (by decide) ?_
      obtain ⟨zr_1, hc, h⟩ := bd_el h
      refine tg_cRi (va_runV (As := [.int 0]) (rest := [.int zx2]) ⟨hx, hb, hml, hown, hts⟩ (qX4_turnsFrom l D cI (ta (Int32.toNatClampNeg zx1)) (tw (Int32.toNatClampNeg zx1)).1 (tw (Int32.toNatClampNeg zx1)).2.1 (tw (Int32.toNatClampNeg zx1)).2.2.1 (tw (Int32.toNatClampNeg zx1)).2.2.2.1 (tw (Int32.toNatClampNeg zx1)).2.2.2.2.1 (tw (Int32.toNatClampNeg zx1)).2.2.2.2.2.1 (tw (Int32.toNatClampNeg zx1)).2.2.2.2.2.2 0 F zr_1 hc) (cwV 1 hts gX6_element_X4_turnsFrom rfl rfl rfl zVX4_turnsFrom ⟨Nat.le_of_ble_eq_true rfl, Nat.le_of_ble_eq_true rfl⟩) (tg_preV (r := (RX4, TX4, 7)) (ci := 4) (q0 := 0) (wG_T hP hk) (hK.sub (tys' := [(cI, .int)]) [0] rfl) hN rfl rfl) rfl rfl hl.1 rfl (lv_room (Nat.le_of_ble_eq_true rfl)) dX6_element_20 ⟨Nat.zero_le _, Nat.zero_le _⟩) ?_
      refine lv_icmp_lt (tgt := 29) hx hb dX6_element_23 (by decide) (fun cb_2 => ?_) (fun cb_2 => ?_)
      · rw [if_pos cb_2] at h
        refine lv_aload_n hx hb dX6_element_29 rfl (lv_at hl 0 rfl) ?_
        refine lv_aload_n hx hb dX6_element_30 rfl (lv_at hl 0 rfl) ?_
        refine va_get (D := D) (ci := 5) (v := .ref (ga 2)) (C := RX6) (T := TX6) (N := 6) hx hb hts uX6_element_RX6 hown hK hP 0 rfl rfl 1 (by decide) (hts _ kX6_element_1) (fun _ h9 => h9) rfl dX6_element_31 ?_
        refine lv_iload_n hx hb dX6_element_34 rfl (lv_at hl 1 rfl) ?_
        obtain ⟨gg_1, h⟩ := gd_el h
        have hk_1 : (Int32.toNatClampNeg zx1) < 12 := by have := inb_lt gg_1; omega
        refine va_aldq hx hb hK hP 2 1 rfl rfl (inb_in gg_1) dX6_element_35 ?_
        refine W.eq (g2 := F0 m 36 zls [.ref (ta (Int32.toNatClampNeg zx1) 0), .ref (ga 0)]) rfl ?_
        refine lv_iload_n hx hb dX6_element_36 rfl (lv_at hl 2 rfl) ?_
        obtain ⟨zr_2, hc_1, h⟩ := bd_el h
        refine tg_cRi (va_runV (As := [.int zx2]) (rest := [.ref (ga 0)]) ⟨hx, hb, hml, hown, hts⟩ (qX4_turnAt l D cI (ta (Int32.toNatClampNeg zx1)) (tw (Int32.toNatClampNeg zx1)).1 (tw (Int32.toNatClampNeg zx1)).2.1 (tw (Int32.toNatClampNeg zx1)).2.2.1 (tw (Int32.toNatClampNeg zx1)).2.2.2.1 (tw (Int32.toNatClampNeg zx1)).2.2.2.2.1 (tw (Int32.toNatClampNeg zx1)).2.2.2.2.2.1 (tw (Int32.toNatClampNeg zx1)).2.2.2.2.2.2 zx2 F zr_2 hc_1) (cwV 1 hts gX6_element_X4_turnAt rfl rfl rfl zVX4_turnAt ⟨Nat.le_of_ble_eq_true rfl, Nat.le_of_ble_eq_true rfl⟩) (tg_preV (r := (RX4, TX4, 7)) (ci := 4) (q0 := 0) (wG_T hP hk_1) (hK.sub (tys' := [(cI, .int)]) [0] rfl) hN rfl rfl) rfl rfl hl.1 rfl (lv_room (Nat.le_of_ble_eq_true rfl)) dX6_element_37 ⟨Nat.zero_le _, Nat.zero_le _⟩) ?_
        refine va_put (D := D) (ci := 5) (v := .int zr_2) (ty := .int) (C := RX6) (T := TX6) (N := 6) hx hb hts uX6_element_RX6 tyX6 tyX6_ok nmX6 hown hK hP (hDD _ wG_ad) hS 0 rfl rfl 5 (by decide) (hts _ kX6_element_2) (fun _ h9 => h9) rfl (by decide +kernel) rfl rfl (Nat.le_of_ble_eq_true rfl) dX6_element_40 (fun zH zlocs hP _ hS => ?_)
        have hP : va_P D vwCl (wG ta cI cT ga shelf np ng zr_2 tw) zH := hP
        refine lv_iconst (v := 1) hx hb dX6_element_43 (by decide) ?_
        cases h
        exact W.iret hx hb hr (fun t ht hW => ⟨rfl, by rw [ht]; exact hP, hS.F ht⟩) hS.2.2 dX6_element_44
      · rw [if_neg cb_2] at h
        refine lv_bipush (v := (-2)) hx hb dX6_element_26 (by decide) ?_
        cases h
        exact W.iret hx hb hr (fun t ht hW => ⟨rfl, by rw [ht]; exact hP, hS.F ht⟩) hS.2.2 dX6_element_28
theorem zVX6_element : yX6_element.cls = RX6 ∧ yX6_element.cls ≠ "java/lang/invoke/MethodHandle" ∧ yX6_element.cls ≠ "java/lang/invoke/VarHandle" ∧ (parseMethodDescriptor yX6_element.desc).map (fun d => d.parameters.length) = some 2 := by decide +kernel

/-! ===== public int place(int); ===== -/
theorem kX6_place_1 : Cond.fieldLink RX6 15 "TurnGroups" "groups" "[LTurnGroups$Tower;" ∈ wsX6_place := by decide +kernel
theorem kX6_place_2 : Cond.fieldLink RX6 43 "TurnGroups" "current" "I" ∈ wsX6_place := by decide +kernel
theorem uX6_place_RX6 : ∀ w ∈ u_ws RX6 TX6 6, w ∈ wsX6_place := by decide +kernel
def mX6_place (F : Nat) (ng : Int32) (cur : Int32) (tw : Nat → TW) (zx1 : Int32) : Option (Int32) := if (mX6_isGroup ng zx1) = 0 then (some (-2 : Int32)) else (gd (inb zx1 10) (bd (mX4_turnsAheadOf F (tw (Int32.toNatClampNeg zx1)).1 (tw (Int32.toNatClampNeg zx1)).2.2.1 cur) (fun zr_1 => some zr_1)))
set_option maxRecDepth 100000 in
set_option maxHeartbeats 4000000 in
theorem qX6_place (l : Launch) (D : va_G) (cI : ClassId) (cT : ClassId) (ga : Nat → Nat) (ta : Nat → Nat → Nat) (shelf : Nat → Int32) (np : Int32) (ng : Int32) (cur : Int32) (tw : Nat → TW) (zx1 : Int32) (F : Nat) (zr0 : Int32) (h : mX6_place F ng cur tw zx1 = some zr0) : Met l yX6_place wsX6_place ({ frames := 4, cells := 0, slots := 0, locals := 97 } : Room) (tg_P D [(cI, .int), (cT, .object "TurnGroups$Tower")] [.ref (ga 0), .int zx1] ((wG ta cI cT ga shelf np ng cur tw))) (tg_Ri zr0) 0 0 (fun _ => False) := by
  refine Met.ofW (cc := cX6_place) (maxL := 2) (ret := (some .int)) (by decide) rfl ?_
  intro p e s m zargs zbelow zmeth c s₁ B hml hv
  obtain ⟨hargs, hP, hK, hN⟩ := hv
  have hx := B.exec
  have hb := B.bytes
  have hr := B.returns
  have hts := atoms_spec (ws := wsX6_place) B.pre
  have hown : s.vm.findClass RX6 = some m.cls := findClass_of_methodNamed B.named
  have hlocks := B.notSynchronized
  have hl := lv_entry ([.ref (ga 0), .int zx1]) (n := 2) (Nat.le_of_ble_eq_true rfl)
  refine W.eq (g2 := entryFrame m ([.ref (ga 0), .int zx1] : List Value).toArray 2) (by rw [hargs]) ?_
  rw [lg_entry_eq]
  generalize (lg_sl ([.ref (ga 0), .int zx1]) ++ List.replicate (2 - (lg_sl ([.ref (ga 0), .int zx1])).length) Slot.unset).toArray = zls at hl ⊢
  have hl : lv_has zls 2 [(0, .ref (ga 0)), (1, .int zx1)] := hl
  rw [mX6_place] at h
  refine lv_aload_n hx hb dX6_place_0 rfl (lv_at hl 0 rfl) ?_
  refine lv_iload_n hx hb dX6_place_1 rfl (lv_at hl 1 rfl) ?_
  refine tg_cRi (va_runV (As := [.int zx1]) (rest := []) ⟨hx, hb, hml, hown, hts⟩ (qX6_isGroup l D cI cT ga ta shelf np ng cur tw zx1 _ rfl) (cwV 1 hts gX6_place_X6_isGroup rfl rfl rfl zVX6_isGroup ⟨Nat.le_of_ble_eq_true rfl, Nat.le_of_ble_eq_true rfl⟩) (tg_preV (r := (RX6, TX6, 6)) (ci := 5) (q0 := 0) hP hK hN rfl rfl) rfl rfl hl.1 rfl (lv_room (Nat.le_of_ble_eq_true rfl)) dX6_place_2 ⟨Nat.zero_le _, Nat.zero_le _⟩) ?_
  refine lv_if_eq (tgt := 24) hx hb dX6_place_5 (by decide) (fun cb => ?_) (fun cb => ?_)
  · rw [if_pos cb] at h
    refine lv_bipush (v := (-2)) hx hb dX6_place_24 (by decide) ?_
    cases h
    exact W.iret hx hb hr (fun t ht hW => ⟨rfl, ht⟩) (fun _ h9 => absurd h9 List.not_mem_nil) dX6_place_26
  · rw [if_neg cb] at h
    refine lv_aload_n hx hb dX6_place_8 rfl (lv_at hl 0 rfl) ?_
    refine va_get (D := D) (ci := 5) (v := .ref (ga 2)) (C := RX6) (T := TX6) (N := 6) hx hb hts uX6_place_RX6 hown hK hP 0 rfl rfl 1 (by decide) (hts _ kX6_place_1) (fun _ h9 => h9) rfl dX6_place_9 ?_
    refine lv_iload_n hx hb dX6_place_12 rfl (lv_at hl 1 rfl) ?_
    obtain ⟨gg, h⟩ := gd_el h
    have hk : (Int32.toNatClampNeg zx1) < 12 := by have := inb_lt gg; omega
    refine va_aldq hx hb hK hP 2 1 rfl rfl (inb_in gg) dX6_place_13 ?_
    refine W.eq (g2 := F0 m 14 zls [.ref (ta (Int32.toNatClampNeg zx1) 0)]) rfl ?_
    refine lv_aload_n hx hb dX6_place_14 rfl (lv_at hl 0 rfl) ?_
    refine va_get (D := D) (ci := 5) (v := .int cur) (C := RX6) (T := TX6) (N := 6) hx hb hts uX6_place_RX6 hown hK hP 0 rfl rfl 5 (by decide) (hts _ kX6_place_2) (fun _ h9 => h9) rfl dX6_place_15 ?_
    obtain ⟨zr_1, hc, h⟩ := bd_el h
    refine tg_cRi (va_runV (As := [.int cur]) (rest := []) ⟨hx, hb, hml, hown, hts⟩ (qX4_turnsAheadOf l D cI (ta (Int32.toNatClampNeg zx1)) (tw (Int32.toNatClampNeg zx1)).1 (tw (Int32.toNatClampNeg zx1)).2.1 (tw (Int32.toNatClampNeg zx1)).2.2.1 (tw (Int32.toNatClampNeg zx1)).2.2.2.1 (tw (Int32.toNatClampNeg zx1)).2.2.2.2.1 (tw (Int32.toNatClampNeg zx1)).2.2.2.2.2.1 (tw (Int32.toNatClampNeg zx1)).2.2.2.2.2.2 cur F zr_1 hc) (cwV 1 hts gX6_place_X4_turnsAheadOf rfl rfl rfl zVX4_turnsAheadOf ⟨Nat.le_of_ble_eq_true rfl, Nat.le_of_ble_eq_true rfl⟩) (tg_preV (r := (RX4, TX4, 7)) (ci := 4) (q0 := 0) (wG_T hP hk) (hK.sub (tys' := [(cI, .int)]) [0] rfl) hN rfl rfl) rfl rfl hl.1 rfl (lv_room (Nat.le_of_ble_eq_true rfl)) dX6_place_18 ⟨Nat.zero_le _, Nat.zero_le _⟩) ?_
    refine lv_goto (tgt := 26) hx hb dX6_place_21 (by decide) ?_
    cases h
    exact W.iret hx hb hr (fun t ht hW => ⟨rfl, ht⟩) (fun _ h9 => absurd h9 List.not_mem_nil) dX6_place_26
theorem zVX6_place : yX6_place.cls = RX6 ∧ yX6_place.cls ≠ "java/lang/invoke/MethodHandle" ∧ yX6_place.cls ≠ "java/lang/invoke/VarHandle" ∧ (parseMethodDescriptor yX6_place.desc).map (fun d => d.parameters.length) = some 1 := by decide +kernel

/-! ===== public int count(int); ===== -/
theorem kX6_count_1 : Cond.fieldLink RX6 156 "TurnGroups" "pointCount" "I" ∈ wsX6_count := by decide +kernel
theorem kX6_count_2 : Cond.fieldLink RX6 27 "TurnGroups" "groupCount" "I" ∈ wsX6_count := by decide +kernel
theorem kX6_count_3 : Cond.fieldLink RX6 43 "TurnGroups" "current" "I" ∈ wsX6_count := by decide +kernel
theorem uX6_count_RX6 : ∀ w ∈ u_ws RX6 TX6 6, w ∈ wsX6_count := by decide +kernel
def mX6_count (F : Nat) (np : Int32) (ng : Int32) (cur : Int32) (zx1 : Int32) : Option (Int32) := if zx1 = 0 then (some np) else (if zx1 = 1 then (some ng) else (if zx1 = 2 then (bd (mX6_pointsLeft F cur) (fun zr => some (zr - (8 - np)))) else (if zx1 = 3 then (bd (mX6_isEven F cur) (fun zr_1 => some (mX6_truth zr_1))) else (some (-2 : Int32)))))
set_option maxRecDepth 100000 in
set_option maxHeartbeats 4000000 in
theorem qX6_count (l : Launch) (D : va_G) (cI : ClassId) (cT : ClassId) (ga : Nat → Nat) (ta : Nat → Nat → Nat) (shelf : Nat → Int32) (np : Int32) (ng : Int32) (cur : Int32) (tw : Nat → TW) (zx1 : Int32) (F : Nat) (zr0 : Int32) (h : mX6_count F np ng cur zx1 = some zr0) : Met l yX6_count wsX6_count ({ frames := 2, cells := 0, slots := 0, locals := 44 } : Room) (tg_P D [(cI, .int), (cT, .object "TurnGroups$Tower")] [.ref (ga 0), .int zx1] ((wG ta cI cT ga shelf np ng cur tw))) (tg_Ri zr0) 0 0 (fun _ => False) := by
  refine Met.ofW (cc := cX6_count) (maxL := 2) (ret := (some .int)) (by decide) rfl ?_
  intro p e s m zargs zbelow zmeth c s₁ B hml hv
  obtain ⟨hargs, hP, hK, hN⟩ := hv
  have hx := B.exec
  have hb := B.bytes
  have hr := B.returns
  have hts := atoms_spec (ws := wsX6_count) B.pre
  have hown : s.vm.findClass RX6 = some m.cls := findClass_of_methodNamed B.named
  have hlocks := B.notSynchronized
  have hl := lv_entry ([.ref (ga 0), .int zx1]) (n := 2) (Nat.le_of_ble_eq_true rfl)
  refine W.eq (g2 := entryFrame m ([.ref (ga 0), .int zx1] : List Value).toArray 2) (by rw [hargs]) ?_
  rw [lg_entry_eq]
  generalize (lg_sl ([.ref (ga 0), .int zx1]) ++ List.replicate (2 - (lg_sl ([.ref (ga 0), .int zx1])).length) Slot.unset).toArray = zls at hl ⊢
  have hl : lv_has zls 2 [(0, .ref (ga 0)), (1, .int zx1)] := hl
  rw [mX6_count] at h
  refine lv_iload_n hx hb dX6_count_0 rfl (lv_at hl 1 rfl) ?_
  by_cases cb : zx1 = 0
  · rw [if_pos cb] at h
    refine tg_top (y := 0) cb.symm ?_
    refine lv_tableIn (tgt := 32) hx hb dX6_count_1 (by decide) (by decide) rfl (by decide) ?_
    refine lv_aload_n hx hb dX6_count_32 rfl (lv_at hl 0 rfl) ?_
    refine va_get (D := D) (ci := 5) (v := .int np) (C := RX6) (T := TX6) (N := 6) hx hb hts uX6_count_RX6 hown hK hP 0 rfl rfl 3 (by decide) (hts _ kX6_count_1) (fun _ h9 => h9) rfl dX6_count_33 ?_
    cases h
    exact W.iret hx hb hr (fun t ht hW => ⟨rfl, ht⟩) (fun _ h9 => absurd h9 List.not_mem_nil) dX6_count_36
  · rw [if_neg cb] at h
    by_cases cb_1 : zx1 = 1
    · rw [if_pos cb_1] at h
      refine tg_top (y := 1) cb_1.symm ?_
      refine lv_tableIn (tgt := 37) hx hb dX6_count_1 (by decide) (by decide) rfl (by decide) ?_
      refine lv_aload_n hx hb dX6_count_37 rfl (lv_at hl 0 rfl) ?_
      refine va_get (D := D) (ci := 5) (v := .int ng) (C := RX6) (T := TX6) (N := 6) hx hb hts uX6_count_RX6 hown hK hP 0 rfl rfl 4 (by decide) (hts _ kX6_count_2) (fun _ h9 => h9) rfl dX6_count_38 ?_
      cases h
      exact W.iret hx hb hr (fun t ht hW => ⟨rfl, ht⟩) (fun _ h9 => absurd h9 List.not_mem_nil) dX6_count_41
    · rw [if_neg cb_1] at h
      by_cases cb_2 : zx1 = 2
      · rw [if_pos cb_2] at h
        refine tg_top (y := 2) cb_2.symm ?_
        refine lv_tableIn (tgt := 42) hx hb dX6_count_1 (by decide) (by decide) rfl (by decide) ?_
        refine lv_aload_n hx hb dX6_count_42 rfl (lv_at hl 0 rfl) ?_
        refine va_get (D := D) (ci := 5) (v := .int cur) (C := RX6) (T := TX6) (N := 6) hx hb hts uX6_count_RX6 hown hK hP 0 rfl rfl 5 (by decide) (hts _ kX6_count_3) (fun _ h9 => h9) rfl dX6_count_43 ?_
        obtain ⟨zr, hc, h⟩ := bd_el h
        refine tg_cRi (va_runS (As := [.int cur]) (rest := []) ⟨hx, hb, hml, hown, hts⟩ (qX6_pointsLeft l D cur F zr hc) (va_cwS 1 hts gX6_count_X6_pointsLeft rfl rfl rfl zSX6_pointsLeft ⟨Nat.le_of_ble_eq_true rfl, Nat.le_of_ble_eq_true rfl⟩) (tg_preS tg_nil (hK.sub (tys' := []) [] rfl) hN) rfl rfl hl.1 rfl (lv_room (Nat.le_of_ble_eq_true rfl)) dX6_count_46 ⟨Nat.zero_le _, Nat.zero_le _⟩) ?_
        refine lv_bipush (v := 8) hx hb dX6_count_49 (by decide) ?_
        refine lv_aload_n hx hb dX6_count_51 rfl (lv_at hl 0 rfl) ?_
        refine va_get (D := D) (ci := 5) (v := .int np) (C := RX6) (T := TX6) (N := 6) hx hb hts uX6_count_RX6 hown hK hP 0 rfl rfl 3 (by decide) (hts _ kX6_count_1) (fun _ h9 => h9) rfl dX6_count_52 ?_
        refine lv_isub hx hb dX6_count_55 ?_
        refine lv_isub hx hb dX6_count_56 ?_
        cases h
        exact W.iret hx hb hr (fun t ht hW => ⟨rfl, ht⟩) (fun _ h9 => absurd h9 List.not_mem_nil) dX6_count_57
      · rw [if_neg cb_2] at h
        by_cases cb_3 : zx1 = 3
        · rw [if_pos cb_3] at h
          refine tg_top (y := 3) cb_3.symm ?_
          refine lv_tableIn (tgt := 58) hx hb dX6_count_1 (by decide) (by decide) rfl (by decide) ?_
          refine lv_aload_n hx hb dX6_count_58 rfl (lv_at hl 0 rfl) ?_
          refine va_get (D := D) (ci := 5) (v := .int cur) (C := RX6) (T := TX6) (N := 6) hx hb hts uX6_count_RX6 hown hK hP 0 rfl rfl 5 (by decide) (hts _ kX6_count_3) (fun _ h9 => h9) rfl dX6_count_59 ?_
          obtain ⟨zr_1, hc_1, h⟩ := bd_el h
          refine tg_cRi (va_runS (As := [.int cur]) (rest := []) ⟨hx, hb, hml, hown, hts⟩ (qX6_isEven l D cur F zr_1 hc_1) (va_cwS 1 hts gX6_count_X6_isEven rfl rfl rfl zSX6_isEven ⟨Nat.le_of_ble_eq_true rfl, Nat.le_of_ble_eq_true rfl⟩) (tg_preS tg_nil (hK.sub (tys' := []) [] rfl) hN) rfl rfl hl.1 rfl (lv_room (Nat.le_of_ble_eq_true rfl)) dX6_count_62 ⟨Nat.zero_le _, Nat.zero_le _⟩) ?_
          refine tg_cRi (va_runS (As := [.int zr_1]) (rest := []) ⟨hx, hb, hml, hown, hts⟩ (qX6_truth l D zr_1 _ rfl) (va_cwS 1 hts gX6_count_X6_truth rfl rfl rfl zSX6_truth ⟨Nat.le_of_ble_eq_true rfl, Nat.le_of_ble_eq_true rfl⟩) (tg_preS tg_nil (hK.sub (tys' := []) [] rfl) hN) rfl rfl hl.1 rfl (lv_room (Nat.le_of_ble_eq_true rfl)) dX6_count_65 ⟨Nat.zero_le _, Nat.zero_le _⟩) ?_
          cases h
          exact W.iret hx hb hr (fun t ht hW => ⟨rfl, ht⟩) (fun _ h9 => absurd h9 List.not_mem_nil) dX6_count_68
        · rw [if_neg cb_3] at h
          refine lv_tableOut (tgt := 69) hx hb dX6_count_1 (sw4 cb cb_1 cb_2 cb_3) (by decide) ?_
          refine lv_bipush (v := (-2)) hx hb dX6_count_69 (by decide) ?_
          cases h
          exact W.iret hx hb hr (fun t ht hW => ⟨rfl, ht⟩) (fun _ h9 => absurd h9 List.not_mem_nil) dX6_count_71
theorem zVX6_count : yX6_count.cls = RX6 ∧ yX6_count.cls ≠ "java/lang/invoke/MethodHandle" ∧ yX6_count.cls ≠ "java/lang/invoke/VarHandle" ∧ (parseMethodDescriptor yX6_count.desc).map (fun d => d.parameters.length) = some 1 := by decide +kernel

/-! ===== public int add(int); ===== -/
theorem kX6_add_1 : Cond.fieldLink RX6 15 "TurnGroups" "groups" "[LTurnGroups$Tower;" ∈ wsX6_add := by decide +kernel
theorem kX6_add_2 : Cond.fieldLink RX6 43 "TurnGroups" "current" "I" ∈ wsX6_add := by decide +kernel
theorem uX6_add_RX6 : ∀ w ∈ u_ws RX6 TX6 6, w ∈ wsX6_add := by decide +kernel
def mX6_add (F : Nat) (ng : Int32) (cur : Int32) (tw : Nat → TW) (zx1 : Int32) : Option (Int32 × (Nat → TW)) := if (mX6_isGroup ng zx1) = 0 then (some ((-2 : Int32), tw)) else (gd (inb zx1 10) (bd8 (mX4_join F (tw (Int32.toNatClampNeg zx1)).1 (tw (Int32.toNatClampNeg zx1)).2.1 (tw (Int32.toNatClampNeg zx1)).2.2.1 (tw (Int32.toNatClampNeg zx1)).2.2.2.1 (tw (Int32.toNatClampNeg zx1)).2.2.2.2.1 (tw (Int32.toNatClampNeg zx1)).2.2.2.2.2.1 (tw (Int32.toNatClampNeg zx1)).2.2.2.2.2.2 cur) (fun zr_1 tcells tback treach tfilled tfc tmakers tmc => lT (upT tw (Int32.toNatClampNeg zx1) (tcells, tback, treach, tfilled, tfc, tmakers, tmc)) (fun tw_1 => lT (if zr_1 = 0 then (1 : Int32) else (0 : Int32)) (fun zv => some ((mX6_truth zv), tw_1))))))
set_option maxRecDepth 100000 in
set_option maxHeartbeats 4000000 in
theorem qX6_add (l : Launch) (D : va_G) (cI : ClassId) (cT : ClassId) (ga : Nat → Nat) (ta : Nat → Nat → Nat) (shelf : Nat → Int32) (np : Int32) (ng : Int32) (cur : Int32) (tw : Nat → TW) (zx1 : Int32) (F : Nat) (zr0 : Int32) (otw : Nat → TW) (h : mX6_add F ng cur tw zx1 = some (zr0, otw)) : Met l yX6_add wsX6_add ({ frames := 4, cells := 0, slots := 0, locals := 96 } : Room) (tg_PM D [(cI, .int), (cT, .object "TurnGroups$Tower")] [.ref (ga 0), .int zx1] (wG ta cI cT ga shelf np ng cur tw)) (tg_Mi D (wG ta cI cT ga shelf np ng cur tw) (wG ta cI cT ga shelf np ng cur otw) zr0) 0 0 (tg_in (wG ta cI cT ga shelf np ng cur tw)) := by
  refine Met.ofW (cc := cX6_add) (maxL := 2) (ret := (some .int)) (by decide) rfl ?_
  intro p e s m zargs zbelow zmeth c s₁ B hml hv
  obtain ⟨hargs, hP, hK, hN, hD0⟩ := hv
  have hx := B.exec
  have hb := B.bytes
  have hr := B.returns
  have hts := atoms_spec (ws := wsX6_add) B.pre
  have hown : s.vm.findClass RX6 = some m.cls := findClass_of_methodNamed B.named
  have hlocks := B.notSynchronized
  have hDD : tg_DD (tg_in (wG ta cI cT ga shelf np ng cur tw)) (adG ta ga) := tg_DD.of (tg_D hD0) wG_ad
  have hS : va_S (tg_in (wG ta cI cT ga shelf np ng cur tw)) s.heap s.heap [] := va_S.rf
  have hl := lv_entry ([.ref (ga 0), .int zx1]) (n := 2) (Nat.le_of_ble_eq_true rfl)
  refine W.eq (g2 := entryFrame m ([.ref (ga 0), .int zx1] : List Value).toArray 2) (by rw [hargs]) ?_
  rw [lg_entry_eq]
  generalize (lg_sl ([.ref (ga 0), .int zx1]) ++ List.replicate (2 - (lg_sl ([.ref (ga 0), .int zx1])).length) Slot.unset).toArray = zls at hl ⊢
  have hl : lv_has zls 2 [(0, .ref (ga 0)), (1, .int zx1)] := hl
  rw [mX6_add] at h
  refine lv_aload_n hx hb dX6_add_0 rfl (lv_at hl 0 rfl) ?_
  refine lv_iload_n hx hb dX6_add_1 rfl (lv_at hl 1 rfl) ?_
  refine tg_cRi (va_runV (As := [.int zx1]) (rest := []) ⟨hx, hb, hml, hown, hts⟩ (qX6_isGroup l D cI cT ga ta shelf np ng cur tw zx1 _ rfl) (cwV 1 hts gX6_add_X6_isGroup rfl rfl rfl zVX6_isGroup ⟨Nat.le_of_ble_eq_true rfl, Nat.le_of_ble_eq_true rfl⟩) (tg_preV (r := (RX6, TX6, 6)) (ci := 5) (q0 := 0) hP hK hN rfl rfl) rfl rfl hl.1 rfl (lv_room (Nat.le_of_ble_eq_true rfl)) dX6_add_2 ⟨Nat.zero_le _, Nat.zero_le _⟩) ?_
  refine lv_if_ne (tgt := 11) hx hb dX6_add_5 (by decide) (fun cb => ?_) (fun cb => ?_)
  · rw [if_neg cb] at h
    refine lv_aload_n hx hb dX6_add_11 rfl (lv_at hl 0 rfl) ?_
    refine va_get (D := D) (ci := 5) (v := .ref (ga 2)) (C := RX6) (T := TX6) (N := 6) hx hb hts uX6_add_RX6 hown hK hP 0 rfl rfl 1 (by decide) (hts _ kX6_add_1) (fun _ h9 => h9) rfl dX6_add_12 ?_
    refine lv_iload_n hx hb dX6_add_15 rfl (lv_at hl 1 rfl) ?_
    obtain ⟨gg, h⟩ := gd_el h
    have hk : (Int32.toNatClampNeg zx1) < 12 := by have := inb_lt gg; omega
    refine va_aldq hx hb hK hP 2 1 rfl rfl (inb_in gg) dX6_add_16 ?_
    refine W.eq (g2 := F0 m 17 zls [.ref (ta (Int32.toNatClampNeg zx1) 0)]) rfl ?_
    refine lv_aload_n hx hb dX6_add_17 rfl (lv_at hl 0 rfl) ?_
    refine va_get (D := D) (ci := 5) (v := .int cur) (C := RX6) (T := TX6) (N := 6) hx hb hts uX6_add_RX6 hown hK hP 0 rfl rfl 5 (by decide) (hts _ kX6_add_2) (fun _ h9 => h9) rfl dX6_add_18 ?_
    obtain ⟨zr_1, tcells, tback, treach, tfilled, tfc, tmakers, tmc, hc, h⟩ := bd8_el h
    refine tg_cMi (va_runV (As := [.int cur]) (rest := []) ⟨hx, hb, hml, hown, hts⟩ (qX4_join l D cI (ta (Int32.toNatClampNeg zx1)) (tw (Int32.toNatClampNeg zx1)).1 (tw (Int32.toNatClampNeg zx1)).2.1 (tw (Int32.toNatClampNeg zx1)).2.2.1 (tw (Int32.toNatClampNeg zx1)).2.2.2.1 (tw (Int32.toNatClampNeg zx1)).2.2.2.2.1 (tw (Int32.toNatClampNeg zx1)).2.2.2.2.2.1 (tw (Int32.toNatClampNeg zx1)).2.2.2.2.2.2 cur F zr_1 tcells tback treach tfilled tfc tmakers tmc hc) (cwV 1 hts gX6_add_X4_join rfl rfl rfl zVX4_join ⟨Nat.le_of_ble_eq_true rfl, Nat.le_of_ble_eq_true rfl⟩) (tg_preVM (r := (RX4, TX4, 7)) (ci := 4) (q0 := 0) (wG_T hP hk) (wG_DT hDD hk) (hK.sub (tys' := [(cI, .int)]) [0] rfl) hN rfl rfl) rfl rfl hl.1 rfl (lv_room (Nat.le_of_ble_eq_true rfl)) dX6_add_21 ⟨Nat.zero_le _, Nat.zero_le _⟩) hS (tg_inA (wG_DT hDD hk)) (fun zH zlocs hf9 hP9 hS => ?_)
    obtain ⟨tw_1, etw_1, h⟩ := lT_el h
    have hP := wG_put (t0 := tw (Int32.toNatClampNeg zx1)) (t := (tcells, tback, treach, tfilled, tfc, tmakers, tmc)) hP hDD hk hf9 hP9
    rw [← etw_1] at hP
    obtain ⟨zv, hv, h⟩ := lT_el h
    have hv := hv.symm
    have hj : W p l e ({ frames := 4, cells := 0, slots := 0, locals := 96 } : Room) s m zargs zbelow zmeth c zH zlocs 0 0 (MQ zbelow (tg_Mi D (wG ta cI cT ga shelf np ng cur tw) (wG ta cI cT ga shelf np ng cur otw) zr0) zargs s 0 0 (tg_in (wG ta cI cT ga shelf np ng cur tw))) (F0 m 32 zls [.int zv]) := by
      refine tg_cRi (va_runS (As := [.int zv]) (rest := []) ⟨hx, hb, hml, hown, hts⟩ (qX6_truth l D zv _ rfl) (va_cwS 1 hts gX6_add_X6_truth rfl rfl rfl zSX6_truth ⟨Nat.le_of_ble_eq_true rfl, Nat.le_of_ble_eq_true rfl⟩) (tg_preS tg_nil (hK.sub (tys' := []) [] rfl) hN) rfl rfl hl.1 rfl (lv_room (Nat.le_of_ble_eq_true rfl)) dX6_add_32 ⟨Nat.zero_le _, Nat.zero_le _⟩) ?_
      cases h
      exact W.iret hx hb hr (fun t ht hW => ⟨rfl, by rw [ht]; exact hP, hS.F ht⟩) hS.2.2 dX6_add_35
    refine lv_if_ne (tgt := 31) hx hb dX6_add_24 (by decide) (fun cb_1 => ?_) (fun cb_1 => ?_)
    · rw [if_neg cb_1] at hv
      refine lv_iconst (v := 0) hx hb dX6_add_31 (by decide) ?_
      subst hv
      exact hj 
    · rw [if_pos cb_1] at hv
      refine lv_iconst (v := 1) hx hb dX6_add_27 (by decide) ?_
      refine lv_goto (tgt := 32) hx hb dX6_add_28 (by decide) ?_
      subst hv
      exact hj 
  · rw [if_pos cb] at h
    refine lv_bipush (v := (-2)) hx hb dX6_add_8 (by decide) ?_
    cases h
    exact W.iret hx hb hr (fun t ht hW => ⟨rfl, by rw [ht]; exact hP, hS.F ht⟩) hS.2.2 dX6_add_10
theorem zVX6_add : yX6_add.cls = RX6 ∧ yX6_add.cls ≠ "java/lang/invoke/MethodHandle" ∧ yX6_add.cls ≠ "java/lang/invoke/VarHandle" ∧ (parseMethodDescriptor yX6_add.desc).map (fun d => d.parameters.length) = some 1 := by decide +kernel
