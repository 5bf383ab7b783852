set_option maxRecDepth 100000 in
set_option maxHeartbeats 4000000 in
theorem lwc_orbit {p : Program} {l : Launch} {e : Env} {s : State} {m : MethodId} {b : Nat} {below : List Frame} {meth : Method} {c : Code} {D : va_G} {zQ : State → Prop} {ga : Nat → Nat} {ta : Nat → Nat → Nat} {ad : Nat → Nat} {cI cT cZ : ClassId} {L : Nat} {xs : Nat → Int32} {F : Nat} (C0 : tg_C p s m meth c #[Value.ref b] cL_law RL wsL_law 4 D [(cI, .int), (cT, .object "TurnGroups$Tower"), (cZ, .boolean)]) (hX : va_X b L xs s s.heap) (hbl : b < s.heap.size) (hDs : lwD s ta ga ad) (hF : 50000 ≤ F) {i a1 a2 a3 : Int32} (hi : lwX i L xs a1 a2 a3) {cells slots : Nat} (hc1 : cells + 1 ≤ 600000) (hs1 : slots + 2 ≤ 7302250) {zH : Heap} {zlocs : List Loc} (hI : lwI D cI cT cZ ta ga ad zH) (hS : va_S (lwA s) s.heap zH zlocs) {zls : Array Slot} (hl : lv_has zls 4 [(0, .ref b), (1, .ref (ga 0)), (2, .ref (ad 0)), (3, .int i)]) (kk : ∀ (zH : Heap) (zlocs : List Loc), lwI D cI cT cZ ta ga ad zH → va_S (lwA s) s.heap zH zlocs → W p l e room_1 s m #[Value.ref b] below meth c zH zlocs (cells + 1) (slots + 2) zQ (F0 m 891 zls [])) : W p l e room_1 s m #[Value.ref b] below meth c zH zlocs cells slots zQ (F0 m 637 zls []) := by
  obtain ⟨hx, hb, hml, hown, hts, hK, hN⟩ := C0
  have hKG := hK.sub (tys' := [(cI, .int), (cT, .object "TurnGroups$Tower")]) [0, 1] rfl
  have hKM := hK.sub (tys' := [(cI, .int), (cZ, .boolean)]) [0, 2] rfl
  obtain ⟨hDG, hDM, hXX⟩ := hDs
  have hbA : ¬ lwA s b := Nat.not_le.mpr hbl
  obtain ⟨y1, e1, y2, e2, y3, e3⟩ := hi
  obtain ⟨shelf, np, ng, cur, tw, rn, rmany, image, rturn, rshelf, rgroups, inn, now, makers, makerMany, queue, hR, hG, hM⟩ := hI
  have hcc : cells + 0 ≤ 600000 := by omega
  have hss : slots + 0 ≤ 7302250 := by omega
  obtain ⟨v, f6, f7⟩ := call_orbit hF hR a1 a2
  refine lv_aload_n hx hb dL_law_637 rfl (lv_at hl 1 rfl) ?_
  refine lv_aload_n hx hb dL_law_638 rfl (lv_at hl 0 rfl) ?_
  refine lv_iload_n hx hb dL_law_639 rfl (lv_at hl 3 rfl) ?_
  refine lv_iconst (v := 1) hx hb dL_law_640 (by decide) ?_
  refine lv_iadd hx hb dL_law_641 ?_
  refine va_sld hx hb hX hbl hbA hS y1 dL_law_642 ?_
  refine tg_top e1.symm ?_
  refine lv_aload_n hx hb dL_law_643 rfl (lv_at hl 0 rfl) ?_
  refine lv_iload_n hx hb dL_law_644 rfl (lv_at hl 3 rfl) ?_
  refine lv_iconst (v := 2) hx hb dL_law_645 (by decide) ?_
  refine lv_iadd hx hb dL_law_646 ?_
  refine va_sld hx hb hX hbl hbA hS y2 dL_law_647 ?_
  refine tg_top e2.symm ?_
  refine tg_cRi (va_runV (As := [.int a1, .int a2]) (rest := []) ⟨hx, hb, hml, hown, hts⟩ (qX6_orbit l D cI cT ga ta shelf np ng cur tw a1 a2 F v f6) (cwV 2 hts gL_law_X6_orbit rfl rfl rfl zVX6_orbit ⟨Nat.le_of_ble_eq_true rfl, Nat.le_of_ble_eq_true rfl⟩) (tg_preV (r := (RX6, TX6, 6)) (ci := 5) (q0 := 0) hG hKG hN rfl rfl) rfl rfl hl.1 rfl (lv_room (Nat.le_of_ble_eq_true rfl)) dL_law_648 ⟨hcc, hss⟩) ?_
  refine lv_aload_n hx hb dL_law_651 rfl (lv_at hl 2 rfl) ?_
  refine lv_aload_n hx hb dL_law_652 rfl (lv_at hl 0 rfl) ?_
  refine lv_iload_n hx hb dL_law_653 rfl (lv_at hl 3 rfl) ?_
  refine lv_iconst (v := 1) hx hb dL_law_654 (by decide) ?_
  refine lv_iadd hx hb dL_law_655 ?_
  refine va_sld hx hb hX hbl hbA hS y1 dL_law_656 ?_
  refine tg_top e1.symm ?_
  refine lv_aload_n hx hb dL_law_657 rfl (lv_at hl 0 rfl) ?_
  refine lv_iload_n hx hb dL_law_658 rfl (lv_at hl 3 rfl) ?_
  refine lv_iconst (v := 2) hx hb dL_law_659 (by decide) ?_
  refine lv_iadd hx hb dL_law_660 ?_
  refine va_sld hx hb hX hbl hbA hS y2 dL_law_661 ?_
  refine tg_top e2.symm ?_
  refine tg_cRi (va_runV (As := [.int a1, .int a2]) (rest := [.int v]) ⟨hx, hb, hml, hown, hts⟩ (qX7_orbit l D cI cZ ad rn rmany image rturn rshelf rgroups inn now makers makerMany queue a1 a2 F v f7) (cwV 2 hts gL_law_X7_orbit rfl rfl rfl zVX7_orbit ⟨Nat.le_of_ble_eq_true rfl, Nat.le_of_ble_eq_true rfl⟩) (tg_preV (r := (RX7, TX7, 11)) (ci := 6) (q0 := 0) hM hKM hN rfl rfl) rfl rfl hl.1 rfl (lv_room (Nat.le_of_ble_eq_true rfl)) dL_law_662 ⟨hcc, hss⟩) ?_
  refine lv_icmp_eq (tgt := 891) hx hb dL_law_665 (by decide) (fun _ => ?_) (fun h9 => absurd rfl h9)
  refine W.widen (k := cells + 1) (n := slots + 2) (by omega) (by omega) ?_
  exact kk _ _ ⟨_, _, _, _, _, _, _, _, _, _, _, _, _, _, _, _, hR, hG, hM⟩ hS
set_option maxRecDepth 100000 in
set_option maxHeartbeats 4000000 in
theorem lwc_block {p : Program} {l : Launch} {e : Env} {s : State} {m : MethodId} {b : Nat} {below : List Frame} {meth : Method} {c : Code} {D : va_G} {zQ : State → Prop} {ga : Nat → Nat} {ta : Nat → Nat → Nat} {ad : Nat → Nat} {cI cT cZ : ClassId} {L : Nat} {xs : Nat → Int32} {F : Nat} (C0 : tg_C p s m meth c #[Value.ref b] cL_law RL wsL_law 4 D [(cI, .int), (cT, .object "TurnGroups$Tower"), (cZ, .boolean)]) (hX : va_X b L xs s s.heap) (hbl : b < s.heap.size) (hDs : lwD s ta ga ad) (hF : 50000 ≤ F) {i a1 a2 a3 : Int32} (hi : lwX i L xs a1 a2 a3) {cells slots : Nat} (hc1 : cells + 1 ≤ 600000) (hs1 : slots + 2 ≤ 7302250) {zH : Heap} {zlocs : List Loc} (hI : lwI D cI cT cZ ta ga ad zH) (hS : va_S (lwA s) s.heap zH zlocs) {zls : Array Slot} (hl : lv_has zls 4 [(0, .ref b), (1, .ref (ga 0)), (2, .ref (ad 0)), (3, .int i)]) (kk : ∀ (zH : Heap) (zlocs : List Loc), lwI D cI cT cZ ta ga ad zH → va_S (lwA s) s.heap zH zlocs → W p l e room_1 s m #[Value.ref b] below meth c zH zlocs (cells + 1) (slots + 2) zQ (F0 m 891 zls [])) : W p l e room_1 s m #[Value.ref b] below meth c zH zlocs cells slots zQ (F0 m 670 zls []) := by
  obtain ⟨hx, hb, hml, hown, hts, hK, hN⟩ := C0
  have hKG := hK.sub (tys' := [(cI, .int), (cT, .object "TurnGroups$Tower")]) [0, 1] rfl
  have hKM := hK.sub (tys' := [(cI, .int), (cZ, .boolean)]) [0, 2] rfl
  obtain ⟨hDG, hDM, hXX⟩ := hDs
  have hbA : ¬ lwA s b := Nat.not_le.mpr hbl
  obtain ⟨y1, e1, y2, e2, y3, e3⟩ := hi
  obtain ⟨shelf, np, ng, cur, tw, rn, rmany, image, rturn, rshelf, rgroups, inn, now, makers, makerMany, queue, hR, hG, hM⟩ := hI
  have hcc : cells + 0 ≤ 600000 := by omega
  have hss : slots + 0 ≤ 7302250 := by omega
  obtain ⟨v, f6, f7⟩ := call_block hF hR a1 a2 a3
  refine lv_aload_n hx hb dL_law_670 rfl (lv_at hl 1 rfl) ?_
  refine lv_aload_n hx hb dL_law_671 rfl (lv_at hl 0 rfl) ?_
  refine lv_iload_n hx hb dL_law_672 rfl (lv_at hl 3 rfl) ?_
  refine lv_iconst (v := 1) hx hb dL_law_673 (by decide) ?_
  refine lv_iadd hx hb dL_law_674 ?_
  refine va_sld hx hb hX hbl hbA hS y1 dL_law_675 ?_
  refine tg_top e1.symm ?_
  refine lv_aload_n hx hb dL_law_676 rfl (lv_at hl 0 rfl) ?_
  refine lv_iload_n hx hb dL_law_677 rfl (lv_at hl 3 rfl) ?_
  refine lv_iconst (v := 2) hx hb dL_law_678 (by decide) ?_
  refine lv_iadd hx hb dL_law_679 ?_
  refine va_sld hx hb hX hbl hbA hS y2 dL_law_680 ?_
  refine tg_top e2.symm ?_
  refine lv_aload_n hx hb dL_law_681 rfl (lv_at hl 0 rfl) ?_
  refine lv_iload_n hx hb dL_law_682 rfl (lv_at hl 3 rfl) ?_
  refine lv_iconst (v := 3) hx hb dL_law_683 (by decide) ?_
  refine lv_iadd hx hb dL_law_684 ?_
  refine va_sld hx hb hX hbl hbA hS y3 dL_law_685 ?_
  refine tg_top e3.symm ?_
  refine tg_cRi (va_runV (As := [.int a1, .int a2, .int a3]) (rest := []) ⟨hx, hb, hml, hown, hts⟩ (qX6_block l D cI cT ga ta shelf np ng cur tw a1 a2 a3 F v f6) (cwV 3 hts gL_law_X6_block rfl rfl rfl zVX6_block ⟨Nat.le_of_ble_eq_true rfl, Nat.le_of_ble_eq_true rfl⟩) (tg_preV (r := (RX6, TX6, 6)) (ci := 5) (q0 := 0) hG hKG hN rfl rfl) rfl rfl hl.1 rfl (lv_room (Nat.le_of_ble_eq_true rfl)) dL_law_686 ⟨hcc, hss⟩) ?_
  refine lv_aload_n hx hb dL_law_689 rfl (lv_at hl 2 rfl) ?_
  refine lv_aload_n hx hb dL_law_690 rfl (lv_at hl 0 rfl) ?_
  refine lv_iload_n hx hb dL_law_691 rfl (lv_at hl 3 rfl) ?_
  refine lv_iconst (v := 1) hx hb dL_law_692 (by decide) ?_
  refine lv_iadd hx hb dL_law_693 ?_
  refine va_sld hx hb hX hbl hbA hS y1 dL_law_694 ?_
  refine tg_top e1.symm ?_
  refine lv_aload_n hx hb dL_law_695 rfl (lv_at hl 0 rfl) ?_
  refine lv_iload_n hx hb dL_law_696 rfl (lv_at hl 3 rfl) ?_
  refine lv_iconst (v := 2) hx hb dL_law_697 (by decide) ?_
  refine lv_iadd hx hb dL_law_698 ?_
  refine va_sld hx hb hX hbl hbA hS y2 dL_law_699 ?_
  refine tg_top e2.symm ?_
  refine lv_aload_n hx hb dL_law_700 rfl (lv_at hl 0 rfl) ?_
  refine lv_iload_n hx hb dL_law_701 rfl (lv_at hl 3 rfl) ?_
  refine lv_iconst (v := 3) hx hb dL_law_702 (by decide) ?_
  refine lv_iadd hx hb dL_law_703 ?_
  refine va_sld hx hb hX hbl hbA hS y3 dL_law_704 ?_
  refine tg_top e3.symm ?_
  refine tg_cRi (va_runV (As := [.int a1, .int a2, .int a3]) (rest := [.int v]) ⟨hx, hb, hml, hown, hts⟩ (qX7_block l D cI cZ ad rn rmany image rturn rshelf rgroups inn now makers makerMany queue a1 a2 a3 F v f7) (cwV 3 hts gL_law_X7_block rfl rfl rfl zVX7_block ⟨Nat.le_of_ble_eq_true rfl, Nat.le_of_ble_eq_true rfl⟩) (tg_preV (r := (RX7, TX7, 11)) (ci := 6) (q0 := 0) hM hKM hN rfl rfl) rfl rfl hl.1 rfl (lv_room (Nat.le_of_ble_eq_true rfl)) dL_law_705 ⟨hcc, hss⟩) ?_
  refine lv_icmp_eq (tgt := 891) hx hb dL_law_708 (by decide) (fun _ => ?_) (fun h9 => absurd rfl h9)
  refine W.widen (k := cells + 1) (n := slots + 2) (by omega) (by omega) ?_
  exact kk _ _ ⟨_, _, _, _, _, _, _, _, _, _, _, _, _, _, _, _, hR, hG, hM⟩ hS
set_option maxRecDepth 100000 in
set_option maxHeartbeats 4000000 in
theorem lwc_steps {p : Program} {l : Launch} {e : Env} {s : State} {m : MethodId} {b : Nat} {below : List Frame} {meth : Method} {c : Code} {D : va_G} {zQ : State → Prop} {ga : Nat → Nat} {ta : Nat → Nat → Nat} {ad : Nat → Nat} {cI cT cZ : ClassId} {L : Nat} {xs : Nat → Int32} {F : Nat} (C0 : tg_C p s m meth c #[Value.ref b] cL_law RL wsL_law 4 D [(cI, .int), (cT, .object "TurnGroups$Tower"), (cZ, .boolean)]) (hX : va_X b L xs s s.heap) (hbl : b < s.heap.size) (hDs : lwD s ta ga ad) (hF : 50000 ≤ F) {i a1 a2 a3 : Int32} (hi : lwX i L xs a1 a2 a3) {cells slots : Nat} (hc1 : cells + 1 ≤ 600000) (hs1 : slots + 2 ≤ 7302250) {zH : Heap} {zlocs : List Loc} (hI : lwI D cI cT cZ ta ga ad zH) (hS : va_S (lwA s) s.heap zH zlocs) {zls : Array Slot} (hl : lv_has zls 4 [(0, .ref b), (1, .ref (ga 0)), (2, .ref (ad 0)), (3, .int i)]) (kk : ∀ (zH : Heap) (zlocs : List Loc), lwI D cI cT cZ ta ga ad zH → va_S (lwA s) s.heap zH zlocs → W p l e room_1 s m #[Value.ref b] below meth c zH zlocs (cells + 1) (slots + 2) zQ (F0 m 891 zls [])) : W p l e room_1 s m #[Value.ref b] below meth c zH zlocs cells slots zQ (F0 m 713 zls []) := by
  obtain ⟨hx, hb, hml, hown, hts, hK, hN⟩ := C0
  have hKG := hK.sub (tys' := [(cI, .int), (cT, .object "TurnGroups$Tower")]) [0, 1] rfl
  have hKM := hK.sub (tys' := [(cI, .int), (cZ, .boolean)]) [0, 2] rfl
  obtain ⟨hDG, hDM, hXX⟩ := hDs
  have hbA : ¬ lwA s b := Nat.not_le.mpr hbl
  obtain ⟨y1, e1, y2, e2, y3, e3⟩ := hi
  obtain ⟨shelf, np, ng, cur, tw, rn, rmany, image, rturn, rshelf, rgroups, inn, now, makers, makerMany, queue, hR, hG, hM⟩ := hI
  have hcc : cells + 0 ≤ 600000 := by omega
  have hss : slots + 0 ≤ 7302250 := by omega
  obtain ⟨v, tw1, ⟨j1, j2, j3, j4, j5⟩, f6, f7, hR⟩ := call_steps hF hR now makers makerMany queue a1
  refine lv_aload_n hx hb dL_law_713 rfl (lv_at hl 1 rfl) ?_
  refine lv_aload_n hx hb dL_law_714 rfl (lv_at hl 0 rfl) ?_
  refine lv_iload_n hx hb dL_law_715 rfl (lv_at hl 3 rfl) ?_
  refine lv_iconst (v := 1) hx hb dL_law_716 (by decide) ?_
  refine lv_iadd hx hb dL_law_717 ?_
  refine va_sld hx hb hX hbl hbA hS y1 dL_law_718 ?_
  refine tg_top e1.symm ?_
  refine tg_cMi (va_runV (As := [.int a1]) (rest := []) ⟨hx, hb, hml, hown, hts⟩ (qX6_steps l D cI cT ga ta shelf np ng cur tw a1 F v tw1 f6) (cwV 1 hts gL_law_X6_steps rfl rfl rfl zVX6_steps ⟨Nat.le_of_ble_eq_true rfl, Nat.le_of_ble_eq_true rfl⟩) (tg_preVM (r := (RX6, TX6, 6)) (ci := 5) (q0 := 0) hG (hDG _ wG_ad) hKG hN rfl rfl) rfl rfl hl.1 rfl (lv_room (Nat.le_of_ble_eq_true rfl)) dL_law_719 ⟨hcc, hss⟩) hS (tg_inA (hDG _ wG_ad)) (fun zH zlocs hf9 hG hS => ?_)
  have hM := tg_keep hM (lw_mg hXX) hf9
  refine lv_aload_n hx hb dL_law_722 rfl (lv_at hl 2 rfl) ?_
  refine lv_aload_n hx hb dL_law_723 rfl (lv_at hl 0 rfl) ?_
  refine lv_iload_n hx hb dL_law_724 rfl (lv_at hl 3 rfl) ?_
  refine lv_iconst (v := 1) hx hb dL_law_725 (by decide) ?_
  refine lv_iadd hx hb dL_law_726 ?_
  refine va_sld hx hb hX hbl hbA hS y1 dL_law_727 ?_
  refine tg_top e1.symm ?_
  refine tg_cMi (va_runV (As := [.int a1]) (rest := [.int v]) ⟨hx, hb, hml, hown, hts⟩ (qX7_steps l D cI cZ ad rn rmany image rturn rshelf rgroups inn now makers makerMany queue a1 F v j1 j2 j3 j4 j5 f7) (cwV 1 hts gL_law_X7_steps rfl rfl rfl zVX7_steps ⟨Nat.le_of_ble_eq_true rfl, Nat.le_of_ble_eq_true rfl⟩) (tg_preVM (r := (RX7, TX7, 11)) (ci := 6) (q0 := 0) hM (hDM _ rfl) hKM hN rfl rfl) rfl rfl hl.1 rfl (lv_room (Nat.le_of_ble_eq_true rfl)) dL_law_728 ⟨hcc, hss⟩) hS (tg_inA (hDM _ rfl)) (fun zH zlocs hf9 hM hS => ?_)
  have hG := tg_keep hG (lw_gm hXX) hf9
  refine lv_icmp_eq (tgt := 891) hx hb dL_law_731 (by decide) (fun _ => ?_) (fun h9 => absurd rfl h9)
  refine W.widen (k := cells + 1) (n := slots + 2) (by omega) (by omega) ?_
  exact kk _ _ ⟨_, _, _, _, _, _, _, _, _, _, _, _, _, _, _, _, hR, hG, hM⟩ hS
set_option maxRecDepth 100000 in
set_option maxHeartbeats 4000000 in
theorem lwc_still {p : Program} {l : Launch} {e : Env} {s : State} {m : MethodId} {b : Nat} {below : List Frame} {meth : Method} {c : Code} {D : va_G} {zQ : State → Prop} {ga : Nat → Nat} {ta : Nat → Nat → Nat} {ad : Nat → Nat} {cI cT cZ : ClassId} {L : Nat} {xs : Nat → Int32} {F : Nat} (C0 : tg_C p s m meth c #[Value.ref b] cL_law RL wsL_law 4 D [(cI, .int), (cT, .object "TurnGroups$Tower"), (cZ, .boolean)]) (hX : va_X b L xs s s.heap) (hbl : b < s.heap.size) (hDs : lwD s ta ga ad) (hF : 50000 ≤ F) {i a1 a2 a3 : Int32} (hi : lwX i L xs a1 a2 a3) {cells slots : Nat} (hc1 : cells + 1 ≤ 600000) (hs1 : slots + 2 ≤ 7302250) {zH : Heap} {zlocs : List Loc} (hI : lwI D cI cT cZ ta ga ad zH) (hS : va_S (lwA s) s.heap zH zlocs) {zls : Array Slot} (hl : lv_has zls 4 [(0, .ref b), (1, .ref (ga 0)), (2, .ref (ad 0)), (3, .int i)]) (kk : ∀ (zH : Heap) (zlocs : List Loc), lwI D cI cT cZ ta ga ad zH → va_S (lwA s) s.heap zH zlocs → W p l e room_1 s m #[Value.ref b] below meth c zH zlocs (cells + 1) (slots + 2) zQ (F0 m 891 zls [])) : W p l e room_1 s m #[Value.ref b] below meth c zH zlocs cells slots zQ (F0 m 736 zls []) := by
  obtain ⟨hx, hb, hml, hown, hts, hK, hN⟩ := C0
  have hKG := hK.sub (tys' := [(cI, .int), (cT, .object "TurnGroups$Tower")]) [0, 1] rfl
  have hKM := hK.sub (tys' := [(cI, .int), (cZ, .boolean)]) [0, 2] rfl
  obtain ⟨hDG, hDM, hXX⟩ := hDs
  have hbA : ¬ lwA s b := Nat.not_le.mpr hbl
  obtain ⟨y1, e1, y2, e2, y3, e3⟩ := hi
  obtain ⟨shelf, np, ng, cur, tw, rn, rmany, image, rturn, rshelf, rgroups, inn, now, makers, makerMany, queue, hR, hG, hM⟩ := hI
  have hcc : cells + 0 ≤ 600000 := by omega
  have hss : slots + 0 ≤ 7302250 := by omega
  obtain ⟨v, f6, f7⟩ := call_still hF hR a1 a2
  refine lv_aload_n hx hb dL_law_736 rfl (lv_at hl 1 rfl) ?_
  refine lv_aload_n hx hb dL_law_737 rfl (lv_at hl 0 rfl) ?_
  refine lv_iload_n hx hb dL_law_738 rfl (lv_at hl 3 rfl) ?_
  refine lv_iconst (v := 1) hx hb dL_law_739 (by decide) ?_
  refine lv_iadd hx hb dL_law_740 ?_
  refine va_sld hx hb hX hbl hbA hS y1 dL_law_741 ?_
  refine tg_top e1.symm ?_
  refine lv_aload_n hx hb dL_law_742 rfl (lv_at hl 0 rfl) ?_
  refine lv_iload_n hx hb dL_law_743 rfl (lv_at hl 3 rfl) ?_
  refine lv_iconst (v := 2) hx hb dL_law_744 (by decide) ?_
  refine lv_iadd hx hb dL_law_745 ?_
  refine va_sld hx hb hX hbl hbA hS y2 dL_law_746 ?_
  refine tg_top e2.symm ?_
  refine tg_cRi (va_runV (As := [.int a1, .int a2]) (rest := []) ⟨hx, hb, hml, hown, hts⟩ (qX6_still l D cI cT ga ta shelf np ng cur tw a1 a2 F v f6) (cwV 2 hts gL_law_X6_still rfl rfl rfl zVX6_still ⟨Nat.le_of_ble_eq_true rfl, Nat.le_of_ble_eq_true rfl⟩) (tg_preV (r := (RX6, TX6, 6)) (ci := 5) (q0 := 0) hG hKG hN rfl rfl) rfl rfl hl.1 rfl (lv_room (Nat.le_of_ble_eq_true rfl)) dL_law_747 ⟨hcc, hss⟩) ?_
  refine lv_aload_n hx hb dL_law_750 rfl (lv_at hl 2 rfl) ?_
  refine lv_aload_n hx hb dL_law_751 rfl (lv_at hl 0 rfl) ?_
  refine lv_iload_n hx hb dL_law_752 rfl (lv_at hl 3 rfl) ?_
  refine lv_iconst (v := 1) hx hb dL_law_753 (by decide) ?_
  refine lv_iadd hx hb dL_law_754 ?_
  refine va_sld hx hb hX hbl hbA hS y1 dL_law_755 ?_
  refine tg_top e1.symm ?_
  refine lv_aload_n hx hb dL_law_756 rfl (lv_at hl 0 rfl) ?_
  refine lv_iload_n hx hb dL_law_757 rfl (lv_at hl 3 rfl) ?_
  refine lv_iconst (v := 2) hx hb dL_law_758 (by decide) ?_
  refine lv_iadd hx hb dL_law_759 ?_
  refine va_sld hx hb hX hbl hbA hS y2 dL_law_760 ?_
  refine tg_top e2.symm ?_
  refine tg_cRi (va_runV (As := [.int a1, .int a2]) (rest := [.int v]) ⟨hx, hb, hml, hown, hts⟩ (qX7_still l D cI cZ ad rn rmany image rturn rshelf rgroups inn now makers makerMany queue a1 a2 F v f7) (cwV 2 hts gL_law_X7_still rfl rfl rfl zVX7_still ⟨Nat.le_of_ble_eq_true rfl, Nat.le_of_ble_eq_true rfl⟩) (tg_preV (r := (RX7, TX7, 11)) (ci := 6) (q0 := 0) hM hKM hN rfl rfl) rfl rfl hl.1 rfl (lv_room (Nat.le_of_ble_eq_true rfl)) dL_law_761 ⟨hcc, hss⟩) ?_
  refine lv_icmp_eq (tgt := 891) hx hb dL_law_764 (by decide) (fun _ => ?_) (fun h9 => absurd rfl h9)
  refine W.widen (k := cells + 1) (n := slots + 2) (by omega) (by omega) ?_
  exact kk _ _ ⟨_, _, _, _, _, _, _, _, _, _, _, _, _, _, _, _, hR, hG, hM⟩ hS
set_option maxRecDepth 100000 in
set_option maxHeartbeats 4000000 in
theorem lwc_element {p : Program} {l : Launch} {e : Env} {s : State} {m : MethodId} {b : Nat} {below : List Frame} {meth : Method} {c : Code} {D : va_G} {zQ : State → Prop} {ga : Nat → Nat} {ta : Nat → Nat → Nat} {ad : Nat → Nat} {cI cT cZ : ClassId} {L : Nat} {xs : Nat → Int32} {F : Nat} (C0 : tg_C p s m meth c #[Value.ref b] cL_law RL wsL_law 4 D [(cI, .int), (cT, .object "TurnGroups$Tower"), (cZ, .boolean)]) (hX : va_X b L xs s s.heap) (hbl : b < s.heap.size) (hDs : lwD s ta ga ad) (hF : 50000 ≤ F) {i a1 a2 a3 : Int32} (hi : lwX i L xs a1 a2 a3) {cells slots : Nat} (hc1 : cells + 1 ≤ 600000) (hs1 : slots + 2 ≤ 7302250) {zH : Heap} {zlocs : List Loc} (hI : lwI D cI cT cZ ta ga ad zH) (hS : va_S (lwA s) s.heap zH zlocs) {zls : Array Slot} (hl : lv_has zls 4 [(0, .ref b), (1, .ref (ga 0)), (2, .ref (ad 0)), (3, .int i)]) (kk : ∀ (zH : Heap) (zlocs : List Loc), lwI D cI cT cZ ta ga ad zH → va_S (lwA s) s.heap zH zlocs → W p l e room_1 s m #[Value.ref b] below meth c zH zlocs (cells + 1) (slots + 2) zQ (F0 m 891 zls [])) : W p l e room_1 s m #[Value.ref b] below meth c zH zlocs cells slots zQ (F0 m 769 zls []) := by
  obtain ⟨hx, hb, hml, hown, hts, hK, hN⟩ := C0
  have hKG := hK.sub (tys' := [(cI, .int), (cT, .object "TurnGroups$Tower")]) [0, 1] rfl
  have hKM := hK.sub (tys' := [(cI, .int), (cZ, .boolean)]) [0, 2] rfl
  obtain ⟨hDG, hDM, hXX⟩ := hDs
  have hbA : ¬ lwA s b := Nat.not_le.mpr hbl
  obtain ⟨y1, e1, y2, e2, y3, e3⟩ := hi
  obtain ⟨shelf, np, ng, cur, tw, rn, rmany, image, rturn, rshelf, rgroups, inn, now, makers, makerMany, queue, hR, hG, hM⟩ := hI
  have hcc : cells + 0 ≤ 600000 := by omega
  have hss : slots + 0 ≤ 7302250 := by omega
  obtain ⟨v, c1, t1, f6, f7, hR⟩ := call_element hF hR a1 a2
  refine lv_aload_n hx hb dL_law_769 rfl (lv_at hl 1 rfl) ?_
  refine lv_aload_n hx hb dL_law_770 rfl (lv_at hl 0 rfl) ?_
  refine lv_iload_n hx hb dL_law_771 rfl (lv_at hl 3 rfl) ?_
  refine lv_iconst (v := 1) hx hb dL_law_772 (by decide) ?_
  refine lv_iadd hx hb dL_law_773 ?_
  refine va_sld hx hb hX hbl hbA hS y1 dL_law_774 ?_
  refine tg_top e1.symm ?_
  refine lv_aload_n hx hb dL_law_775 rfl (lv_at hl 0 rfl) ?_
  refine lv_iload_n hx hb dL_law_776 rfl (lv_at hl 3 rfl) ?_
  refine lv_iconst (v := 2) hx hb dL_law_777 (by decide) ?_
  refine lv_iadd hx hb dL_law_778 ?_
  refine va_sld hx hb hX hbl hbA hS y2 dL_law_779 ?_
  refine tg_top e2.symm ?_
  refine tg_cMi (va_runV (As := [.int a1, .int a2]) (rest := []) ⟨hx, hb, hml, hown, hts⟩ (qX6_element l D cI cT ga ta shelf np ng cur tw a1 a2 F v c1 f6) (cwV 2 hts gL_law_X6_element rfl rfl rfl zVX6_element ⟨Nat.le_of_ble_eq_true rfl, Nat.le_of_ble_eq_true rfl⟩) (tg_preVM (r := (RX6, TX6, 6)) (ci := 5) (q0 := 0) hG (hDG _ wG_ad) hKG hN rfl rfl) rfl rfl hl.1 rfl (lv_room (Nat.le_of_ble_eq_true rfl)) dL_law_780 ⟨hcc, hss⟩) hS (tg_inA (hDG _ wG_ad)) (fun zH zlocs hf9 hG hS => ?_)
  have hM := tg_keep hM (lw_mg hXX) hf9
  refine lv_aload_n hx hb dL_law_783 rfl (lv_at hl 2 rfl) ?_
  refine lv_aload_n hx hb dL_law_784 rfl (lv_at hl 0 rfl) ?_
  refine lv_iload_n hx hb dL_law_785 rfl (lv_at hl 3 rfl) ?_
  refine lv_iconst (v := 1) hx hb dL_law_786 (by decide) ?_
  refine lv_iadd hx hb dL_law_787 ?_
  refine va_sld hx hb hX hbl hbA hS y1 dL_law_788 ?_
  refine tg_top e1.symm ?_
  refine lv_aload_n hx hb dL_law_789 rfl (lv_at hl 0 rfl) ?_
  refine lv_iload_n hx hb dL_law_790 rfl (lv_at hl 3 rfl) ?_
  refine lv_iconst (v := 2) hx hb dL_law_791 (by decide) ?_
  refine lv_iadd hx hb dL_law_792 ?_
  refine va_sld hx hb hX hbl hbA hS y2 dL_law_793 ?_
  refine tg_top e2.symm ?_
  refine tg_cMi (va_runV (As := [.int a1, .int a2]) (rest := [.int v]) ⟨hx, hb, hml, hown, hts⟩ (qX7_element l D cI cZ ad rn rmany image rturn rshelf rgroups inn now makers makerMany queue a1 a2 F v t1 f7) (cwV 2 hts gL_law_X7_element rfl rfl rfl zVX7_element ⟨Nat.le_of_ble_eq_true rfl, Nat.le_of_ble_eq_true rfl⟩) (tg_preVM (r := (RX7, TX7, 11)) (ci := 6) (q0 := 0) hM (hDM _ rfl) hKM hN rfl rfl) rfl rfl hl.1 rfl (lv_room (Nat.le_of_ble_eq_true rfl)) dL_law_794 ⟨hcc, hss⟩) hS (tg_inA (hDM _ rfl)) (fun zH zlocs hf9 hM hS => ?_)
  have hG := tg_keep hG (lw_gm hXX) hf9
  refine lv_icmp_eq (tgt := 891) hx hb dL_law_797 (by decide) (fun _ => ?_) (fun h9 => absurd rfl h9)
  refine W.widen (k := cells + 1) (n := slots + 2) (by omega) (by omega) ?_
  exact kk _ _ ⟨_, _, _, _, _, _, _, _, _, _, _, _, _, _, _, _, hR, hG, hM⟩ hS
set_option maxRecDepth 100000 in
set_option maxHeartbeats 4000000 in
theorem lwc_place {p : Program} {l : Launch} {e : Env} {s : State} {m : MethodId} {b : Nat} {below : List Frame} {meth : Method} {c : Code} {D : va_G} {zQ : State → Prop} {ga : Nat → Nat} {ta : Nat → Nat → Nat} {ad : Nat → Nat} {cI cT cZ : ClassId} {L : Nat} {xs : Nat → Int32} {F : Nat} (C0 : tg_C p s m meth c #[Value.ref b] cL_law RL wsL_law 4 D [(cI, .int), (cT, .object "TurnGroups$Tower"), (cZ, .boolean)]) (hX : va_X b L xs s s.heap) (hbl : b < s.heap.size) (hDs : lwD s ta ga ad) (hF : 50000 ≤ F) {i a1 a2 a3 : Int32} (hi : lwX i L xs a1 a2 a3) {cells slots : Nat} (hc1 : cells + 1 ≤ 600000) (hs1 : slots + 2 ≤ 7302250) {zH : Heap} {zlocs : List Loc} (hI : lwI D cI cT cZ ta ga ad zH) (hS : va_S (lwA s) s.heap zH zlocs) {zls : Array Slot} (hl : lv_has zls 4 [(0, .ref b), (1, .ref (ga 0)), (2, .ref (ad 0)), (3, .int i)]) (kk : ∀ (zH : Heap) (zlocs : List Loc), lwI D cI cT cZ ta ga ad zH → va_S (lwA s) s.heap zH zlocs → W p l e room_1 s m #[Value.ref b] below meth c zH zlocs (cells + 1) (slots + 2) zQ (F0 m 891 zls [])) : W p l e room_1 s m #[Value.ref b] below meth c zH zlocs cells slots zQ (F0 m 802 zls []) := by
  obtain ⟨hx, hb, hml, hown, hts, hK, hN⟩ := C0
  have hKG := hK.sub (tys' := [(cI, .int), (cT, .object "TurnGroups$Tower")]) [0, 1] rfl
  have hKM := hK.sub (tys' := [(cI, .int), (cZ, .boolean)]) [0, 2] rfl
  obtain ⟨hDG, hDM, hXX⟩ := hDs
  have hbA : ¬ lwA s b := Nat.not_le.mpr hbl
  obtain ⟨y1, e1, y2, e2, y3, e3⟩ := hi
  obtain ⟨shelf, np, ng, cur, tw, rn, rmany, image, rturn, rshelf, rgroups, inn, now, makers, makerMany, queue, hR, hG, hM⟩ := hI
  have hcc : cells + 0 ≤ 600000 := by omega
  have hss : slots + 0 ≤ 7302250 := by omega
  obtain ⟨v, f6, f7⟩ := call_place hF hR a1
  refine lv_aload_n hx hb dL_law_802 rfl (lv_at hl 1 rfl) ?_
  refine lv_aload_n hx hb dL_law_803 rfl (lv_at hl 0 rfl) ?_
  refine lv_iload_n hx hb dL_law_804 rfl (lv_at hl 3 rfl) ?_
  refine lv_iconst (v := 1) hx hb dL_law_805 (by decide) ?_
  refine lv_iadd hx hb dL_law_806 ?_
  refine va_sld hx hb hX hbl hbA hS y1 dL_law_807 ?_
  refine tg_top e1.symm ?_
  refine tg_cRi (va_runV (As := [.int a1]) (rest := []) ⟨hx, hb, hml, hown, hts⟩ (qX6_place l D cI cT ga ta shelf np ng cur tw a1 F v f6) (cwV 1 hts gL_law_X6_place rfl rfl rfl zVX6_place ⟨Nat.le_of_ble_eq_true rfl, Nat.le_of_ble_eq_true rfl⟩) (tg_preV (r := (RX6, TX6, 6)) (ci := 5) (q0 := 0) hG hKG hN rfl rfl) rfl rfl hl.1 rfl (lv_room (Nat.le_of_ble_eq_true rfl)) dL_law_808 ⟨hcc, hss⟩) ?_
  refine lv_aload_n hx hb dL_law_811 rfl (lv_at hl 2 rfl) ?_
  refine lv_aload_n hx hb dL_law_812 rfl (lv_at hl 0 rfl) ?_
  refine lv_iload_n hx hb dL_law_813 rfl (lv_at hl 3 rfl) ?_
  refine lv_iconst (v := 1) hx hb dL_law_814 (by decide) ?_
  refine lv_iadd hx hb dL_law_815 ?_
  refine va_sld hx hb hX hbl hbA hS y1 dL_law_816 ?_
  refine tg_top e1.symm ?_
  refine tg_cRi (va_runV (As := [.int a1]) (rest := [.int v]) ⟨hx, hb, hml, hown, hts⟩ (qX7_place l D cI cZ ad rn rmany image rturn rshelf rgroups inn now makers makerMany queue a1 F v f7) (cwV 1 hts gL_law_X7_place rfl rfl rfl zVX7_place ⟨Nat.le_of_ble_eq_true rfl, Nat.le_of_ble_eq_true rfl⟩) (tg_preV (r := (RX7, TX7, 11)) (ci := 6) (q0 := 0) hM hKM hN rfl rfl) rfl rfl hl.1 rfl (lv_room (Nat.le_of_ble_eq_true rfl)) dL_law_817 ⟨hcc, hss⟩) ?_
  refine lv_icmp_eq (tgt := 891) hx hb dL_law_820 (by decide) (fun _ => ?_) (fun h9 => absurd rfl h9)
  refine W.widen (k := cells + 1) (n := slots + 2) (by omega) (by omega) ?_
  exact kk _ _ ⟨_, _, _, _, _, _, _, _, _, _, _, _, _, _, _, _, hR, hG, hM⟩ hS
set_option maxRecDepth 100000 in
set_option maxHeartbeats 4000000 in
theorem lwc_carry {p : Program} {l : Launch} {e : Env} {s : State} {m : MethodId} {b : Nat} {below : List Frame} {meth : Method} {c : Code} {D : va_G} {zQ : State → Prop} {ga : Nat → Nat} {ta : Nat → Nat → Nat} {ad : Nat → Nat} {cI cT cZ : ClassId} {L : Nat} {xs : Nat → Int32} {F : Nat} (C0 : tg_C p s m meth c #[Value.ref b] cL_law RL wsL_law 4 D [(cI, .int), (cT, .object "TurnGroups$Tower"), (cZ, .boolean)]) (hX : va_X b L xs s s.heap) (hbl : b < s.heap.size) (hDs : lwD s ta ga ad) (hF : 50000 ≤ F) {i a1 a2 a3 : Int32} (hi : lwX i L xs a1 a2 a3) {cells slots : Nat} (hc1 : cells + 1 ≤ 600000) (hs1 : slots + 2 ≤ 7302250) {zH : Heap} {zlocs : List Loc} (hI : lwI D cI cT cZ ta ga ad zH) (hS : va_S (lwA s) s.heap zH zlocs) {zls : Array Slot} (hl : lv_has zls 4 [(0, .ref b), (1, .ref (ga 0)), (2, .ref (ad 0)), (3, .int i)]) (kk : ∀ (zH : Heap) (zlocs : List Loc), lwI D cI cT cZ ta ga ad zH → va_S (lwA s) s.heap zH zlocs → W p l e room_1 s m #[Value.ref b] below meth c zH zlocs (cells + 1) (slots + 2) zQ (F0 m 891 zls [])) : W p l e room_1 s m #[Value.ref b] below meth c zH zlocs cells slots zQ (F0 m 825 zls []) := by
  obtain ⟨hx, hb, hml, hown, hts, hK, hN⟩ := C0
  have hKG := hK.sub (tys' := [(cI, .int), (cT, .object "TurnGroups$Tower")]) [0, 1] rfl
  have hKM := hK.sub (tys' := [(cI, .int), (cZ, .boolean)]) [0, 2] rfl
  obtain ⟨hDG, hDM, hXX⟩ := hDs
  have hbA : ¬ lwA s b := Nat.not_le.mpr hbl
  obtain ⟨y1, e1, y2, e2, y3, e3⟩ := hi
  obtain ⟨shelf, np, ng, cur, tw, rn, rmany, image, rturn, rshelf, rgroups, inn, now, makers, makerMany, queue, hR, hG, hM⟩ := hI
  have hcc : cells + 0 ≤ 600000 := by omega
  have hss : slots + 0 ≤ 7302250 := by omega
  obtain ⟨v, c1, t1, f6, f7, hR⟩ := call_carry hF hR a1 a2 a3
  refine lv_aload_n hx hb dL_law_825 rfl (lv_at hl 1 rfl) ?_
  refine lv_aload_n hx hb dL_law_826 rfl (lv_at hl 0 rfl) ?_
  refine lv_iload_n hx hb dL_law_827 rfl (lv_at hl 3 rfl) ?_
  refine lv_iconst (v := 1) hx hb dL_law_828 (by decide) ?_
  refine lv_iadd hx hb dL_law_829 ?_
  refine va_sld hx hb hX hbl hbA hS y1 dL_law_830 ?_
  refine tg_top e1.symm ?_
  refine lv_aload_n hx hb dL_law_831 rfl (lv_at hl 0 rfl) ?_
  refine lv_iload_n hx hb dL_law_832 rfl (lv_at hl 3 rfl) ?_
  refine lv_iconst (v := 2) hx hb dL_law_833 (by decide) ?_
  refine lv_iadd hx hb dL_law_834 ?_
  refine va_sld hx hb hX hbl hbA hS y2 dL_law_835 ?_
  refine tg_top e2.symm ?_
  refine lv_aload_n hx hb dL_law_836 rfl (lv_at hl 0 rfl) ?_
  refine lv_iload_n hx hb dL_law_837 rfl (lv_at hl 3 rfl) ?_
  refine lv_iconst (v := 3) hx hb dL_law_838 (by decide) ?_
  refine lv_iadd hx hb dL_law_839 ?_
  refine va_sld hx hb hX hbl hbA hS y3 dL_law_840 ?_
  refine tg_top e3.symm ?_
  refine tg_cNi (va_runV (As := [.int a1, .int a2, .int a3]) (rest := []) ⟨hx, hb, hml, hown, hts⟩ (qX6_carry l D cI cT ga ta shelf np ng cur tw a1 a2 a3 F v c1 zH.size f6) (cwV 3 hts gL_law_X6_carry rfl rfl rfl zVX6_carry ⟨Nat.le_of_ble_eq_true rfl, Nat.le_of_ble_eq_true rfl⟩) (tg_preVN (r := (RX6, TX6, 6)) (ci := 5) (q0 := 0) hG (hDG _ wG_ad) hKG hN rfl rfl) rfl rfl hl.1 rfl (lv_room (Nat.le_of_ble_eq_true rfl)) dL_law_841 ⟨hc1, hs1⟩) hS (lw_newA (hDG _ wG_ad) hS) (fun zH zlocs hf9 hG hS => ?_)
  have hM := lw_keepN hM (lw_mg hXX) hf9
  refine lv_aload_n hx hb dL_law_844 rfl (lv_at hl 2 rfl) ?_
  refine lv_aload_n hx hb dL_law_845 rfl (lv_at hl 0 rfl) ?_
  refine lv_iload_n hx hb dL_law_846 rfl (lv_at hl 3 rfl) ?_
  refine lv_iconst (v := 1) hx hb dL_law_847 (by decide) ?_
  refine lv_iadd hx hb dL_law_848 ?_
  refine va_sld hx hb hX hbl hbA hS y1 dL_law_849 ?_
  refine tg_top e1.symm ?_
  refine lv_aload_n hx hb dL_law_850 rfl (lv_at hl 0 rfl) ?_
  refine lv_iload_n hx hb dL_law_851 rfl (lv_at hl 3 rfl) ?_
  refine lv_iconst (v := 2) hx hb dL_law_852 (by decide) ?_
  refine lv_iadd hx hb dL_law_853 ?_
  refine va_sld hx hb hX hbl hbA hS y2 dL_law_854 ?_
  refine tg_top e2.symm ?_
  refine lv_aload_n hx hb dL_law_855 rfl (lv_at hl 0 rfl) ?_
  refine lv_iload_n hx hb dL_law_856 rfl (lv_at hl 3 rfl) ?_
  refine lv_iconst (v := 3) hx hb dL_law_857 (by decide) ?_
  refine lv_iadd hx hb dL_law_858 ?_
  refine va_sld hx hb hX hbl hbA hS y3 dL_law_859 ?_
  refine tg_top e3.symm ?_
  refine tg_cMi (va_runV (As := [.int a1, .int a2, .int a3]) (rest := [.int v]) ⟨hx, hb, hml, hown, hts⟩ (qX7_carry l D cI cZ ad rn rmany image rturn rshelf rgroups inn now makers makerMany queue a1 a2 a3 F v t1 f7) (cwV 3 hts gL_law_X7_carry rfl rfl rfl zVX7_carry ⟨Nat.le_of_ble_eq_true rfl, Nat.le_of_ble_eq_true rfl⟩) (tg_preVM (r := (RX7, TX7, 11)) (ci := 6) (q0 := 0) hM (hDM _ rfl) hKM hN rfl rfl) rfl rfl hl.1 rfl (lv_room (Nat.le_of_ble_eq_true rfl)) dL_law_860 ⟨hc1, hs1⟩) hS (tg_inA (hDM _ rfl)) (fun zH zlocs hf9 hM hS => ?_)
  have hG := tg_keep hG (lw_gm hXX) hf9
  refine lv_icmp_eq (tgt := 891) hx hb dL_law_863 (by decide) (fun _ => ?_) (fun h9 => absurd rfl h9)
  refine W.widen (k := cells + 1) (n := slots + 2) (by omega) (by omega) ?_
  exact kk _ _ ⟨_, _, _, _, _, _, _, _, _, _, _, _, _, _, _, _, hR, hG, hM⟩ hS
set_option maxRecDepth 100000 in
set_option maxHeartbeats 4000000 in
theorem lwc_count {p : Program} {l : Launch} {e : Env} {s : State} {m : MethodId} {b : Nat} {below : List Frame} {meth : Method} {c : Code} {D : va_G} {zQ : State → Prop} {ga : Nat → Nat} {ta : Nat → Nat → Nat} {ad : Nat → Nat} {cI cT cZ : ClassId} {L : Nat} {xs : Nat → Int32} {F : Nat} (C0 : tg_C p s m meth c #[Value.ref b] cL_law RL wsL_law 4 D [(cI, .int), (cT, .object "TurnGroups$Tower"), (cZ, .boolean)]) (hX : va_X b L xs s s.heap) (hbl : b < s.heap.size) (hDs : lwD s ta ga ad) (hF : 50000 ≤ F) {i a1 a2 a3 : Int32} (hi : lwX i L xs a1 a2 a3) {cells slots : Nat} (hc1 : cells + 1 ≤ 600000) (hs1 : slots + 2 ≤ 7302250) {zH : Heap} {zlocs : List Loc} (hI : lwI D cI cT cZ ta ga ad zH) (hS : va_S (lwA s) s.heap zH zlocs) {zls : Array Slot} (hl : lv_has zls 4 [(0, .ref b), (1, .ref (ga 0)), (2, .ref (ad 0)), (3, .int i)]) (kk : ∀ (zH : Heap) (zlocs : List Loc), lwI D cI cT cZ ta ga ad zH → va_S (lwA s) s.heap zH zlocs → W p l e room_1 s m #[Value.ref b] below meth c zH zlocs (cells + 1) (slots + 2) zQ (F0 m 891 zls [])) : W p l e room_1 s m #[Value.ref b] below meth c zH zlocs cells slots zQ (F0 m 868 zls []) := by
  obtain ⟨hx, hb, hml, hown, hts, hK, hN⟩ := C0
  have hKG := hK.sub (tys' := [(cI, .int), (cT, .object "TurnGroups$Tower")]) [0, 1] rfl
  have hKM := hK.sub (tys' := [(cI, .int), (cZ, .boolean)]) [0, 2] rfl
  obtain ⟨hDG, hDM, hXX⟩ := hDs
  have hbA : ¬ lwA s b := Nat.not_le.mpr hbl
  obtain ⟨y1, e1, y2, e2, y3, e3⟩ := hi
  obtain ⟨shelf, np, ng, cur, tw, rn, rmany, image, rturn, rshelf, rgroups, inn, now, makers, makerMany, queue, hR, hG, hM⟩ := hI
  have hcc : cells + 0 ≤ 600000 := by omega
  have hss : slots + 0 ≤ 7302250 := by omega
  obtain ⟨v, f6, f7⟩ := call_count hF hR a1
  refine lv_aload_n hx hb dL_law_868 rfl (lv_at hl 1 rfl) ?_
  refine lv_aload_n hx hb dL_law_869 rfl (lv_at hl 0 rfl) ?_
  refine lv_iload_n hx hb dL_law_870 rfl (lv_at hl 3 rfl) ?_
  refine lv_iconst (v := 1) hx hb dL_law_871 (by decide) ?_
  refine lv_iadd hx hb dL_law_872 ?_
  refine va_sld hx hb hX hbl hbA hS y1 dL_law_873 ?_
  refine tg_top e1.symm ?_
  refine tg_cRi (va_runV (As := [.int a1]) (rest := []) ⟨hx, hb, hml, hown, hts⟩ (qX6_count l D cI cT ga ta shelf np ng cur tw a1 F v f6) (cwV 1 hts gL_law_X6_count rfl rfl rfl zVX6_count ⟨Nat.le_of_ble_eq_true rfl, Nat.le_of_ble_eq_true rfl⟩) (tg_preV (r := (RX6, TX6, 6)) (ci := 5) (q0 := 0) hG hKG hN rfl rfl) rfl rfl hl.1 rfl (lv_room (Nat.le_of_ble_eq_true rfl)) dL_law_874 ⟨hcc, hss⟩) ?_
  refine lv_aload_n hx hb dL_law_877 rfl (lv_at hl 2 rfl) ?_
  refine lv_aload_n hx hb dL_law_878 rfl (lv_at hl 0 rfl) ?_
  refine lv_iload_n hx hb dL_law_879 rfl (lv_at hl 3 rfl) ?_
  refine lv_iconst (v := 1) hx hb dL_law_880 (by decide) ?_
  refine lv_iadd hx hb dL_law_881 ?_
  refine va_sld hx hb hX hbl hbA hS y1 dL_law_882 ?_
  refine tg_top e1.symm ?_
  refine tg_cRi (va_runV (As := [.int a1]) (rest := [.int v]) ⟨hx, hb, hml, hown, hts⟩ (qX7_count l D cI cZ ad rn rmany image rturn rshelf rgroups inn now makers makerMany queue a1 F v f7) (cwV 1 hts gL_law_X7_count rfl rfl rfl zVX7_count ⟨Nat.le_of_ble_eq_true rfl, Nat.le_of_ble_eq_true rfl⟩) (tg_preV (r := (RX7, TX7, 11)) (ci := 6) (q0 := 0) hM hKM hN rfl rfl) rfl rfl hl.1 rfl (lv_room (Nat.le_of_ble_eq_true rfl)) dL_law_883 ⟨hcc, hss⟩) ?_
  refine lv_icmp_eq (tgt := 891) hx hb dL_law_886 (by decide) (fun _ => ?_) (fun h9 => absurd rfl h9)
  refine W.widen (k := cells + 1) (n := slots + 2) (by omega) (by omega) ?_
  exact kk _ _ ⟨_, _, _, _, _, _, _, _, _, _, _, _, _, _, _, _, hR, hG, hM⟩ hS
