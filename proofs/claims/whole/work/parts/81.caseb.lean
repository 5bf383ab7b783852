set_option maxRecDepth 100000 in
set_option maxHeartbeats 4000000 in
theorem lwc_group {p : Program} {l : Launch} {e : Env} {s : State} {m : MethodId} {b : Nat} {below : List Frame} {meth : Method} {c : Code} {D : va_G} {zQ : State → Prop} {ga : Nat → Nat} {ta : Nat → Nat → Nat} {ad : Nat → Nat} {cI cT cZ : ClassId} {L : Nat} {xs : Nat → Int32} {F : Nat} (C0 : tg_C p s m meth c #[Value.ref b] cL_law RL wsL_law 4 D [(cI, .int), (cT, .object "TurnGroups$Tower"), (cZ, .boolean)]) (hX : va_X b L xs s s.heap) (hbl : b < s.heap.size) (hDs : lwD s ta ga ad) (hF : 50000 ≤ F) {i a1 a2 a3 : Int32} (hi : lwX i L xs a1 a2 a3) {cells slots : Nat} (hc1 : cells + 1 ≤ 600000) (hs1 : slots + 2 ≤ 7302250) {zH : Heap} {zlocs : List Loc} (hI : lwI D cI cT cZ ta ga ad zH) (hS : va_S (lwA s) s.heap zH zlocs) {zls : Array Slot} (hl : lv_has zls 4 [(0, .ref b), (1, .ref (ga 0)), (2, .ref (ad 0)), (3, .int i)]) (kk : ∀ (zH : Heap) (zlocs : List Loc), lwI D cI cT cZ ta ga ad zH → va_S (lwA s) s.heap zH zlocs → W p l e room_1 s m #[Value.ref b] below meth c zH zlocs (cells + 1) (slots + 2) zQ (F0 m 891 zls [])) : W p l e room_1 s m #[Value.ref b] below meth c zH zlocs cells slots zQ (F0 m 370 zls []) := by
  obtain ⟨hx, hb, hml, hown, hts, hK, hN⟩ := C0
  have hKG := hK.sub (tys' := [(cI, .int), (cT, .object "TurnGroups$Tower")]) [0, 1] rfl
  have hKM := hK.sub (tys' := [(cI, .int), (cZ, .boolean)]) [0, 2] rfl
  obtain ⟨hDG, hDM, hXX⟩ := hDs
  have hbA : ¬ lwA s b := Nat.not_le.mpr hbl
  obtain ⟨y1, e1, y2, e2, y3, e3⟩ := hi
  obtain ⟨shelf, np, ng, cur, tw, rn, rmany, image, rturn, rshelf, rgroups, inn, now, makers, makerMany, queue, hR, hG, hM⟩ := hI
  have hcc : cells + 0 ≤ 600000 := by omega
  have hss : slots + 0 ≤ 7302250 := by omega
  obtain ⟨v, g1, tw1, g2, i2, f6, f7, hR⟩ := call_group hF hR a1
  refine lv_aload_n hx hb dL_law_370 rfl (lv_at hl 1 rfl) ?_
  refine lv_aload_n hx hb dL_law_371 rfl (lv_at hl 0 rfl) ?_
  refine lv_iload_n hx hb dL_law_372 rfl (lv_at hl 3 rfl) ?_
  refine lv_iconst (v := 1) hx hb dL_law_373 (by decide) ?_
  refine lv_iadd hx hb dL_law_374 ?_
  refine va_sld hx hb hX hbl hbA hS y1 dL_law_375 ?_
  refine tg_top e1.symm ?_
  refine tg_cMi (va_runV (As := [.int a1]) (rest := []) ⟨hx, hb, hml, hown, hts⟩ (qX6_group l D cI cT ga ta shelf np ng cur tw a1 F v g1 tw1 f6) (cwV 1 hts gL_law_X6_group rfl rfl rfl zVX6_group ⟨Nat.le_of_ble_eq_true rfl, Nat.le_of_ble_eq_true rfl⟩) (tg_preVM (r := (RX6, TX6, 6)) (ci := 5) (q0 := 0) hG (hDG _ wG_ad) hKG hN rfl rfl) rfl rfl hl.1 rfl (lv_room (Nat.le_of_ble_eq_true rfl)) dL_law_376 ⟨hcc, hss⟩) hS (tg_inA (hDG _ wG_ad)) (fun zH zlocs hf9 hG hS => ?_)
  have hM := tg_keep hM (lw_mg hXX) hf9
  refine lv_aload_n hx hb dL_law_379 rfl (lv_at hl 2 rfl) ?_
  refine lv_aload_n hx hb dL_law_380 rfl (lv_at hl 0 rfl) ?_
  refine lv_iload_n hx hb dL_law_381 rfl (lv_at hl 3 rfl) ?_
  refine lv_iconst (v := 1) hx hb dL_law_382 (by decide) ?_
  refine lv_iadd hx hb dL_law_383 ?_
  refine va_sld hx hb hX hbl hbA hS y1 dL_law_384 ?_
  refine tg_top e1.symm ?_
  refine tg_cMi (va_runV (As := [.int a1]) (rest := [.int v]) ⟨hx, hb, hml, hown, hts⟩ (qX7_group l D cI cZ ad rn rmany image rturn rshelf rgroups inn now makers makerMany queue a1 F v g2 i2 f7) (cwV 1 hts gL_law_X7_group rfl rfl rfl zVX7_group ⟨Nat.le_of_ble_eq_true rfl, Nat.le_of_ble_eq_true rfl⟩) (tg_preVM (r := (RX7, TX7, 11)) (ci := 6) (q0 := 0) hM (hDM _ rfl) hKM hN rfl rfl) rfl rfl hl.1 rfl (lv_room (Nat.le_of_ble_eq_true rfl)) dL_law_385 ⟨hcc, hss⟩) hS (tg_inA (hDM _ rfl)) (fun zH zlocs hf9 hM hS => ?_)
  have hG := tg_keep hG (lw_gm hXX) hf9
  refine lv_icmp_eq (tgt := 891) hx hb dL_law_388 (by decide) (fun _ => ?_) (fun h9 => absurd rfl h9)
  refine W.widen (k := cells + 1) (n := slots + 2) (by omega) (by omega) ?_
  exact kk _ _ ⟨_, _, _, _, _, _, _, _, _, _, _, _, _, _, _, _, hR, hG, hM⟩ hS
set_option maxRecDepth 100000 in
set_option maxHeartbeats 4000000 in
theorem lwc_add {p : Program} {l : Launch} {e : Env} {s : State} {m : MethodId} {b : Nat} {below : List Frame} {meth : Method} {c : Code} {D : va_G} {zQ : State → Prop} {ga : Nat → Nat} {ta : Nat → Nat → Nat} {ad : Nat → Nat} {cI cT cZ : ClassId} {L : Nat} {xs : Nat → Int32} {F : Nat} (C0 : tg_C p s m meth c #[Value.ref b] cL_law RL wsL_law 4 D [(cI, .int), (cT, .object "TurnGroups$Tower"), (cZ, .boolean)]) (hX : va_X b L xs s s.heap) (hbl : b < s.heap.size) (hDs : lwD s ta ga ad) (hF : 50000 ≤ F) {i a1 a2 a3 : Int32} (hi : lwX i L xs a1 a2 a3) {cells slots : Nat} (hc1 : cells + 1 ≤ 600000) (hs1 : slots + 2 ≤ 7302250) {zH : Heap} {zlocs : List Loc} (hI : lwI D cI cT cZ ta ga ad zH) (hS : va_S (lwA s) s.heap zH zlocs) {zls : Array Slot} (hl : lv_has zls 4 [(0, .ref b), (1, .ref (ga 0)), (2, .ref (ad 0)), (3, .int i)]) (kk : ∀ (zH : Heap) (zlocs : List Loc), lwI D cI cT cZ ta ga ad zH → va_S (lwA s) s.heap zH zlocs → W p l e room_1 s m #[Value.ref b] below meth c zH zlocs (cells + 1) (slots + 2) zQ (F0 m 891 zls [])) : W p l e room_1 s m #[Value.ref b] below meth c zH zlocs cells slots zQ (F0 m 393 zls []) := by
  obtain ⟨hx, hb, hml, hown, hts, hK, hN⟩ := C0
  have hKG := hK.sub (tys' := [(cI, .int), (cT, .object "TurnGroups$Tower")]) [0, 1] rfl
  have hKM := hK.sub (tys' := [(cI, .int), (cZ, .boolean)]) [0, 2] rfl
  obtain ⟨hDG, hDM, hXX⟩ := hDs
  have hbA : ¬ lwA s b := Nat.not_le.mpr hbl
  obtain ⟨y1, e1, y2, e2, y3, e3⟩ := hi
  obtain ⟨shelf, np, ng, cur, tw, rn, rmany, image, rturn, rshelf, rgroups, inn, now, makers, makerMany, queue, hR, hG, hM⟩ := hI
  have hcc : cells + 0 ≤ 600000 := by omega
  have hss : slots + 0 ≤ 7302250 := by omega
  obtain ⟨v, tw1, ⟨j1, j2, j3, j4, j5⟩, f6, f7, hR⟩ := call_add hF hR now makers makerMany queue a1
  refine lv_aload_n hx hb dL_law_393 rfl (lv_at hl 1 rfl) ?_
  refine lv_aload_n hx hb dL_law_394 rfl (lv_at hl 0 rfl) ?_
  refine lv_iload_n hx hb dL_law_395 rfl (lv_at hl 3 rfl) ?_
  refine lv_iconst (v := 1) hx hb dL_law_396 (by decide) ?_
  refine lv_iadd hx hb dL_law_397 ?_
  refine va_sld hx hb hX hbl hbA hS y1 dL_law_398 ?_
  refine tg_top e1.symm ?_
  refine tg_cMi (va_runV (As := [.int a1]) (rest := []) ⟨hx, hb, hml, hown, hts⟩ (qX6_add l D cI cT ga ta shelf np ng cur tw a1 F v tw1 f6) (cwV 1 hts gL_law_X6_add rfl rfl rfl zVX6_add ⟨Nat.le_of_ble_eq_true rfl, Nat.le_of_ble_eq_true rfl⟩) (tg_preVM (r := (RX6, TX6, 6)) (ci := 5) (q0 := 0) hG (hDG _ wG_ad) hKG hN rfl rfl) rfl rfl hl.1 rfl (lv_room (Nat.le_of_ble_eq_true rfl)) dL_law_399 ⟨hcc, hss⟩) hS (tg_inA (hDG _ wG_ad)) (fun zH zlocs hf9 hG hS => ?_)
  have hM := tg_keep hM (lw_mg hXX) hf9
  refine lv_aload_n hx hb dL_law_402 rfl (lv_at hl 2 rfl) ?_
  refine lv_aload_n hx hb dL_law_403 rfl (lv_at hl 0 rfl) ?_
  refine lv_iload_n hx hb dL_law_404 rfl (lv_at hl 3 rfl) ?_
  refine lv_iconst (v := 1) hx hb dL_law_405 (by decide) ?_
  refine lv_iadd hx hb dL_law_406 ?_
  refine va_sld hx hb hX hbl hbA hS y1 dL_law_407 ?_
  refine tg_top e1.symm ?_
  refine tg_cMi (va_runV (As := [.int a1]) (rest := [.int v]) ⟨hx, hb, hml, hown, hts⟩ (qX7_add l D cI cZ ad rn rmany image rturn rshelf rgroups inn now makers makerMany queue a1 F v j1 j2 j3 j4 j5 f7) (cwV 1 hts gL_law_X7_add rfl rfl rfl zVX7_add ⟨Nat.le_of_ble_eq_true rfl, Nat.le_of_ble_eq_true rfl⟩) (tg_preVM (r := (RX7, TX7, 11)) (ci := 6) (q0 := 0) hM (hDM _ rfl) hKM hN rfl rfl) rfl rfl hl.1 rfl (lv_room (Nat.le_of_ble_eq_true rfl)) dL_law_408 ⟨hcc, hss⟩) hS (tg_inA (hDM _ rfl)) (fun zH zlocs hf9 hM hS => ?_)
  have hG := tg_keep hG (lw_gm hXX) hf9
  refine lv_icmp_eq (tgt := 891) hx hb dL_law_411 (by decide) (fun _ => ?_) (fun h9 => absurd rfl h9)
  refine W.widen (k := cells + 1) (n := slots + 2) (by omega) (by omega) ?_
  exact kk _ _ ⟨_, _, _, _, _, _, _, _, _, _, _, _, _, _, _, _, hR, hG, hM⟩ hS
set_option maxRecDepth 100000 in
set_option maxHeartbeats 4000000 in
theorem lwc_of {p : Program} {l : Launch} {e : Env} {s : State} {m : MethodId} {b : Nat} {below : List Frame} {meth : Method} {c : Code} {D : va_G} {zQ : State → Prop} {ga : Nat → Nat} {ta : Nat → Nat → Nat} {ad : Nat → Nat} {cI cT cZ : ClassId} {L : Nat} {xs : Nat → Int32} {F : Nat} (C0 : tg_C p s m meth c #[Value.ref b] cL_law RL wsL_law 4 D [(cI, .int), (cT, .object "TurnGroups$Tower"), (cZ, .boolean)]) (hX : va_X b L xs s s.heap) (hbl : b < s.heap.size) (hDs : lwD s ta ga ad) (hF : 50000 ≤ F) {i a1 a2 a3 : Int32} (hi : lwX i L xs a1 a2 a3) {cells slots : Nat} (hc1 : cells + 1 ≤ 600000) (hs1 : slots + 2 ≤ 7302250) {zH : Heap} {zlocs : List Loc} (hI : lwI D cI cT cZ ta ga ad zH) (hS : va_S (lwA s) s.heap zH zlocs) {zls : Array Slot} (hl : lv_has zls 4 [(0, .ref b), (1, .ref (ga 0)), (2, .ref (ad 0)), (3, .int i)]) (kk : ∀ (zH : Heap) (zlocs : List Loc), lwI D cI cT cZ ta ga ad zH → va_S (lwA s) s.heap zH zlocs → W p l e room_1 s m #[Value.ref b] below meth c zH zlocs (cells + 1) (slots + 2) zQ (F0 m 891 zls [])) : W p l e room_1 s m #[Value.ref b] below meth c zH zlocs cells slots zQ (F0 m 416 zls []) := by
  obtain ⟨hx, hb, hml, hown, hts, hK, hN⟩ := C0
  have hKG := hK.sub (tys' := [(cI, .int), (cT, .object "TurnGroups$Tower")]) [0, 1] rfl
  have hKM := hK.sub (tys' := [(cI, .int), (cZ, .boolean)]) [0, 2] rfl
  obtain ⟨hDG, hDM, hXX⟩ := hDs
  have hbA : ¬ lwA s b := Nat.not_le.mpr hbl
  obtain ⟨y1, e1, y2, e2, y3, e3⟩ := hi
  obtain ⟨shelf, np, ng, cur, tw, rn, rmany, image, rturn, rshelf, rgroups, inn, now, makers, makerMany, queue, hR, hG, hM⟩ := hI
  have hcc : cells + 0 ≤ 600000 := by omega
  have hss : slots + 0 ≤ 7302250 := by omega
  obtain ⟨v, g1, tw1, g2, ⟨j1, j2, j3, j4, j5⟩, f6, f7, hR⟩ := call_of hF hR now makers makerMany queue a1 a2 a3
  refine lv_aload_n hx hb dL_law_416 rfl (lv_at hl 1 rfl) ?_
  refine lv_aload_n hx hb dL_law_417 rfl (lv_at hl 0 rfl) ?_
  refine lv_iload_n hx hb dL_law_418 rfl (lv_at hl 3 rfl) ?_
  refine lv_iconst (v := 1) hx hb dL_law_419 (by decide) ?_
  refine lv_iadd hx hb dL_law_420 ?_
  refine va_sld hx hb hX hbl hbA hS y1 dL_law_421 ?_
  refine tg_top e1.symm ?_
  refine lv_aload_n hx hb dL_law_422 rfl (lv_at hl 0 rfl) ?_
  refine lv_iload_n hx hb dL_law_423 rfl (lv_at hl 3 rfl) ?_
  refine lv_iconst (v := 2) hx hb dL_law_424 (by decide) ?_
  refine lv_iadd hx hb dL_law_425 ?_
  refine va_sld hx hb hX hbl hbA hS y2 dL_law_426 ?_
  refine tg_top e2.symm ?_
  refine lv_aload_n hx hb dL_law_427 rfl (lv_at hl 0 rfl) ?_
  refine lv_iload_n hx hb dL_law_428 rfl (lv_at hl 3 rfl) ?_
  refine lv_iconst (v := 3) hx hb dL_law_429 (by decide) ?_
  refine lv_iadd hx hb dL_law_430 ?_
  refine va_sld hx hb hX hbl hbA hS y3 dL_law_431 ?_
  refine tg_top e3.symm ?_
  refine tg_cNi (va_runV (As := [.int a1, .int a2, .int a3]) (rest := []) ⟨hx, hb, hml, hown, hts⟩ (qX6_of l D cI cT ga ta shelf np ng cur tw a1 a2 a3 F v g1 tw1 zH.size f6) (cwV 3 hts gL_law_X6_of rfl rfl rfl zVX6_of ⟨Nat.le_of_ble_eq_true rfl, Nat.le_of_ble_eq_true rfl⟩) (tg_preVN (r := (RX6, TX6, 6)) (ci := 5) (q0 := 0) hG (hDG _ wG_ad) hKG hN rfl rfl) rfl rfl hl.1 rfl (lv_room (Nat.le_of_ble_eq_true rfl)) dL_law_432 ⟨hc1, hs1⟩) hS (lw_newA (hDG _ wG_ad) hS) (fun zH zlocs hf9 hG hS => ?_)
  have hM := lw_keepN hM (lw_mg hXX) hf9
  refine lv_aload_n hx hb dL_law_435 rfl (lv_at hl 2 rfl) ?_
  refine lv_aload_n hx hb dL_law_436 rfl (lv_at hl 0 rfl) ?_
  refine lv_iload_n hx hb dL_law_437 rfl (lv_at hl 3 rfl) ?_
  refine lv_iconst (v := 1) hx hb dL_law_438 (by decide) ?_
  refine lv_iadd hx hb dL_law_439 ?_
  refine va_sld hx hb hX hbl hbA hS y1 dL_law_440 ?_
  refine tg_top e1.symm ?_
  refine lv_aload_n hx hb dL_law_441 rfl (lv_at hl 0 rfl) ?_
  refine lv_iload_n hx hb dL_law_442 rfl (lv_at hl 3 rfl) ?_
  refine lv_iconst (v := 2) hx hb dL_law_443 (by decide) ?_
  refine lv_iadd hx hb dL_law_444 ?_
  refine va_sld hx hb hX hbl hbA hS y2 dL_law_445 ?_
  refine tg_top e2.symm ?_
  refine lv_aload_n hx hb dL_law_446 rfl (lv_at hl 0 rfl) ?_
  refine lv_iload_n hx hb dL_law_447 rfl (lv_at hl 3 rfl) ?_
  refine lv_iconst (v := 3) hx hb dL_law_448 (by decide) ?_
  refine lv_iadd hx hb dL_law_449 ?_
  refine va_sld hx hb hX hbl hbA hS y3 dL_law_450 ?_
  refine tg_top e3.symm ?_
  refine tg_cMi (va_runV (As := [.int a1, .int a2, .int a3]) (rest := [.int v]) ⟨hx, hb, hml, hown, hts⟩ (qX7_of l D cI cZ ad rn rmany image rturn rshelf rgroups inn now makers makerMany queue a1 a2 a3 F v g2 j1 j2 j3 j4 j5 f7) (cwV 3 hts gL_law_X7_of rfl rfl rfl zVX7_of ⟨Nat.le_of_ble_eq_true rfl, Nat.le_of_ble_eq_true rfl⟩) (tg_preVM (r := (RX7, TX7, 11)) (ci := 6) (q0 := 0) hM (hDM _ rfl) hKM hN rfl rfl) rfl rfl hl.1 rfl (lv_room (Nat.le_of_ble_eq_true rfl)) dL_law_451 ⟨hc1, hs1⟩) hS (tg_inA (hDM _ rfl)) (fun zH zlocs hf9 hM hS => ?_)
  have hG := tg_keep hG (lw_gm hXX) hf9
  refine lv_icmp_eq (tgt := 891) hx hb dL_law_454 (by decide) (fun _ => ?_) (fun h9 => absurd rfl h9)
  refine W.widen (k := cells + 1) (n := slots + 2) (by omega) (by omega) ?_
  exact kk _ _ ⟨_, _, _, _, _, _, _, _, _, _, _, _, _, _, _, _, hR, hG, hM⟩ hS
set_option maxRecDepth 100000 in
set_option maxHeartbeats 4000000 in
theorem lwc_by {p : Program} {l : Launch} {e : Env} {s : State} {m : MethodId} {b : Nat} {below : List Frame} {meth : Method} {c : Code} {D : va_G} {zQ : State → Prop} {ga : Nat → Nat} {ta : Nat → Nat → Nat} {ad : Nat → Nat} {cI cT cZ : ClassId} {L : Nat} {xs : Nat → Int32} {F : Nat} (C0 : tg_C p s m meth c #[Value.ref b] cL_law RL wsL_law 4 D [(cI, .int), (cT, .object "TurnGroups$Tower"), (cZ, .boolean)]) (hX : va_X b L xs s s.heap) (hbl : b < s.heap.size) (hDs : lwD s ta ga ad) (hF : 50000 ≤ F) {i a1 a2 a3 : Int32} (hi : lwX i L xs a1 a2 a3) {cells slots : Nat} (hc1 : cells + 1 ≤ 600000) (hs1 : slots + 2 ≤ 7302250) {zH : Heap} {zlocs : List Loc} (hI : lwI D cI cT cZ ta ga ad zH) (hS : va_S (lwA s) s.heap zH zlocs) {zls : Array Slot} (hl : lv_has zls 4 [(0, .ref b), (1, .ref (ga 0)), (2, .ref (ad 0)), (3, .int i)]) (kk : ∀ (zH : Heap) (zlocs : List Loc), lwI D cI cT cZ ta ga ad zH → va_S (lwA s) s.heap zH zlocs → W p l e room_1 s m #[Value.ref b] below meth c zH zlocs (cells + 1) (slots + 2) zQ (F0 m 891 zls [])) : W p l e room_1 s m #[Value.ref b] below meth c zH zlocs cells slots zQ (F0 m 459 zls []) := by
  obtain ⟨hx, hb, hml, hown, hts, hK, hN⟩ := C0
  have hKG := hK.sub (tys' := [(cI, .int), (cT, .object "TurnGroups$Tower")]) [0, 1] rfl
  have hKM := hK.sub (tys' := [(cI, .int), (cZ, .boolean)]) [0, 2] rfl
  obtain ⟨hDG, hDM, hXX⟩ := hDs
  have hbA : ¬ lwA s b := Nat.not_le.mpr hbl
  obtain ⟨y1, e1, y2, e2, y3, e3⟩ := hi
  obtain ⟨shelf, np, ng, cur, tw, rn, rmany, image, rturn, rshelf, rgroups, inn, now, makers, makerMany, queue, hR, hG, hM⟩ := hI
  have hcc : cells + 0 ≤ 600000 := by omega
  have hss : slots + 0 ≤ 7302250 := by omega
  obtain ⟨v, g1, tw1, g2, i2, f6, f7, hR⟩ := call_by hF hR a1 a2 a3
  refine lv_aload_n hx hb dL_law_459 rfl (lv_at hl 1 rfl) ?_
  refine lv_aload_n hx hb dL_law_460 rfl (lv_at hl 0 rfl) ?_
  refine lv_iload_n hx hb dL_law_461 rfl (lv_at hl 3 rfl) ?_
  refine lv_iconst (v := 1) hx hb dL_law_462 (by decide) ?_
  refine lv_iadd hx hb dL_law_463 ?_
  refine va_sld hx hb hX hbl hbA hS y1 dL_law_464 ?_
  refine tg_top e1.symm ?_
  refine lv_aload_n hx hb dL_law_465 rfl (lv_at hl 0 rfl) ?_
  refine lv_iload_n hx hb dL_law_466 rfl (lv_at hl 3 rfl) ?_
  refine lv_iconst (v := 2) hx hb dL_law_467 (by decide) ?_
  refine lv_iadd hx hb dL_law_468 ?_
  refine va_sld hx hb hX hbl hbA hS y2 dL_law_469 ?_
  refine tg_top e2.symm ?_
  refine lv_aload_n hx hb dL_law_470 rfl (lv_at hl 0 rfl) ?_
  refine lv_iload_n hx hb dL_law_471 rfl (lv_at hl 3 rfl) ?_
  refine lv_iconst (v := 3) hx hb dL_law_472 (by decide) ?_
  refine lv_iadd hx hb dL_law_473 ?_
  refine va_sld hx hb hX hbl hbA hS y3 dL_law_474 ?_
  refine tg_top e3.symm ?_
  refine tg_cNi (va_runV (As := [.int a1, .int a2, .int a3]) (rest := []) ⟨hx, hb, hml, hown, hts⟩ (qX6_by l D cI cT ga ta shelf np ng cur tw a1 a2 a3 F v g1 tw1 zH.size f6) (cwV 3 hts gL_law_X6_by rfl rfl rfl zVX6_by ⟨Nat.le_of_ble_eq_true rfl, Nat.le_of_ble_eq_true rfl⟩) (tg_preVN (r := (RX6, TX6, 6)) (ci := 5) (q0 := 0) hG (hDG _ wG_ad) hKG hN rfl rfl) rfl rfl hl.1 rfl (lv_room (Nat.le_of_ble_eq_true rfl)) dL_law_475 ⟨hc1, hs1⟩) hS (lw_newA (hDG _ wG_ad) hS) (fun zH zlocs hf9 hG hS => ?_)
  have hM := lw_keepN hM (lw_mg hXX) hf9
  refine lv_aload_n hx hb dL_law_478 rfl (lv_at hl 2 rfl) ?_
  refine lv_aload_n hx hb dL_law_479 rfl (lv_at hl 0 rfl) ?_
  refine lv_iload_n hx hb dL_law_480 rfl (lv_at hl 3 rfl) ?_
  refine lv_iconst (v := 1) hx hb dL_law_481 (by decide) ?_
  refine lv_iadd hx hb dL_law_482 ?_
  refine va_sld hx hb hX hbl hbA hS y1 dL_law_483 ?_
  refine tg_top e1.symm ?_
  refine lv_aload_n hx hb dL_law_484 rfl (lv_at hl 0 rfl) ?_
  refine lv_iload_n hx hb dL_law_485 rfl (lv_at hl 3 rfl) ?_
  refine lv_iconst (v := 2) hx hb dL_law_486 (by decide) ?_
  refine lv_iadd hx hb dL_law_487 ?_
  refine va_sld hx hb hX hbl hbA hS y2 dL_law_488 ?_
  refine tg_top e2.symm ?_
  refine lv_aload_n hx hb dL_law_489 rfl (lv_at hl 0 rfl) ?_
  refine lv_iload_n hx hb dL_law_490 rfl (lv_at hl 3 rfl) ?_
  refine lv_iconst (v := 3) hx hb dL_law_491 (by decide) ?_
  refine lv_iadd hx hb dL_law_492 ?_
  refine va_sld hx hb hX hbl hbA hS y3 dL_law_493 ?_
  refine tg_top e3.symm ?_
  refine tg_cMi (va_runV (As := [.int a1, .int a2, .int a3]) (rest := [.int v]) ⟨hx, hb, hml, hown, hts⟩ (qX7_by l D cI cZ ad rn rmany image rturn rshelf rgroups inn now makers makerMany queue a1 a2 a3 F v g2 i2 f7) (cwV 3 hts gL_law_X7_by rfl rfl rfl zVX7_by ⟨Nat.le_of_ble_eq_true rfl, Nat.le_of_ble_eq_true rfl⟩) (tg_preVM (r := (RX7, TX7, 11)) (ci := 6) (q0 := 0) hM (hDM _ rfl) hKM hN rfl rfl) rfl rfl hl.1 rfl (lv_room (Nat.le_of_ble_eq_true rfl)) dL_law_494 ⟨hc1, hs1⟩) hS (tg_inA (hDM _ rfl)) (fun zH zlocs hf9 hM hS => ?_)
  have hG := tg_keep hG (lw_gm hXX) hf9
  refine lv_icmp_eq (tgt := 891) hx hb dL_law_497 (by decide) (fun _ => ?_) (fun h9 => absurd rfl h9)
  refine W.widen (k := cells + 1) (n := slots + 2) (by omega) (by omega) ?_
  exact kk _ _ ⟨_, _, _, _, _, _, _, _, _, _, _, _, _, _, _, _, hR, hG, hM⟩ hS
set_option maxRecDepth 100000 in
set_option maxHeartbeats 4000000 in
theorem lwc_made {p : Program} {l : Launch} {e : Env} {s : State} {m : MethodId} {b : Nat} {below : List Frame} {meth : Method} {c : Code} {D : va_G} {zQ : State → Prop} {ga : Nat → Nat} {ta : Nat → Nat → Nat} {ad : Nat → Nat} {cI cT cZ : ClassId} {L : Nat} {xs : Nat → Int32} {F : Nat} (C0 : tg_C p s m meth c #[Value.ref b] cL_law RL wsL_law 4 D [(cI, .int), (cT, .object "TurnGroups$Tower"), (cZ, .boolean)]) (hX : va_X b L xs s s.heap) (hbl : b < s.heap.size) (hDs : lwD s ta ga ad) (hF : 50000 ≤ F) {i a1 a2 a3 : Int32} (hi : lwX i L xs a1 a2 a3) {cells slots : Nat} (hc1 : cells + 1 ≤ 600000) (hs1 : slots + 2 ≤ 7302250) {zH : Heap} {zlocs : List Loc} (hI : lwI D cI cT cZ ta ga ad zH) (hS : va_S (lwA s) s.heap zH zlocs) {zls : Array Slot} (hl : lv_has zls 4 [(0, .ref b), (1, .ref (ga 0)), (2, .ref (ad 0)), (3, .int i)]) (kk : ∀ (zH : Heap) (zlocs : List Loc), lwI D cI cT cZ ta ga ad zH → va_S (lwA s) s.heap zH zlocs → W p l e room_1 s m #[Value.ref b] below meth c zH zlocs (cells + 1) (slots + 2) zQ (F0 m 891 zls [])) : W p l e room_1 s m #[Value.ref b] below meth c zH zlocs cells slots zQ (F0 m 502 zls []) := by
  obtain ⟨hx, hb, hml, hown, hts, hK, hN⟩ := C0
  have hKG := hK.sub (tys' := [(cI, .int), (cT, .object "TurnGroups$Tower")]) [0, 1] rfl
  have hKM := hK.sub (tys' := [(cI, .int), (cZ, .boolean)]) [0, 2] rfl
  obtain ⟨hDG, hDM, hXX⟩ := hDs
  have hbA : ¬ lwA s b := Nat.not_le.mpr hbl
  obtain ⟨y1, e1, y2, e2, y3, e3⟩ := hi
  obtain ⟨shelf, np, ng, cur, tw, rn, rmany, image, rturn, rshelf, rgroups, inn, now, makers, makerMany, queue, hR, hG, hM⟩ := hI
  have hcc : cells + 0 ≤ 600000 := by omega
  have hss : slots + 0 ≤ 7302250 := by omega
  obtain ⟨v, g1, tw1, g2, ⟨j1, j2, j3, j4, j5⟩, f6, f7, hR⟩ := call_made hF hR now makers makerMany queue a1 a2
  refine lv_aload_n hx hb dL_law_502 rfl (lv_at hl 1 rfl) ?_
  refine lv_aload_n hx hb dL_law_503 rfl (lv_at hl 0 rfl) ?_
  refine lv_iload_n hx hb dL_law_504 rfl (lv_at hl 3 rfl) ?_
  refine lv_iconst (v := 1) hx hb dL_law_505 (by decide) ?_
  refine lv_iadd hx hb dL_law_506 ?_
  refine va_sld hx hb hX hbl hbA hS y1 dL_law_507 ?_
  refine tg_top e1.symm ?_
  refine lv_aload_n hx hb dL_law_508 rfl (lv_at hl 0 rfl) ?_
  refine lv_iload_n hx hb dL_law_509 rfl (lv_at hl 3 rfl) ?_
  refine lv_iconst (v := 2) hx hb dL_law_510 (by decide) ?_
  refine lv_iadd hx hb dL_law_511 ?_
  refine va_sld hx hb hX hbl hbA hS y2 dL_law_512 ?_
  refine tg_top e2.symm ?_
  refine tg_cNi (va_runV (As := [.int a1, .int a2]) (rest := []) ⟨hx, hb, hml, hown, hts⟩ (qX6_made l D cI cT ga ta shelf np ng cur tw a1 a2 F v g1 tw1 zH.size f6) (cwV 2 hts gL_law_X6_made rfl rfl rfl zVX6_made ⟨Nat.le_of_ble_eq_true rfl, Nat.le_of_ble_eq_true rfl⟩) (tg_preVN (r := (RX6, TX6, 6)) (ci := 5) (q0 := 0) hG (hDG _ wG_ad) hKG hN rfl rfl) rfl rfl hl.1 rfl (lv_room (Nat.le_of_ble_eq_true rfl)) dL_law_513 ⟨hc1, hs1⟩) hS (lw_newA (hDG _ wG_ad) hS) (fun zH zlocs hf9 hG hS => ?_)
  have hM := lw_keepN hM (lw_mg hXX) hf9
  refine lv_aload_n hx hb dL_law_516 rfl (lv_at hl 2 rfl) ?_
  refine lv_aload_n hx hb dL_law_517 rfl (lv_at hl 0 rfl) ?_
  refine lv_iload_n hx hb dL_law_518 rfl (lv_at hl 3 rfl) ?_
  refine lv_iconst (v := 1) hx hb dL_law_519 (by decide) ?_
  refine lv_iadd hx hb dL_law_520 ?_
  refine va_sld hx hb hX hbl hbA hS y1 dL_law_521 ?_
  refine tg_top e1.symm ?_
  refine lv_aload_n hx hb dL_law_522 rfl (lv_at hl 0 rfl) ?_
  refine lv_iload_n hx hb dL_law_523 rfl (lv_at hl 3 rfl) ?_
  refine lv_iconst (v := 2) hx hb dL_law_524 (by decide) ?_
  refine lv_iadd hx hb dL_law_525 ?_
  refine va_sld hx hb hX hbl hbA hS y2 dL_law_526 ?_
  refine tg_top e2.symm ?_
  refine tg_cMi (va_runV (As := [.int a1, .int a2]) (rest := [.int v]) ⟨hx, hb, hml, hown, hts⟩ (qX7_made l D cI cZ ad rn rmany image rturn rshelf rgroups inn now makers makerMany queue a1 a2 F v g2 j1 j2 j3 j4 j5 f7) (cwV 2 hts gL_law_X7_made rfl rfl rfl zVX7_made ⟨Nat.le_of_ble_eq_true rfl, Nat.le_of_ble_eq_true rfl⟩) (tg_preVM (r := (RX7, TX7, 11)) (ci := 6) (q0 := 0) hM (hDM _ rfl) hKM hN rfl rfl) rfl rfl hl.1 rfl (lv_room (Nat.le_of_ble_eq_true rfl)) dL_law_527 ⟨hc1, hs1⟩) hS (tg_inA (hDM _ rfl)) (fun zH zlocs hf9 hM hS => ?_)
  have hG := tg_keep hG (lw_gm hXX) hf9
  refine lv_icmp_eq (tgt := 891) hx hb dL_law_530 (by decide) (fun _ => ?_) (fun h9 => absurd rfl h9)
  refine W.widen (k := cells + 1) (n := slots + 2) (by omega) (by omega) ?_
  exact kk _ _ ⟨_, _, _, _, _, _, _, _, _, _, _, _, _, _, _, _, hR, hG, hM⟩ hS
set_option maxRecDepth 100000 in
set_option maxHeartbeats 4000000 in
theorem lwc_undo {p : Program} {l : Launch} {e : Env} {s : State} {m : MethodId} {b : Nat} {below : List Frame} {meth : Method} {c : Code} {D : va_G} {zQ : State → Prop} {ga : Nat → Nat} {ta : Nat → Nat → Nat} {ad : Nat → Nat} {cI cT cZ : ClassId} {L : Nat} {xs : Nat → Int32} {F : Nat} (C0 : tg_C p s m meth c #[Value.ref b] cL_law RL wsL_law 4 D [(cI, .int), (cT, .object "TurnGroups$Tower"), (cZ, .boolean)]) (hX : va_X b L xs s s.heap) (hbl : b < s.heap.size) (hDs : lwD s ta ga ad) (hF : 50000 ≤ F) {i a1 a2 a3 : Int32} (hi : lwX i L xs a1 a2 a3) {cells slots : Nat} (hc1 : cells + 1 ≤ 600000) (hs1 : slots + 2 ≤ 7302250) {zH : Heap} {zlocs : List Loc} (hI : lwI D cI cT cZ ta ga ad zH) (hS : va_S (lwA s) s.heap zH zlocs) {zls : Array Slot} (hl : lv_has zls 4 [(0, .ref b), (1, .ref (ga 0)), (2, .ref (ad 0)), (3, .int i)]) (kk : ∀ (zH : Heap) (zlocs : List Loc), lwI D cI cT cZ ta ga ad zH → va_S (lwA s) s.heap zH zlocs → W p l e room_1 s m #[Value.ref b] below meth c zH zlocs (cells + 1) (slots + 2) zQ (F0 m 891 zls [])) : W p l e room_1 s m #[Value.ref b] below meth c zH zlocs cells slots zQ (F0 m 535 zls []) := by
  obtain ⟨hx, hb, hml, hown, hts, hK, hN⟩ := C0
  have hKG := hK.sub (tys' := [(cI, .int), (cT, .object "TurnGroups$Tower")]) [0, 1] rfl
  have hKM := hK.sub (tys' := [(cI, .int), (cZ, .boolean)]) [0, 2] rfl
  obtain ⟨hDG, hDM, hXX⟩ := hDs
  have hbA : ¬ lwA s b := Nat.not_le.mpr hbl
  obtain ⟨y1, e1, y2, e2, y3, e3⟩ := hi
  obtain ⟨shelf, np, ng, cur, tw, rn, rmany, image, rturn, rshelf, rgroups, inn, now, makers, makerMany, queue, hR, hG, hM⟩ := hI
  have hcc : cells + 0 ≤ 600000 := by omega
  have hss : slots + 0 ≤ 7302250 := by omega
  obtain ⟨v, g1, g2, f6, f7, hR⟩ := call_undo hR
  refine lv_aload_n hx hb dL_law_535 rfl (lv_at hl 1 rfl) ?_
  refine tg_cMi (va_runV (As := []) (rest := []) ⟨hx, hb, hml, hown, hts⟩ (qX6_undo l D cI cT ga ta shelf np ng cur tw v g1 f6) (cwV 0 hts gL_law_X6_undo rfl rfl rfl zVX6_undo ⟨Nat.le_of_ble_eq_true rfl, Nat.le_of_ble_eq_true rfl⟩) (tg_preVM (r := (RX6, TX6, 6)) (ci := 5) (q0 := 0) hG (hDG _ wG_ad) hKG hN rfl rfl) rfl rfl hl.1 rfl (lv_room (Nat.le_of_ble_eq_true rfl)) dL_law_536 ⟨hcc, hss⟩) hS (tg_inA (hDG _ wG_ad)) (fun zH zlocs hf9 hG hS => ?_)
  have hM := tg_keep hM (lw_mg hXX) hf9
  refine lv_aload_n hx hb dL_law_539 rfl (lv_at hl 2 rfl) ?_
  refine tg_cMi (va_runV (As := []) (rest := [.int v]) ⟨hx, hb, hml, hown, hts⟩ (qX7_undo l D cI cZ ad rn rmany image rturn rshelf rgroups inn now makers makerMany queue v g2 f7) (cwV 0 hts gL_law_X7_undo rfl rfl rfl zVX7_undo ⟨Nat.le_of_ble_eq_true rfl, Nat.le_of_ble_eq_true rfl⟩) (tg_preVM (r := (RX7, TX7, 11)) (ci := 6) (q0 := 0) hM (hDM _ rfl) hKM hN rfl rfl) rfl rfl hl.1 rfl (lv_room (Nat.le_of_ble_eq_true rfl)) dL_law_540 ⟨hcc, hss⟩) hS (tg_inA (hDM _ rfl)) (fun zH zlocs hf9 hM hS => ?_)
  have hG := tg_keep hG (lw_gm hXX) hf9
  refine lv_icmp_eq (tgt := 891) hx hb dL_law_543 (by decide) (fun _ => ?_) (fun h9 => absurd rfl h9)
  refine W.widen (k := cells + 1) (n := slots + 2) (by omega) (by omega) ?_
  exact kk _ _ ⟨_, _, _, _, _, _, _, _, _, _, _, _, _, _, _, _, hR, hG, hM⟩ hS
set_option maxRecDepth 100000 in
set_option maxHeartbeats 4000000 in
theorem lwc_size {p : Program} {l : Launch} {e : Env} {s : State} {m : MethodId} {b : Nat} {below : List Frame} {meth : Method} {c : Code} {D : va_G} {zQ : State → Prop} {ga : Nat → Nat} {ta : Nat → Nat → Nat} {ad : Nat → Nat} {cI cT cZ : ClassId} {L : Nat} {xs : Nat → Int32} {F : Nat} (C0 : tg_C p s m meth c #[Value.ref b] cL_law RL wsL_law 4 D [(cI, .int), (cT, .object "TurnGroups$Tower"), (cZ, .boolean)]) (hX : va_X b L xs s s.heap) (hbl : b < s.heap.size) (hDs : lwD s ta ga ad) (hF : 50000 ≤ F) {i a1 a2 a3 : Int32} (hi : lwX i L xs a1 a2 a3) {cells slots : Nat} (hc1 : cells + 1 ≤ 600000) (hs1 : slots + 2 ≤ 7302250) {zH : Heap} {zlocs : List Loc} (hI : lwI D cI cT cZ ta ga ad zH) (hS : va_S (lwA s) s.heap zH zlocs) {zls : Array Slot} (hl : lv_has zls 4 [(0, .ref b), (1, .ref (ga 0)), (2, .ref (ad 0)), (3, .int i)]) (kk : ∀ (zH : Heap) (zlocs : List Loc), lwI D cI cT cZ ta ga ad zH → va_S (lwA s) s.heap zH zlocs → W p l e room_1 s m #[Value.ref b] below meth c zH zlocs (cells + 1) (slots + 2) zQ (F0 m 891 zls [])) : W p l e room_1 s m #[Value.ref b] below meth c zH zlocs cells slots zQ (F0 m 548 zls []) := by
  obtain ⟨hx, hb, hml, hown, hts, hK, hN⟩ := C0
  have hKG := hK.sub (tys' := [(cI, .int), (cT, .object "TurnGroups$Tower")]) [0, 1] rfl
  have hKM := hK.sub (tys' := [(cI, .int), (cZ, .boolean)]) [0, 2] rfl
  obtain ⟨hDG, hDM, hXX⟩ := hDs
  have hbA : ¬ lwA s b := Nat.not_le.mpr hbl
  obtain ⟨y1, e1, y2, e2, y3, e3⟩ := hi
  obtain ⟨shelf, np, ng, cur, tw, rn, rmany, image, rturn, rshelf, rgroups, inn, now, makers, makerMany, queue, hR, hG, hM⟩ := hI
  have hcc : cells + 0 ≤ 600000 := by omega
  have hss : slots + 0 ≤ 7302250 := by omega
  obtain ⟨v, f6, f7⟩ := call_size hF hR a1
  refine lv_aload_n hx hb dL_law_548 rfl (lv_at hl 1 rfl) ?_
  refine lv_aload_n hx hb dL_law_549 rfl (lv_at hl 0 rfl) ?_
  refine lv_iload_n hx hb dL_law_550 rfl (lv_at hl 3 rfl) ?_
  refine lv_iconst (v := 1) hx hb dL_law_551 (by decide) ?_
  refine lv_iadd hx hb dL_law_552 ?_
  refine va_sld hx hb hX hbl hbA hS y1 dL_law_553 ?_
  refine tg_top e1.symm ?_
  refine tg_cRi (va_runV (As := [.int a1]) (rest := []) ⟨hx, hb, hml, hown, hts⟩ (qX6_size l D cI cT ga ta shelf np ng cur tw a1 F v f6) (cwV 1 hts gL_law_X6_size rfl rfl rfl zVX6_size ⟨Nat.le_of_ble_eq_true rfl, Nat.le_of_ble_eq_true rfl⟩) (tg_preV (r := (RX6, TX6, 6)) (ci := 5) (q0 := 0) hG hKG hN rfl rfl) rfl rfl hl.1 rfl (lv_room (Nat.le_of_ble_eq_true rfl)) dL_law_554 ⟨hcc, hss⟩) ?_
  refine lv_aload_n hx hb dL_law_557 rfl (lv_at hl 2 rfl) ?_
  refine lv_aload_n hx hb dL_law_558 rfl (lv_at hl 0 rfl) ?_
  refine lv_iload_n hx hb dL_law_559 rfl (lv_at hl 3 rfl) ?_
  refine lv_iconst (v := 1) hx hb dL_law_560 (by decide) ?_
  refine lv_iadd hx hb dL_law_561 ?_
  refine va_sld hx hb hX hbl hbA hS y1 dL_law_562 ?_
  refine tg_top e1.symm ?_
  refine tg_cRi (va_runV (As := [.int a1]) (rest := [.int v]) ⟨hx, hb, hml, hown, hts⟩ (qX7_size l D cI cZ ad rn rmany image rturn rshelf rgroups inn now makers makerMany queue a1 F v f7) (cwV 1 hts gL_law_X7_size rfl rfl rfl zVX7_size ⟨Nat.le_of_ble_eq_true rfl, Nat.le_of_ble_eq_true rfl⟩) (tg_preV (r := (RX7, TX7, 11)) (ci := 6) (q0 := 0) hM hKM hN rfl rfl) rfl rfl hl.1 rfl (lv_room (Nat.le_of_ble_eq_true rfl)) dL_law_563 ⟨hcc, hss⟩) ?_
  refine lv_icmp_eq (tgt := 891) hx hb dL_law_566 (by decide) (fun _ => ?_) (fun h9 => absurd rfl h9)
  refine W.widen (k := cells + 1) (n := slots + 2) (by omega) (by omega) ?_
  exact kk _ _ ⟨_, _, _, _, _, _, _, _, _, _, _, _, _, _, _, _, hR, hG, hM⟩ hS
set_option maxRecDepth 100000 in
set_option maxHeartbeats 4000000 in
theorem lwc_has {p : Program} {l : Launch} {e : Env} {s : State} {m : MethodId} {b : Nat} {below : List Frame} {meth : Method} {c : Code} {D : va_G} {zQ : State → Prop} {ga : Nat → Nat} {ta : Nat → Nat → Nat} {ad : Nat → Nat} {cI cT cZ : ClassId} {L : Nat} {xs : Nat → Int32} {F : Nat} (C0 : tg_C p s m meth c #[Value.ref b] cL_law RL wsL_law 4 D [(cI, .int), (cT, .object "TurnGroups$Tower"), (cZ, .boolean)]) (hX : va_X b L xs s s.heap) (hbl : b < s.heap.size) (hDs : lwD s ta ga ad) (hF : 50000 ≤ F) {i a1 a2 a3 : Int32} (hi : lwX i L xs a1 a2 a3) {cells slots : Nat} (hc1 : cells + 1 ≤ 600000) (hs1 : slots + 2 ≤ 7302250) {zH : Heap} {zlocs : List Loc} (hI : lwI D cI cT cZ ta ga ad zH) (hS : va_S (lwA s) s.heap zH zlocs) {zls : Array Slot} (hl : lv_has zls 4 [(0, .ref b), (1, .ref (ga 0)), (2, .ref (ad 0)), (3, .int i)]) (kk : ∀ (zH : Heap) (zlocs : List Loc), lwI D cI cT cZ ta ga ad zH → va_S (lwA s) s.heap zH zlocs → W p l e room_1 s m #[Value.ref b] below meth c zH zlocs (cells + 1) (slots + 2) zQ (F0 m 891 zls [])) : W p l e room_1 s m #[Value.ref b] below meth c zH zlocs cells slots zQ (F0 m 571 zls []) := by
  obtain ⟨hx, hb, hml, hown, hts, hK, hN⟩ := C0
  have hKG := hK.sub (tys' := [(cI, .int), (cT, .object "TurnGroups$Tower")]) [0, 1] rfl
  have hKM := hK.sub (tys' := [(cI, .int), (cZ, .boolean)]) [0, 2] rfl
  obtain ⟨hDG, hDM, hXX⟩ := hDs
  have hbA : ¬ lwA s b := Nat.not_le.mpr hbl
  obtain ⟨y1, e1, y2, e2, y3, e3⟩ := hi
  obtain ⟨shelf, np, ng, cur, tw, rn, rmany, image, rturn, rshelf, rgroups, inn, now, makers, makerMany, queue, hR, hG, hM⟩ := hI
  have hcc : cells + 0 ≤ 600000 := by omega
  have hss : slots + 0 ≤ 7302250 := by omega
  obtain ⟨v, f6, f7⟩ := call_has hF hR a1
  refine lv_aload_n hx hb dL_law_571 rfl (lv_at hl 1 rfl) ?_
  refine lv_aload_n hx hb dL_law_572 rfl (lv_at hl 0 rfl) ?_
  refine lv_iload_n hx hb dL_law_573 rfl (lv_at hl 3 rfl) ?_
  refine lv_iconst (v := 1) hx hb dL_law_574 (by decide) ?_
  refine lv_iadd hx hb dL_law_575 ?_
  refine va_sld hx hb hX hbl hbA hS y1 dL_law_576 ?_
  refine tg_top e1.symm ?_
  refine tg_cRi (va_runV (As := [.int a1]) (rest := []) ⟨hx, hb, hml, hown, hts⟩ (qX6_has l D cI cT ga ta shelf np ng cur tw a1 F v f6) (cwV 1 hts gL_law_X6_has rfl rfl rfl zVX6_has ⟨Nat.le_of_ble_eq_true rfl, Nat.le_of_ble_eq_true rfl⟩) (tg_preV (r := (RX6, TX6, 6)) (ci := 5) (q0 := 0) hG hKG hN rfl rfl) rfl rfl hl.1 rfl (lv_room (Nat.le_of_ble_eq_true rfl)) dL_law_577 ⟨hcc, hss⟩) ?_
  refine lv_aload_n hx hb dL_law_580 rfl (lv_at hl 2 rfl) ?_
  refine lv_aload_n hx hb dL_law_581 rfl (lv_at hl 0 rfl) ?_
  refine lv_iload_n hx hb dL_law_582 rfl (lv_at hl 3 rfl) ?_
  refine lv_iconst (v := 1) hx hb dL_law_583 (by decide) ?_
  refine lv_iadd hx hb dL_law_584 ?_
  refine va_sld hx hb hX hbl hbA hS y1 dL_law_585 ?_
  refine tg_top e1.symm ?_
  refine tg_cRi (va_runV (As := [.int a1]) (rest := [.int v]) ⟨hx, hb, hml, hown, hts⟩ (qX7_has l D cI cZ ad rn rmany image rturn rshelf rgroups inn now makers makerMany queue a1 v f7) (cwV 1 hts gL_law_X7_has rfl rfl rfl zVX7_has ⟨Nat.le_of_ble_eq_true rfl, Nat.le_of_ble_eq_true rfl⟩) (tg_preV (r := (RX7, TX7, 11)) (ci := 6) (q0 := 0) hM hKM hN rfl rfl) rfl rfl hl.1 rfl (lv_room (Nat.le_of_ble_eq_true rfl)) dL_law_586 ⟨hcc, hss⟩) ?_
  refine lv_icmp_eq (tgt := 891) hx hb dL_law_589 (by decide) (fun _ => ?_) (fun h9 => absurd rfl h9)
  refine W.widen (k := cells + 1) (n := slots + 2) (by omega) (by omega) ?_
  exact kk _ _ ⟨_, _, _, _, _, _, _, _, _, _, _, _, _, _, _, _, hR, hG, hM⟩ hS
set_option maxRecDepth 100000 in
set_option maxHeartbeats 4000000 in
theorem lwc_is {p : Program} {l : Launch} {e : Env} {s : State} {m : MethodId} {b : Nat} {below : List Frame} {meth : Method} {c : Code} {D : va_G} {zQ : State → Prop} {ga : Nat → Nat} {ta : Nat → Nat → Nat} {ad : Nat → Nat} {cI cT cZ : ClassId} {L : Nat} {xs : Nat → Int32} {F : Nat} (C0 : tg_C p s m meth c #[Value.ref b] cL_law RL wsL_law 4 D [(cI, .int), (cT, .object "TurnGroups$Tower"), (cZ, .boolean)]) (hX : va_X b L xs s s.heap) (hbl : b < s.heap.size) (hDs : lwD s ta ga ad) (hF : 50000 ≤ F) {i a1 a2 a3 : Int32} (hi : lwX i L xs a1 a2 a3) {cells slots : Nat} (hc1 : cells + 1 ≤ 600000) (hs1 : slots + 2 ≤ 7302250) {zH : Heap} {zlocs : List Loc} (hI : lwI D cI cT cZ ta ga ad zH) (hS : va_S (lwA s) s.heap zH zlocs) {zls : Array Slot} (hl : lv_has zls 4 [(0, .ref b), (1, .ref (ga 0)), (2, .ref (ad 0)), (3, .int i)]) (kk : ∀ (zH : Heap) (zlocs : List Loc), lwI D cI cT cZ ta ga ad zH → va_S (lwA s) s.heap zH zlocs → W p l e room_1 s m #[Value.ref b] below meth c zH zlocs (cells + 1) (slots + 2) zQ (F0 m 891 zls [])) : W p l e room_1 s m #[Value.ref b] below meth c zH zlocs cells slots zQ (F0 m 594 zls []) := by
  obtain ⟨hx, hb, hml, hown, hts, hK, hN⟩ := C0
  have hKG := hK.sub (tys' := [(cI, .int), (cT, .object "TurnGroups$Tower")]) [0, 1] rfl
  have hKM := hK.sub (tys' := [(cI, .int), (cZ, .boolean)]) [0, 2] rfl
  obtain ⟨hDG, hDM, hXX⟩ := hDs
  have hbA : ¬ lwA s b := Nat.not_le.mpr hbl
  obtain ⟨y1, e1, y2, e2, y3, e3⟩ := hi
  obtain ⟨shelf, np, ng, cur, tw, rn, rmany, image, rturn, rshelf, rgroups, inn, now, makers, makerMany, queue, hR, hG, hM⟩ := hI
  have hcc : cells + 0 ≤ 600000 := by omega
  have hss : slots + 0 ≤ 7302250 := by omega
  obtain ⟨v, ⟨j1, j2, j3, j4, j5⟩, f6, f7, hR⟩ := call_is hF hR now makers makerMany queue a1 a2 a3
  refine lv_aload_n hx hb dL_law_594 rfl (lv_at hl 1 rfl) ?_
  refine lv_aload_n hx hb dL_law_595 rfl (lv_at hl 0 rfl) ?_
  refine lv_iload_n hx hb dL_law_596 rfl (lv_at hl 3 rfl) ?_
  refine lv_iconst (v := 1) hx hb dL_law_597 (by decide) ?_
  refine lv_iadd hx hb dL_law_598 ?_
  refine va_sld hx hb hX hbl hbA hS y1 dL_law_599 ?_
  refine tg_top e1.symm ?_
  refine lv_aload_n hx hb dL_law_600 rfl (lv_at hl 0 rfl) ?_
  refine lv_iload_n hx hb dL_law_601 rfl (lv_at hl 3 rfl) ?_
  refine lv_iconst (v := 2) hx hb dL_law_602 (by decide) ?_
  refine lv_iadd hx hb dL_law_603 ?_
  refine va_sld hx hb hX hbl hbA hS y2 dL_law_604 ?_
  refine tg_top e2.symm ?_
  refine lv_aload_n hx hb dL_law_605 rfl (lv_at hl 0 rfl) ?_
  refine lv_iload_n hx hb dL_law_606 rfl (lv_at hl 3 rfl) ?_
  refine lv_iconst (v := 3) hx hb dL_law_607 (by decide) ?_
  refine lv_iadd hx hb dL_law_608 ?_
  refine va_sld hx hb hX hbl hbA hS y3 dL_law_609 ?_
  refine tg_top e3.symm ?_
  refine tg_cRi (va_runV (As := [.int a1, .int a2, .int a3]) (rest := []) ⟨hx, hb, hml, hown, hts⟩ (qX6_is l D cI cT ga ta shelf np ng cur tw a1 a2 a3 F v f6) (cwV 3 hts gL_law_X6_is rfl rfl rfl zVX6_is ⟨Nat.le_of_ble_eq_true rfl, Nat.le_of_ble_eq_true rfl⟩) (tg_preV (r := (RX6, TX6, 6)) (ci := 5) (q0 := 0) hG hKG hN rfl rfl) rfl rfl hl.1 rfl (lv_room (Nat.le_of_ble_eq_true rfl)) dL_law_610 ⟨hcc, hss⟩) ?_
  refine lv_aload_n hx hb dL_law_613 rfl (lv_at hl 2 rfl) ?_
  refine lv_aload_n hx hb dL_law_614 rfl (lv_at hl 0 rfl) ?_
  refine lv_iload_n hx hb dL_law_615 rfl (lv_at hl 3 rfl) ?_
  refine lv_iconst (v := 1) hx hb dL_law_616 (by decide) ?_
  refine lv_iadd hx hb dL_law_617 ?_
  refine va_sld hx hb hX hbl hbA hS y1 dL_law_618 ?_
  refine tg_top e1.symm ?_
  refine lv_aload_n hx hb dL_law_619 rfl (lv_at hl 0 rfl) ?_
  refine lv_iload_n hx hb dL_law_620 rfl (lv_at hl 3 rfl) ?_
  refine lv_iconst (v := 2) hx hb dL_law_621 (by decide) ?_
  refine lv_iadd hx hb dL_law_622 ?_
  refine va_sld hx hb hX hbl hbA hS y2 dL_law_623 ?_
  refine tg_top e2.symm ?_
  refine lv_aload_n hx hb dL_law_624 rfl (lv_at hl 0 rfl) ?_
  refine lv_iload_n hx hb dL_law_625 rfl (lv_at hl 3 rfl) ?_
  refine lv_iconst (v := 3) hx hb dL_law_626 (by decide) ?_
  refine lv_iadd hx hb dL_law_627 ?_
  refine va_sld hx hb hX hbl hbA hS y3 dL_law_628 ?_
  refine tg_top e3.symm ?_
  refine tg_cMi (va_runV (As := [.int a1, .int a2, .int a3]) (rest := [.int v]) ⟨hx, hb, hml, hown, hts⟩ (qX7_is l D cI cZ ad rn rmany image rturn rshelf rgroups inn now makers makerMany queue a1 a2 a3 F v j1 j2 j3 j4 j5 f7) (cwV 3 hts gL_law_X7_is rfl rfl rfl zVX7_is ⟨Nat.le_of_ble_eq_true rfl, Nat.le_of_ble_eq_true rfl⟩) (tg_preVM (r := (RX7, TX7, 11)) (ci := 6) (q0 := 0) hM (hDM _ rfl) hKM hN rfl rfl) rfl rfl hl.1 rfl (lv_room (Nat.le_of_ble_eq_true rfl)) dL_law_629 ⟨hcc, hss⟩) hS (tg_inA (hDM _ rfl)) (fun zH zlocs hf9 hM hS => ?_)
  have hG := tg_keep hG (lw_gm hXX) hf9
  refine lv_icmp_eq (tgt := 891) hx hb dL_law_632 (by decide) (fun _ => ?_) (fun h9 => absurd rfl h9)
  refine W.widen (k := cells + 1) (n := slots + 2) (by omega) (by omega) ?_
  exact kk _ _ ⟨_, _, _, _, _, _, _, _, _, _, _, _, _, _, _, _, hR, hG, hM⟩ hS
