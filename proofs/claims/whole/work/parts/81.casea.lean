set_option maxRecDepth 100000 in
set_option maxHeartbeats 4000000 in
theorem lwc_points {p : Program} {l : Launch} {e : Env} {s : State} {m : MethodId} {b : Nat} {below : List Frame} {meth : Method} {c : Code} {D : va_G} {zQ : State → Prop} {ga : Nat → Nat} {ta : Nat → Nat → Nat} {ad : Nat → Nat} {cI cT cZ : ClassId} {L : Nat} {xs : Nat → Int32} {F : Nat} (C0 : tg_C p s m meth c #[Value.ref b] cL_law RL wsL_law 4 D [(cI, .int), (cT, .object "TurnGroups$Tower"), (cZ, .boolean)]) (hX : va_X b L xs s s.heap) (hbl : b < s.heap.size) (hDs : lwD s ta ga ad) (hF : 50000 ≤ F) {i a1 a2 a3 : Int32} (hi : lwX i L xs a1 a2 a3) {cells slots : Nat} (hc1 : cells + 1 ≤ 600000) (hs1 : slots + 2 ≤ 7302250) {zH : Heap} {zlocs : List Loc} (hI : lwI D cI cT cZ ta ga ad zH) (hS : va_S (lwA s) s.heap zH zlocs) {zls : Array Slot} (hl : lv_has zls 4 [(0, .ref b), (1, .ref (ga 0)), (2, .ref (ad 0)), (3, .int i)]) (kk : ∀ (zH : Heap) (zlocs : List Loc), lwI D cI cT cZ ta ga ad zH → va_S (lwA s) s.heap zH zlocs → W p l e room_1 s m #[Value.ref b] below meth c zH zlocs (cells + 1) (slots + 2) zQ (F0 m 891 zls [])) : W p l e room_1 s m #[Value.ref b] below meth c zH zlocs cells slots zQ (F0 m 152 zls []) := by
  obtain ⟨hx, hb, hml, hown, hts, hK, hN⟩ := C0
  have hKG := hK.sub (tys' := [(cI, .int), (cT, .object "TurnGroups$Tower")]) [0, 1] rfl
  have hKM := hK.sub (tys' := [(cI, .int), (cZ, .boolean)]) [0, 2] rfl
  obtain ⟨hDG, hDM, hXX⟩ := hDs
  have hbA : ¬ lwA s b := Nat.not_le.mpr hbl
  obtain ⟨y1, e1, y2, e2, y3, e3⟩ := hi
  obtain ⟨shelf, np, ng, cur, tw, rn, rmany, image, rturn, rshelf, rgroups, inn, now, makers, makerMany, queue, hR, hG, hM⟩ := hI
  have hcc : cells + 0 ≤ 600000 := by omega
  have hss : slots + 0 ≤ 7302250 := by omega
  obtain ⟨v, s1, p1, g1, c1, n1, m1, i1, t1, s2, g2, f6, f7, hR⟩ := call_points hF hR a1
  refine lv_aload_n hx hb dL_law_152 rfl (lv_at hl 1 rfl) ?_
  refine lv_aload_n hx hb dL_law_153 rfl (lv_at hl 0 rfl) ?_
  refine lv_iload_n hx hb dL_law_154 rfl (lv_at hl 3 rfl) ?_
  refine lv_iconst (v := 1) hx hb dL_law_155 (by decide) ?_
  refine lv_iadd hx hb dL_law_156 ?_
  refine va_sld hx hb hX hbl hbA hS y1 dL_law_157 ?_
  refine tg_top e1.symm ?_
  refine tg_cMi (va_runV (As := [.int a1]) (rest := []) ⟨hx, hb, hml, hown, hts⟩ (qX6_points l D cI cT ga ta shelf np ng cur tw a1 F v s1 p1 g1 c1 f6) (cwV 1 hts gL_law_X6_points rfl rfl rfl zVX6_points ⟨Nat.le_of_ble_eq_true rfl, Nat.le_of_ble_eq_true rfl⟩) (tg_preVM (r := (RX6, TX6, 6)) (ci := 5) (q0 := 0) hG (hDG _ wG_ad) hKG hN rfl rfl) rfl rfl hl.1 rfl (lv_room (Nat.le_of_ble_eq_true rfl)) dL_law_158 ⟨hcc, hss⟩) hS (tg_inA (hDG _ wG_ad)) (fun zH zlocs hf9 hG hS => ?_)
  have hM := tg_keep hM (lw_mg hXX) hf9
  refine lv_aload_n hx hb dL_law_161 rfl (lv_at hl 2 rfl) ?_
  refine lv_aload_n hx hb dL_law_162 rfl (lv_at hl 0 rfl) ?_
  refine lv_iload_n hx hb dL_law_163 rfl (lv_at hl 3 rfl) ?_
  refine lv_iconst (v := 1) hx hb dL_law_164 (by decide) ?_
  refine lv_iadd hx hb dL_law_165 ?_
  refine va_sld hx hb hX hbl hbA hS y1 dL_law_166 ?_
  refine tg_top e1.symm ?_
  refine tg_cMi (va_runV (As := [.int a1]) (rest := [.int v]) ⟨hx, hb, hml, hown, hts⟩ (qX7_points l D cI cZ ad rn rmany image rturn rshelf rgroups inn now makers makerMany queue a1 F v n1 m1 i1 t1 s2 g2 f7) (cwV 1 hts gL_law_X7_points rfl rfl rfl zVX7_points ⟨Nat.le_of_ble_eq_true rfl, Nat.le_of_ble_eq_true rfl⟩) (tg_preVM (r := (RX7, TX7, 11)) (ci := 6) (q0 := 0) hM (hDM _ rfl) hKM hN rfl rfl) rfl rfl hl.1 rfl (lv_room (Nat.le_of_ble_eq_true rfl)) dL_law_167 ⟨hcc, hss⟩) hS (tg_inA (hDM _ rfl)) (fun zH zlocs hf9 hM hS => ?_)
  have hG := tg_keep hG (lw_gm hXX) hf9
  refine lv_icmp_eq (tgt := 891) hx hb dL_law_170 (by decide) (fun _ => ?_) (fun h9 => absurd rfl h9)
  refine W.widen (k := cells + 1) (n := slots + 2) (by omega) (by omega) ?_
  exact kk _ _ ⟨_, _, _, _, _, _, _, _, _, _, _, _, _, _, _, _, hR, hG, hM⟩ hS
set_option maxRecDepth 100000 in
set_option maxHeartbeats 4000000 in
theorem lwc_turn {p : Program} {l : Launch} {e : Env} {s : State} {m : MethodId} {b : Nat} {below : List Frame} {meth : Method} {c : Code} {D : va_G} {zQ : State → Prop} {ga : Nat → Nat} {ta : Nat → Nat → Nat} {ad : Nat → Nat} {cI cT cZ : ClassId} {L : Nat} {xs : Nat → Int32} {F : Nat} (C0 : tg_C p s m meth c #[Value.ref b] cL_law RL wsL_law 4 D [(cI, .int), (cT, .object "TurnGroups$Tower"), (cZ, .boolean)]) (hX : va_X b L xs s s.heap) (hbl : b < s.heap.size) (hDs : lwD s ta ga ad) (hF : 50000 ≤ F) {i a1 a2 a3 : Int32} (hi : lwX i L xs a1 a2 a3) {cells slots : Nat} (hc1 : cells + 1 ≤ 600000) (hs1 : slots + 2 ≤ 7302250) {zH : Heap} {zlocs : List Loc} (hI : lwI D cI cT cZ ta ga ad zH) (hS : va_S (lwA s) s.heap zH zlocs) {zls : Array Slot} (hl : lv_has zls 4 [(0, .ref b), (1, .ref (ga 0)), (2, .ref (ad 0)), (3, .int i)]) (kk : ∀ (zH : Heap) (zlocs : List Loc), lwI D cI cT cZ ta ga ad zH → va_S (lwA s) s.heap zH zlocs → W p l e room_1 s m #[Value.ref b] below meth c zH zlocs (cells + 1) (slots + 2) zQ (F0 m 891 zls [])) : W p l e room_1 s m #[Value.ref b] below meth c zH zlocs cells slots zQ (F0 m 175 zls []) := by
  obtain ⟨hx, hb, hml, hown, hts, hK, hN⟩ := C0
  have hKG := hK.sub (tys' := [(cI, .int), (cT, .object "TurnGroups$Tower")]) [0, 1] rfl
  have hKM := hK.sub (tys' := [(cI, .int), (cZ, .boolean)]) [0, 2] rfl
  obtain ⟨hDG, hDM, hXX⟩ := hDs
  have hbA : ¬ lwA s b := Nat.not_le.mpr hbl
  obtain ⟨y1, e1, y2, e2, y3, e3⟩ := hi
  obtain ⟨shelf, np, ng, cur, tw, rn, rmany, image, rturn, rshelf, rgroups, inn, now, makers, makerMany, queue, hR, hG, hM⟩ := hI
  have hcc : cells + 0 ≤ 600000 := by omega
  have hss : slots + 0 ≤ 7302250 := by omega
  obtain ⟨v, c1, t1, now1, f6, f7, hR⟩ := call_turn hF hR now ((Int32.toInt64 a1 <<< (Int32.toInt64 32 &&& 63)) ||| (Int32.toInt64 a2 &&& 4294967295))
  refine lv_aload_n hx hb dL_law_175 rfl (lv_at hl 1 rfl) ?_
  refine lv_aload_n hx hb dL_law_176 rfl (lv_at hl 0 rfl) ?_
  refine lv_iload_n hx hb dL_law_177 rfl (lv_at hl 3 rfl) ?_
  refine lv_iconst (v := 1) hx hb dL_law_178 (by decide) ?_
  refine lv_iadd hx hb dL_law_179 ?_
  refine va_sld hx hb hX hbl hbA hS y1 dL_law_180 ?_
  refine tg_top e1.symm ?_
  refine lv_i2l (v := Int32.toInt64 a1) hx hb dL_law_181 rfl ?_
  refine lv_bipush (v := 32) hx hb dL_law_182 (by decide) ?_
  refine lv_lshl (v := Int32.toInt64 a1 <<< (Int32.toInt64 32 &&& 63)) hx hb dL_law_184 rfl ?_
  refine lv_aload_n hx hb dL_law_185 rfl (lv_at hl 0 rfl) ?_
  refine lv_iload_n hx hb dL_law_186 rfl (lv_at hl 3 rfl) ?_
  refine lv_iconst (v := 2) hx hb dL_law_187 (by decide) ?_
  refine lv_iadd hx hb dL_law_188 ?_
  refine va_sld hx hb hX hbl hbA hS y2 dL_law_189 ?_
  refine tg_top e2.symm ?_
  refine lv_i2l (v := Int32.toInt64 a2) hx hb dL_law_190 rfl ?_
  refine lv_ldc2 hx hb hown (hts _ kL_18) dL_law_191 ?_
  refine lv_land hx hb dL_law_194 ?_
  refine lv_lor hx hb dL_law_195 ?_
  refine tg_cMi (va_runV (As := [.long ((Int32.toInt64 a1 <<< (Int32.toInt64 32 &&& 63)) ||| (Int32.toInt64 a2 &&& 4294967295))]) (rest := []) ⟨hx, hb, hml, hown, hts⟩ (qX6_turn l D cI cT ga ta shelf np ng cur tw ((Int32.toInt64 a1 <<< (Int32.toInt64 32 &&& 63)) ||| (Int32.toInt64 a2 &&& 4294967295)) F v c1 f6) (cwV 1 hts gL_law_X6_turn rfl rfl rfl zVX6_turn ⟨Nat.le_of_ble_eq_true rfl, Nat.le_of_ble_eq_true rfl⟩) (tg_preVM (r := (RX6, TX6, 6)) (ci := 5) (q0 := 0) hG (hDG _ wG_ad) hKG hN rfl rfl) rfl rfl hl.1 rfl (lv_room (Nat.le_of_ble_eq_true rfl)) dL_law_196 ⟨hcc, hss⟩) hS (tg_inA (hDG _ wG_ad)) (fun zH zlocs hf9 hG hS => ?_)
  have hM := tg_keep hM (lw_mg hXX) hf9
  refine lv_aload_n hx hb dL_law_199 rfl (lv_at hl 2 rfl) ?_
  refine lv_aload_n hx hb dL_law_200 rfl (lv_at hl 0 rfl) ?_
  refine lv_iload_n hx hb dL_law_201 rfl (lv_at hl 3 rfl) ?_
  refine lv_iconst (v := 1) hx hb dL_law_202 (by decide) ?_
  refine lv_iadd hx hb dL_law_203 ?_
  refine va_sld hx hb hX hbl hbA hS y1 dL_law_204 ?_
  refine tg_top e1.symm ?_
  refine lv_i2l (v := Int32.toInt64 a1) hx hb dL_law_205 rfl ?_
  refine lv_bipush (v := 32) hx hb dL_law_206 (by decide) ?_
  refine lv_lshl (v := Int32.toInt64 a1 <<< (Int32.toInt64 32 &&& 63)) hx hb dL_law_208 rfl ?_
  refine lv_aload_n hx hb dL_law_209 rfl (lv_at hl 0 rfl) ?_
  refine lv_iload_n hx hb dL_law_210 rfl (lv_at hl 3 rfl) ?_
  refine lv_iconst (v := 2) hx hb dL_law_211 (by decide) ?_
  refine lv_iadd hx hb dL_law_212 ?_
  refine va_sld hx hb hX hbl hbA hS y2 dL_law_213 ?_
  refine tg_top e2.symm ?_
  refine lv_i2l (v := Int32.toInt64 a2) hx hb dL_law_214 rfl ?_
  refine lv_ldc2 hx hb hown (hts _ kL_18) dL_law_215 ?_
  refine lv_land hx hb dL_law_218 ?_
  refine lv_lor hx hb dL_law_219 ?_
  refine tg_cMi (va_runV (As := [.long ((Int32.toInt64 a1 <<< (Int32.toInt64 32 &&& 63)) ||| (Int32.toInt64 a2 &&& 4294967295))]) (rest := [.int v]) ⟨hx, hb, hml, hown, hts⟩ (qX7_turn l D cI cZ ad rn rmany image rturn rshelf rgroups inn now makers makerMany queue ((Int32.toInt64 a1 <<< (Int32.toInt64 32 &&& 63)) ||| (Int32.toInt64 a2 &&& 4294967295)) F v t1 now1 f7) (cwV 1 hts gL_law_X7_turn rfl rfl rfl zVX7_turn ⟨Nat.le_of_ble_eq_true rfl, Nat.le_of_ble_eq_true rfl⟩) (tg_preVM (r := (RX7, TX7, 11)) (ci := 6) (q0 := 0) hM (hDM _ rfl) hKM hN rfl rfl) rfl rfl hl.1 rfl (lv_room (Nat.le_of_ble_eq_true rfl)) dL_law_220 ⟨hcc, hss⟩) hS (tg_inA (hDM _ rfl)) (fun zH zlocs hf9 hM hS => ?_)
  have hG := tg_keep hG (lw_gm hXX) hf9
  refine lv_icmp_eq (tgt := 891) hx hb dL_law_223 (by decide) (fun _ => ?_) (fun h9 => absurd rfl h9)
  refine W.widen (k := cells + 1) (n := slots + 2) (by omega) (by omega) ?_
  exact kk _ _ ⟨_, _, _, _, _, _, _, _, _, _, _, _, _, _, _, _, hR, hG, hM⟩ hS
set_option maxRecDepth 100000 in
set_option maxHeartbeats 4000000 in
theorem lwc_told {p : Program} {l : Launch} {e : Env} {s : State} {m : MethodId} {b : Nat} {below : List Frame} {meth : Method} {c : Code} {D : va_G} {zQ : State → Prop} {ga : Nat → Nat} {ta : Nat → Nat → Nat} {ad : Nat → Nat} {cI cT cZ : ClassId} {L : Nat} {xs : Nat → Int32} {F : Nat} (C0 : tg_C p s m meth c #[Value.ref b] cL_law RL wsL_law 4 D [(cI, .int), (cT, .object "TurnGroups$Tower"), (cZ, .boolean)]) (hX : va_X b L xs s s.heap) (hbl : b < s.heap.size) (hDs : lwD s ta ga ad) (hF : 50000 ≤ F) {i a1 a2 a3 : Int32} (hi : lwX i L xs a1 a2 a3) {cells slots : Nat} (hc1 : cells + 1 ≤ 600000) (hs1 : slots + 2 ≤ 7302250) {zH : Heap} {zlocs : List Loc} (hI : lwI D cI cT cZ ta ga ad zH) (hS : va_S (lwA s) s.heap zH zlocs) {zls : Array Slot} (hl : lv_has zls 4 [(0, .ref b), (1, .ref (ga 0)), (2, .ref (ad 0)), (3, .int i)]) (kk : ∀ (zH : Heap) (zlocs : List Loc), lwI D cI cT cZ ta ga ad zH → va_S (lwA s) s.heap zH zlocs → W p l e room_1 s m #[Value.ref b] below meth c zH zlocs (cells + 1) (slots + 2) zQ (F0 m 891 zls [])) : W p l e room_1 s m #[Value.ref b] below meth c zH zlocs cells slots zQ (F0 m 228 zls []) := by
  obtain ⟨hx, hb, hml, hown, hts, hK, hN⟩ := C0
  have hKG := hK.sub (tys' := [(cI, .int), (cT, .object "TurnGroups$Tower")]) [0, 1] rfl
  have hKM := hK.sub (tys' := [(cI, .int), (cZ, .boolean)]) [0, 2] rfl
  obtain ⟨hDG, hDM, hXX⟩ := hDs
  have hbA : ¬ lwA s b := Nat.not_le.mpr hbl
  obtain ⟨y1, e1, y2, e2, y3, e3⟩ := hi
  obtain ⟨shelf, np, ng, cur, tw, rn, rmany, image, rturn, rshelf, rgroups, inn, now, makers, makerMany, queue, hR, hG, hM⟩ := hI
  have hcc : cells + 0 ≤ 600000 := by omega
  have hss : slots + 0 ≤ 7302250 := by omega
  obtain ⟨v, f6, f7⟩ := call_told hF hR
  refine lv_aload_n hx hb dL_law_228 rfl (lv_at hl 1 rfl) ?_
  refine tg_cRl (va_runV (As := []) (rest := []) ⟨hx, hb, hml, hown, hts⟩ (qX6_told l D cI cT ga ta shelf np ng cur tw v f6) (cwV 0 hts gL_law_X6_told rfl rfl rfl zVX6_told ⟨Nat.le_of_ble_eq_true rfl, Nat.le_of_ble_eq_true rfl⟩) (tg_preV (r := (RX6, TX6, 6)) (ci := 5) (q0 := 0) hG hKG hN rfl rfl) rfl rfl hl.1 rfl (lv_room (Nat.le_of_ble_eq_true rfl)) dL_law_229 ⟨hcc, hss⟩) ?_
  refine lv_aload_n hx hb dL_law_232 rfl (lv_at hl 2 rfl) ?_
  refine tg_cRl (va_runV (As := []) (rest := [.long v]) ⟨hx, hb, hml, hown, hts⟩ (qX7_told l D cI cZ ad rn rmany image rturn rshelf rgroups inn now makers makerMany queue F v f7) (cwV 0 hts gL_law_X7_told rfl rfl rfl zVX7_told ⟨Nat.le_of_ble_eq_true rfl, Nat.le_of_ble_eq_true rfl⟩) (tg_preV (r := (RX7, TX7, 11)) (ci := 6) (q0 := 0) hM hKM hN rfl rfl) rfl rfl hl.1 rfl (lv_room (Nat.le_of_ble_eq_true rfl)) dL_law_233 ⟨hcc, hss⟩) ?_
  refine W.lcmp hx hb dL_law_236 ?_
  refine tg_top (lw_cmp v).symm ?_
  refine lv_if_eq (tgt := 891) hx hb dL_law_237 (by decide) (fun _ => ?_) (fun h9 => absurd rfl h9)
  refine W.widen (k := cells + 1) (n := slots + 2) (by omega) (by omega) ?_
  exact kk _ _ ⟨_, _, _, _, _, _, _, _, _, _, _, _, _, _, _, _, hR, hG, hM⟩ hS
set_option maxRecDepth 100000 in
set_option maxHeartbeats 4000000 in
theorem lwc_to {p : Program} {l : Launch} {e : Env} {s : State} {m : MethodId} {b : Nat} {below : List Frame} {meth : Method} {c : Code} {D : va_G} {zQ : State → Prop} {ga : Nat → Nat} {ta : Nat → Nat → Nat} {ad : Nat → Nat} {cI cT cZ : ClassId} {L : Nat} {xs : Nat → Int32} {F : Nat} (C0 : tg_C p s m meth c #[Value.ref b] cL_law RL wsL_law 4 D [(cI, .int), (cT, .object "TurnGroups$Tower"), (cZ, .boolean)]) (hX : va_X b L xs s s.heap) (hbl : b < s.heap.size) (hDs : lwD s ta ga ad) (hF : 50000 ≤ F) {i a1 a2 a3 : Int32} (hi : lwX i L xs a1 a2 a3) {cells slots : Nat} (hc1 : cells + 1 ≤ 600000) (hs1 : slots + 2 ≤ 7302250) {zH : Heap} {zlocs : List Loc} (hI : lwI D cI cT cZ ta ga ad zH) (hS : va_S (lwA s) s.heap zH zlocs) {zls : Array Slot} (hl : lv_has zls 4 [(0, .ref b), (1, .ref (ga 0)), (2, .ref (ad 0)), (3, .int i)]) (kk : ∀ (zH : Heap) (zlocs : List Loc), lwI D cI cT cZ ta ga ad zH → va_S (lwA s) s.heap zH zlocs → W p l e room_1 s m #[Value.ref b] below meth c zH zlocs (cells + 1) (slots + 2) zQ (F0 m 891 zls [])) : W p l e room_1 s m #[Value.ref b] below meth c zH zlocs cells slots zQ (F0 m 242 zls []) := by
  obtain ⟨hx, hb, hml, hown, hts, hK, hN⟩ := C0
  have hKG := hK.sub (tys' := [(cI, .int), (cT, .object "TurnGroups$Tower")]) [0, 1] rfl
  have hKM := hK.sub (tys' := [(cI, .int), (cZ, .boolean)]) [0, 2] rfl
  obtain ⟨hDG, hDM, hXX⟩ := hDs
  have hbA : ¬ lwA s b := Nat.not_le.mpr hbl
  obtain ⟨y1, e1, y2, e2, y3, e3⟩ := hi
  obtain ⟨shelf, np, ng, cur, tw, rn, rmany, image, rturn, rshelf, rgroups, inn, now, makers, makerMany, queue, hR, hG, hM⟩ := hI
  have hcc : cells + 0 ≤ 600000 := by omega
  have hss : slots + 0 ≤ 7302250 := by omega
  obtain ⟨v, f6, f7⟩ := call_to hR a1
  refine lv_aload_n hx hb dL_law_242 rfl (lv_at hl 1 rfl) ?_
  refine lv_aload_n hx hb dL_law_243 rfl (lv_at hl 0 rfl) ?_
  refine lv_iload_n hx hb dL_law_244 rfl (lv_at hl 3 rfl) ?_
  refine lv_iconst (v := 1) hx hb dL_law_245 (by decide) ?_
  refine lv_iadd hx hb dL_law_246 ?_
  refine va_sld hx hb hX hbl hbA hS y1 dL_law_247 ?_
  refine tg_top e1.symm ?_
  refine tg_cRi (va_runV (As := [.int a1]) (rest := []) ⟨hx, hb, hml, hown, hts⟩ (qX6_to l D cI cT ga ta shelf np ng cur tw a1 v f6) (cwV 1 hts gL_law_X6_to rfl rfl rfl zVX6_to ⟨Nat.le_of_ble_eq_true rfl, Nat.le_of_ble_eq_true rfl⟩) (tg_preV (r := (RX6, TX6, 6)) (ci := 5) (q0 := 0) hG hKG hN rfl rfl) rfl rfl hl.1 rfl (lv_room (Nat.le_of_ble_eq_true rfl)) dL_law_248 ⟨hcc, hss⟩) ?_
  refine lv_aload_n hx hb dL_law_251 rfl (lv_at hl 2 rfl) ?_
  refine lv_aload_n hx hb dL_law_252 rfl (lv_at hl 0 rfl) ?_
  refine lv_iload_n hx hb dL_law_253 rfl (lv_at hl 3 rfl) ?_
  refine lv_iconst (v := 1) hx hb dL_law_254 (by decide) ?_
  refine lv_iadd hx hb dL_law_255 ?_
  refine va_sld hx hb hX hbl hbA hS y1 dL_law_256 ?_
  refine tg_top e1.symm ?_
  refine tg_cRi (va_runV (As := [.int a1]) (rest := [.int v]) ⟨hx, hb, hml, hown, hts⟩ (qX7_to l D cI cZ ad rn rmany image rturn rshelf rgroups inn now makers makerMany queue a1 v f7) (cwV 1 hts gL_law_X7_to rfl rfl rfl zVX7_to ⟨Nat.le_of_ble_eq_true rfl, Nat.le_of_ble_eq_true rfl⟩) (tg_preV (r := (RX7, TX7, 11)) (ci := 6) (q0 := 0) hM hKM hN rfl rfl) rfl rfl hl.1 rfl (lv_room (Nat.le_of_ble_eq_true rfl)) dL_law_257 ⟨hcc, hss⟩) ?_
  refine lv_icmp_eq (tgt := 891) hx hb dL_law_260 (by decide) (fun _ => ?_) (fun h9 => absurd rfl h9)
  refine W.widen (k := cells + 1) (n := slots + 2) (by omega) (by omega) ?_
  exact kk _ _ ⟨_, _, _, _, _, _, _, _, _, _, _, _, _, _, _, _, hR, hG, hM⟩ hS
set_option maxRecDepth 100000 in
set_option maxHeartbeats 4000000 in
theorem lwc_lay {p : Program} {l : Launch} {e : Env} {s : State} {m : MethodId} {b : Nat} {below : List Frame} {meth : Method} {c : Code} {D : va_G} {zQ : State → Prop} {ga : Nat → Nat} {ta : Nat → Nat → Nat} {ad : Nat → Nat} {cI cT cZ : ClassId} {L : Nat} {xs : Nat → Int32} {F : Nat} (C0 : tg_C p s m meth c #[Value.ref b] cL_law RL wsL_law 4 D [(cI, .int), (cT, .object "TurnGroups$Tower"), (cZ, .boolean)]) (hX : va_X b L xs s s.heap) (hbl : b < s.heap.size) (hDs : lwD s ta ga ad) (hF : 50000 ≤ F) {i a1 a2 a3 : Int32} (hi : lwX i L xs a1 a2 a3) {cells slots : Nat} (hc1 : cells + 1 ≤ 600000) (hs1 : slots + 2 ≤ 7302250) {zH : Heap} {zlocs : List Loc} (hI : lwI D cI cT cZ ta ga ad zH) (hS : va_S (lwA s) s.heap zH zlocs) {zls : Array Slot} (hl : lv_has zls 4 [(0, .ref b), (1, .ref (ga 0)), (2, .ref (ad 0)), (3, .int i)]) (kk : ∀ (zH : Heap) (zlocs : List Loc), lwI D cI cT cZ ta ga ad zH → va_S (lwA s) s.heap zH zlocs → W p l e room_1 s m #[Value.ref b] below meth c zH zlocs (cells + 1) (slots + 2) zQ (F0 m 891 zls [])) : W p l e room_1 s m #[Value.ref b] below meth c zH zlocs cells slots zQ (F0 m 265 zls []) := by
  obtain ⟨hx, hb, hml, hown, hts, hK, hN⟩ := C0
  have hKG := hK.sub (tys' := [(cI, .int), (cT, .object "TurnGroups$Tower")]) [0, 1] rfl
  have hKM := hK.sub (tys' := [(cI, .int), (cZ, .boolean)]) [0, 2] rfl
  obtain ⟨hDG, hDM, hXX⟩ := hDs
  have hbA : ¬ lwA s b := Nat.not_le.mpr hbl
  obtain ⟨y1, e1, y2, e2, y3, e3⟩ := hi
  obtain ⟨shelf, np, ng, cur, tw, rn, rmany, image, rturn, rshelf, rgroups, inn, now, makers, makerMany, queue, hR, hG, hM⟩ := hI
  have hcc : cells + 0 ≤ 600000 := by omega
  have hss : slots + 0 ≤ 7302250 := by omega
  obtain ⟨v, s1, s2, f6, f7, hR⟩ := call_lay hR a1
  refine lv_aload_n hx hb dL_law_265 rfl (lv_at hl 1 rfl) ?_
  refine lv_aload_n hx hb dL_law_266 rfl (lv_at hl 0 rfl) ?_
  refine lv_iload_n hx hb dL_law_267 rfl (lv_at hl 3 rfl) ?_
  refine lv_iconst (v := 1) hx hb dL_law_268 (by decide) ?_
  refine lv_iadd hx hb dL_law_269 ?_
  refine va_sld hx hb hX hbl hbA hS y1 dL_law_270 ?_
  refine tg_top e1.symm ?_
  refine tg_cMi (va_runV (As := [.int a1]) (rest := []) ⟨hx, hb, hml, hown, hts⟩ (qX6_lay l D cI cT ga ta shelf np ng cur tw a1 v s1 f6) (cwV 1 hts gL_law_X6_lay rfl rfl rfl zVX6_lay ⟨Nat.le_of_ble_eq_true rfl, Nat.le_of_ble_eq_true rfl⟩) (tg_preVM (r := (RX6, TX6, 6)) (ci := 5) (q0 := 0) hG (hDG _ wG_ad) hKG hN rfl rfl) rfl rfl hl.1 rfl (lv_room (Nat.le_of_ble_eq_true rfl)) dL_law_271 ⟨hcc, hss⟩) hS (tg_inA (hDG _ wG_ad)) (fun zH zlocs hf9 hG hS => ?_)
  have hM := tg_keep hM (lw_mg hXX) hf9
  refine lv_aload_n hx hb dL_law_274 rfl (lv_at hl 2 rfl) ?_
  refine lv_aload_n hx hb dL_law_275 rfl (lv_at hl 0 rfl) ?_
  refine lv_iload_n hx hb dL_law_276 rfl (lv_at hl 3 rfl) ?_
  refine lv_iconst (v := 1) hx hb dL_law_277 (by decide) ?_
  refine lv_iadd hx hb dL_law_278 ?_
  refine va_sld hx hb hX hbl hbA hS y1 dL_law_279 ?_
  refine tg_top e1.symm ?_
  refine tg_cMi (va_runV (As := [.int a1]) (rest := [.int v]) ⟨hx, hb, hml, hown, hts⟩ (qX7_lay l D cI cZ ad rn rmany image rturn rshelf rgroups inn now makers makerMany queue a1 v s2 f7) (cwV 1 hts gL_law_X7_lay rfl rfl rfl zVX7_lay ⟨Nat.le_of_ble_eq_true rfl, Nat.le_of_ble_eq_true rfl⟩) (tg_preVM (r := (RX7, TX7, 11)) (ci := 6) (q0 := 0) hM (hDM _ rfl) hKM hN rfl rfl) rfl rfl hl.1 rfl (lv_room (Nat.le_of_ble_eq_true rfl)) dL_law_280 ⟨hcc, hss⟩) hS (tg_inA (hDM _ rfl)) (fun zH zlocs hf9 hM hS => ?_)
  have hG := tg_keep hG (lw_gm hXX) hf9
  refine lv_icmp_eq (tgt := 891) hx hb dL_law_283 (by decide) (fun _ => ?_) (fun h9 => absurd rfl h9)
  refine W.widen (k := cells + 1) (n := slots + 2) (by omega) (by omega) ?_
  exact kk _ _ ⟨_, _, _, _, _, _, _, _, _, _, _, _, _, _, _, _, hR, hG, hM⟩ hS
set_option maxRecDepth 100000 in
set_option maxHeartbeats 4000000 in
theorem lwc_take {p : Program} {l : Launch} {e : Env} {s : State} {m : MethodId} {b : Nat} {below : List Frame} {meth : Method} {c : Code} {D : va_G} {zQ : State → Prop} {ga : Nat → Nat} {ta : Nat → Nat → Nat} {ad : Nat → Nat} {cI cT cZ : ClassId} {L : Nat} {xs : Nat → Int32} {F : Nat} (C0 : tg_C p s m meth c #[Value.ref b] cL_law RL wsL_law 4 D [(cI, .int), (cT, .object "TurnGroups$Tower"), (cZ, .boolean)]) (hX : va_X b L xs s s.heap) (hbl : b < s.heap.size) (hDs : lwD s ta ga ad) (hF : 50000 ≤ F) {i a1 a2 a3 : Int32} (hi : lwX i L xs a1 a2 a3) {cells slots : Nat} (hc1 : cells + 1 ≤ 600000) (hs1 : slots + 2 ≤ 7302250) {zH : Heap} {zlocs : List Loc} (hI : lwI D cI cT cZ ta ga ad zH) (hS : va_S (lwA s) s.heap zH zlocs) {zls : Array Slot} (hl : lv_has zls 4 [(0, .ref b), (1, .ref (ga 0)), (2, .ref (ad 0)), (3, .int i)]) (kk : ∀ (zH : Heap) (zlocs : List Loc), lwI D cI cT cZ ta ga ad zH → va_S (lwA s) s.heap zH zlocs → W p l e room_1 s m #[Value.ref b] below meth c zH zlocs (cells + 1) (slots + 2) zQ (F0 m 891 zls [])) : W p l e room_1 s m #[Value.ref b] below meth c zH zlocs cells slots zQ (F0 m 288 zls []) := by
  obtain ⟨hx, hb, hml, hown, hts, hK, hN⟩ := C0
  have hKG := hK.sub (tys' := [(cI, .int), (cT, .object "TurnGroups$Tower")]) [0, 1] rfl
  have hKM := hK.sub (tys' := [(cI, .int), (cZ, .boolean)]) [0, 2] rfl
  obtain ⟨hDG, hDM, hXX⟩ := hDs
  have hbA : ¬ lwA s b := Nat.not_le.mpr hbl
  obtain ⟨y1, e1, y2, e2, y3, e3⟩ := hi
  obtain ⟨shelf, np, ng, cur, tw, rn, rmany, image, rturn, rshelf, rgroups, inn, now, makers, makerMany, queue, hR, hG, hM⟩ := hI
  have hcc : cells + 0 ≤ 600000 := by omega
  have hss : slots + 0 ≤ 7302250 := by omega
  obtain ⟨v, c1, t1, f6, f7, hR⟩ := call_take hR a1
  refine lv_aload_n hx hb dL_law_288 rfl (lv_at hl 1 rfl) ?_
  refine lv_aload_n hx hb dL_law_289 rfl (lv_at hl 0 rfl) ?_
  refine lv_iload_n hx hb dL_law_290 rfl (lv_at hl 3 rfl) ?_
  refine lv_iconst (v := 1) hx hb dL_law_291 (by decide) ?_
  refine lv_iadd hx hb dL_law_292 ?_
  refine va_sld hx hb hX hbl hbA hS y1 dL_law_293 ?_
  refine tg_top e1.symm ?_
  refine tg_cMi (va_runV (As := [.int a1]) (rest := []) ⟨hx, hb, hml, hown, hts⟩ (qX6_take l D cI cT ga ta shelf np ng cur tw a1 v c1 f6) (cwV 1 hts gL_law_X6_take rfl rfl rfl zVX6_take ⟨Nat.le_of_ble_eq_true rfl, Nat.le_of_ble_eq_true rfl⟩) (tg_preVM (r := (RX6, TX6, 6)) (ci := 5) (q0 := 0) hG (hDG _ wG_ad) hKG hN rfl rfl) rfl rfl hl.1 rfl (lv_room (Nat.le_of_ble_eq_true rfl)) dL_law_294 ⟨hcc, hss⟩) hS (tg_inA (hDG _ wG_ad)) (fun zH zlocs hf9 hG hS => ?_)
  have hM := tg_keep hM (lw_mg hXX) hf9
  refine lv_aload_n hx hb dL_law_297 rfl (lv_at hl 2 rfl) ?_
  refine lv_aload_n hx hb dL_law_298 rfl (lv_at hl 0 rfl) ?_
  refine lv_iload_n hx hb dL_law_299 rfl (lv_at hl 3 rfl) ?_
  refine lv_iconst (v := 1) hx hb dL_law_300 (by decide) ?_
  refine lv_iadd hx hb dL_law_301 ?_
  refine va_sld hx hb hX hbl hbA hS y1 dL_law_302 ?_
  refine tg_top e1.symm ?_
  refine tg_cMi (va_runV (As := [.int a1]) (rest := [.int v]) ⟨hx, hb, hml, hown, hts⟩ (qX7_take l D cI cZ ad rn rmany image rturn rshelf rgroups inn now makers makerMany queue a1 v t1 f7) (cwV 1 hts gL_law_X7_take rfl rfl rfl zVX7_take ⟨Nat.le_of_ble_eq_true rfl, Nat.le_of_ble_eq_true rfl⟩) (tg_preVM (r := (RX7, TX7, 11)) (ci := 6) (q0 := 0) hM (hDM _ rfl) hKM hN rfl rfl) rfl rfl hl.1 rfl (lv_room (Nat.le_of_ble_eq_true rfl)) dL_law_303 ⟨hcc, hss⟩) hS (tg_inA (hDM _ rfl)) (fun zH zlocs hf9 hM hS => ?_)
  have hG := tg_keep hG (lw_gm hXX) hf9
  refine lv_icmp_eq (tgt := 891) hx hb dL_law_306 (by decide) (fun _ => ?_) (fun h9 => absurd rfl h9)
  refine W.widen (k := cells + 1) (n := slots + 2) (by omega) (by omega) ?_
  exact kk _ _ ⟨_, _, _, _, _, _, _, _, _, _, _, _, _, _, _, _, hR, hG, hM⟩ hS
set_option maxRecDepth 100000 in
set_option maxHeartbeats 4000000 in
theorem lwc_then {p : Program} {l : Launch} {e : Env} {s : State} {m : MethodId} {b : Nat} {below : List Frame} {meth : Method} {c : Code} {D : va_G} {zQ : State → Prop} {ga : Nat → Nat} {ta : Nat → Nat → Nat} {ad : Nat → Nat} {cI cT cZ : ClassId} {L : Nat} {xs : Nat → Int32} {F : Nat} (C0 : tg_C p s m meth c #[Value.ref b] cL_law RL wsL_law 4 D [(cI, .int), (cT, .object "TurnGroups$Tower"), (cZ, .boolean)]) (hX : va_X b L xs s s.heap) (hbl : b < s.heap.size) (hDs : lwD s ta ga ad) (hF : 50000 ≤ F) {i a1 a2 a3 : Int32} (hi : lwX i L xs a1 a2 a3) {cells slots : Nat} (hc1 : cells + 1 ≤ 600000) (hs1 : slots + 2 ≤ 7302250) {zH : Heap} {zlocs : List Loc} (hI : lwI D cI cT cZ ta ga ad zH) (hS : va_S (lwA s) s.heap zH zlocs) {zls : Array Slot} (hl : lv_has zls 4 [(0, .ref b), (1, .ref (ga 0)), (2, .ref (ad 0)), (3, .int i)]) (kk : ∀ (zH : Heap) (zlocs : List Loc), lwI D cI cT cZ ta ga ad zH → va_S (lwA s) s.heap zH zlocs → W p l e room_1 s m #[Value.ref b] below meth c zH zlocs (cells + 1) (slots + 2) zQ (F0 m 891 zls [])) : W p l e room_1 s m #[Value.ref b] below meth c zH zlocs cells slots zQ (F0 m 311 zls []) := by
  obtain ⟨hx, hb, hml, hown, hts, hK, hN⟩ := C0
  have hKG := hK.sub (tys' := [(cI, .int), (cT, .object "TurnGroups$Tower")]) [0, 1] rfl
  have hKM := hK.sub (tys' := [(cI, .int), (cZ, .boolean)]) [0, 2] rfl
  obtain ⟨hDG, hDM, hXX⟩ := hDs
  have hbA : ¬ lwA s b := Nat.not_le.mpr hbl
  obtain ⟨y1, e1, y2, e2, y3, e3⟩ := hi
  obtain ⟨shelf, np, ng, cur, tw, rn, rmany, image, rturn, rshelf, rgroups, inn, now, makers, makerMany, queue, hR, hG, hM⟩ := hI
  have hcc : cells + 0 ≤ 600000 := by omega
  have hss : slots + 0 ≤ 7302250 := by omega
  obtain ⟨v, c1, t1, now1, f6, f7, hR⟩ := call_then hF hR now a1
  refine lv_aload_n hx hb dL_law_311 rfl (lv_at hl 1 rfl) ?_
  refine lv_aload_n hx hb dL_law_312 rfl (lv_at hl 0 rfl) ?_
  refine lv_iload_n hx hb dL_law_313 rfl (lv_at hl 3 rfl) ?_
  refine lv_iconst (v := 1) hx hb dL_law_314 (by decide) ?_
  refine lv_iadd hx hb dL_law_315 ?_
  refine va_sld hx hb hX hbl hbA hS y1 dL_law_316 ?_
  refine tg_top e1.symm ?_
  refine tg_cMi (va_runV (As := [.int a1]) (rest := []) ⟨hx, hb, hml, hown, hts⟩ (qX6_then l D cI cT ga ta shelf np ng cur tw a1 F v c1 f6) (cwV 1 hts gL_law_X6_then rfl rfl rfl zVX6_then ⟨Nat.le_of_ble_eq_true rfl, Nat.le_of_ble_eq_true rfl⟩) (tg_preVM (r := (RX6, TX6, 6)) (ci := 5) (q0 := 0) hG (hDG _ wG_ad) hKG hN rfl rfl) rfl rfl hl.1 rfl (lv_room (Nat.le_of_ble_eq_true rfl)) dL_law_317 ⟨hcc, hss⟩) hS (tg_inA (hDG _ wG_ad)) (fun zH zlocs hf9 hG hS => ?_)
  have hM := tg_keep hM (lw_mg hXX) hf9
  refine lv_aload_n hx hb dL_law_320 rfl (lv_at hl 2 rfl) ?_
  refine lv_aload_n hx hb dL_law_321 rfl (lv_at hl 0 rfl) ?_
  refine lv_iload_n hx hb dL_law_322 rfl (lv_at hl 3 rfl) ?_
  refine lv_iconst (v := 1) hx hb dL_law_323 (by decide) ?_
  refine lv_iadd hx hb dL_law_324 ?_
  refine va_sld hx hb hX hbl hbA hS y1 dL_law_325 ?_
  refine tg_top e1.symm ?_
  refine tg_cMi (va_runV (As := [.int a1]) (rest := [.int v]) ⟨hx, hb, hml, hown, hts⟩ (qX7_then l D cI cZ ad rn rmany image rturn rshelf rgroups inn now makers makerMany queue a1 F v t1 now1 f7) (cwV 1 hts gL_law_X7_then rfl rfl rfl zVX7_then ⟨Nat.le_of_ble_eq_true rfl, Nat.le_of_ble_eq_true rfl⟩) (tg_preVM (r := (RX7, TX7, 11)) (ci := 6) (q0 := 0) hM (hDM _ rfl) hKM hN rfl rfl) rfl rfl hl.1 rfl (lv_room (Nat.le_of_ble_eq_true rfl)) dL_law_326 ⟨hcc, hss⟩) hS (tg_inA (hDM _ rfl)) (fun zH zlocs hf9 hM hS => ?_)
  have hG := tg_keep hG (lw_gm hXX) hf9
  refine lv_icmp_eq (tgt := 891) hx hb dL_law_329 (by decide) (fun _ => ?_) (fun h9 => absurd rfl h9)
  refine W.widen (k := cells + 1) (n := slots + 2) (by omega) (by omega) ?_
  exact kk _ _ ⟨_, _, _, _, _, _, _, _, _, _, _, _, _, _, _, _, hR, hG, hM⟩ hS
set_option maxRecDepth 100000 in
set_option maxHeartbeats 4000000 in
theorem lwc_back {p : Program} {l : Launch} {e : Env} {s : State} {m : MethodId} {b : Nat} {below : List Frame} {meth : Method} {c : Code} {D : va_G} {zQ : State → Prop} {ga : Nat → Nat} {ta : Nat → Nat → Nat} {ad : Nat → Nat} {cI cT cZ : ClassId} {L : Nat} {xs : Nat → Int32} {F : Nat} (C0 : tg_C p s m meth c #[Value.ref b] cL_law RL wsL_law 4 D [(cI, .int), (cT, .object "TurnGroups$Tower"), (cZ, .boolean)]) (hX : va_X b L xs s s.heap) (hbl : b < s.heap.size) (hDs : lwD s ta ga ad) (hF : 50000 ≤ F) {i a1 a2 a3 : Int32} (hi : lwX i L xs a1 a2 a3) {cells slots : Nat} (hc1 : cells + 1 ≤ 600000) (hs1 : slots + 2 ≤ 7302250) {zH : Heap} {zlocs : List Loc} (hI : lwI D cI cT cZ ta ga ad zH) (hS : va_S (lwA s) s.heap zH zlocs) {zls : Array Slot} (hl : lv_has zls 4 [(0, .ref b), (1, .ref (ga 0)), (2, .ref (ad 0)), (3, .int i)]) (kk : ∀ (zH : Heap) (zlocs : List Loc), lwI D cI cT cZ ta ga ad zH → va_S (lwA s) s.heap zH zlocs → W p l e room_1 s m #[Value.ref b] below meth c zH zlocs (cells + 1) (slots + 2) zQ (F0 m 891 zls [])) : W p l e room_1 s m #[Value.ref b] below meth c zH zlocs cells slots zQ (F0 m 334 zls []) := by
  obtain ⟨hx, hb, hml, hown, hts, hK, hN⟩ := C0
  have hKG := hK.sub (tys' := [(cI, .int), (cT, .object "TurnGroups$Tower")]) [0, 1] rfl
  have hKM := hK.sub (tys' := [(cI, .int), (cZ, .boolean)]) [0, 2] rfl
  obtain ⟨hDG, hDM, hXX⟩ := hDs
  have hbA : ¬ lwA s b := Nat.not_le.mpr hbl
  obtain ⟨y1, e1, y2, e2, y3, e3⟩ := hi
  obtain ⟨shelf, np, ng, cur, tw, rn, rmany, image, rturn, rshelf, rgroups, inn, now, makers, makerMany, queue, hR, hG, hM⟩ := hI
  have hcc : cells + 0 ≤ 600000 := by omega
  have hss : slots + 0 ≤ 7302250 := by omega
  obtain ⟨v, c1, t1, now1, f6, f7, hR⟩ := call_back hF hR now
  refine lv_aload_n hx hb dL_law_334 rfl (lv_at hl 1 rfl) ?_
  refine tg_cMi (va_runV (As := []) (rest := []) ⟨hx, hb, hml, hown, hts⟩ (qX6_back l D cI cT ga ta shelf np ng cur tw F v c1 f6) (cwV 0 hts gL_law_X6_back rfl rfl rfl zVX6_back ⟨Nat.le_of_ble_eq_true rfl, Nat.le_of_ble_eq_true rfl⟩) (tg_preVM (r := (RX6, TX6, 6)) (ci := 5) (q0 := 0) hG (hDG _ wG_ad) hKG hN rfl rfl) rfl rfl hl.1 rfl (lv_room (Nat.le_of_ble_eq_true rfl)) dL_law_335 ⟨hcc, hss⟩) hS (tg_inA (hDG _ wG_ad)) (fun zH zlocs hf9 hG hS => ?_)
  have hM := tg_keep hM (lw_mg hXX) hf9
  refine lv_aload_n hx hb dL_law_338 rfl (lv_at hl 2 rfl) ?_
  refine tg_cMi (va_runV (As := []) (rest := [.int v]) ⟨hx, hb, hml, hown, hts⟩ (qX7_back l D cI cZ ad rn rmany image rturn rshelf rgroups inn now makers makerMany queue F v t1 now1 f7) (cwV 0 hts gL_law_X7_back rfl rfl rfl zVX7_back ⟨Nat.le_of_ble_eq_true rfl, Nat.le_of_ble_eq_true rfl⟩) (tg_preVM (r := (RX7, TX7, 11)) (ci := 6) (q0 := 0) hM (hDM _ rfl) hKM hN rfl rfl) rfl rfl hl.1 rfl (lv_room (Nat.le_of_ble_eq_true rfl)) dL_law_339 ⟨hcc, hss⟩) hS (tg_inA (hDM _ rfl)) (fun zH zlocs hf9 hM hS => ?_)
  have hG := tg_keep hG (lw_gm hXX) hf9
  refine lv_icmp_eq (tgt := 891) hx hb dL_law_342 (by decide) (fun _ => ?_) (fun h9 => absurd rfl h9)
  refine W.widen (k := cells + 1) (n := slots + 2) (by omega) (by omega) ?_
  exact kk _ _ ⟨_, _, _, _, _, _, _, _, _, _, _, _, _, _, _, _, hR, hG, hM⟩ hS
set_option maxRecDepth 100000 in
set_option maxHeartbeats 4000000 in
theorem lwc_power {p : Program} {l : Launch} {e : Env} {s : State} {m : MethodId} {b : Nat} {below : List Frame} {meth : Method} {c : Code} {D : va_G} {zQ : State → Prop} {ga : Nat → Nat} {ta : Nat → Nat → Nat} {ad : Nat → Nat} {cI cT cZ : ClassId} {L : Nat} {xs : Nat → Int32} {F : Nat} (C0 : tg_C p s m meth c #[Value.ref b] cL_law RL wsL_law 4 D [(cI, .int), (cT, .object "TurnGroups$Tower"), (cZ, .boolean)]) (hX : va_X b L xs s s.heap) (hbl : b < s.heap.size) (hDs : lwD s ta ga ad) (hF : 50000 ≤ F) {i a1 a2 a3 : Int32} (hi : lwX i L xs a1 a2 a3) {cells slots : Nat} (hc1 : cells + 1 ≤ 600000) (hs1 : slots + 2 ≤ 7302250) {zH : Heap} {zlocs : List Loc} (hI : lwI D cI cT cZ ta ga ad zH) (hS : va_S (lwA s) s.heap zH zlocs) {zls : Array Slot} (hl : lv_has zls 4 [(0, .ref b), (1, .ref (ga 0)), (2, .ref (ad 0)), (3, .int i)]) (kk : ∀ (zH : Heap) (zlocs : List Loc), lwI D cI cT cZ ta ga ad zH → va_S (lwA s) s.heap zH zlocs → W p l e room_1 s m #[Value.ref b] below meth c zH zlocs (cells + 1) (slots + 2) zQ (F0 m 891 zls [])) : W p l e room_1 s m #[Value.ref b] below meth c zH zlocs cells slots zQ (F0 m 347 zls []) := by
  obtain ⟨hx, hb, hml, hown, hts, hK, hN⟩ := C0
  have hKG := hK.sub (tys' := [(cI, .int), (cT, .object "TurnGroups$Tower")]) [0, 1] rfl
  have hKM := hK.sub (tys' := [(cI, .int), (cZ, .boolean)]) [0, 2] rfl
  obtain ⟨hDG, hDM, hXX⟩ := hDs
  have hbA : ¬ lwA s b := Nat.not_le.mpr hbl
  obtain ⟨y1, e1, y2, e2, y3, e3⟩ := hi
  obtain ⟨shelf, np, ng, cur, tw, rn, rmany, image, rturn, rshelf, rgroups, inn, now, makers, makerMany, queue, hR, hG, hM⟩ := hI
  have hcc : cells + 0 ≤ 600000 := by omega
  have hss : slots + 0 ≤ 7302250 := by omega
  obtain ⟨v, c1, t1, now1, f6, f7, hR⟩ := call_power hF hR now a1
  refine lv_aload_n hx hb dL_law_347 rfl (lv_at hl 1 rfl) ?_
  refine lv_aload_n hx hb dL_law_348 rfl (lv_at hl 0 rfl) ?_
  refine lv_iload_n hx hb dL_law_349 rfl (lv_at hl 3 rfl) ?_
  refine lv_iconst (v := 1) hx hb dL_law_350 (by decide) ?_
  refine lv_iadd hx hb dL_law_351 ?_
  refine va_sld hx hb hX hbl hbA hS y1 dL_law_352 ?_
  refine tg_top e1.symm ?_
  refine tg_cMi (va_runV (As := [.int a1]) (rest := []) ⟨hx, hb, hml, hown, hts⟩ (qX6_power l D cI cT ga ta shelf np ng cur tw a1 F v c1 f6) (cwV 1 hts gL_law_X6_power rfl rfl rfl zVX6_power ⟨Nat.le_of_ble_eq_true rfl, Nat.le_of_ble_eq_true rfl⟩) (tg_preVM (r := (RX6, TX6, 6)) (ci := 5) (q0 := 0) hG (hDG _ wG_ad) hKG hN rfl rfl) rfl rfl hl.1 rfl (lv_room (Nat.le_of_ble_eq_true rfl)) dL_law_353 ⟨hcc, hss⟩) hS (tg_inA (hDG _ wG_ad)) (fun zH zlocs hf9 hG hS => ?_)
  have hM := tg_keep hM (lw_mg hXX) hf9
  refine lv_aload_n hx hb dL_law_356 rfl (lv_at hl 2 rfl) ?_
  refine lv_aload_n hx hb dL_law_357 rfl (lv_at hl 0 rfl) ?_
  refine lv_iload_n hx hb dL_law_358 rfl (lv_at hl 3 rfl) ?_
  refine lv_iconst (v := 1) hx hb dL_law_359 (by decide) ?_
  refine lv_iadd hx hb dL_law_360 ?_
  refine va_sld hx hb hX hbl hbA hS y1 dL_law_361 ?_
  refine tg_top e1.symm ?_
  refine tg_cMi (va_runV (As := [.int a1]) (rest := [.int v]) ⟨hx, hb, hml, hown, hts⟩ (qX7_power l D cI cZ ad rn rmany image rturn rshelf rgroups inn now makers makerMany queue a1 F v t1 now1 f7) (cwV 1 hts gL_law_X7_power rfl rfl rfl zVX7_power ⟨Nat.le_of_ble_eq_true rfl, Nat.le_of_ble_eq_true rfl⟩) (tg_preVM (r := (RX7, TX7, 11)) (ci := 6) (q0 := 0) hM (hDM _ rfl) hKM hN rfl rfl) rfl rfl hl.1 rfl (lv_room (Nat.le_of_ble_eq_true rfl)) dL_law_362 ⟨hcc, hss⟩) hS (tg_inA (hDM _ rfl)) (fun zH zlocs hf9 hM hS => ?_)
  have hG := tg_keep hG (lw_gm hXX) hf9
  refine lv_icmp_eq (tgt := 891) hx hb dL_law_365 (by decide) (fun _ => ?_) (fun h9 => absurd rfl h9)
  refine W.widen (k := cells + 1) (n := slots + 2) (by omega) (by omega) ?_
  exact kk _ _ ⟨_, _, _, _, _, _, _, _, _, _, _, _, _, _, _, _, hR, hG, hM⟩ hS
