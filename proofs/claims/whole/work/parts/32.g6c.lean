/-! ===== public int of(int, int, int); ===== -/
theorem kX6_of_1 : Cond.fieldLink RX6 15 "TurnGroups" "groups" "[LTurnGroups$Tower;" ∈ wsX6_of := by decide +kernel
theorem kX6_of_2 : Cond.fieldLink RX6 27 "TurnGroups" "groupCount" "I" ∈ wsX6_of := by decide +kernel
theorem kX6_of_3 : Cond.classLink RX6 98 RX3 ∈ wsX6_of := by decide +kernel
theorem kX6_of_4 : Cond.instantiable RX3 1 ∈ wsX6_of := by decide +kernel
theorem kX6_of_5 : Cond.initialized RX3 ∈ wsX6_of := by decide +kernel
theorem kX6_of_6 : Cond.methodLink RX6 100 yX3_init ∈ wsX6_of := by decide +kernel
theorem kX6_of_7 : Cond.instanceMethod yX3_init ∈ wsX6_of := by decide +kernel
theorem uX6_of_RX3 : ∀ w ∈ u_ws RX3 TX3 1, w ∈ wsX6_of := by decide +kernel
theorem uX6_of_RX6 : ∀ w ∈ u_ws RX6 TX6 6, w ∈ wsX6_of := by decide +kernel
def mX6_of (F : Nat) (ng : Int32) (tw : Nat → TW) (zx1 : Int32) (zx2 : Int32) (zx3 : Int32) : Option (Int32 × Int32 × (Nat → TW)) := if zx1 < 0 then (some ((-2 : Int32), ng, tw)) else (if 2 < zx1 then (some ((-2 : Int32), ng, tw)) else (if (mX6_isGroup ng zx2) = 0 then (some ((-2 : Int32), ng, tw)) else (if (mX6_isGroup ng zx3) = 0 then (some ((-2 : Int32), ng, tw)) else (if (mX6_isFull ng) = 0 then (gd (inb ng 10) (if zx1 = 1 then (gd (inb zx2 10) (gd (inb zx3 10) (gd (neb (Int32.toNatClampNeg ng) (Int32.toNatClampNeg zx2)) (gd (neb (Int32.toNatClampNeg ng) (Int32.toNatClampNeg zx3)) (bd7 (mX4_gather F 3 (tw (Int32.toNatClampNeg ng)).1 (tw (Int32.toNatClampNeg ng)).2.1 (tw (Int32.toNatClampNeg ng)).2.2.1 (tw (Int32.toNatClampNeg ng)).2.2.2.1 (tw (Int32.toNatClampNeg ng)).2.2.2.2.1 (tw (Int32.toNatClampNeg ng)).2.2.2.2.2.1 (tw (Int32.toNatClampNeg ng)).2.2.2.2.2.2 (tw (Int32.toNatClampNeg zx2)).1 (tw (Int32.toNatClampNeg zx2)).2.2.1 0 0 (tw (Int32.toNatClampNeg zx3)).2.1 (tw (Int32.toNatClampNeg zx3)).2.2.1 (tw (Int32.toNatClampNeg zx3)).2.2.2.2.2.1 (tw (Int32.toNatClampNeg zx3)).2.2.2.2.2.2) (fun tcells_2 tback_2 treach_2 tfilled_2 tfc_2 tmakers_2 tmc_2 => lT (upT tw (Int32.toNatClampNeg ng) (tcells_2, tback_2, treach_2, tfilled_2, tfc_2, tmakers_2, tmc_2)) (fun tw_4 => lT (ng + 1) (fun ng_3 => some (ng, ng_3, tw_4))))))))) else (gd (inb zx2 10) (gd (neb (Int32.toNatClampNeg ng) (Int32.toNatClampNeg zx2)) (lT (upT tw (Int32.toNatClampNeg ng) (cpT (tw (Int32.toNatClampNeg ng)) (tw (Int32.toNatClampNeg zx2)))) (fun tw_1 => if zx1 = 0 then (gd (inb zx3 10) (gd (neb (Int32.toNatClampNeg ng) (Int32.toNatClampNeg zx3)) (bd7 (mX4_joinAll F (tw_1 (Int32.toNatClampNeg ng)).1 (tw_1 (Int32.toNatClampNeg ng)).2.1 (tw_1 (Int32.toNatClampNeg ng)).2.2.1 (tw_1 (Int32.toNatClampNeg ng)).2.2.2.1 (tw_1 (Int32.toNatClampNeg ng)).2.2.2.2.1 (tw_1 (Int32.toNatClampNeg ng)).2.2.2.2.2.1 (tw_1 (Int32.toNatClampNeg ng)).2.2.2.2.2.2 (tw_1 (Int32.toNatClampNeg zx3)).2.2.2.2.2.1 (tw_1 (Int32.toNatClampNeg zx3)).2.2.2.2.2.2) (fun tcells_1 tback_1 treach_1 tfilled_1 tfc_1 tmakers_1 tmc_1 => lT (upT tw_1 (Int32.toNatClampNeg ng) (tcells_1, tback_1, treach_1, tfilled_1, tfc_1, tmakers_1, tmc_1)) (fun tw_3 => lT (ng + 1) (fun ng_2 => some (ng, ng_2, tw_3))))))) else (gd (inb zx3 10) (gd (neb (Int32.toNatClampNeg ng) (Int32.toNatClampNeg zx3)) (bd7 (mX4_closeUnder F (tw_1 (Int32.toNatClampNeg ng)).1 (tw_1 (Int32.toNatClampNeg ng)).2.1 (tw_1 (Int32.toNatClampNeg ng)).2.2.1 (tw_1 (Int32.toNatClampNeg ng)).2.2.2.1 (tw_1 (Int32.toNatClampNeg ng)).2.2.2.2.1 (tw_1 (Int32.toNatClampNeg ng)).2.2.2.2.2.1 (tw_1 (Int32.toNatClampNeg ng)).2.2.2.2.2.2 (tw_1 (Int32.toNatClampNeg zx3)).2.2.2.2.2.1 (tw_1 (Int32.toNatClampNeg zx3)).2.2.2.2.2.2) (fun tcells tback treach tfilled tfc tmakers tmc => lT (upT tw_1 (Int32.toNatClampNeg ng) (tcells, tback, treach, tfilled, tfc, tmakers, tmc)) (fun tw_2 => lT (ng + 1) (fun ng_1 => some (ng, ng_1, tw_2))))))))))))) else (some ((-3 : Int32), ng, tw))))))
set_option maxRecDepth 100000 in
set_option maxHeartbeats 4000000 in
theorem qX6_of (l : Launch) (D : va_G) (cI : ClassId) (cT : ClassId) (ga : Nat → Nat) (ta : Nat → Nat → Nat) (shelf : Nat → Int32) (np : Int32) (ng : Int32) (cur : Int32) (tw : Nat → TW) (zx1 : Int32) (zx2 : Int32) (zx3 : Int32) (F : Nat) (zr0 : Int32) (ong : Int32) (otw : Nat → TW) (sz : Nat) (h : mX6_of F ng tw zx1 zx2 zx3 = some (zr0, ong, otw)) : Met l yX6_of wsX6_of ({ frames := 16, cells := 1, slots := 2, locals := 426 } : Room) (tg_PN D [(cI, .int), (cT, .object "TurnGroups$Tower")] [.ref (ga 0), .int zx1, .int zx2, .int zx3] (wG ta cI cT ga shelf np ng cur tw) sz) (tg_Ni D (wG ta cI cT ga shelf np ng cur tw) (wG ta cI cT ga shelf np ong cur otw) sz zr0) 1 2 (va_A (wG ta cI cT ga shelf np ng cur tw) sz) := by
  refine Met.ofW (cc := cX6_of) (maxL := 5) (ret := (some .int)) (by decide) rfl ?_
  intro p e s m zargs zbelow zmeth c s₁ B hml hv
  obtain ⟨hargs, hsz, hP, hK, hN, hD0⟩ := hv
  subst hsz
  have hx := B.exec
  have hb := B.bytes
  have hr := B.returns
  have hts := atoms_spec (ws := wsX6_of) B.pre
  have hown : s.vm.findClass RX6 = some m.cls := findClass_of_methodNamed B.named
  have hlocks := B.notSynchronized
  have hDD : tg_DD (va_A (wG ta cI cT ga shelf np ng cur tw) s.heap.size) (adG ta ga) := tg_DD.of (hD0.self (sz := s.heap.size)) wG_ad
  have hS : va_S (va_A (wG ta cI cT ga shelf np ng cur tw) s.heap.size) s.heap s.heap [] := va_S.rf
  have hA : ∀ q : Nat, s.heap.size ≤ q → (va_A (wG ta cI cT ga shelf np ng cur tw) s.heap.size) q := fun _ h9 => Or.inr h9
  have hl := lv_entry ([.ref (ga 0), .int zx1, .int zx2, .int zx3]) (n := 5) (Nat.le_of_ble_eq_true rfl)
  refine W.eq (g2 := entryFrame m ([.ref (ga 0), .int zx1, .int zx2, .int zx3] : List Value).toArray 5) (by rw [hargs]) ?_
  rw [lg_entry_eq]
  generalize (lg_sl ([.ref (ga 0), .int zx1, .int zx2, .int zx3]) ++ List.replicate (5 - (lg_sl ([.ref (ga 0), .int zx1, .int zx2, .int zx3])).length) Slot.unset).toArray = zls at hl ⊢
  have hl : lv_has zls 5 [(0, .ref (ga 0)), (1, .int zx1), (2, .int zx2), (3, .int zx3)] := hl
  rw [mX6_of] at h
  refine lv_iload_n hx hb dX6_of_0 rfl (lv_at hl 1 rfl) ?_
  refine lv_if_lt (tgt := 25) hx hb dX6_of_1 (by decide) (fun cb => ?_) (fun cb => ?_)
  · rw [if_pos cb] at h
    refine lv_bipush (v := (-2)) hx hb dX6_of_25 (by decide) ?_
    cases h
    refine W.widen (k := 1) (n := 2) (by omega) (by omega) ?_
    exact W.iret hx hb hr (fun t ht hW => ⟨rfl, by rw [ht]; exact hP, hS.F ht⟩) hS.2.2 dX6_of_27
  · rw [if_neg cb] at h
    refine lv_iload_n hx hb dX6_of_4 rfl (lv_at hl 1 rfl) ?_
    refine lv_iconst (v := 2) hx hb dX6_of_5 (by decide) ?_
    refine lv_icmp_gt (tgt := 25) hx hb dX6_of_6 (by decide) (fun cb_1 => ?_) (fun cb_1 => ?_)
    · rw [if_pos cb_1] at h
      refine lv_bipush (v := (-2)) hx hb dX6_of_25 (by decide) ?_
      cases h
      refine W.widen (k := 1) (n := 2) (by omega) (by omega) ?_
      exact W.iret hx hb hr (fun t ht hW => ⟨rfl, by rw [ht]; exact hP, hS.F ht⟩) hS.2.2 dX6_of_27
    · rw [if_neg cb_1] at h
      refine lv_aload_n hx hb dX6_of_9 rfl (lv_at hl 0 rfl) ?_
      refine lv_iload_n hx hb dX6_of_10 rfl (lv_at hl 2 rfl) ?_
      refine tg_cRi (va_runV (As := [.int zx2]) (rest := []) ⟨hx, hb, hml, hown, hts⟩ (qX6_isGroup l D cI cT ga ta shelf np ng cur tw zx2 _ rfl) (cwV 1 hts gX6_of_X6_isGroup rfl rfl rfl zVX6_isGroup ⟨Nat.le_of_ble_eq_true rfl, Nat.le_of_ble_eq_true rfl⟩) (tg_preV (r := (RX6, TX6, 6)) (ci := 5) (q0 := 0) hP hK hN rfl rfl) rfl rfl hl.1 rfl (lv_room (Nat.le_of_ble_eq_true rfl)) dX6_of_11 ⟨Nat.le_of_ble_eq_true rfl, Nat.le_of_ble_eq_true rfl⟩) ?_
      refine lv_if_eq (tgt := 25) hx hb dX6_of_14 (by decide) (fun cb_2 => ?_) (fun cb_2 => ?_)
      · rw [if_pos cb_2] at h
        refine lv_bipush (v := (-2)) hx hb dX6_of_25 (by decide) ?_
        cases h
        refine W.widen (k := 1) (n := 2) (by omega) (by omega) ?_
        exact W.iret hx hb hr (fun t ht hW => ⟨rfl, by rw [ht]; exact hP, hS.F ht⟩) hS.2.2 dX6_of_27
      · rw [if_neg cb_2] at h
        refine lv_aload_n hx hb dX6_of_17 rfl (lv_at hl 0 rfl) ?_
        refine lv_iload_n hx hb dX6_of_18 rfl (lv_at hl 3 rfl) ?_
        refine tg_cRi (va_runV (As := [.int zx3]) (rest := []) ⟨hx, hb, hml, hown, hts⟩ (qX6_isGroup l D cI cT ga ta shelf np ng cur tw zx3 _ rfl) (cwV 1 hts gX6_of_X6_isGroup rfl rfl rfl zVX6_isGroup ⟨Nat.le_of_ble_eq_true rfl, Nat.le_of_ble_eq_true rfl⟩) (tg_preV (r := (RX6, TX6, 6)) (ci := 5) (q0 := 0) hP hK hN rfl rfl) rfl rfl hl.1 rfl (lv_room (Nat.le_of_ble_eq_true rfl)) dX6_of_19 ⟨Nat.le_of_ble_eq_true rfl, Nat.le_of_ble_eq_true rfl⟩) ?_
        refine lv_if_ne (tgt := 28) hx hb dX6_of_22 (by decide) (fun cb_3 => ?_) (fun cb_3 => ?_)
        · rw [if_neg cb_3] at h
          refine lv_aload_n hx hb dX6_of_28 rfl (lv_at hl 0 rfl) ?_
          refine tg_cRi (va_runV (As := []) (rest := []) ⟨hx, hb, hml, hown, hts⟩ (qX6_isFull l D cI cT ga ta shelf np ng cur tw _ rfl) (cwV 0 hts gX6_of_X6_isFull rfl rfl rfl zVX6_isFull ⟨Nat.le_of_ble_eq_true rfl, Nat.le_of_ble_eq_true rfl⟩) (tg_preV (r := (RX6, TX6, 6)) (ci := 5) (q0 := 0) hP hK hN rfl rfl) rfl rfl hl.1 rfl (lv_room (Nat.le_of_ble_eq_true rfl)) dX6_of_29 ⟨Nat.le_of_ble_eq_true rfl, Nat.le_of_ble_eq_true rfl⟩) ?_
          refine lv_if_eq (tgt := 38) hx hb dX6_of_32 (by decide) (fun cb_4 => ?_) (fun cb_4 => ?_)
          · rw [if_pos cb_4] at h
            refine lv_aload_n hx hb dX6_of_38 rfl (lv_at hl 0 rfl) ?_
            refine va_get (D := D) (ci := 5) (v := .ref (ga 2)) (C := RX6) (T := TX6) (N := 6) hx hb hts uX6_of_RX6 hown hK hP 0 rfl rfl 1 (by decide) (hts _ kX6_of_1) (fun _ h9 => h9) rfl dX6_of_39 ?_
            refine lv_aload_n hx hb dX6_of_42 rfl (lv_at hl 0 rfl) ?_
            refine va_get (D := D) (ci := 5) (v := .int ng) (C := RX6) (T := TX6) (N := 6) hx hb hts uX6_of_RX6 hown hK hP 0 rfl rfl 4 (by decide) (hts _ kX6_of_2) (fun _ h9 => h9) rfl dX6_of_43 ?_
            obtain ⟨gg, h⟩ := gd_el h
            have hk : (Int32.toNatClampNeg ng) < 12 := by have := inb_lt gg; omega
            refine va_aldq hx hb hK hP 2 1 rfl rfl (inb_in gg) dX6_of_46 ?_
            refine W.eq (g2 := F0 m 47 zls [.ref (ta (Int32.toNatClampNeg ng) 0)]) rfl ?_
            refine lv_astore (lv' := [(4, .ref (ta (Int32.toNatClampNeg ng) 0)), (0, .ref (ga 0)), (1, .int zx1), (2, .int zx2), (3, .int zx3)]) hx hb dX6_of_47 hl (by decide) rfl (fun zls hl => ?_)
            refine lv_iload_n hx hb dX6_of_49 rfl (lv_at hl 2 rfl) ?_
            refine lv_iconst (v := 1) hx hb dX6_of_50 (by decide) ?_
            refine lv_icmp_ne (tgt := 81) hx hb dX6_of_51 (by decide) (fun cb_5 => ?_) (fun cb_5 => ?_)
            · rw [if_neg cb_5] at h
              refine lv_aload hx hb dX6_of_81 (lv_at hl 0 rfl) ?_
              refine lv_aload_n hx hb dX6_of_83 rfl (lv_at hl 1 rfl) ?_
              refine va_get (D := D) (ci := 5) (v := .ref (ga 2)) (C := RX6) (T := TX6) (N := 6) hx hb hts uX6_of_RX6 hown hK hP 0 rfl rfl 1 (by decide) (hts _ kX6_of_1) (fun _ h9 => h9) rfl dX6_of_84 ?_
              refine lv_iload_n hx hb dX6_of_87 rfl (lv_at hl 3 rfl) ?_
              obtain ⟨gg_1, h⟩ := gd_el h
              have hk_1 : (Int32.toNatClampNeg zx2) < 12 := by have := inb_lt gg_1; omega
              refine va_aldq hx hb hK hP 2 1 rfl rfl (inb_in gg_1) dX6_of_88 ?_
              refine W.eq (g2 := F0 m 89 zls [.ref (ta (Int32.toNatClampNeg zx2) 0), .ref (ta (Int32.toNatClampNeg ng) 0)]) rfl ?_
              obtain ⟨gg_2, h⟩ := gd_el h
              refine tg_cMv (va_runV (As := [.ref (ta (Int32.toNatClampNeg zx2) 0)]) (rest := []) ⟨hx, hb, hml, hown, hts⟩ (qX4_copyFrom l D cI (ta (Int32.toNatClampNeg ng)) (tw (Int32.toNatClampNeg ng)).1 (tw (Int32.toNatClampNeg ng)).2.1 (tw (Int32.toNatClampNeg ng)).2.2.1 (tw (Int32.toNatClampNeg ng)).2.2.2.1 (tw (Int32.toNatClampNeg ng)).2.2.2.2.1 (tw (Int32.toNatClampNeg ng)).2.2.2.2.2.1 (tw (Int32.toNatClampNeg ng)).2.2.2.2.2.2 (ta (Int32.toNatClampNeg zx2)) (tw (Int32.toNatClampNeg zx2)).1 (tw (Int32.toNatClampNeg zx2)).2.1 (tw (Int32.toNatClampNeg zx2)).2.2.1 (tw (Int32.toNatClampNeg zx2)).2.2.2.1 (tw (Int32.toNatClampNeg zx2)).2.2.2.2.1 (tw (Int32.toNatClampNeg zx2)).2.2.2.2.2.1 (tw (Int32.toNatClampNeg zx2)).2.2.2.2.2.2) (cwV 1 hts gX6_of_X4_copyFrom rfl rfl rfl zVX4_copyFrom ⟨Nat.le_of_ble_eq_true rfl, Nat.le_of_ble_eq_true rfl⟩) (tg_preVM (r := (RX4, TX4, 7)) (ci := 4) (q0 := 0) (va_P.app (wG_T hP hk) (wG_T hP hk_1)) (wG_D2 hDD hk hk_1 (neb_el gg_2)) (hK.sub (tys' := [(cI, .int)]) [0] rfl) hN rfl rfl) rfl rfl hl.1 rfl (lv_room (Nat.le_of_ble_eq_true rfl)) dX6_of_89 ⟨Nat.le_of_ble_eq_true rfl, Nat.le_of_ble_eq_true rfl⟩) hS (tg_inA (wG_D2 hDD hk hk_1 (neb_el gg_2))) (fun zH zlocs hf9 hP9 hS => ?_)
              obtain ⟨tw_1, etw_1, h⟩ := lT_el h
              have hP := wG_put2 (t0 := tw (Int32.toNatClampNeg ng)) (t := cpT (tw (Int32.toNatClampNeg ng)) (tw (Int32.toNatClampNeg zx2))) hP hDD hk hk_1 (neb_el gg_2) hf9 hP9
              rw [← etw_1] at hP
              refine lv_iload_n hx hb dX6_of_92 rfl (lv_at hl 2 rfl) ?_
              refine lv_if_ne (tgt := 110) hx hb dX6_of_93 (by decide) (fun cb_6 => ?_) (fun cb_6 => ?_)
              · rw [if_neg cb_6] at h
                refine lv_aload hx hb dX6_of_110 (lv_at hl 0 rfl) ?_
                refine lv_aload_n hx hb dX6_of_112 rfl (lv_at hl 1 rfl) ?_
                refine va_get (D := D) (ci := 5) (v := .ref (ga 2)) (C := RX6) (T := TX6) (N := 6) hx hb hts uX6_of_RX6 hown hK hP 0 rfl rfl 1 (by decide) (hts _ kX6_of_1) (fun _ h9 => h9) rfl dX6_of_113 ?_
                refine lv_iload_n hx hb dX6_of_116 rfl (lv_at hl 4 rfl) ?_
                obtain ⟨gg_3, h⟩ := gd_el h
                have hk_2 : (Int32.toNatClampNeg zx3) < 12 := by have := inb_lt gg_3; omega
                refine va_aldq hx hb hK hP 2 1 rfl rfl (inb_in gg_3) dX6_of_117 ?_
                refine W.eq (g2 := F0 m 118 zls [.ref (ta (Int32.toNatClampNeg zx3) 0), .ref (ta (Int32.toNatClampNeg ng) 0)]) rfl ?_
                obtain ⟨gg_4, h⟩ := gd_el h
                obtain ⟨tcells, tback, treach, tfilled, tfc, tmakers, tmc, hc, h⟩ := bd7_el h
                refine tg_cMv (va_runV (As := [.ref (ta (Int32.toNatClampNeg zx3) 0)]) (rest := []) ⟨hx, hb, hml, hown, hts⟩ (qX4_closeUnder l D cI (ta (Int32.toNatClampNeg ng)) (tw_1 (Int32.toNatClampNeg ng)).1 (tw_1 (Int32.toNatClampNeg ng)).2.1 (tw_1 (Int32.toNatClampNeg ng)).2.2.1 (tw_1 (Int32.toNatClampNeg ng)).2.2.2.1 (tw_1 (Int32.toNatClampNeg ng)).2.2.2.2.1 (tw_1 (Int32.toNatClampNeg ng)).2.2.2.2.2.1 (tw_1 (Int32.toNatClampNeg ng)).2.2.2.2.2.2 (ta (Int32.toNatClampNeg zx3)) (tw_1 (Int32.toNatClampNeg zx3)).1 (tw_1 (Int32.toNatClampNeg zx3)).2.1 (tw_1 (Int32.toNatClampNeg zx3)).2.2.1 (tw_1 (Int32.toNatClampNeg zx3)).2.2.2.1 (tw_1 (Int32.toNatClampNeg zx3)).2.2.2.2.1 (tw_1 (Int32.toNatClampNeg zx3)).2.2.2.2.2.1 (tw_1 (Int32.toNatClampNeg zx3)).2.2.2.2.2.2 F tcells tback treach tfilled tfc tmakers tmc hc) (cwV 1 hts gX6_of_X4_closeUnder rfl rfl rfl zVX4_closeUnder ⟨Nat.le_of_ble_eq_true rfl, Nat.le_of_ble_eq_true rfl⟩) (tg_preVMo (r := (RX4, TX4, 7)) (ci := 4) (q0 := 0) (wG_T hP hk) (wG_DT hDD hk) (wG_T hP hk_2) (wG_apart hDD hk hk_2 (neb_el gg_4)) (hK.sub (tys' := [(cI, .int)]) [0] rfl) hN rfl rfl) rfl rfl hl.1 rfl (lv_room (Nat.le_of_ble_eq_true rfl)) dX6_of_118 ⟨Nat.le_of_ble_eq_true rfl, Nat.le_of_ble_eq_true rfl⟩) hS (tg_inA (wG_DT hDD hk)) (fun zH zlocs hf9 hP9 hS => ?_)
                obtain ⟨tw_2, etw_2, h⟩ := lT_el h
                have hP := wG_put (t0 := tw_1 (Int32.toNatClampNeg ng)) (t := (tcells, tback, treach, tfilled, tfc, tmakers, tmc)) hP hDD hk hf9 hP9
                rw [← etw_2] at hP
                refine lv_aload_n hx hb dX6_of_121 rfl (lv_at hl 1 rfl) ?_
                refine lv_dup hx hb dX6_of_122 rfl ?_
                refine va_get (D := D) (ci := 5) (v := .int ng) (C := RX6) (T := TX6) (N := 6) hx hb hts uX6_of_RX6 hown hK hP 0 rfl rfl 4 (by decide) (hts _ kX6_of_2) (fun _ h9 => h9) rfl dX6_of_123 ?_
                refine lv_dup_x1 hx hb dX6_of_126 rfl rfl ?_
                refine lv_iconst (v := 1) hx hb dX6_of_127 (by decide) ?_
                refine lv_iadd hx hb dX6_of_128 ?_
                obtain ⟨ng_1, eng_1, h⟩ := lT_el h
                refine tg_top eng_1 ?_
                refine va_put (D := D) (ci := 5) (v := .int ng_1) (ty := .int) (C := RX6) (T := TX6) (N := 6) hx hb hts uX6_of_RX6 tyX6 tyX6_ok nmX6 hown hK hP (hDD _ wG_ad) hS 0 rfl rfl 4 (by decide) (hts _ kX6_of_2) (fun _ h9 => h9) rfl (by decide +kernel) rfl rfl (Nat.le_of_ble_eq_true rfl) dX6_of_129 (fun zH zlocs hP _ hS => ?_)
                have hP : va_P D vwCl (wG ta cI cT ga shelf np ng_1 cur tw_2) zH := hP
                cases h
                refine W.widen (k := 1) (n := 2) (by omega) (by omega) ?_
                exact W.iret hx hb hr (fun t ht hW => ⟨rfl, by rw [ht]; exact hP, hS.F ht⟩) hS.2.2 dX6_of_132
              · rw [if_pos cb_6] at h
                refine lv_aload hx hb dX6_of_96 (lv_at hl 0 rfl) ?_
                refine lv_aload_n hx hb dX6_of_98 rfl (lv_at hl 1 rfl) ?_
                refine va_get (D := D) (ci := 5) (v := .ref (ga 2)) (C := RX6) (T := TX6) (N := 6) hx hb hts uX6_of_RX6 hown hK hP 0 rfl rfl 1 (by decide) (hts _ kX6_of_1) (fun _ h9 => h9) rfl dX6_of_99 ?_
                refine lv_iload_n hx hb dX6_of_102 rfl (lv_at hl 4 rfl) ?_
                obtain ⟨gg_5, h⟩ := gd_el h
                have hk_3 : (Int32.toNatClampNeg zx3) < 12 := by have := inb_lt gg_5; omega
                refine va_aldq hx hb hK hP 2 1 rfl rfl (inb_in gg_5) dX6_of_103 ?_
                refine W.eq (g2 := F0 m 104 zls [.ref (ta (Int32.toNatClampNeg zx3) 0), .ref (ta (Int32.toNatClampNeg ng) 0)]) rfl ?_
                obtain ⟨gg_6, h⟩ := gd_el h
                obtain ⟨tcells_1, tback_1, treach_1, tfilled_1, tfc_1, tmakers_1, tmc_1, hc_1, h⟩ := bd7_el h
                refine tg_cMv (va_runV (As := [.ref (ta (Int32.toNatClampNeg zx3) 0)]) (rest := []) ⟨hx, hb, hml, hown, hts⟩ (qX4_joinAll l D cI (ta (Int32.toNatClampNeg ng)) (tw_1 (Int32.toNatClampNeg ng)).1 (tw_1 (Int32.toNatClampNeg ng)).2.1 (tw_1 (Int32.toNatClampNeg ng)).2.2.1 (tw_1 (Int32.toNatClampNeg ng)).2.2.2.1 (tw_1 (Int32.toNatClampNeg ng)).2.2.2.2.1 (tw_1 (Int32.toNatClampNeg ng)).2.2.2.2.2.1 (tw_1 (Int32.toNatClampNeg ng)).2.2.2.2.2.2 (ta (Int32.toNatClampNeg zx3)) (tw_1 (Int32.toNatClampNeg zx3)).1 (tw_1 (Int32.toNatClampNeg zx3)).2.1 (tw_1 (Int32.toNatClampNeg zx3)).2.2.1 (tw_1 (Int32.toNatClampNeg zx3)).2.2.2.1 (tw_1 (Int32.toNatClampNeg zx3)).2.2.2.2.1 (tw_1 (Int32.toNatClampNeg zx3)).2.2.2.2.2.1 (tw_1 (Int32.toNatClampNeg zx3)).2.2.2.2.2.2 F tcells_1 tback_1 treach_1 tfilled_1 tfc_1 tmakers_1 tmc_1 hc_1) (cwV 1 hts gX6_of_X4_joinAll rfl rfl rfl zVX4_joinAll ⟨Nat.le_of_ble_eq_true rfl, Nat.le_of_ble_eq_true rfl⟩) (tg_preVMo (r := (RX4, TX4, 7)) (ci := 4) (q0 := 0) (wG_T hP hk) (wG_DT hDD hk) (wG_T hP hk_3) (wG_apart hDD hk hk_3 (neb_el gg_6)) (hK.sub (tys' := [(cI, .int)]) [0] rfl) hN rfl rfl) rfl rfl hl.1 rfl (lv_room (Nat.le_of_ble_eq_true rfl)) dX6_of_104 ⟨Nat.le_of_ble_eq_true rfl, Nat.le_of_ble_eq_true rfl⟩) hS (tg_inA (wG_DT hDD hk)) (fun zH zlocs hf9 hP9 hS => ?_)
                obtain ⟨tw_3, etw_3, h⟩ := lT_el h
                have hP := wG_put (t0 := tw_1 (Int32.toNatClampNeg ng)) (t := (tcells_1, tback_1, treach_1, tfilled_1, tfc_1, tmakers_1, tmc_1)) hP hDD hk hf9 hP9
                rw [← etw_3] at hP
                refine lv_goto (tgt := 121) hx hb dX6_of_107 (by decide) ?_
                refine lv_aload_n hx hb dX6_of_121 rfl (lv_at hl 1 rfl) ?_
                refine lv_dup hx hb dX6_of_122 rfl ?_
                refine va_get (D := D) (ci := 5) (v := .int ng) (C := RX6) (T := TX6) (N := 6) hx hb hts uX6_of_RX6 hown hK hP 0 rfl rfl 4 (by decide) (hts _ kX6_of_2) (fun _ h9 => h9) rfl dX6_of_123 ?_
                refine lv_dup_x1 hx hb dX6_of_126 rfl rfl ?_
                refine lv_iconst (v := 1) hx hb dX6_of_127 (by decide) ?_
                refine lv_iadd hx hb dX6_of_128 ?_
                obtain ⟨ng_2, eng_2, h⟩ := lT_el h
                refine tg_top eng_2 ?_
                refine va_put (D := D) (ci := 5) (v := .int ng_2) (ty := .int) (C := RX6) (T := TX6) (N := 6) hx hb hts uX6_of_RX6 tyX6 tyX6_ok nmX6 hown hK hP (hDD _ wG_ad) hS 0 rfl rfl 4 (by decide) (hts _ kX6_of_2) (fun _ h9 => h9) rfl (by decide +kernel) rfl rfl (Nat.le_of_ble_eq_true rfl) dX6_of_129 (fun zH zlocs hP _ hS => ?_)
                have hP : va_P D vwCl (wG ta cI cT ga shelf np ng_2 cur tw_3) zH := hP
                cases h
                refine W.widen (k := 1) (n := 2) (by omega) (by omega) ?_
                exact W.iret hx hb hr (fun t ht hW => ⟨rfl, by rw [ht]; exact hP, hS.F ht⟩) hS.2.2 dX6_of_132
            · rw [if_pos cb_5] at h
              refine lv_aload hx hb dX6_of_54 (lv_at hl 0 rfl) ?_
              refine lv_aload_n hx hb dX6_of_56 rfl (lv_at hl 1 rfl) ?_
              refine va_get (D := D) (ci := 5) (v := .ref (ga 2)) (C := RX6) (T := TX6) (N := 6) hx hb hts uX6_of_RX6 hown hK hP 0 rfl rfl 1 (by decide) (hts _ kX6_of_1) (fun _ h9 => h9) rfl dX6_of_57 ?_
              refine lv_iload_n hx hb dX6_of_60 rfl (lv_at hl 3 rfl) ?_
              obtain ⟨gg_7, h⟩ := gd_el h
              have hk_4 : (Int32.toNatClampNeg zx2) < 12 := by have := inb_lt gg_7; omega
              refine va_aldq hx hb hK hP 2 1 rfl rfl (inb_in gg_7) dX6_of_61 ?_
              refine W.eq (g2 := F0 m 62 zls [.ref (ta (Int32.toNatClampNeg zx2) 0), .ref (ta (Int32.toNatClampNeg ng) 0)]) rfl ?_
              refine va_new (ci := 3) (fs := [.null]) (C := RX3) (T := TX3) (N := 1) hx hb hts uX6_of_RX3 tyX3 tyX3_ok hown (hts _ kX6_of_3) (hts _ kX6_of_4) (hts _ kX6_of_5) hK hP (hDD _ wG_ad) hS hA rfl (fun j hj => by rcases (show j = 0 by omega) with rfl; rfl) (Nat.le_of_ble_eq_true rfl) (Nat.le_of_ble_eq_true rfl) dX6_of_62 (fun zq zH hP hD9 hS => ?_)
              refine W.widen (k := 1) (n := 2) (by omega) (by omega) ?_
              have hPw := tg_appR hP
              have hq1 := wG_new1 hD9
              have hDw := fun e9 => tg_newD (e' := e9) hD9
              have hP := tg_appL hP
              refine lv_dup hx hb dX6_of_65 rfl ?_
              refine lv_aload_n hx hb dX6_of_66 rfl (lv_at hl 1 rfl) ?_
              refine va_get (D := D) (ci := 5) (v := .ref (ga 2)) (C := RX6) (T := TX6) (N := 6) hx hb hts uX6_of_RX6 hown hK hP 0 rfl rfl 1 (by decide) (hts _ kX6_of_1) (fun _ h9 => h9) rfl dX6_of_67 ?_
              refine lv_iload_n hx hb dX6_of_70 rfl (lv_at hl 4 rfl) ?_
              obtain ⟨gg_8, h⟩ := gd_el h
              have hk_5 : (Int32.toNatClampNeg zx3) < 12 := by have := inb_lt gg_8; omega
              refine va_aldq hx hb hK hP 2 1 rfl rfl (inb_in gg_8) dX6_of_71 ?_
              refine W.eq (g2 := F0 m 72 zls [.ref (ta (Int32.toNatClampNeg zx3) 0), .ref zq, .ref zq, .ref (ta (Int32.toNatClampNeg zx2) 0), .ref (ta (Int32.toNatClampNeg ng) 0)]) rfl ?_
              refine tg_cMv (va_runI (As := [.ref (ta (Int32.toNatClampNeg zx3) 0)]) (rest := [.ref zq, .ref (ta (Int32.toNatClampNeg zx2) 0), .ref (ta (Int32.toNatClampNeg ng) 0)]) ⟨hx, hb, hml, hown, hts⟩ (qX3_init l D (fun _ => zq) (ta (Int32.toNatClampNeg zx3))) (cwI 1 hts gX6_of_X3_init rfl rfl rfl (hts _ kX6_of_5) (hts _ kX6_of_6) (hts _ kX6_of_7) rfl zSX3_init ⟨Nat.le_of_ble_eq_true rfl, Nat.le_of_ble_eq_true rfl⟩) (tg_preSM hPw (hDw _) (hK.sub (tys' := []) [] rfl) hN) rfl rfl hl.1 rfl (lv_room (Nat.le_of_ble_eq_true rfl)) dX6_of_72 ⟨Nat.le_of_ble_eq_true rfl, Nat.le_of_ble_eq_true rfl⟩) hS (tg_inA (hDw _)) (fun zH zlocs hf9 hPw hS => ?_)
              have hP := wG_keep hP (wG_one hq1) hf9
              obtain ⟨gg_9, h⟩ := gd_el h
              obtain ⟨gg_10, h⟩ := gd_el h
              obtain ⟨tcells_2, tback_2, treach_2, tfilled_2, tfc_2, tmakers_2, tmc_2, hc_2, h⟩ := bd7_el h
              refine tg_cMv (va_runV (As := [.ref (ta (Int32.toNatClampNeg zx2) 0), .ref zq]) (rest := []) ⟨hx, hb, hml, hown, hts⟩ (qX4_gather l D cI (ta (Int32.toNatClampNeg ng)) (tw (Int32.toNatClampNeg ng)).1 (tw (Int32.toNatClampNeg ng)).2.1 (tw (Int32.toNatClampNeg ng)).2.2.1 (tw (Int32.toNatClampNeg ng)).2.2.2.1 (tw (Int32.toNatClampNeg ng)).2.2.2.2.1 (tw (Int32.toNatClampNeg ng)).2.2.2.2.2.1 (tw (Int32.toNatClampNeg ng)).2.2.2.2.2.2 (ta (Int32.toNatClampNeg zx2)) (tw (Int32.toNatClampNeg zx2)).1 (tw (Int32.toNatClampNeg zx2)).2.1 (tw (Int32.toNatClampNeg zx2)).2.2.1 (tw (Int32.toNatClampNeg zx2)).2.2.2.1 (tw (Int32.toNatClampNeg zx2)).2.2.2.2.1 (tw (Int32.toNatClampNeg zx2)).2.2.2.2.2.1 (tw (Int32.toNatClampNeg zx2)).2.2.2.2.2.2 (fun _ => zq) 3 (ta (Int32.toNatClampNeg zx3)) 0 0 (tw (Int32.toNatClampNeg zx3)).1 (tw (Int32.toNatClampNeg zx3)).2.1 (tw (Int32.toNatClampNeg zx3)).2.2.1 (tw (Int32.toNatClampNeg zx3)).2.2.2.1 (tw (Int32.toNatClampNeg zx3)).2.2.2.2.1 (tw (Int32.toNatClampNeg zx3)).2.2.2.2.2.1 (tw (Int32.toNatClampNeg zx3)).2.2.2.2.2.2 F tcells_2 tback_2 treach_2 tfilled_2 tfc_2 tmakers_2 tmc_2 hc_2) (cwV 2 hts gX6_of_X4_gather rfl rfl rfl zVX4_gather ⟨Nat.le_of_ble_eq_true rfl, Nat.le_of_ble_eq_true rfl⟩) (tg_preVMo (r := (RX4, TX4, 7)) (ci := 4) (q0 := 0) (wG_T hP hk) (wG_DT hDD hk) (va_P.app (wG_T hP hk_4) (wW_P3 hPw (wG_T hP hk_5))) (tg_or (wG_apart hDD hk hk_4 (neb_el gg_9)) (wW_X3 (wG_newT (wG_one hq1) hk) (wG_apart hDD hk hk_5 (neb_el gg_10)))) (hK.sub (tys' := [(cI, .int)]) [0] rfl) hN rfl rfl) rfl rfl hl.1 rfl (lv_room (Nat.le_of_ble_eq_true rfl)) dX6_of_75 ⟨Nat.le_of_ble_eq_true rfl, Nat.le_of_ble_eq_true rfl⟩) hS (tg_inA (wG_DT hDD hk)) (fun zH zlocs hf9 hP9 hS => ?_)
              obtain ⟨tw_4, etw_4, h⟩ := lT_el h
              have hP := wG_put (t0 := tw (Int32.toNatClampNeg ng)) (t := (tcells_2, tback_2, treach_2, tfilled_2, tfc_2, tmakers_2, tmc_2)) hP hDD hk hf9 hP9
              rw [← etw_4] at hP
              refine lv_goto (tgt := 121) hx hb dX6_of_78 (by decide) ?_
              refine lv_aload_n hx hb dX6_of_121 rfl (lv_at hl 1 rfl) ?_
              refine lv_dup hx hb dX6_of_122 rfl ?_
              refine va_get (D := D) (ci := 5) (v := .int ng) (C := RX6) (T := TX6) (N := 6) hx hb hts uX6_of_RX6 hown hK hP 0 rfl rfl 4 (by decide) (hts _ kX6_of_2) (fun _ h9 => h9) rfl dX6_of_123 ?_
              refine lv_dup_x1 hx hb dX6_of_126 rfl rfl ?_
              refine lv_iconst (v := 1) hx hb dX6_of_127 (by decide) ?_
              refine lv_iadd hx hb dX6_of_128 ?_
              obtain ⟨ng_3, eng_3, h⟩ := lT_el h
              refine tg_top eng_3 ?_
              refine va_put (D := D) (ci := 5) (v := .int ng_3) (ty := .int) (C := RX6) (T := TX6) (N := 6) hx hb hts uX6_of_RX6 tyX6 tyX6_ok nmX6 hown hK hP (hDD _ wG_ad) hS 0 rfl rfl 4 (by decide) (hts _ kX6_of_2) (fun _ h9 => h9) rfl (by decide +kernel) rfl rfl (Nat.le_of_ble_eq_true rfl) dX6_of_129 (fun zH zlocs hP _ hS => ?_)
              have hP : va_P D vwCl (wG ta cI cT ga shelf np ng_3 cur tw_4) zH := hP
              cases h
              refine W.widen (k := 1) (n := 2) (by omega) (by omega) ?_
              exact W.iret hx hb hr (fun t ht hW => ⟨rfl, by rw [ht]; exact hP, hS.F ht⟩) hS.2.2 dX6_of_132
          · rw [if_neg cb_4] at h
            refine lv_bipush (v := (-3)) hx hb dX6_of_35 (by decide) ?_
            cases h
            refine W.widen (k := 1) (n := 2) (by omega) (by omega) ?_
            exact W.iret hx hb hr (fun t ht hW => ⟨rfl, by rw [ht]; exact hP, hS.F ht⟩) hS.2.2 dX6_of_37
        · rw [if_pos cb_3] at h
          refine lv_bipush (v := (-2)) hx hb dX6_of_25 (by decide) ?_
          cases h
          refine W.widen (k := 1) (n := 2) (by omega) (by omega) ?_
          exact W.iret hx hb hr (fun t ht hW => ⟨rfl, by rw [ht]; exact hP, hS.F ht⟩) hS.2.2 dX6_of_27
theorem zVX6_of : yX6_of.cls = RX6 ∧ yX6_of.cls ≠ "java/lang/invoke/MethodHandle" ∧ yX6_of.cls ≠ "java/lang/invoke/VarHandle" ∧ (parseMethodDescriptor yX6_of.desc).map (fun d => d.parameters.length) = some 3 := by decide +kernel

/-! ===== public int by(int, int, int); ===== -/
theorem kX6_by_1 : Cond.classLink RX6 122 RX0 ∈ wsX6_by := by decide +kernel
theorem kX6_by_2 : Cond.instantiable RX0 2 ∈ wsX6_by := by decide +kernel
theorem kX6_by_3 : Cond.initialized RX0 ∈ wsX6_by := by decide +kernel
theorem kX6_by_4 : Cond.methodLink RX6 124 yX0_init ∈ wsX6_by := by decide +kernel
theorem kX6_by_5 : Cond.instanceMethod yX0_init ∈ wsX6_by := by decide +kernel
theorem kX6_by_6 : Cond.fieldLink RX6 15 "TurnGroups" "groups" "[LTurnGroups$Tower;" ∈ wsX6_by := by decide +kernel
theorem kX6_by_7 : Cond.fieldLink RX6 27 "TurnGroups" "groupCount" "I" ∈ wsX6_by := by decide +kernel
theorem kX6_by_8 : Cond.classLink RX6 118 RX2 ∈ wsX6_by := by decide +kernel
theorem kX6_by_9 : Cond.instantiable RX2 1 ∈ wsX6_by := by decide +kernel
theorem kX6_by_10 : Cond.initialized RX2 ∈ wsX6_by := by decide +kernel
theorem kX6_by_11 : Cond.methodLink RX6 120 yX2_init ∈ wsX6_by := by decide +kernel
theorem kX6_by_12 : Cond.instanceMethod yX2_init ∈ wsX6_by := by decide +kernel
theorem uX6_by_RX0 : ∀ w ∈ u_ws RX0 TX0 2, w ∈ wsX6_by := by decide +kernel
theorem uX6_by_RX2 : ∀ w ∈ u_ws RX2 TX2 1, w ∈ wsX6_by := by decide +kernel
theorem uX6_by_RX6 : ∀ w ∈ u_ws RX6 TX6 6, w ∈ wsX6_by := by decide +kernel
def mX6_by (F : Nat) (np : Int32) (ng : Int32) (tw : Nat → TW) (zx1 : Int32) (zx2 : Int32) (zx3 : Int32) : Option (Int32 × Int32 × (Nat → TW)) := if zx1 < 0 then (some ((-2 : Int32), ng, tw)) else (if 1 < zx1 then (some ((-2 : Int32), ng, tw)) else (if (mX6_isGroup ng zx2) = 0 then (some ((-2 : Int32), ng, tw)) else (if (mX6_isSet np zx3) = 0 then (some ((-2 : Int32), ng, tw)) else (if (mX6_isFull ng) = 0 then (if zx1 = 0 then (gd (inb ng 10) (gd (inb zx2 10) (gd (neb (Int32.toNatClampNeg ng) (Int32.toNatClampNeg zx2)) (bd7 (mX4_gather F 2 (tw (Int32.toNatClampNeg ng)).1 (tw (Int32.toNatClampNeg ng)).2.1 (tw (Int32.toNatClampNeg ng)).2.2.1 (tw (Int32.toNatClampNeg ng)).2.2.2.1 (tw (Int32.toNatClampNeg ng)).2.2.2.2.1 (tw (Int32.toNatClampNeg ng)).2.2.2.2.2.1 (tw (Int32.toNatClampNeg ng)).2.2.2.2.2.2 (tw (Int32.toNatClampNeg zx2)).1 (tw (Int32.toNatClampNeg zx2)).2.2.1 zx3 0 (fun _ => 0) (fun _ => 0) (fun _ => 0) 0) (fun tcells_1 tback_1 treach_1 tfilled_1 tfc_1 tmakers_1 tmc_1 => lT (upT tw (Int32.toNatClampNeg ng) (tcells_1, tback_1, treach_1, tfilled_1, tfc_1, tmakers_1, tmc_1)) (fun tw_2 => lT (ng + 1) (fun ng_2 => some (ng, ng_2, tw_2)))))))) else (gd (inb ng 10) (gd (inb zx2 10) (gd (neb (Int32.toNatClampNeg ng) (Int32.toNatClampNeg zx2)) (bd7 (mX4_gather F 0 (tw (Int32.toNatClampNeg ng)).1 (tw (Int32.toNatClampNeg ng)).2.1 (tw (Int32.toNatClampNeg ng)).2.2.1 (tw (Int32.toNatClampNeg ng)).2.2.2.1 (tw (Int32.toNatClampNeg ng)).2.2.2.2.1 (tw (Int32.toNatClampNeg ng)).2.2.2.2.2.1 (tw (Int32.toNatClampNeg ng)).2.2.2.2.2.2 (tw (Int32.toNatClampNeg zx2)).1 (tw (Int32.toNatClampNeg zx2)).2.2.1 zx3 zx3 (fun _ => 0) (fun _ => 0) (fun _ => 0) 0) (fun tcells tback treach tfilled tfc tmakers tmc => lT (upT tw (Int32.toNatClampNeg ng) (tcells, tback, treach, tfilled, tfc, tmakers, tmc)) (fun tw_1 => lT (ng + 1) (fun ng_1 => some (ng, ng_1, tw_1))))))))) else (some ((-3 : Int32), ng, tw))))))
set_option maxRecDepth 100000 in
set_option maxHeartbeats 4000000 in
theorem qX6_by (l : Launch) (D : va_G) (cI : ClassId) (cT : ClassId) (ga : Nat → Nat) (ta : Nat → Nat → Nat) (shelf : Nat → Int32) (np : Int32) (ng : Int32) (cur : Int32) (tw : Nat → TW) (zx1 : Int32) (zx2 : Int32) (zx3 : Int32) (F : Nat) (zr0 : Int32) (ong : Int32) (otw : Nat → TW) (sz : Nat) (h : mX6_by F np ng tw zx1 zx2 zx3 = some (zr0, ong, otw)) : Met l yX6_by wsX6_by ({ frames := 16, cells := 1, slots := 2, locals := 426 } : Room) (tg_PN D [(cI, .int), (cT, .object "TurnGroups$Tower")] [.ref (ga 0), .int zx1, .int zx2, .int zx3] (wG ta cI cT ga shelf np ng cur tw) sz) (tg_Ni D (wG ta cI cT ga shelf np ng cur tw) (wG ta cI cT ga shelf np ong cur otw) sz zr0) 1 2 (va_A (wG ta cI cT ga shelf np ng cur tw) sz) := by
  refine Met.ofW (cc := cX6_by) (maxL := 5) (ret := (some .int)) (by decide) rfl ?_
  intro p e s m zargs zbelow zmeth c s₁ B hml hv
  obtain ⟨hargs, hsz, hP, hK, hN, hD0⟩ := hv
  subst hsz
  have hx := B.exec
  have hb := B.bytes
  have hr := B.returns
  have hts := atoms_spec (ws := wsX6_by) B.pre
  have hown : s.vm.findClass RX6 = some m.cls := findClass_of_methodNamed B.named
  have hlocks := B.notSynchronized
  have hDD : tg_DD (va_A (wG ta cI cT ga shelf np ng cur tw) s.heap.size) (adG ta ga) := tg_DD.of (hD0.self (sz := s.heap.size)) wG_ad
  have hS : va_S (va_A (wG ta cI cT ga shelf np ng cur tw) s.heap.size) s.heap s.heap [] := va_S.rf
  have hA : ∀ q : Nat, s.heap.size ≤ q → (va_A (wG ta cI cT ga shelf np ng cur tw) s.heap.size) q := fun _ h9 => Or.inr h9
  have hl := lv_entry ([.ref (ga 0), .int zx1, .int zx2, .int zx3]) (n := 5) (Nat.le_of_ble_eq_true rfl)
  refine W.eq (g2 := entryFrame m ([.ref (ga 0), .int zx1, .int zx2, .int zx3] : List Value).toArray 5) (by rw [hargs]) ?_
  rw [lg_entry_eq]
  generalize (lg_sl ([.ref (ga 0), .int zx1, .int zx2, .int zx3]) ++ List.replicate (5 - (lg_sl ([.ref (ga 0), .int zx1, .int zx2, .int zx3])).length) Slot.unset).toArray = zls at hl ⊢
  have hl : lv_has zls 5 [(0, .ref (ga 0)), (1, .int zx1), (2, .int zx2), (3, .int zx3)] := hl
  rw [mX6_by] at h
  refine lv_iload_n hx hb dX6_by_0 rfl (lv_at hl 1 rfl) ?_
  refine lv_if_lt (tgt := 25) hx hb dX6_by_1 (by decide) (fun cb => ?_) (fun cb => ?_)
  · rw [if_pos cb] at h
    refine lv_bipush (v := (-2)) hx hb dX6_by_25 (by decide) ?_
    cases h
    refine W.widen (k := 1) (n := 2) (by omega) (by omega) ?_
    exact W.iret hx hb hr (fun t ht hW => ⟨rfl, by rw [ht]; exact hP, hS.F ht⟩) hS.2.2 dX6_by_27
  · rw [if_neg cb] at h
    refine lv_iload_n hx hb dX6_by_4 rfl (lv_at hl 1 rfl) ?_
    refine lv_iconst (v := 1) hx hb dX6_by_5 (by decide) ?_
    refine lv_icmp_gt (tgt := 25) hx hb dX6_by_6 (by decide) (fun cb_1 => ?_) (fun cb_1 => ?_)
    · rw [if_pos cb_1] at h
      refine lv_bipush (v := (-2)) hx hb dX6_by_25 (by decide) ?_
      cases h
      refine W.widen (k := 1) (n := 2) (by omega) (by omega) ?_
      exact W.iret hx hb hr (fun t ht hW => ⟨rfl, by rw [ht]; exact hP, hS.F ht⟩) hS.2.2 dX6_by_27
    · rw [if_neg cb_1] at h
      refine lv_aload_n hx hb dX6_by_9 rfl (lv_at hl 0 rfl) ?_
      refine lv_iload_n hx hb dX6_by_10 rfl (lv_at hl 2 rfl) ?_
      refine tg_cRi (va_runV (As := [.int zx2]) (rest := []) ⟨hx, hb, hml, hown, hts⟩ (qX6_isGroup l D cI cT ga ta shelf np ng cur tw zx2 _ rfl) (cwV 1 hts gX6_by_X6_isGroup rfl rfl rfl zVX6_isGroup ⟨Nat.le_of_ble_eq_true rfl, Nat.le_of_ble_eq_true rfl⟩) (tg_preV (r := (RX6, TX6, 6)) (ci := 5) (q0 := 0) hP hK hN rfl rfl) rfl rfl hl.1 rfl (lv_room (Nat.le_of_ble_eq_true rfl)) dX6_by_11 ⟨Nat.le_of_ble_eq_true rfl, Nat.le_of_ble_eq_true rfl⟩) ?_
      refine lv_if_eq (tgt := 25) hx hb dX6_by_14 (by decide) (fun cb_2 => ?_) (fun cb_2 => ?_)
      · rw [if_pos cb_2] at h
        refine lv_bipush (v := (-2)) hx hb dX6_by_25 (by decide) ?_
        cases h
        refine W.widen (k := 1) (n := 2) (by omega) (by omega) ?_
        exact W.iret hx hb hr (fun t ht hW => ⟨rfl, by rw [ht]; exact hP, hS.F ht⟩) hS.2.2 dX6_by_27
      · rw [if_neg cb_2] at h
        refine lv_aload_n hx hb dX6_by_17 rfl (lv_at hl 0 rfl) ?_
        refine lv_iload_n hx hb dX6_by_18 rfl (lv_at hl 3 rfl) ?_
        refine tg_cRi (va_runV (As := [.int zx3]) (rest := []) ⟨hx, hb, hml, hown, hts⟩ (qX6_isSet l D cI cT ga ta shelf np ng cur tw zx3 _ rfl) (cwV 1 hts gX6_by_X6_isSet rfl rfl rfl zVX6_isSet ⟨Nat.le_of_ble_eq_true rfl, Nat.le_of_ble_eq_true rfl⟩) (tg_preV (r := (RX6, TX6, 6)) (ci := 5) (q0 := 0) hP hK hN rfl rfl) rfl rfl hl.1 rfl (lv_room (Nat.le_of_ble_eq_true rfl)) dX6_by_19 ⟨Nat.le_of_ble_eq_true rfl, Nat.le_of_ble_eq_true rfl⟩) ?_
        refine lv_if_ne (tgt := 28) hx hb dX6_by_22 (by decide) (fun cb_3 => ?_) (fun cb_3 => ?_)
        · rw [if_neg cb_3] at h
          refine lv_aload_n hx hb dX6_by_28 rfl (lv_at hl 0 rfl) ?_
          refine tg_cRi (va_runV (As := []) (rest := []) ⟨hx, hb, hml, hown, hts⟩ (qX6_isFull l D cI cT ga ta shelf np ng cur tw _ rfl) (cwV 0 hts gX6_by_X6_isFull rfl rfl rfl zVX6_isFull ⟨Nat.le_of_ble_eq_true rfl, Nat.le_of_ble_eq_true rfl⟩) (tg_preV (r := (RX6, TX6, 6)) (ci := 5) (q0 := 0) hP hK hN rfl rfl) rfl rfl hl.1 rfl (lv_room (Nat.le_of_ble_eq_true rfl)) dX6_by_29 ⟨Nat.le_of_ble_eq_true rfl, Nat.le_of_ble_eq_true rfl⟩) ?_
          refine lv_if_eq (tgt := 38) hx hb dX6_by_32 (by decide) (fun cb_4 => ?_) (fun cb_4 => ?_)
          · rw [if_pos cb_4] at h
            refine lv_iload_n hx hb dX6_by_38 rfl (lv_at hl 1 rfl) ?_
            refine lv_if_ne (tgt := 53) hx hb dX6_by_39 (by decide) (fun cb_5 => ?_) (fun cb_5 => ?_)
            · rw [if_neg cb_5] at h
              refine va_new (ci := 0) (fs := [.int 0, .int 0]) (C := RX0) (T := TX0) (N := 2) hx hb hts uX6_by_RX0 tyX0 tyX0_ok hown (hts _ kX6_by_1) (hts _ kX6_by_2) (hts _ kX6_by_3) hK hP (hDD _ wG_ad) hS hA rfl (fun j hj => by rcases (show j = 0 ∨ j = 1 by omega) with rfl | rfl <;> rfl) (Nat.le_of_ble_eq_true rfl) (Nat.le_of_ble_eq_true rfl) dX6_by_53 (fun zq zH hP hD9 hS => ?_)
              refine W.widen (k := 1) (n := 2) (by omega) (by omega) ?_
              have hPw := tg_appR hP
              have hq1 := wG_new1 hD9
              have hDw := fun e9 => tg_newD (e' := e9) hD9
              have hP := tg_appL hP
              refine lv_dup hx hb dX6_by_56 rfl ?_
              refine lv_iload_n hx hb dX6_by_57 rfl (lv_at hl 3 rfl) ?_
              refine lv_iload_n hx hb dX6_by_58 rfl (lv_at hl 3 rfl) ?_
              refine tg_cMv (va_runI (As := [.int zx3, .int zx3]) (rest := [.ref zq]) ⟨hx, hb, hml, hown, hts⟩ (qX0_init l D (fun _ => zq) 0 0 zx3 zx3) (cwI 2 hts gX6_by_X0_init rfl rfl rfl (hts _ kX6_by_3) (hts _ kX6_by_4) (hts _ kX6_by_5) rfl zSX0_init ⟨Nat.le_of_ble_eq_true rfl, Nat.le_of_ble_eq_true rfl⟩) (tg_preSM hPw (hDw _) (hK.sub (tys' := []) [] rfl) hN) rfl rfl hl.1 rfl (lv_room (Nat.le_of_ble_eq_true rfl)) dX6_by_59 ⟨Nat.le_of_ble_eq_true rfl, Nat.le_of_ble_eq_true rfl⟩) hS (tg_inA (hDw _)) (fun zH zlocs hf9 hPw hS => ?_)
              have hP := wG_keep hP (wG_one hq1) hf9
              refine lv_astore (lv' := [(4, .ref zq), (0, .ref (ga 0)), (1, .int zx1), (2, .int zx2), (3, .int zx3)]) hx hb dX6_by_62 hl (by decide) rfl (fun zls hl => ?_)
              refine lv_aload_n hx hb dX6_by_64 rfl (lv_at hl 1 rfl) ?_
              refine va_get (D := D) (ci := 5) (v := .ref (ga 2)) (C := RX6) (T := TX6) (N := 6) hx hb hts uX6_by_RX6 hown hK hP 0 rfl rfl 1 (by decide) (hts _ kX6_by_6) (fun _ h9 => h9) rfl dX6_by_65 ?_
              refine lv_aload_n hx hb dX6_by_68 rfl (lv_at hl 1 rfl) ?_
              refine va_get (D := D) (ci := 5) (v := .int ng) (C := RX6) (T := TX6) (N := 6) hx hb hts uX6_by_RX6 hown hK hP 0 rfl rfl 4 (by decide) (hts _ kX6_by_7) (fun _ h9 => h9) rfl dX6_by_69 ?_
              obtain ⟨gg, h⟩ := gd_el h
              have hk : (Int32.toNatClampNeg ng) < 12 := by have := inb_lt gg; omega
              refine va_aldq hx hb hK hP 2 1 rfl rfl (inb_in gg) dX6_by_72 ?_
              refine W.eq (g2 := F0 m 73 zls [.ref (ta (Int32.toNatClampNeg ng) 0)]) rfl ?_
              refine lv_aload_n hx hb dX6_by_73 rfl (lv_at hl 1 rfl) ?_
              refine va_get (D := D) (ci := 5) (v := .ref (ga 2)) (C := RX6) (T := TX6) (N := 6) hx hb hts uX6_by_RX6 hown hK hP 0 rfl rfl 1 (by decide) (hts _ kX6_by_6) (fun _ h9 => h9) rfl dX6_by_74 ?_
              refine lv_iload_n hx hb dX6_by_77 rfl (lv_at hl 3 rfl) ?_
              obtain ⟨gg_1, h⟩ := gd_el h
              have hk_1 : (Int32.toNatClampNeg zx2) < 12 := by have := inb_lt gg_1; omega
              refine va_aldq hx hb hK hP 2 1 rfl rfl (inb_in gg_1) dX6_by_78 ?_
              refine W.eq (g2 := F0 m 79 zls [.ref (ta (Int32.toNatClampNeg zx2) 0), .ref (ta (Int32.toNatClampNeg ng) 0)]) rfl ?_
              refine lv_aload hx hb dX6_by_79 (lv_at hl 0 rfl) ?_
              obtain ⟨gg_2, h⟩ := gd_el h
              obtain ⟨tcells, tback, treach, tfilled, tfc, tmakers, tmc, hc, h⟩ := bd7_el h
              refine tg_cMv (va_runV (As := [.ref (ta (Int32.toNatClampNeg zx2) 0), .ref zq]) (rest := []) ⟨hx, hb, hml, hown, hts⟩ (qX4_gather l D cI (ta (Int32.toNatClampNeg ng)) (tw (Int32.toNatClampNeg ng)).1 (tw (Int32.toNatClampNeg ng)).2.1 (tw (Int32.toNatClampNeg ng)).2.2.1 (tw (Int32.toNatClampNeg ng)).2.2.2.1 (tw (Int32.toNatClampNeg ng)).2.2.2.2.1 (tw (Int32.toNatClampNeg ng)).2.2.2.2.2.1 (tw (Int32.toNatClampNeg ng)).2.2.2.2.2.2 (ta (Int32.toNatClampNeg zx2)) (tw (Int32.toNatClampNeg zx2)).1 (tw (Int32.toNatClampNeg zx2)).2.1 (tw (Int32.toNatClampNeg zx2)).2.2.1 (tw (Int32.toNatClampNeg zx2)).2.2.2.1 (tw (Int32.toNatClampNeg zx2)).2.2.2.2.1 (tw (Int32.toNatClampNeg zx2)).2.2.2.2.2.1 (tw (Int32.toNatClampNeg zx2)).2.2.2.2.2.2 (fun _ => zq) 0 (fun _ => 0) zx3 zx3 (fun _ => 0) (fun _ => 0) (fun _ => 0) (fun _ => 0) 0 (fun _ => 0) 0 F tcells tback treach tfilled tfc tmakers tmc hc) (cwV 2 hts gX6_by_X4_gather rfl rfl rfl zVX4_gather ⟨Nat.le_of_ble_eq_true rfl, Nat.le_of_ble_eq_true rfl⟩) (tg_preVMo (r := (RX4, TX4, 7)) (ci := 4) (q0 := 0) (wG_T hP hk) (wG_DT hDD hk) (va_P.app (wG_T hP hk_1) (wW_P0 hPw)) (tg_or (wG_apart hDD hk hk_1 (neb_el gg_2)) (wW_X0 (wG_newT (wG_one hq1) hk))) (hK.sub (tys' := [(cI, .int)]) [0] rfl) hN rfl rfl) rfl rfl hl.1 rfl (lv_room (Nat.le_of_ble_eq_true rfl)) dX6_by_81 ⟨Nat.le_of_ble_eq_true rfl, Nat.le_of_ble_eq_true rfl⟩) hS (tg_inA (wG_DT hDD hk)) (fun zH zlocs hf9 hP9 hS => ?_)
              obtain ⟨tw_1, etw_1, h⟩ := lT_el h
              have hP := wG_put (t0 := tw (Int32.toNatClampNeg ng)) (t := (tcells, tback, treach, tfilled, tfc, tmakers, tmc)) hP hDD hk hf9 hP9
              rw [← etw_1] at hP
              refine lv_aload_n hx hb dX6_by_84 rfl (lv_at hl 1 rfl) ?_
              refine lv_dup hx hb dX6_by_85 rfl ?_
              refine va_get (D := D) (ci := 5) (v := .int ng) (C := RX6) (T := TX6) (N := 6) hx hb hts uX6_by_RX6 hown hK hP 0 rfl rfl 4 (by decide) (hts _ kX6_by_7) (fun _ h9 => h9) rfl dX6_by_86 ?_
              refine lv_dup_x1 hx hb dX6_by_89 rfl rfl ?_
              refine lv_iconst (v := 1) hx hb dX6_by_90 (by decide) ?_
              refine lv_iadd hx hb dX6_by_91 ?_
              obtain ⟨ng_1, eng_1, h⟩ := lT_el h
              refine tg_top eng_1 ?_
              refine va_put (D := D) (ci := 5) (v := .int ng_1) (ty := .int) (C := RX6) (T := TX6) (N := 6) hx hb hts uX6_by_RX6 tyX6 tyX6_ok nmX6 hown hK hP (hDD _ wG_ad) hS 0 rfl rfl 4 (by decide) (hts _ kX6_by_7) (fun _ h9 => h9) rfl (by decide +kernel) rfl rfl (Nat.le_of_ble_eq_true rfl) dX6_by_92 (fun zH zlocs hP _ hS => ?_)
              have hP : va_P D vwCl (wG ta cI cT ga shelf np ng_1 cur tw_1) zH := hP
              cases h
              refine W.widen (k := 1) (n := 2) (by omega) (by omega) ?_
              exact W.iret hx hb hr (fun t ht hW => ⟨rfl, by rw [ht]; exact hP, hS.F ht⟩) hS.2.2 dX6_by_95
            · rw [if_pos cb_5] at h
              refine va_new (ci := 2) (fs := [.int 0]) (C := RX2) (T := TX2) (N := 1) hx hb hts uX6_by_RX2 tyX2 tyX2_ok hown (hts _ kX6_by_8) (hts _ kX6_by_9) (hts _ kX6_by_10) hK hP (hDD _ wG_ad) hS hA rfl (fun j hj => by rcases (show j = 0 by omega) with rfl; rfl) (Nat.le_of_ble_eq_true rfl) (Nat.le_of_ble_eq_true rfl) dX6_by_42 (fun zq zH hP hD9 hS => ?_)
              refine W.widen (k := 1) (n := 2) (by omega) (by omega) ?_
              have hPw := tg_appR hP
              have hq1 := wG_new1 hD9
              have hDw := fun e9 => tg_newD (e' := e9) hD9
              have hP := tg_appL hP
              refine lv_dup hx hb dX6_by_45 rfl ?_
              refine lv_iload_n hx hb dX6_by_46 rfl (lv_at hl 3 rfl) ?_
              refine tg_cMv (va_runI (As := [.int zx3]) (rest := [.ref zq]) ⟨hx, hb, hml, hown, hts⟩ (qX2_init l D (fun _ => zq) 0 zx3) (cwI 1 hts gX6_by_X2_init rfl rfl rfl (hts _ kX6_by_10) (hts _ kX6_by_11) (hts _ kX6_by_12) rfl zSX2_init ⟨Nat.le_of_ble_eq_true rfl, Nat.le_of_ble_eq_true rfl⟩) (tg_preSM hPw (hDw _) (hK.sub (tys' := []) [] rfl) hN) rfl rfl hl.1 rfl (lv_room (Nat.le_of_ble_eq_true rfl)) dX6_by_47 ⟨Nat.le_of_ble_eq_true rfl, Nat.le_of_ble_eq_true rfl⟩) hS (tg_inA (hDw _)) (fun zH zlocs hf9 hPw hS => ?_)
              have hP := wG_keep hP (wG_one hq1) hf9
              refine lv_goto (tgt := 62) hx hb dX6_by_50 (by decide) ?_
              refine lv_astore (lv' := [(4, .ref zq), (0, .ref (ga 0)), (1, .int zx1), (2, .int zx2), (3, .int zx3)]) hx hb dX6_by_62 hl (by decide) rfl (fun zls hl => ?_)
              refine lv_aload_n hx hb dX6_by_64 rfl (lv_at hl 1 rfl) ?_
              refine va_get (D := D) (ci := 5) (v := .ref (ga 2)) (C := RX6) (T := TX6) (N := 6) hx hb hts uX6_by_RX6 hown hK hP 0 rfl rfl 1 (by decide) (hts _ kX6_by_6) (fun _ h9 => h9) rfl dX6_by_65 ?_
              refine lv_aload_n hx hb dX6_by_68 rfl (lv_at hl 1 rfl) ?_
              refine va_get (D := D) (ci := 5) (v := .int ng) (C := RX6) (T := TX6) (N := 6) hx hb hts uX6_by_RX6 hown hK hP 0 rfl rfl 4 (by decide) (hts _ kX6_by_7) (fun _ h9 => h9) rfl dX6_by_69 ?_
              obtain ⟨gg_3, h⟩ := gd_el h
              have hk_2 : (Int32.toNatClampNeg ng) < 12 := by have := inb_lt gg_3; omega
              refine va_aldq hx hb hK hP 2 1 rfl rfl (inb_in gg_3) dX6_by_72 ?_
              refine W.eq (g2 := F0 m 73 zls [.ref (ta (Int32.toNatClampNeg ng) 0)]) rfl ?_
              refine lv_aload_n hx hb dX6_by_73 rfl (lv_at hl 1 rfl) ?_
              refine va_get (D := D) (ci := 5) (v := .ref (ga 2)) (C := RX6) (T := TX6) (N := 6) hx hb hts uX6_by_RX6 hown hK hP 0 rfl rfl 1 (by decide) (hts _ kX6_by_6) (fun _ h9 => h9) rfl dX6_by_74 ?_
              refine lv_iload_n hx hb dX6_by_77 rfl (lv_at hl 3 rfl) ?_
              obtain ⟨gg_4, h⟩ := gd_el h
              have hk_3 : (Int32.toNatClampNeg zx2) < 12 := by have := inb_lt gg_4; omega
              refine va_aldq hx hb hK hP 2 1 rfl rfl (inb_in gg_4) dX6_by_78 ?_
              refine W.eq (g2 := F0 m 79 zls [.ref (ta (Int32.toNatClampNeg zx2) 0), .ref (ta (Int32.toNatClampNeg ng) 0)]) rfl ?_
              refine lv_aload hx hb dX6_by_79 (lv_at hl 0 rfl) ?_
              obtain ⟨gg_5, h⟩ := gd_el h
              obtain ⟨tcells_1, tback_1, treach_1, tfilled_1, tfc_1, tmakers_1, tmc_1, hc_1, h⟩ := bd7_el h
              refine tg_cMv (va_runV (As := [.ref (ta (Int32.toNatClampNeg zx2) 0), .ref zq]) (rest := []) ⟨hx, hb, hml, hown, hts⟩ (qX4_gather l D cI (ta (Int32.toNatClampNeg ng)) (tw (Int32.toNatClampNeg ng)).1 (tw (Int32.toNatClampNeg ng)).2.1 (tw (Int32.toNatClampNeg ng)).2.2.1 (tw (Int32.toNatClampNeg ng)).2.2.2.1 (tw (Int32.toNatClampNeg ng)).2.2.2.2.1 (tw (Int32.toNatClampNeg ng)).2.2.2.2.2.1 (tw (Int32.toNatClampNeg ng)).2.2.2.2.2.2 (ta (Int32.toNatClampNeg zx2)) (tw (Int32.toNatClampNeg zx2)).1 (tw (Int32.toNatClampNeg zx2)).2.1 (tw (Int32.toNatClampNeg zx2)).2.2.1 (tw (Int32.toNatClampNeg zx2)).2.2.2.1 (tw (Int32.toNatClampNeg zx2)).2.2.2.2.1 (tw (Int32.toNatClampNeg zx2)).2.2.2.2.2.1 (tw (Int32.toNatClampNeg zx2)).2.2.2.2.2.2 (fun _ => zq) 2 (fun _ => 0) zx3 0 (fun _ => 0) (fun _ => 0) (fun _ => 0) (fun _ => 0) 0 (fun _ => 0) 0 F tcells_1 tback_1 treach_1 tfilled_1 tfc_1 tmakers_1 tmc_1 hc_1) (cwV 2 hts gX6_by_X4_gather rfl rfl rfl zVX4_gather ⟨Nat.le_of_ble_eq_true rfl, Nat.le_of_ble_eq_true rfl⟩) (tg_preVMo (r := (RX4, TX4, 7)) (ci := 4) (q0 := 0) (wG_T hP hk_2) (wG_DT hDD hk_2) (va_P.app (wG_T hP hk_3) (wW_P2 hPw)) (tg_or (wG_apart hDD hk_2 hk_3 (neb_el gg_5)) (wW_X2 (wG_newT (wG_one hq1) hk_2))) (hK.sub (tys' := [(cI, .int)]) [0] rfl) hN rfl rfl) rfl rfl hl.1 rfl (lv_room (Nat.le_of_ble_eq_true rfl)) dX6_by_81 ⟨Nat.le_of_ble_eq_true rfl, Nat.le_of_ble_eq_true rfl⟩) hS (tg_inA (wG_DT hDD hk_2)) (fun zH zlocs hf9 hP9 hS => ?_)
              obtain ⟨tw_2, etw_2, h⟩ := lT_el h
              have hP := wG_put (t0 := tw (Int32.toNatClampNeg ng)) (t := (tcells_1, tback_1, treach_1, tfilled_1, tfc_1, tmakers_1, tmc_1)) hP hDD hk_2 hf9 hP9
              rw [← etw_2] at hP
              refine lv_aload_n hx hb dX6_by_84 rfl (lv_at hl 1 rfl) ?_
              refine lv_dup hx hb dX6_by_85 rfl ?_
              refine va_get (D := D) (ci := 5) (v := .int ng) (C := RX6) (T := TX6) (N := 6) hx hb hts uX6_by_RX6 hown hK hP 0 rfl rfl 4 (by decide) (hts _ kX6_by_7) (fun _ h9 => h9) rfl dX6_by_86 ?_
              refine lv_dup_x1 hx hb dX6_by_89 rfl rfl ?_
              refine lv_iconst (v := 1) hx hb dX6_by_90 (by decide) ?_
              refine lv_iadd hx hb dX6_by_91 ?_
              obtain ⟨ng_2, eng_2, h⟩ := lT_el h
              refine tg_top eng_2 ?_
              refine va_put (D := D) (ci := 5) (v := .int ng_2) (ty := .int) (C := RX6) (T := TX6) (N := 6) hx hb hts uX6_by_RX6 tyX6 tyX6_ok nmX6 hown hK hP (hDD _ wG_ad) hS 0 rfl rfl 4 (by decide) (hts _ kX6_by_7) (fun _ h9 => h9) rfl (by decide +kernel) rfl rfl (Nat.le_of_ble_eq_true rfl) dX6_by_92 (fun zH zlocs hP _ hS => ?_)
              have hP : va_P D vwCl (wG ta cI cT ga shelf np ng_2 cur tw_2) zH := hP
              cases h
              refine W.widen (k := 1) (n := 2) (by omega) (by omega) ?_
              exact W.iret hx hb hr (fun t ht hW => ⟨rfl, by rw [ht]; exact hP, hS.F ht⟩) hS.2.2 dX6_by_95
          · rw [if_neg cb_4] at h
            refine lv_bipush (v := (-3)) hx hb dX6_by_35 (by decide) ?_
            cases h
            refine W.widen (k := 1) (n := 2) (by omega) (by omega) ?_
            exact W.iret hx hb hr (fun t ht hW => ⟨rfl, by rw [ht]; exact hP, hS.F ht⟩) hS.2.2 dX6_by_37
        · rw [if_pos cb_3] at h
          refine lv_bipush (v := (-2)) hx hb dX6_by_25 (by decide) ?_
          cases h
          refine W.widen (k := 1) (n := 2) (by omega) (by omega) ?_
          exact W.iret hx hb hr (fun t ht hW => ⟨rfl, by rw [ht]; exact hP, hS.F ht⟩) hS.2.2 dX6_by_27
theorem zVX6_by : yX6_by.cls = RX6 ∧ yX6_by.cls ≠ "java/lang/invoke/MethodHandle" ∧ yX6_by.cls ≠ "java/lang/invoke/VarHandle" ∧ (parseMethodDescriptor yX6_by.desc).map (fun d => d.parameters.length) = some 3 := by decide +kernel

/-! ===== public int made(int, int); ===== -/
theorem kX6_made_1 : Cond.fieldLink RX6 15 "TurnGroups" "groups" "[LTurnGroups$Tower;" ∈ wsX6_made := by decide +kernel
theorem kX6_made_2 : Cond.fieldLink RX6 27 "TurnGroups" "groupCount" "I" ∈ wsX6_made := by decide +kernel
theorem kX6_made_3 : Cond.fieldLink RX6 43 "TurnGroups" "current" "I" ∈ wsX6_made := by decide +kernel
theorem kX6_made_4 : Cond.classLink RX6 127 RX1 ∈ wsX6_made := by decide +kernel
theorem kX6_made_5 : Cond.instantiable RX1 1 ∈ wsX6_made := by decide +kernel
theorem kX6_made_6 : Cond.initialized RX1 ∈ wsX6_made := by decide +kernel
theorem kX6_made_7 : Cond.methodLink RX6 129 yX1_init ∈ wsX6_made := by decide +kernel
theorem kX6_made_8 : Cond.instanceMethod yX1_init ∈ wsX6_made := by decide +kernel
theorem kX6_made_9 : Cond.fieldLink RX6 19 "TurnGroups" "spare" "[LTurnGroups$Tower;" ∈ wsX6_made := by decide +kernel
theorem uX6_made_RX1 : ∀ w ∈ u_ws RX1 TX1 1, w ∈ wsX6_made := by decide +kernel
theorem uX6_made_RX6 : ∀ w ∈ u_ws RX6 TX6 6, w ∈ wsX6_made := by decide +kernel
def mX6_made (F : Nat) (ng : Int32) (cur : Int32) (tw : Nat → TW) (zx1 : Int32) (zx2 : Int32) : Option (Int32 × Int32 × (Nat → TW)) := if zx1 < 0 then (some ((-2 : Int32), ng, tw)) else (if 3 < zx1 then (some ((-2 : Int32), ng, tw)) else (if (mX6_isGroup ng zx2) = 0 then (some ((-2 : Int32), ng, tw)) else (if (mX6_isFull ng) = 0 then (gd (inb ng 10) (if zx1 = 0 then (gd (inb 0 2) (bd3 (mX4_clear F (tw (10 + Int32.toNatClampNeg 0)).2.2.1 (tw (10 + Int32.toNatClampNeg 0)).2.2.2.2.1 (tw (10 + Int32.toNatClampNeg 0)).2.2.2.2.2.2) (fun treach_3 tfc_3 tmc_3 => lT (upT tw (10 + Int32.toNatClampNeg 0) ((tw (10 + Int32.toNatClampNeg 0)).1, (tw (10 + Int32.toNatClampNeg 0)).2.1, treach_3, (tw (10 + Int32.toNatClampNeg 0)).2.2.2.1, tfc_3, (tw (10 + Int32.toNatClampNeg 0)).2.2.2.2.2.1, tmc_3)) (fun tw_4 => gd (inb 0 2) (bd8 (mX4_join F (tw_4 (10 + Int32.toNatClampNeg 0)).1 (tw_4 (10 + Int32.toNatClampNeg 0)).2.1 (tw_4 (10 + Int32.toNatClampNeg 0)).2.2.1 (tw_4 (10 + Int32.toNatClampNeg 0)).2.2.2.1 (tw_4 (10 + Int32.toNatClampNeg 0)).2.2.2.2.1 (tw_4 (10 + Int32.toNatClampNeg 0)).2.2.2.2.2.1 (tw_4 (10 + Int32.toNatClampNeg 0)).2.2.2.2.2.2 cur) (fun zr_2 tcells_3 tback_3 treach_4 tfilled_3 tfc_4 tmakers_3 tmc_4 => lT (upT tw_4 (10 + Int32.toNatClampNeg 0) (tcells_3, tback_3, treach_4, tfilled_3, tfc_4, tmakers_3, tmc_4)) (fun tw_5 => gd (inb zx2 10) (gd (inb 0 2) (gd (neb (Int32.toNatClampNeg ng) (Int32.toNatClampNeg zx2)) (gd (neb (Int32.toNatClampNeg ng) (10 + Int32.toNatClampNeg 0)) (bd7 (mX4_gather F 1 (tw_5 (Int32.toNatClampNeg ng)).1 (tw_5 (Int32.toNatClampNeg ng)).2.1 (tw_5 (Int32.toNatClampNeg ng)).2.2.1 (tw_5 (Int32.toNatClampNeg ng)).2.2.2.1 (tw_5 (Int32.toNatClampNeg ng)).2.2.2.2.1 (tw_5 (Int32.toNatClampNeg ng)).2.2.2.2.2.1 (tw_5 (Int32.toNatClampNeg ng)).2.2.2.2.2.2 (tw_5 (Int32.toNatClampNeg zx2)).1 (tw_5 (Int32.toNatClampNeg zx2)).2.2.1 0 0 (tw_5 (10 + Int32.toNatClampNeg 0)).2.1 (tw_5 (10 + Int32.toNatClampNeg 0)).2.2.1 (tw_5 (10 + Int32.toNatClampNeg 0)).2.2.2.2.2.1 (tw_5 (10 + Int32.toNatClampNeg 0)).2.2.2.2.2.2) (fun tcells_4 tback_4 treach_5 tfilled_4 tfc_5 tmakers_4 tmc_5 => lT (upT tw_5 (Int32.toNatClampNeg ng) (tcells_4, tback_4, treach_5, tfilled_4, tfc_5, tmakers_4, tmc_5)) (fun tw_6 => lT (ng + 1) (fun ng_4 => some (ng, ng_4, tw_6))))))))))))))) else (if zx1 = 1 then (gd (inb zx2 10) (gd (inb zx2 10) (gd (neb (Int32.toNatClampNeg ng) (Int32.toNatClampNeg zx2)) (gd (neb (Int32.toNatClampNeg ng) (Int32.toNatClampNeg zx2)) (bd7 (mX4_gather F 1 (tw (Int32.toNatClampNeg ng)).1 (tw (Int32.toNatClampNeg ng)).2.1 (tw (Int32.toNatClampNeg ng)).2.2.1 (tw (Int32.toNatClampNeg ng)).2.2.2.1 (tw (Int32.toNatClampNeg ng)).2.2.2.2.1 (tw (Int32.toNatClampNeg ng)).2.2.2.2.2.1 (tw (Int32.toNatClampNeg ng)).2.2.2.2.2.2 (tw (Int32.toNatClampNeg zx2)).1 (tw (Int32.toNatClampNeg zx2)).2.2.1 0 0 (tw (Int32.toNatClampNeg zx2)).2.1 (tw (Int32.toNatClampNeg zx2)).2.2.1 (tw (Int32.toNatClampNeg zx2)).2.2.2.2.2.1 (tw (Int32.toNatClampNeg zx2)).2.2.2.2.2.2) (fun tcells_2 tback_2 treach_2 tfilled_2 tfc_2 tmakers_2 tmc_2 => lT (upT tw (Int32.toNatClampNeg ng) (tcells_2, tback_2, treach_2, tfilled_2, tfc_2, tmakers_2, tmc_2)) (fun tw_3 => lT (ng + 1) (fun ng_3 => some (ng, ng_3, tw_3))))))))) else (if zx1 = 2 then (gd (inb zx2 10) (gd (neb (Int32.toNatClampNeg ng) (Int32.toNatClampNeg zx2)) (bd7 (mX4_becomeCarried F (tw (Int32.toNatClampNeg ng)).1 (tw (Int32.toNatClampNeg ng)).2.1 (tw (Int32.toNatClampNeg ng)).2.2.1 (tw (Int32.toNatClampNeg ng)).2.2.2.1 (tw (Int32.toNatClampNeg ng)).2.2.2.2.1 (tw (Int32.toNatClampNeg ng)).2.2.2.2.2.1 (tw (Int32.toNatClampNeg ng)).2.2.2.2.2.2 (tw (Int32.toNatClampNeg zx2)).2.2.2.2.2.1 (tw (Int32.toNatClampNeg zx2)).2.2.2.2.2.2 cur) (fun tcells_1 tback_1 treach_1 tfilled_1 tfc_1 tmakers_1 tmc_1 => lT (upT tw (Int32.toNatClampNeg ng) (tcells_1, tback_1, treach_1, tfilled_1, tfc_1, tmakers_1, tmc_1)) (fun tw_2 => lT (ng + 1) (fun ng_2 => some (ng, ng_2, tw_2))))))) else (gd (inb zx2 10) (gd (neb (Int32.toNatClampNeg ng) (Int32.toNatClampNeg zx2)) (bd7 (mX4_becomeDown F (tw (Int32.toNatClampNeg ng)).1 (tw (Int32.toNatClampNeg ng)).2.1 (tw (Int32.toNatClampNeg ng)).2.2.1 (tw (Int32.toNatClampNeg ng)).2.2.2.1 (tw (Int32.toNatClampNeg ng)).2.2.2.2.1 (tw (Int32.toNatClampNeg ng)).2.2.2.2.2.1 (tw (Int32.toNatClampNeg ng)).2.2.2.2.2.2 (tw (Int32.toNatClampNeg zx2)).2.2.2.2.2.1 (tw (Int32.toNatClampNeg zx2)).2.2.2.2.2.2) (fun tcells tback treach tfilled tfc tmakers tmc => lT (upT tw (Int32.toNatClampNeg ng) (tcells, tback, treach, tfilled, tfc, tmakers, tmc)) (fun tw_1 => lT (ng + 1) (fun ng_1 => some (ng, ng_1, tw_1))))))))))) else (some ((-3 : Int32), ng, tw)))))
set_option maxRecDepth 100000 in
set_option maxHeartbeats 4000000 in
theorem qX6_made (l : Launch) (D : va_G) (cI : ClassId) (cT : ClassId) (ga : Nat → Nat) (ta : Nat → Nat → Nat) (shelf : Nat → Int32) (np : Int32) (ng : Int32) (cur : Int32) (tw : Nat → TW) (zx1 : Int32) (zx2 : Int32) (F : Nat) (zr0 : Int32) (ong : Int32) (otw : Nat → TW) (sz : Nat) (h : mX6_made F ng cur tw zx1 zx2 = some (zr0, ong, otw)) : Met l yX6_made wsX6_made ({ frames := 16, cells := 1, slots := 2, locals := 426 } : Room) (tg_PN D [(cI, .int), (cT, .object "TurnGroups$Tower")] [.ref (ga 0), .int zx1, .int zx2] (wG ta cI cT ga shelf np ng cur tw) sz) (tg_Ni D (wG ta cI cT ga shelf np ng cur tw) (wG ta cI cT ga shelf np ong cur otw) sz zr0) 1 2 (va_A (wG ta cI cT ga shelf np ng cur tw) sz) := by
  refine Met.ofW (cc := cX6_made) (maxL := 4) (ret := (some .int)) (by decide) rfl ?_
  intro p e s m zargs zbelow zmeth c s₁ B hml hv
  obtain ⟨hargs, hsz, hP, hK, hN, hD0⟩ := hv
  subst hsz
  have hx := B.exec
  have hb := B.bytes
  have hr := B.returns
  have hts := atoms_spec (ws := wsX6_made) B.pre
  have hown : s.vm.findClass RX6 = some m.cls := findClass_of_methodNamed B.named
  have hlocks := B.notSynchronized
  have hDD : tg_DD (va_A (wG ta cI cT ga shelf np ng cur tw) s.heap.size) (adG ta ga) := tg_DD.of (hD0.self (sz := s.heap.size)) wG_ad
  have hS : va_S (va_A (wG ta cI cT ga shelf np ng cur tw) s.heap.size) s.heap s.heap [] := va_S.rf
  have hA : ∀ q : Nat, s.heap.size ≤ q → (va_A (wG ta cI cT ga shelf np ng cur tw) s.heap.size) q := fun _ h9 => Or.inr h9
  have hl := lv_entry ([.ref (ga 0), .int zx1, .int zx2]) (n := 4) (Nat.le_of_ble_eq_true rfl)
  refine W.eq (g2 := entryFrame m ([.ref (ga 0), .int zx1, .int zx2] : List Value).toArray 4) (by rw [hargs]) ?_
  rw [lg_entry_eq]
  generalize (lg_sl ([.ref (ga 0), .int zx1, .int zx2]) ++ List.replicate (4 - (lg_sl ([.ref (ga 0), .int zx1, .int zx2])).length) Slot.unset).toArray = zls at hl ⊢
  have hl : lv_has zls 4 [(0, .ref (ga 0)), (1, .int zx1), (2, .int zx2)] := hl
  rw [mX6_made] at h
  refine lv_iload_n hx hb dX6_made_0 rfl (lv_at hl 1 rfl) ?_
  refine lv_if_lt (tgt := 17) hx hb dX6_made_1 (by decide) (fun cb => ?_) (fun cb => ?_)
  · rw [if_pos cb] at h
    refine lv_bipush (v := (-2)) hx hb dX6_made_17 (by decide) ?_
    cases h
    refine W.widen (k := 1) (n := 2) (by omega) (by omega) ?_
    exact W.iret hx hb hr (fun t ht hW => ⟨rfl, by rw [ht]; exact hP, hS.F ht⟩) hS.2.2 dX6_made_19
  · rw [if_neg cb] at h
    refine lv_iload_n hx hb dX6_made_4 rfl (lv_at hl 1 rfl) ?_
    refine lv_iconst (v := 3) hx hb dX6_made_5 (by decide) ?_
    refine lv_icmp_gt (tgt := 17) hx hb dX6_made_6 (by decide) (fun cb_1 => ?_) (fun cb_1 => ?_)
    · rw [if_pos cb_1] at h
      refine lv_bipush (v := (-2)) hx hb dX6_made_17 (by decide) ?_
      cases h
      refine W.widen (k := 1) (n := 2) (by omega) (by omega) ?_
      exact W.iret hx hb hr (fun t ht hW => ⟨rfl, by rw [ht]; exact hP, hS.F ht⟩) hS.2.2 dX6_made_19
    · rw [if_neg cb_1] at h
      refine lv_aload_n hx hb dX6_made_9 rfl (lv_at hl 0 rfl) ?_
      refine lv_iload_n hx hb dX6_made_10 rfl (lv_at hl 2 rfl) ?_
      refine tg_cRi (va_runV (As := [.int zx2]) (rest := []) ⟨hx, hb, hml, hown, hts⟩ (qX6_isGroup l D cI cT ga ta shelf np ng cur tw zx2 _ rfl) (cwV 1 hts gX6_made_X6_isGroup rfl rfl rfl zVX6_isGroup ⟨Nat.le_of_ble_eq_true rfl, Nat.le_of_ble_eq_true rfl⟩) (tg_preV (r := (RX6, TX6, 6)) (ci := 5) (q0 := 0) hP hK hN rfl rfl) rfl rfl hl.1 rfl (lv_room (Nat.le_of_ble_eq_true rfl)) dX6_made_11 ⟨Nat.le_of_ble_eq_true rfl, Nat.le_of_ble_eq_true rfl⟩) ?_
      refine lv_if_ne (tgt := 20) hx hb dX6_made_14 (by decide) (fun cb_2 => ?_) (fun cb_2 => ?_)
      · rw [if_neg cb_2] at h
        refine lv_aload_n hx hb dX6_made_20 rfl (lv_at hl 0 rfl) ?_
        refine tg_cRi (va_runV (As := []) (rest := []) ⟨hx, hb, hml, hown, hts⟩ (qX6_isFull l D cI cT ga ta shelf np ng cur tw _ rfl) (cwV 0 hts gX6_made_X6_isFull rfl rfl rfl zVX6_isFull ⟨Nat.le_of_ble_eq_true rfl, Nat.le_of_ble_eq_true rfl⟩) (tg_preV (r := (RX6, TX6, 6)) (ci := 5) (q0 := 0) hP hK hN rfl rfl) rfl rfl hl.1 rfl (lv_room (Nat.le_of_ble_eq_true rfl)) dX6_made_21 ⟨Nat.le_of_ble_eq_true rfl, Nat.le_of_ble_eq_true rfl⟩) ?_
        refine lv_if_eq (tgt := 30) hx hb dX6_made_24 (by decide) (fun cb_3 => ?_) (fun cb_3 => ?_)
        · rw [if_pos cb_3] at h
          refine lv_aload_n hx hb dX6_made_30 rfl (lv_at hl 0 rfl) ?_
          refine va_get (D := D) (ci := 5) (v := .ref (ga 2)) (C := RX6) (T := TX6) (N := 6) hx hb hts uX6_made_RX6 hown hK hP 0 rfl rfl 1 (by decide) (hts _ kX6_made_1) (fun _ h9 => h9) rfl dX6_made_31 ?_
          refine lv_aload_n hx hb dX6_made_34 rfl (lv_at hl 0 rfl) ?_
          refine va_get (D := D) (ci := 5) (v := .int ng) (C := RX6) (T := TX6) (N := 6) hx hb hts uX6_made_RX6 hown hK hP 0 rfl rfl 4 (by decide) (hts _ kX6_made_2) (fun _ h9 => h9) rfl dX6_made_35 ?_
          obtain ⟨gg, h⟩ := gd_el h
          have hk : (Int32.toNatClampNeg ng) < 12 := by have := inb_lt gg; omega
          refine va_aldq hx hb hK hP 2 1 rfl rfl (inb_in gg) dX6_made_38 ?_
          refine W.eq (g2 := F0 m 39 zls [.ref (ta (Int32.toNatClampNeg ng) 0)]) rfl ?_
          refine lv_astore_n (lv' := [(3, .ref (ta (Int32.toNatClampNeg ng) 0)), (0, .ref (ga 0)), (1, .int zx1), (2, .int zx2)]) hx hb dX6_made_39 rfl hl (by decide) rfl (fun zls hl => ?_)
          refine lv_iload_n hx hb dX6_made_40 rfl (lv_at hl 2 rfl) ?_
          refine lv_if_ne (tgt := 93) hx hb dX6_made_41 (by decide) (fun cb_4 => ?_) (fun cb_4 => ?_)
          · rw [if_neg cb_4] at h
            refine lv_iload_n hx hb dX6_made_93 rfl (lv_at hl 2 rfl) ?_
            refine lv_iconst (v := 1) hx hb dX6_made_94 (by decide) ?_
            refine lv_icmp_ne (tgt := 124) hx hb dX6_made_95 (by decide) (fun cb_5 => ?_) (fun cb_5 => ?_)
            · rw [if_neg cb_5] at h
              refine lv_iload_n hx hb dX6_made_124 rfl (lv_at hl 2 rfl) ?_
              refine lv_iconst (v := 2) hx hb dX6_made_125 (by decide) ?_
              refine lv_icmp_ne (tgt := 146) hx hb dX6_made_126 (by decide) (fun cb_6 => ?_) (fun cb_6 => ?_)
              · rw [if_neg cb_6] at h
                refine lv_aload_n hx hb dX6_made_146 rfl (lv_at hl 0 rfl) ?_
                refine lv_aload_n hx hb dX6_made_147 rfl (lv_at hl 1 rfl) ?_
                refine va_get (D := D) (ci := 5) (v := .ref (ga 2)) (C := RX6) (T := TX6) (N := 6) hx hb hts uX6_made_RX6 hown hK hP 0 rfl rfl 1 (by decide) (hts _ kX6_made_1) (fun _ h9 => h9) rfl dX6_made_148 ?_
                refine lv_iload_n hx hb dX6_made_151 rfl (lv_at hl 3 rfl) ?_
                obtain ⟨gg_1, h⟩ := gd_el h
                have hk_1 : (Int32.toNatClampNeg zx2) < 12 := by have := inb_lt gg_1; omega
                refine va_aldq hx hb hK hP 2 1 rfl rfl (inb_in gg_1) dX6_made_152 ?_
                refine W.eq (g2 := F0 m 153 zls [.ref (ta (Int32.toNatClampNeg zx2) 0), .ref (ta (Int32.toNatClampNeg ng) 0)]) rfl ?_
                obtain ⟨gg_2, h⟩ := gd_el h
                obtain ⟨tcells, tback, treach, tfilled, tfc, tmakers, tmc, hc, h⟩ := bd7_el h
                refine tg_cMv (va_runV (As := [.ref (ta (Int32.toNatClampNeg zx2) 0)]) (rest := []) ⟨hx, hb, hml, hown, hts⟩ (qX4_becomeDown l D cI (ta (Int32.toNatClampNeg ng)) (tw (Int32.toNatClampNeg ng)).1 (tw (Int32.toNatClampNeg ng)).2.1 (tw (Int32.toNatClampNeg ng)).2.2.1 (tw (Int32.toNatClampNeg ng)).2.2.2.1 (tw (Int32.toNatClampNeg ng)).2.2.2.2.1 (tw (Int32.toNatClampNeg ng)).2.2.2.2.2.1 (tw (Int32.toNatClampNeg ng)).2.2.2.2.2.2 (ta (Int32.toNatClampNeg zx2)) (tw (Int32.toNatClampNeg zx2)).1 (tw (Int32.toNatClampNeg zx2)).2.1 (tw (Int32.toNatClampNeg zx2)).2.2.1 (tw (Int32.toNatClampNeg zx2)).2.2.2.1 (tw (Int32.toNatClampNeg zx2)).2.2.2.2.1 (tw (Int32.toNatClampNeg zx2)).2.2.2.2.2.1 (tw (Int32.toNatClampNeg zx2)).2.2.2.2.2.2 F tcells tback treach tfilled tfc tmakers tmc hc) (cwV 1 hts gX6_made_X4_becomeDown rfl rfl rfl zVX4_becomeDown ⟨Nat.le_of_ble_eq_true rfl, Nat.le_of_ble_eq_true rfl⟩) (tg_preVMo (r := (RX4, TX4, 7)) (ci := 4) (q0 := 0) (wG_T hP hk) (wG_DT hDD hk) (wG_T hP hk_1) (wG_apart hDD hk hk_1 (neb_el gg_2)) (hK.sub (tys' := [(cI, .int)]) [0] rfl) hN rfl rfl) rfl rfl hl.1 rfl (lv_room (Nat.le_of_ble_eq_true rfl)) dX6_made_153 ⟨Nat.le_of_ble_eq_true rfl, Nat.le_of_ble_eq_true rfl⟩) hS (tg_inA (wG_DT hDD hk)) (fun zH zlocs hf9 hP9 hS => ?_)
                obtain ⟨tw_1, etw_1, h⟩ := lT_el h
                have hP := wG_put (t0 := tw (Int32.toNatClampNeg ng)) (t := (tcells, tback, treach, tfilled, tfc, tmakers, tmc)) hP hDD hk hf9 hP9
                rw [← etw_1] at hP
                refine lv_aload_n hx hb dX6_made_156 rfl (lv_at hl 1 rfl) ?_
                refine lv_dup hx hb dX6_made_157 rfl ?_
                refine va_get (D := D) (ci := 5) (v := .int ng) (C := RX6) (T := TX6) (N := 6) hx hb hts uX6_made_RX6 hown hK hP 0 rfl rfl 4 (by decide) (hts _ kX6_made_2) (fun _ h9 => h9) rfl dX6_made_158 ?_
                refine lv_dup_x1 hx hb dX6_made_161 rfl rfl ?_
                refine lv_iconst (v := 1) hx hb dX6_made_162 (by decide) ?_
                refine lv_iadd hx hb dX6_made_163 ?_
                obtain ⟨ng_1, eng_1, h⟩ := lT_el h
                refine tg_top eng_1 ?_
                refine va_put (D := D) (ci := 5) (v := .int ng_1) (ty := .int) (C := RX6) (T := TX6) (N := 6) hx hb hts uX6_made_RX6 tyX6 tyX6_ok nmX6 hown hK hP (hDD _ wG_ad) hS 0 rfl rfl 4 (by decide) (hts _ kX6_made_2) (fun _ h9 => h9) rfl (by decide +kernel) rfl rfl (Nat.le_of_ble_eq_true rfl) dX6_made_164 (fun zH zlocs hP _ hS => ?_)
                have hP : va_P D vwCl (wG ta cI cT ga shelf np ng_1 cur tw_1) zH := hP
                cases h
                refine W.widen (k := 1) (n := 2) (by omega) (by omega) ?_
                exact W.iret hx hb hr (fun t ht hW => ⟨rfl, by rw [ht]; exact hP, hS.F ht⟩) hS.2.2 dX6_made_167
              · rw [if_pos cb_6] at h
                refine lv_aload_n hx hb dX6_made_129 rfl (lv_at hl 0 rfl) ?_
                refine lv_aload_n hx hb dX6_made_130 rfl (lv_at hl 1 rfl) ?_
                refine va_get (D := D) (ci := 5) (v := .ref (ga 2)) (C := RX6) (T := TX6) (N := 6) hx hb hts uX6_made_RX6 hown hK hP 0 rfl rfl 1 (by decide) (hts _ kX6_made_1) (fun _ h9 => h9) rfl dX6_made_131 ?_
                refine lv_iload_n hx hb dX6_made_134 rfl (lv_at hl 3 rfl) ?_
                obtain ⟨gg_3, h⟩ := gd_el h
                have hk_2 : (Int32.toNatClampNeg zx2) < 12 := by have := inb_lt gg_3; omega
                refine va_aldq hx hb hK hP 2 1 rfl rfl (inb_in gg_3) dX6_made_135 ?_
                refine W.eq (g2 := F0 m 136 zls [.ref (ta (Int32.toNatClampNeg zx2) 0), .ref (ta (Int32.toNatClampNeg ng) 0)]) rfl ?_
                refine lv_aload_n hx hb dX6_made_136 rfl (lv_at hl 1 rfl) ?_
                refine va_get (D := D) (ci := 5) (v := .int cur) (C := RX6) (T := TX6) (N := 6) hx hb hts uX6_made_RX6 hown hK hP 0 rfl rfl 5 (by decide) (hts _ kX6_made_3) (fun _ h9 => h9) rfl dX6_made_137 ?_
                obtain ⟨gg_4, h⟩ := gd_el h
                obtain ⟨tcells_1, tback_1, treach_1, tfilled_1, tfc_1, tmakers_1, tmc_1, hc_1, h⟩ := bd7_el h
                refine tg_cMv (va_runV (As := [.ref (ta (Int32.toNatClampNeg zx2) 0), .int cur]) (rest := []) ⟨hx, hb, hml, hown, hts⟩ (qX4_becomeCarried l D cI (ta (Int32.toNatClampNeg ng)) (tw (Int32.toNatClampNeg ng)).1 (tw (Int32.toNatClampNeg ng)).2.1 (tw (Int32.toNatClampNeg ng)).2.2.1 (tw (Int32.toNatClampNeg ng)).2.2.2.1 (tw (Int32.toNatClampNeg ng)).2.2.2.2.1 (tw (Int32.toNatClampNeg ng)).2.2.2.2.2.1 (tw (Int32.toNatClampNeg ng)).2.2.2.2.2.2 (ta (Int32.toNatClampNeg zx2)) (tw (Int32.toNatClampNeg zx2)).1 (tw (Int32.toNatClampNeg zx2)).2.1 (tw (Int32.toNatClampNeg zx2)).2.2.1 (tw (Int32.toNatClampNeg zx2)).2.2.2.1 (tw (Int32.toNatClampNeg zx2)).2.2.2.2.1 (tw (Int32.toNatClampNeg zx2)).2.2.2.2.2.1 (tw (Int32.toNatClampNeg zx2)).2.2.2.2.2.2 cur F tcells_1 tback_1 treach_1 tfilled_1 tfc_1 tmakers_1 tmc_1 hc_1) (cwV 2 hts gX6_made_X4_becomeCarried rfl rfl rfl zVX4_becomeCarried ⟨Nat.le_of_ble_eq_true rfl, Nat.le_of_ble_eq_true rfl⟩) (tg_preVMo (r := (RX4, TX4, 7)) (ci := 4) (q0 := 0) (wG_T hP hk) (wG_DT hDD hk) (wG_T hP hk_2) (wG_apart hDD hk hk_2 (neb_el gg_4)) (hK.sub (tys' := [(cI, .int)]) [0] rfl) hN rfl rfl) rfl rfl hl.1 rfl (lv_room (Nat.le_of_ble_eq_true rfl)) dX6_made_140 ⟨Nat.le_of_ble_eq_true rfl, Nat.le_of_ble_eq_true rfl⟩) hS (tg_inA (wG_DT hDD hk)) (fun zH zlocs hf9 hP9 hS => ?_)
                obtain ⟨tw_2, etw_2, h⟩ := lT_el h
                have hP := wG_put (t0 := tw (Int32.toNatClampNeg ng)) (t := (tcells_1, tback_1, treach_1, tfilled_1, tfc_1, tmakers_1, tmc_1)) hP hDD hk hf9 hP9
                rw [← etw_2] at hP
                refine lv_goto (tgt := 156) hx hb dX6_made_143 (by decide) ?_
                refine lv_aload_n hx hb dX6_made_156 rfl (lv_at hl 1 rfl) ?_
                refine lv_dup hx hb dX6_made_157 rfl ?_
                refine va_get (D := D) (ci := 5) (v := .int ng) (C := RX6) (T := TX6) (N := 6) hx hb hts uX6_made_RX6 hown hK hP 0 rfl rfl 4 (by decide) (hts _ kX6_made_2) (fun _ h9 => h9) rfl dX6_made_158 ?_
                refine lv_dup_x1 hx hb dX6_made_161 rfl rfl ?_
                refine lv_iconst (v := 1) hx hb dX6_made_162 (by decide) ?_
                refine lv_iadd hx hb dX6_made_163 ?_
                obtain ⟨ng_2, eng_2, h⟩ := lT_el h
                refine tg_top eng_2 ?_
                refine va_put (D := D) (ci := 5) (v := .int ng_2) (ty := .int) (C := RX6) (T := TX6) (N := 6) hx hb hts uX6_made_RX6 tyX6 tyX6_ok nmX6 hown hK hP (hDD _ wG_ad) hS 0 rfl rfl 4 (by decide) (hts _ kX6_made_2) (fun _ h9 => h9) rfl (by decide +kernel) rfl rfl (Nat.le_of_ble_eq_true rfl) dX6_made_164 (fun zH zlocs hP _ hS => ?_)
                have hP : va_P D vwCl (wG ta cI cT ga shelf np ng_2 cur tw_2) zH := hP
                cases h
                refine W.widen (k := 1) (n := 2) (by omega) (by omega) ?_
                exact W.iret hx hb hr (fun t ht hW => ⟨rfl, by rw [ht]; exact hP, hS.F ht⟩) hS.2.2 dX6_made_167
            · rw [if_pos cb_5] at h
              refine lv_aload_n hx hb dX6_made_98 rfl (lv_at hl 0 rfl) ?_
              refine lv_aload_n hx hb dX6_made_99 rfl (lv_at hl 1 rfl) ?_
              refine va_get (D := D) (ci := 5) (v := .ref (ga 2)) (C := RX6) (T := TX6) (N := 6) hx hb hts uX6_made_RX6 hown hK hP 0 rfl rfl 1 (by decide) (hts _ kX6_made_1) (fun _ h9 => h9) rfl dX6_made_100 ?_
              refine lv_iload_n hx hb dX6_made_103 rfl (lv_at hl 3 rfl) ?_
              obtain ⟨gg_5, h⟩ := gd_el h
              have hk_3 : (Int32.toNatClampNeg zx2) < 12 := by have := inb_lt gg_5; omega
              refine va_aldq hx hb hK hP 2 1 rfl rfl (inb_in gg_5) dX6_made_104 ?_
              refine W.eq (g2 := F0 m 105 zls [.ref (ta (Int32.toNatClampNeg zx2) 0), .ref (ta (Int32.toNatClampNeg ng) 0)]) rfl ?_
              refine va_new (ci := 1) (fs := [.null]) (C := RX1) (T := TX1) (N := 1) hx hb hts uX6_made_RX1 tyX1 tyX1_ok hown (hts _ kX6_made_4) (hts _ kX6_made_5) (hts _ kX6_made_6) hK hP (hDD _ wG_ad) hS hA rfl (fun j hj => by rcases (show j = 0 by omega) with rfl; rfl) (Nat.le_of_ble_eq_true rfl) (Nat.le_of_ble_eq_true rfl) dX6_made_105 (fun zq zH hP hD9 hS => ?_)
              refine W.widen (k := 1) (n := 2) (by omega) (by omega) ?_
              have hPw := tg_appR hP
              have hq1 := wG_new1 hD9
              have hDw := fun e9 => tg_newD (e' := e9) hD9
              have hP := tg_appL hP
              refine lv_dup hx hb dX6_made_108 rfl ?_
              refine lv_aload_n hx hb dX6_made_109 rfl (lv_at hl 1 rfl) ?_
              refine va_get (D := D) (ci := 5) (v := .ref (ga 2)) (C := RX6) (T := TX6) (N := 6) hx hb hts uX6_made_RX6 hown hK hP 0 rfl rfl 1 (by decide) (hts _ kX6_made_1) (fun _ h9 => h9) rfl dX6_made_110 ?_
              refine lv_iload_n hx hb dX6_made_113 rfl (lv_at hl 3 rfl) ?_
              obtain ⟨gg_6, h⟩ := gd_el h
              have hk_4 : (Int32.toNatClampNeg zx2) < 12 := by have := inb_lt gg_6; omega
              refine va_aldq hx hb hK hP 2 1 rfl rfl (inb_in gg_6) dX6_made_114 ?_
              refine W.eq (g2 := F0 m 115 zls [.ref (ta (Int32.toNatClampNeg zx2) 0), .ref zq, .ref zq, .ref (ta (Int32.toNatClampNeg zx2) 0), .ref (ta (Int32.toNatClampNeg ng) 0)]) rfl ?_
              refine tg_cMv (va_runI (As := [.ref (ta (Int32.toNatClampNeg zx2) 0)]) (rest := [.ref zq, .ref (ta (Int32.toNatClampNeg zx2) 0), .ref (ta (Int32.toNatClampNeg ng) 0)]) ⟨hx, hb, hml, hown, hts⟩ (qX1_init l D (fun _ => zq) (ta (Int32.toNatClampNeg zx2))) (cwI 1 hts gX6_made_X1_init rfl rfl rfl (hts _ kX6_made_6) (hts _ kX6_made_7) (hts _ kX6_made_8) rfl zSX1_init ⟨Nat.le_of_ble_eq_true rfl, Nat.le_of_ble_eq_true rfl⟩) (tg_preSM hPw (hDw _) (hK.sub (tys' := []) [] rfl) hN) rfl rfl hl.1 rfl (lv_room (Nat.le_of_ble_eq_true rfl)) dX6_made_115 ⟨Nat.le_of_ble_eq_true rfl, Nat.le_of_ble_eq_true rfl⟩) hS (tg_inA (hDw _)) (fun zH zlocs hf9 hPw hS => ?_)
              have hP := wG_keep hP (wG_one hq1) hf9
              obtain ⟨gg_7, h⟩ := gd_el h
              obtain ⟨gg_8, h⟩ := gd_el h
              obtain ⟨tcells_2, tback_2, treach_2, tfilled_2, tfc_2, tmakers_2, tmc_2, hc_2, h⟩ := bd7_el h
              refine tg_cMv (va_runV (As := [.ref (ta (Int32.toNatClampNeg zx2) 0), .ref zq]) (rest := []) ⟨hx, hb, hml, hown, hts⟩ (qX4_gather l D cI (ta (Int32.toNatClampNeg ng)) (tw (Int32.toNatClampNeg ng)).1 (tw (Int32.toNatClampNeg ng)).2.1 (tw (Int32.toNatClampNeg ng)).2.2.1 (tw (Int32.toNatClampNeg ng)).2.2.2.1 (tw (Int32.toNatClampNeg ng)).2.2.2.2.1 (tw (Int32.toNatClampNeg ng)).2.2.2.2.2.1 (tw (Int32.toNatClampNeg ng)).2.2.2.2.2.2 (ta (Int32.toNatClampNeg zx2)) (tw (Int32.toNatClampNeg zx2)).1 (tw (Int32.toNatClampNeg zx2)).2.1 (tw (Int32.toNatClampNeg zx2)).2.2.1 (tw (Int32.toNatClampNeg zx2)).2.2.2.1 (tw (Int32.toNatClampNeg zx2)).2.2.2.2.1 (tw (Int32.toNatClampNeg zx2)).2.2.2.2.2.1 (tw (Int32.toNatClampNeg zx2)).2.2.2.2.2.2 (fun _ => zq) 1 (ta (Int32.toNatClampNeg zx2)) 0 0 (tw (Int32.toNatClampNeg zx2)).1 (tw (Int32.toNatClampNeg zx2)).2.1 (tw (Int32.toNatClampNeg zx2)).2.2.1 (tw (Int32.toNatClampNeg zx2)).2.2.2.1 (tw (Int32.toNatClampNeg zx2)).2.2.2.2.1 (tw (Int32.toNatClampNeg zx2)).2.2.2.2.2.1 (tw (Int32.toNatClampNeg zx2)).2.2.2.2.2.2 F tcells_2 tback_2 treach_2 tfilled_2 tfc_2 tmakers_2 tmc_2 hc_2) (cwV 2 hts gX6_made_X4_gather rfl rfl rfl zVX4_gather ⟨Nat.le_of_ble_eq_true rfl, Nat.le_of_ble_eq_true rfl⟩) (tg_preVMo (r := (RX4, TX4, 7)) (ci := 4) (q0 := 0) (wG_T hP hk) (wG_DT hDD hk) (va_P.app (wG_T hP hk_3) (wW_P1 hPw (wG_T hP hk_4))) (tg_or (wG_apart hDD hk hk_3 (neb_el gg_7)) (wW_X1 (wG_newT (wG_one hq1) hk) (wG_apart hDD hk hk_4 (neb_el gg_8)))) (hK.sub (tys' := [(cI, .int)]) [0] rfl) hN rfl rfl) rfl rfl hl.1 rfl (lv_room (Nat.le_of_ble_eq_true rfl)) dX6_made_118 ⟨Nat.le_of_ble_eq_true rfl, Nat.le_of_ble_eq_true rfl⟩) hS (tg_inA (wG_DT hDD hk)) (fun zH zlocs hf9 hP9 hS => ?_)
              obtain ⟨tw_3, etw_3, h⟩ := lT_el h
              have hP := wG_put (t0 := tw (Int32.toNatClampNeg ng)) (t := (tcells_2, tback_2, treach_2, tfilled_2, tfc_2, tmakers_2, tmc_2)) hP hDD hk hf9 hP9
              rw [← etw_3] at hP
              refine lv_goto (tgt := 156) hx hb dX6_made_121 (by decide) ?_
              refine lv_aload_n hx hb dX6_made_156 rfl (lv_at hl 1 rfl) ?_
              refine lv_dup hx hb dX6_made_157 rfl ?_
              refine va_get (D := D) (ci := 5) (v := .int ng) (C := RX6) (T := TX6) (N := 6) hx hb hts uX6_made_RX6 hown hK hP 0 rfl rfl 4 (by decide) (hts _ kX6_made_2) (fun _ h9 => h9) rfl dX6_made_158 ?_
              refine lv_dup_x1 hx hb dX6_made_161 rfl rfl ?_
              refine lv_iconst (v := 1) hx hb dX6_made_162 (by decide) ?_
              refine lv_iadd hx hb dX6_made_163 ?_
              obtain ⟨ng_3, eng_3, h⟩ := lT_el h
              refine tg_top eng_3 ?_
              refine va_put (D := D) (ci := 5) (v := .int ng_3) (ty := .int) (C := RX6) (T := TX6) (N := 6) hx hb hts uX6_made_RX6 tyX6 tyX6_ok nmX6 hown hK hP (hDD _ wG_ad) hS 0 rfl rfl 4 (by decide) (hts _ kX6_made_2) (fun _ h9 => h9) rfl (by decide +kernel) rfl rfl (Nat.le_of_ble_eq_true rfl) dX6_made_164 (fun zH zlocs hP _ hS => ?_)
              have hP : va_P D vwCl (wG ta cI cT ga shelf np ng_3 cur tw_3) zH := hP
              cases h
              refine W.widen (k := 1) (n := 2) (by omega) (by omega) ?_
              exact W.iret hx hb hr (fun t ht hW => ⟨rfl, by rw [ht]; exact hP, hS.F ht⟩) hS.2.2 dX6_made_167
          · rw [if_pos cb_4] at h
            refine lv_aload_n hx hb dX6_made_44 rfl (lv_at hl 1 rfl) ?_
            refine va_get (D := D) (ci := 5) (v := .ref (ga 3)) (C := RX6) (T := TX6) (N := 6) hx hb hts uX6_made_RX6 hown hK hP 0 rfl rfl 2 (by decide) (hts _ kX6_made_9) (fun _ h9 => h9) rfl dX6_made_45 ?_
            refine lv_iconst (v := 0) hx hb dX6_made_48 (by decide) ?_
            obtain ⟨gg_9, h⟩ := gd_el h
            have hk_5 : (10 + Int32.toNatClampNeg 0) < 12 := by have := inb_lt gg_9; omega
            refine va_aldq hx hb hK hP 3 1 rfl rfl (inb_in gg_9) dX6_made_49 ?_
            refine W.eq (g2 := F0 m 50 zls [.ref (ta (10 + Int32.toNatClampNeg 0) 0)]) rfl ?_
            obtain ⟨treach_3, tfc_3, tmc_3, hc_3, h⟩ := bd3_el h
            refine tg_cMv (va_runV (As := []) (rest := []) ⟨hx, hb, hml, hown, hts⟩ (qX4_clear l D cI (ta (10 + Int32.toNatClampNeg 0)) (tw (10 + Int32.toNatClampNeg 0)).1 (tw (10 + Int32.toNatClampNeg 0)).2.1 (tw (10 + Int32.toNatClampNeg 0)).2.2.1 (tw (10 + Int32.toNatClampNeg 0)).2.2.2.1 (tw (10 + Int32.toNatClampNeg 0)).2.2.2.2.1 (tw (10 + Int32.toNatClampNeg 0)).2.2.2.2.2.1 (tw (10 + Int32.toNatClampNeg 0)).2.2.2.2.2.2 F treach_3 tfc_3 tmc_3 hc_3) (cwV 0 hts gX6_made_X4_clear rfl rfl rfl zVX4_clear ⟨Nat.le_of_ble_eq_true rfl, Nat.le_of_ble_eq_true rfl⟩) (tg_preVM (r := (RX4, TX4, 7)) (ci := 4) (q0 := 0) (wG_T hP hk_5) (wG_DT hDD hk_5) (hK.sub (tys' := [(cI, .int)]) [0] rfl) hN rfl rfl) rfl rfl hl.1 rfl (lv_room (Nat.le_of_ble_eq_true rfl)) dX6_made_50 ⟨Nat.le_of_ble_eq_true rfl, Nat.le_of_ble_eq_true rfl⟩) hS (tg_inA (wG_DT hDD hk_5)) (fun zH zlocs hf9 hP9 hS => ?_)
            obtain ⟨tw_4, etw_4, h⟩ := lT_el h
            have hP := wG_put (t0 := tw (10 + Int32.toNatClampNeg 0)) (t := ((tw (10 + Int32.toNatClampNeg 0)).1, (tw (10 + Int32.toNatClampNeg 0)).2.1, treach_3, (tw (10 + Int32.toNatClampNeg 0)).2.2.2.1, tfc_3, (tw (10 + Int32.toNatClampNeg 0)).2.2.2.2.2.1, tmc_3)) hP hDD hk_5 hf9 hP9
            rw [← etw_4] at hP
            refine lv_aload_n hx hb dX6_made_53 rfl (lv_at hl 1 rfl) ?_
            refine va_get (D := D) (ci := 5) (v := .ref (ga 3)) (C := RX6) (T := TX6) (N := 6) hx hb hts uX6_made_RX6 hown hK hP 0 rfl rfl 2 (by decide) (hts _ kX6_made_9) (fun _ h9 => h9) rfl dX6_made_54 ?_
            refine lv_iconst (v := 0) hx hb dX6_made_57 (by decide) ?_
            obtain ⟨gg_10, h⟩ := gd_el h
            have hk_6 : (10 + Int32.toNatClampNeg 0) < 12 := by have := inb_lt gg_10; omega
            refine va_aldq hx hb hK hP 3 1 rfl rfl (inb_in gg_10) dX6_made_58 ?_
            refine W.eq (g2 := F0 m 59 zls [.ref (ta (10 + Int32.toNatClampNeg 0) 0)]) rfl ?_
            refine lv_aload_n hx hb dX6_made_59 rfl (lv_at hl 1 rfl) ?_
            refine va_get (D := D) (ci := 5) (v := .int cur) (C := RX6) (T := TX6) (N := 6) hx hb hts uX6_made_RX6 hown hK hP 0 rfl rfl 5 (by decide) (hts _ kX6_made_3) (fun _ h9 => h9) rfl dX6_made_60 ?_
            obtain ⟨zr_2, tcells_3, tback_3, treach_4, tfilled_3, tfc_4, tmakers_3, tmc_4, hc_4, h⟩ := bd8_el h
            refine tg_cMi (va_runV (As := [.int cur]) (rest := []) ⟨hx, hb, hml, hown, hts⟩ (qX4_join l D cI (ta (10 + Int32.toNatClampNeg 0)) (tw_4 (10 + Int32.toNatClampNeg 0)).1 (tw_4 (10 + Int32.toNatClampNeg 0)).2.1 (tw_4 (10 + Int32.toNatClampNeg 0)).2.2.1 (tw_4 (10 + Int32.toNatClampNeg 0)).2.2.2.1 (tw_4 (10 + Int32.toNatClampNeg 0)).2.2.2.2.1 (tw_4 (10 + Int32.toNatClampNeg 0)).2.2.2.2.2.1 (tw_4 (10 + Int32.toNatClampNeg 0)).2.2.2.2.2.2 cur F zr_2 tcells_3 tback_3 treach_4 tfilled_3 tfc_4 tmakers_3 tmc_4 hc_4) (cwV 1 hts gX6_made_X4_join rfl rfl rfl zVX4_join ⟨Nat.le_of_ble_eq_true rfl, Nat.le_of_ble_eq_true rfl⟩) (tg_preVM (r := (RX4, TX4, 7)) (ci := 4) (q0 := 0) (wG_T hP hk_6) (wG_DT hDD hk_6) (hK.sub (tys' := [(cI, .int)]) [0] rfl) hN rfl rfl) rfl rfl hl.1 rfl (lv_room (Nat.le_of_ble_eq_true rfl)) dX6_made_63 ⟨Nat.le_of_ble_eq_true rfl, Nat.le_of_ble_eq_true rfl⟩) hS (tg_inA (wG_DT hDD hk_6)) (fun zH zlocs hf9 hP9 hS => ?_)
            obtain ⟨tw_5, etw_5, h⟩ := lT_el h
            have hP := wG_put (t0 := tw_4 (10 + Int32.toNatClampNeg 0)) (t := (tcells_3, tback_3, treach_4, tfilled_3, tfc_4, tmakers_3, tmc_4)) hP hDD hk_6 hf9 hP9
            rw [← etw_5] at hP
            refine lv_pop hx hb dX6_made_66 rfl ?_
            refine lv_aload_n hx hb dX6_made_67 rfl (lv_at hl 0 rfl) ?_
            refine lv_aload_n hx hb dX6_made_68 rfl (lv_at hl 1 rfl) ?_
            refine va_get (D := D) (ci := 5) (v := .ref (ga 2)) (C := RX6) (T := TX6) (N := 6) hx hb hts uX6_made_RX6 hown hK hP 0 rfl rfl 1 (by decide) (hts _ kX6_made_1) (fun _ h9 => h9) rfl dX6_made_69 ?_
            refine lv_iload_n hx hb dX6_made_72 rfl (lv_at hl 3 rfl) ?_
            obtain ⟨gg_11, h⟩ := gd_el h
            have hk_7 : (Int32.toNatClampNeg zx2) < 12 := by have := inb_lt gg_11; omega
            refine va_aldq hx hb hK hP 2 1 rfl rfl (inb_in gg_11) dX6_made_73 ?_
            refine W.eq (g2 := F0 m 74 zls [.ref (ta (Int32.toNatClampNeg zx2) 0), .ref (ta (Int32.toNatClampNeg ng) 0)]) rfl ?_
            refine va_new (ci := 1) (fs := [.null]) (C := RX1) (T := TX1) (N := 1) hx hb hts uX6_made_RX1 tyX1 tyX1_ok hown (hts _ kX6_made_4) (hts _ kX6_made_5) (hts _ kX6_made_6) hK hP (hDD _ wG_ad) hS hA rfl (fun j hj => by rcases (show j = 0 by omega) with rfl; rfl) (Nat.le_of_ble_eq_true rfl) (Nat.le_of_ble_eq_true rfl) dX6_made_74 (fun zq zH hP hD9 hS => ?_)
            refine W.widen (k := 1) (n := 2) (by omega) (by omega) ?_
            have hPw := tg_appR hP
            have hq1 := wG_new1 hD9
            have hDw := fun e9 => tg_newD (e' := e9) hD9
            have hP := tg_appL hP
            refine lv_dup hx hb dX6_made_77 rfl ?_
            refine lv_aload_n hx hb dX6_made_78 rfl (lv_at hl 1 rfl) ?_
            refine va_get (D := D) (ci := 5) (v := .ref (ga 3)) (C := RX6) (T := TX6) (N := 6) hx hb hts uX6_made_RX6 hown hK hP 0 rfl rfl 2 (by decide) (hts _ kX6_made_9) (fun _ h9 => h9) rfl dX6_made_79 ?_
            refine lv_iconst (v := 0) hx hb dX6_made_82 (by decide) ?_
            obtain ⟨gg_12, h⟩ := gd_el h
            have hk_8 : (10 + Int32.toNatClampNeg 0) < 12 := by have := inb_lt gg_12; omega
            refine va_aldq hx hb hK hP 3 1 rfl rfl (inb_in gg_12) dX6_made_83 ?_
            refine W.eq (g2 := F0 m 84 zls [.ref (ta (10 + Int32.toNatClampNeg 0) 0), .ref zq, .ref zq, .ref (ta (Int32.toNatClampNeg zx2) 0), .ref (ta (Int32.toNatClampNeg ng) 0)]) rfl ?_
            refine tg_cMv (va_runI (As := [.ref (ta (10 + Int32.toNatClampNeg 0) 0)]) (rest := [.ref zq, .ref (ta (Int32.toNatClampNeg zx2) 0), .ref (ta (Int32.toNatClampNeg ng) 0)]) ⟨hx, hb, hml, hown, hts⟩ (qX1_init l D (fun _ => zq) (ta (10 + Int32.toNatClampNeg 0))) (cwI 1 hts gX6_made_X1_init rfl rfl rfl (hts _ kX6_made_6) (hts _ kX6_made_7) (hts _ kX6_made_8) rfl zSX1_init ⟨Nat.le_of_ble_eq_true rfl, Nat.le_of_ble_eq_true rfl⟩) (tg_preSM hPw (hDw _) (hK.sub (tys' := []) [] rfl) hN) rfl rfl hl.1 rfl (lv_room (Nat.le_of_ble_eq_true rfl)) dX6_made_84 ⟨Nat.le_of_ble_eq_true rfl, Nat.le_of_ble_eq_true rfl⟩) hS (tg_inA (hDw _)) (fun zH zlocs hf9 hPw hS => ?_)
            have hP := wG_keep hP (wG_one hq1) hf9
            obtain ⟨gg_13, h⟩ := gd_el h
            obtain ⟨gg_14, h⟩ := gd_el h
            obtain ⟨tcells_4, tback_4, treach_5, tfilled_4, tfc_5, tmakers_4, tmc_5, hc_5, h⟩ := bd7_el h
            refine tg_cMv (va_runV (As := [.ref (ta (Int32.toNatClampNeg zx2) 0), .ref zq]) (rest := []) ⟨hx, hb, hml, hown, hts⟩ (qX4_gather l D cI (ta (Int32.toNatClampNeg ng)) (tw_5 (Int32.toNatClampNeg ng)).1 (tw_5 (Int32.toNatClampNeg ng)).2.1 (tw_5 (Int32.toNatClampNeg ng)).2.2.1 (tw_5 (Int32.toNatClampNeg ng)).2.2.2.1 (tw_5 (Int32.toNatClampNeg ng)).2.2.2.2.1 (tw_5 (Int32.toNatClampNeg ng)).2.2.2.2.2.1 (tw_5 (Int32.toNatClampNeg ng)).2.2.2.2.2.2 (ta (Int32.toNatClampNeg zx2)) (tw_5 (Int32.toNatClampNeg zx2)).1 (tw_5 (Int32.toNatClampNeg zx2)).2.1 (tw_5 (Int32.toNatClampNeg zx2)).2.2.1 (tw_5 (Int32.toNatClampNeg zx2)).2.2.2.1 (tw_5 (Int32.toNatClampNeg zx2)).2.2.2.2.1 (tw_5 (Int32.toNatClampNeg zx2)).2.2.2.2.2.1 (tw_5 (Int32.toNatClampNeg zx2)).2.2.2.2.2.2 (fun _ => zq) 1 (ta (10 + Int32.toNatClampNeg 0)) 0 0 (tw_5 (10 + Int32.toNatClampNeg 0)).1 (tw_5 (10 + Int32.toNatClampNeg 0)).2.1 (tw_5 (10 + Int32.toNatClampNeg 0)).2.2.1 (tw_5 (10 + Int32.toNatClampNeg 0)).2.2.2.1 (tw_5 (10 + Int32.toNatClampNeg 0)).2.2.2.2.1 (tw_5 (10 + Int32.toNatClampNeg 0)).2.2.2.2.2.1 (tw_5 (10 + Int32.toNatClampNeg 0)).2.2.2.2.2.2 F tcells_4 tback_4 treach_5 tfilled_4 tfc_5 tmakers_4 tmc_5 hc_5) (cwV 2 hts gX6_made_X4_gather rfl rfl rfl zVX4_gather ⟨Nat.le_of_ble_eq_true rfl, Nat.le_of_ble_eq_true rfl⟩) (tg_preVMo (r := (RX4, TX4, 7)) (ci := 4) (q0 := 0) (wG_T hP hk) (wG_DT hDD hk) (va_P.app (wG_T hP hk_7) (wW_P1 hPw (wG_T hP hk_8))) (tg_or (wG_apart hDD hk hk_7 (neb_el gg_13)) (wW_X1 (wG_newT (wG_one hq1) hk) (wG_apart hDD hk hk_8 (neb_el gg_14)))) (hK.sub (tys' := [(cI, .int)]) [0] rfl) hN rfl rfl) rfl rfl hl.1 rfl (lv_room (Nat.le_of_ble_eq_true rfl)) dX6_made_87 ⟨Nat.le_of_ble_eq_true rfl, Nat.le_of_ble_eq_true rfl⟩) hS (tg_inA (wG_DT hDD hk)) (fun zH zlocs hf9 hP9 hS => ?_)
            obtain ⟨tw_6, etw_6, h⟩ := lT_el h
            have hP := wG_put (t0 := tw_5 (Int32.toNatClampNeg ng)) (t := (tcells_4, tback_4, treach_5, tfilled_4, tfc_5, tmakers_4, tmc_5)) hP hDD hk hf9 hP9
            rw [← etw_6] at hP
            refine lv_goto (tgt := 156) hx hb dX6_made_90 (by decide) ?_
            refine lv_aload_n hx hb dX6_made_156 rfl (lv_at hl 1 rfl) ?_
            refine lv_dup hx hb dX6_made_157 rfl ?_
            refine va_get (D := D) (ci := 5) (v := .int ng) (C := RX6) (T := TX6) (N := 6) hx hb hts uX6_made_RX6 hown hK hP 0 rfl rfl 4 (by decide) (hts _ kX6_made_2) (fun _ h9 => h9) rfl dX6_made_158 ?_
            refine lv_dup_x1 hx hb dX6_made_161 rfl rfl ?_
            refine lv_iconst (v := 1) hx hb dX6_made_162 (by decide) ?_
            refine lv_iadd hx hb dX6_made_163 ?_
            obtain ⟨ng_4, eng_4, h⟩ := lT_el h
            refine tg_top eng_4 ?_
            refine va_put (D := D) (ci := 5) (v := .int ng_4) (ty := .int) (C := RX6) (T := TX6) (N := 6) hx hb hts uX6_made_RX6 tyX6 tyX6_ok nmX6 hown hK hP (hDD _ wG_ad) hS 0 rfl rfl 4 (by decide) (hts _ kX6_made_2) (fun _ h9 => h9) rfl (by decide +kernel) rfl rfl (Nat.le_of_ble_eq_true rfl) dX6_made_164 (fun zH zlocs hP _ hS => ?_)
            have hP : va_P D vwCl (wG ta cI cT ga shelf np ng_4 cur tw_6) zH := hP
            cases h
            refine W.widen (k := 1) (n := 2) (by omega) (by omega) ?_
            exact W.iret hx hb hr (fun t ht hW => ⟨rfl, by rw [ht]; exact hP, hS.F ht⟩) hS.2.2 dX6_made_167
        · rw [if_neg cb_3] at h
          refine lv_bipush (v := (-3)) hx hb dX6_made_27 (by decide) ?_
          cases h
          refine W.widen (k := 1) (n := 2) (by omega) (by omega) ?_
          exact W.iret hx hb hr (fun t ht hW => ⟨rfl, by rw [ht]; exact hP, hS.F ht⟩) hS.2.2 dX6_made_29
      · rw [if_pos cb_2] at h
        refine lv_bipush (v := (-2)) hx hb dX6_made_17 (by decide) ?_
        cases h
        refine W.widen (k := 1) (n := 2) (by omega) (by omega) ?_
        exact W.iret hx hb hr (fun t ht hW => ⟨rfl, by rw [ht]; exact hP, hS.F ht⟩) hS.2.2 dX6_made_19
theorem zVX6_made : yX6_made.cls = RX6 ∧ yX6_made.cls ≠ "java/lang/invoke/MethodHandle" ∧ yX6_made.cls ≠ "java/lang/invoke/VarHandle" ∧ (parseMethodDescriptor yX6_made.desc).map (fun d => d.parameters.length) = some 2 := by decide +kernel

/-! ===== public int carry(int, int, int); ===== -/
theorem kX6_carry_1 : Cond.fieldLink RX6 15 "TurnGroups" "groups" "[LTurnGroups$Tower;" ∈ wsX6_carry := by decide +kernel
theorem kX6_carry_2 : Cond.classLink RX6 122 RX0 ∈ wsX6_carry := by decide +kernel
theorem kX6_carry_3 : Cond.instantiable RX0 2 ∈ wsX6_carry := by decide +kernel
theorem kX6_carry_4 : Cond.initialized RX0 ∈ wsX6_carry := by decide +kernel
theorem kX6_carry_5 : Cond.methodLink RX6 124 yX0_init ∈ wsX6_carry := by decide +kernel
theorem kX6_carry_6 : Cond.instanceMethod yX0_init ∈ wsX6_carry := by decide +kernel
theorem kX6_carry_7 : Cond.fieldLink RX6 43 "TurnGroups" "current" "I" ∈ wsX6_carry := by decide +kernel
theorem uX6_carry_RX0 : ∀ w ∈ u_ws RX0 TX0 2, w ∈ wsX6_carry := by decide +kernel
theorem uX6_carry_RX6 : ∀ w ∈ u_ws RX6 TX6 6, w ∈ wsX6_carry := by decide +kernel
def mX6_carry (F : Nat) (np : Int32) (ng : Int32) (cur : Int32) (tw : Nat → TW) (zx1 : Int32) (zx2 : Int32) (zx3 : Int32) : Option (Int32 × Int32) := if (mX6_isGroup ng zx1) = 0 then (some ((-2 : Int32), cur)) else (if (mX6_isSet np zx2) = 0 then (some ((-2 : Int32), cur)) else (if (mX6_isSet np zx3) = 0 then (some ((-2 : Int32), cur)) else (if (mJ6_bitCount_0f7a4 zx2) = (mJ6_bitCount_0f7a4 zx3) then (gd (inb zx1 10) (bd (mX4_firstThat F 0 (tw (Int32.toNatClampNeg zx1)).1 (tw (Int32.toNatClampNeg zx1)).2.2.1 zx2 zx3 (fun _ => 0) (fun _ => 0) (fun _ => 0) 0) (fun zr_5 => if zr_5 = 0 then (some ((-1 : Int32), cur)) else (some ((1 : Int32), zr_5))))) else (some ((-1 : Int32), cur)))))
set_option maxRecDepth 100000 in
set_option maxHeartbeats 4000000 in
theorem qX6_carry (l : Launch) (D : va_G) (cI : ClassId) (cT : ClassId) (ga : Nat → Nat) (ta : Nat → Nat → Nat) (shelf : Nat → Int32) (np : Int32) (ng : Int32) (cur : Int32) (tw : Nat → TW) (zx1 : Int32) (zx2 : Int32) (zx3 : Int32) (F : Nat) (zr0 : Int32) (ocur : Int32) (sz : Nat) (h : mX6_carry F np ng cur tw zx1 zx2 zx3 = some (zr0, ocur)) : Met l yX6_carry wsX6_carry ({ frames := 15, cells := 1, slots := 2, locals := 398 } : Room) (tg_PN D [(cI, .int), (cT, .object "TurnGroups$Tower")] [.ref (ga 0), .int zx1, .int zx2, .int zx3] (wG ta cI cT ga shelf np ng cur tw) sz) (tg_Ni D (wG ta cI cT ga shelf np ng cur tw) (wG ta cI cT ga shelf np ng ocur tw) sz zr0) 1 2 (va_A (wG ta cI cT ga shelf np ng cur tw) sz) := by
  refine Met.ofW (cc := cX6_carry) (maxL := 5) (ret := (some .int)) (by decide) rfl ?_
  intro p e s m zargs zbelow zmeth c s₁ B hml hv
  obtain ⟨hargs, hsz, hP, hK, hN, hD0⟩ := hv
  subst hsz
  have hx := B.exec
  have hb := B.bytes
  have hr := B.returns
  have hts := atoms_spec (ws := wsX6_carry) B.pre
  have hown : s.vm.findClass RX6 = some m.cls := findClass_of_methodNamed B.named
  have hlocks := B.notSynchronized
  have hDD : tg_DD (va_A (wG ta cI cT ga shelf np ng cur tw) s.heap.size) (adG ta ga) := tg_DD.of (hD0.self (sz := s.heap.size)) wG_ad
  have hS : va_S (va_A (wG ta cI cT ga shelf np ng cur tw) s.heap.size) s.heap s.heap [] := va_S.rf
  have hA : ∀ q : Nat, s.heap.size ≤ q → (va_A (wG ta cI cT ga shelf np ng cur tw) s.heap.size) q := fun _ h9 => Or.inr h9
  have hl := lv_entry ([.ref (ga 0), .int zx1, .int zx2, .int zx3]) (n := 5) (Nat.le_of_ble_eq_true rfl)
  refine W.eq (g2 := entryFrame m ([.ref (ga 0), .int zx1, .int zx2, .int zx3] : List Value).toArray 5) (by rw [hargs]) ?_
  rw [lg_entry_eq]
  generalize (lg_sl ([.ref (ga 0), .int zx1, .int zx2, .int zx3]) ++ List.replicate (5 - (lg_sl ([.ref (ga 0), .int zx1, .int zx2, .int zx3])).length) Slot.unset).toArray = zls at hl ⊢
  have hl : lv_has zls 5 [(0, .ref (ga 0)), (1, .int zx1), (2, .int zx2), (3, .int zx3)] := hl
  rw [mX6_carry] at h
  refine lv_aload_n hx hb dX6_carry_0 rfl (lv_at hl 0 rfl) ?_
  refine lv_iload_n hx hb dX6_carry_1 rfl (lv_at hl 1 rfl) ?_
  refine tg_cRi (va_runV (As := [.int zx1]) (rest := []) ⟨hx, hb, hml, hown, hts⟩ (qX6_isGroup l D cI cT ga ta shelf np ng cur tw zx1 _ rfl) (cwV 1 hts gX6_carry_X6_isGroup rfl rfl rfl zVX6_isGroup ⟨Nat.le_of_ble_eq_true rfl, Nat.le_of_ble_eq_true rfl⟩) (tg_preV (r := (RX6, TX6, 6)) (ci := 5) (q0 := 0) hP hK hN rfl rfl) rfl rfl hl.1 rfl (lv_room (Nat.le_of_ble_eq_true rfl)) dX6_carry_2 ⟨Nat.le_of_ble_eq_true rfl, Nat.le_of_ble_eq_true rfl⟩) ?_
  refine lv_if_eq (tgt := 24) hx hb dX6_carry_5 (by decide) (fun cb => ?_) (fun cb => ?_)
  · rw [if_pos cb] at h
    refine lv_bipush (v := (-2)) hx hb dX6_carry_24 (by decide) ?_
    cases h
    refine W.widen (k := 1) (n := 2) (by omega) (by omega) ?_
    exact W.iret hx hb hr (fun t ht hW => ⟨rfl, by rw [ht]; exact hP, hS.F ht⟩) hS.2.2 dX6_carry_26
  · rw [if_neg cb] at h
    refine lv_aload_n hx hb dX6_carry_8 rfl (lv_at hl 0 rfl) ?_
    refine lv_iload_n hx hb dX6_carry_9 rfl (lv_at hl 2 rfl) ?_
    refine tg_cRi (va_runV (As := [.int zx2]) (rest := []) ⟨hx, hb, hml, hown, hts⟩ (qX6_isSet l D cI cT ga ta shelf np ng cur tw zx2 _ rfl) (cwV 1 hts gX6_carry_X6_isSet rfl rfl rfl zVX6_isSet ⟨Nat.le_of_ble_eq_true rfl, Nat.le_of_ble_eq_true rfl⟩) (tg_preV (r := (RX6, TX6, 6)) (ci := 5) (q0 := 0) hP hK hN rfl rfl) rfl rfl hl.1 rfl (lv_room (Nat.le_of_ble_eq_true rfl)) dX6_carry_10 ⟨Nat.le_of_ble_eq_true rfl, Nat.le_of_ble_eq_true rfl⟩) ?_
    refine lv_if_eq (tgt := 24) hx hb dX6_carry_13 (by decide) (fun cb_1 => ?_) (fun cb_1 => ?_)
    · rw [if_pos cb_1] at h
      refine lv_bipush (v := (-2)) hx hb dX6_carry_24 (by decide) ?_
      cases h
      refine W.widen (k := 1) (n := 2) (by omega) (by omega) ?_
      exact W.iret hx hb hr (fun t ht hW => ⟨rfl, by rw [ht]; exact hP, hS.F ht⟩) hS.2.2 dX6_carry_26
    · rw [if_neg cb_1] at h
      refine lv_aload_n hx hb dX6_carry_16 rfl (lv_at hl 0 rfl) ?_
      refine lv_iload_n hx hb dX6_carry_17 rfl (lv_at hl 3 rfl) ?_
      refine tg_cRi (va_runV (As := [.int zx3]) (rest := []) ⟨hx, hb, hml, hown, hts⟩ (qX6_isSet l D cI cT ga ta shelf np ng cur tw zx3 _ rfl) (cwV 1 hts gX6_carry_X6_isSet rfl rfl rfl zVX6_isSet ⟨Nat.le_of_ble_eq_true rfl, Nat.le_of_ble_eq_true rfl⟩) (tg_preV (r := (RX6, TX6, 6)) (ci := 5) (q0 := 0) hP hK hN rfl rfl) rfl rfl hl.1 rfl (lv_room (Nat.le_of_ble_eq_true rfl)) dX6_carry_18 ⟨Nat.le_of_ble_eq_true rfl, Nat.le_of_ble_eq_true rfl⟩) ?_
      refine lv_if_ne (tgt := 27) hx hb dX6_carry_21 (by decide) (fun cb_2 => ?_) (fun cb_2 => ?_)
      · rw [if_neg cb_2] at h
        refine lv_iload_n hx hb dX6_carry_27 rfl (lv_at hl 2 rfl) ?_
        refine tg_cRi (va_runS (As := [.int zx2]) (rest := []) ⟨hx, hb, hml, hown, hts⟩ (qJ6_bitCount_0f7a4 l D zx2 _ rfl) (va_cwS 1 hts gX6_carry_J6_bitCount_0f7a4 rfl rfl rfl zSJ6_bitCount_0f7a4 ⟨Nat.le_of_ble_eq_true rfl, Nat.le_of_ble_eq_true rfl⟩) (tg_preS tg_nil (hK.sub (tys' := []) [] rfl) hN) rfl rfl hl.1 rfl (lv_room (Nat.le_of_ble_eq_true rfl)) dX6_carry_28 ⟨Nat.le_of_ble_eq_true rfl, Nat.le_of_ble_eq_true rfl⟩) ?_
        refine lv_iload_n hx hb dX6_carry_31 rfl (lv_at hl 3 rfl) ?_
        refine tg_cRi (va_runS (As := [.int zx3]) (rest := [.int (mJ6_bitCount_0f7a4 zx2)]) ⟨hx, hb, hml, hown, hts⟩ (qJ6_bitCount_0f7a4 l D zx3 _ rfl) (va_cwS 1 hts gX6_carry_J6_bitCount_0f7a4 rfl rfl rfl zSJ6_bitCount_0f7a4 ⟨Nat.le_of_ble_eq_true rfl, Nat.le_of_ble_eq_true rfl⟩) (tg_preS tg_nil (hK.sub (tys' := []) [] rfl) hN) rfl rfl hl.1 rfl (lv_room (Nat.le_of_ble_eq_true rfl)) dX6_carry_32 ⟨Nat.le_of_ble_eq_true rfl, Nat.le_of_ble_eq_true rfl⟩) ?_
        refine lv_icmp_eq (tgt := 40) hx hb dX6_carry_35 (by decide) (fun cb_3 => ?_) (fun cb_3 => ?_)
        · rw [if_pos cb_3] at h
          refine lv_aload_n hx hb dX6_carry_40 rfl (lv_at hl 0 rfl) ?_
          refine va_get (D := D) (ci := 5) (v := .ref (ga 2)) (C := RX6) (T := TX6) (N := 6) hx hb hts uX6_carry_RX6 hown hK hP 0 rfl rfl 1 (by decide) (hts _ kX6_carry_1) (fun _ h9 => h9) rfl dX6_carry_41 ?_
          refine lv_iload_n hx hb dX6_carry_44 rfl (lv_at hl 1 rfl) ?_
          obtain ⟨gg, h⟩ := gd_el h
          have hk : (Int32.toNatClampNeg zx1) < 12 := by have := inb_lt gg; omega
          refine va_aldq hx hb hK hP 2 1 rfl rfl (inb_in gg) dX6_carry_45 ?_
          refine W.eq (g2 := F0 m 46 zls [.ref (ta (Int32.toNatClampNeg zx1) 0)]) rfl ?_
          refine va_new (ci := 0) (fs := [.int 0, .int 0]) (C := RX0) (T := TX0) (N := 2) hx hb hts uX6_carry_RX0 tyX0 tyX0_ok hown (hts _ kX6_carry_2) (hts _ kX6_carry_3) (hts _ kX6_carry_4) hK hP (hDD _ wG_ad) hS hA rfl (fun j hj => by rcases (show j = 0 ∨ j = 1 by omega) with rfl | rfl <;> rfl) (Nat.le_of_ble_eq_true rfl) (Nat.le_of_ble_eq_true rfl) dX6_carry_46 (fun zq zH hP hD9 hS => ?_)
          refine W.widen (k := 1) (n := 2) (by omega) (by omega) ?_
          have hPw := tg_appR hP
          have hq1 := wG_new1 hD9
          have hDw := fun e9 => tg_newD (e' := e9) hD9
          have hP := tg_appL hP
          refine lv_dup hx hb dX6_carry_49 rfl ?_
          refine lv_iload_n hx hb dX6_carry_50 rfl (lv_at hl 2 rfl) ?_
          refine lv_iload_n hx hb dX6_carry_51 rfl (lv_at hl 3 rfl) ?_
          refine tg_cMv (va_runI (As := [.int zx2, .int zx3]) (rest := [.ref zq, .ref (ta (Int32.toNatClampNeg zx1) 0)]) ⟨hx, hb, hml, hown, hts⟩ (qX0_init l D (fun _ => zq) 0 0 zx2 zx3) (cwI 2 hts gX6_carry_X0_init rfl rfl rfl (hts _ kX6_carry_4) (hts _ kX6_carry_5) (hts _ kX6_carry_6) rfl zSX0_init ⟨Nat.le_of_ble_eq_true rfl, Nat.le_of_ble_eq_true rfl⟩) (tg_preSM hPw (hDw _) (hK.sub (tys' := []) [] rfl) hN) rfl rfl hl.1 rfl (lv_room (Nat.le_of_ble_eq_true rfl)) dX6_carry_52 ⟨Nat.le_of_ble_eq_true rfl, Nat.le_of_ble_eq_true rfl⟩) hS (tg_inA (hDw _)) (fun zH zlocs hf9 hPw hS => ?_)
          have hP := wG_keep hP (wG_one hq1) hf9
          obtain ⟨zr_5, hc, h⟩ := bd_el h
          refine tg_cRi (va_runV (As := [.ref zq]) (rest := []) ⟨hx, hb, hml, hown, hts⟩ (qX4_firstThat l D cI (ta (Int32.toNatClampNeg zx1)) (tw (Int32.toNatClampNeg zx1)).1 (tw (Int32.toNatClampNeg zx1)).2.1 (tw (Int32.toNatClampNeg zx1)).2.2.1 (tw (Int32.toNatClampNeg zx1)).2.2.2.1 (tw (Int32.toNatClampNeg zx1)).2.2.2.2.1 (tw (Int32.toNatClampNeg zx1)).2.2.2.2.2.1 (tw (Int32.toNatClampNeg zx1)).2.2.2.2.2.2 (fun _ => zq) 0 (fun _ => 0) zx2 zx3 (fun _ => 0) (fun _ => 0) (fun _ => 0) (fun _ => 0) 0 (fun _ => 0) 0 F zr_5 hc) (cwV 1 hts gX6_carry_X4_firstThat rfl rfl rfl zVX4_firstThat ⟨Nat.le_of_ble_eq_true rfl, Nat.le_of_ble_eq_true rfl⟩) (tg_preV (r := (RX4, TX4, 7)) (ci := 4) (q0 := 0) (va_P.app (wG_T hP hk) (wW_P0 hPw)) (hK.sub (tys' := [(cI, .int)]) [0] rfl) hN rfl rfl) rfl rfl hl.1 rfl (lv_room (Nat.le_of_ble_eq_true rfl)) dX6_carry_55 ⟨Nat.le_of_ble_eq_true rfl, Nat.le_of_ble_eq_true rfl⟩) ?_
          refine lv_istore (lv' := [(4, .int zr_5), (0, .ref (ga 0)), (1, .int zx1), (2, .int zx2), (3, .int zx3)]) hx hb dX6_carry_58 hl (by decide) rfl (fun zls hl => ?_)
          refine lv_iload hx hb dX6_carry_60 (lv_at hl 0 rfl) ?_
          refine lv_if_ne (tgt := 67) hx hb dX6_carry_62 (by decide) (fun cb_4 => ?_) (fun cb_4 => ?_)
          · rw [if_neg cb_4] at h
            refine lv_aload_n hx hb dX6_carry_67 rfl (lv_at hl 1 rfl) ?_
            refine lv_iload hx hb dX6_carry_68 (lv_at hl 0 rfl) ?_
            refine va_put (D := D) (ci := 5) (v := .int zr_5) (ty := .int) (C := RX6) (T := TX6) (N := 6) hx hb hts uX6_carry_RX6 tyX6 tyX6_ok nmX6 hown hK hP (hDD _ wG_ad) hS 0 rfl rfl 5 (by decide) (hts _ kX6_carry_7) (fun _ h9 => h9) rfl (by decide +kernel) rfl rfl (Nat.le_of_ble_eq_true rfl) dX6_carry_70 (fun zH zlocs hP _ hS => ?_)
            have hP : va_P D vwCl (wG ta cI cT ga shelf np ng zr_5 tw) zH := hP
            refine lv_iconst (v := 1) hx hb dX6_carry_73 (by decide) ?_
            cases h
            refine W.widen (k := 1) (n := 2) (by omega) (by omega) ?_
            exact W.iret hx hb hr (fun t ht hW => ⟨rfl, by rw [ht]; exact hP, hS.F ht⟩) hS.2.2 dX6_carry_74
          · rw [if_pos cb_4] at h
            refine lv_iconst (v := (-1)) hx hb dX6_carry_65 (by decide) ?_
            cases h
            refine W.widen (k := 1) (n := 2) (by omega) (by omega) ?_
            exact W.iret hx hb hr (fun t ht hW => ⟨rfl, by rw [ht]; exact hP, hS.F ht⟩) hS.2.2 dX6_carry_66
        · rw [if_neg cb_3] at h
          refine lv_iconst (v := (-1)) hx hb dX6_carry_38 (by decide) ?_
          cases h
          refine W.widen (k := 1) (n := 2) (by omega) (by omega) ?_
          exact W.iret hx hb hr (fun t ht hW => ⟨rfl, by rw [ht]; exact hP, hS.F ht⟩) hS.2.2 dX6_carry_39
      · rw [if_pos cb_2] at h
        refine lv_bipush (v := (-2)) hx hb dX6_carry_24 (by decide) ?_
        cases h
        refine W.widen (k := 1) (n := 2) (by omega) (by omega) ?_
        exact W.iret hx hb hr (fun t ht hW => ⟨rfl, by rw [ht]; exact hP, hS.F ht⟩) hS.2.2 dX6_carry_26
theorem zVX6_carry : yX6_carry.cls = RX6 ∧ yX6_carry.cls ≠ "java/lang/invoke/MethodHandle" ∧ yX6_carry.cls ≠ "java/lang/invoke/VarHandle" ∧ (parseMethodDescriptor yX6_carry.desc).map (fun d => d.parameters.length) = some 3 := by decide +kernel
