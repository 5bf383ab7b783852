/-! ===== private int search(TurnGroups$Wish, int, int); ===== -/
theorem kX4_search_1 : Cond.initialized RX6 ∈ wsX4_search := by decide +kernel
theorem kX4_search_2 : Cond.static yX6_reverse ∈ wsX4_search := by decide +kernel
theorem kX4_search_3 : Cond.static yX6_image ∈ wsX4_search := by decide +kernel
theorem zVX4_search : yX4_search.cls = RX4 ∧ yX4_search.cls ≠ "java/lang/invoke/MethodHandle" ∧ yX4_search.cls ≠ "java/lang/invoke/VarHandle" ∧ (parseMethodDescriptor yX4_search.desc).map (fun d => d.parameters.length) = some 3 := by decide +kernel
def mX4_search_L17 (zrec : Int32 → Int32 → Option Int32) (F : Nat) (wk : Nat) (zx2 : Int32) (zx3 : Int32) (zx4 : Int32) (cells : Nat → Int32) (reach : Nat → Int32) (wa : Int32) (wb : Int32) (uback : Nat → Int32) (ureach : Nat → Int32) (umakers : Nat → Int32) (umc : Int32) : Nat → Int32 → Option (Int32)
  | 0, _ => none
  | f + 1, zx5 => if 8 ≤ zx5 then (some (0 : Int32)) else (lT (mX6_image zx4 zx5) (fun zx6 => bd (mX4_reaches reach zx2 zx6) (fun zr_1 => if zr_1 = 0 then (mX4_search_L17 zrec F wk zx2 zx3 zx4 cells reach wa wb uback ureach umakers umc f (zx5 + 1)) else (bd (mX4_step F cells zx2 zx3 zx6) (fun zr_2 => bd (mW_fits F wk wa wb uback ureach umakers umc zr_2 zx2) (fun zr_3 => bd (if zr_3 = 0 then (some (0 : Int32)) else (bd (zrec (zx2 + 1) zr_2) (fun zr_4 => some zr_4))) (fun zv => if zv = 0 then (mX4_search_L17 zrec F wk zx2 zx3 zx4 cells reach wa wb uback ureach umakers umc f (zx5 + 1)) else (some zv))))))))
theorem mX4_search_L17_s (zrec : Int32 → Int32 → Option Int32) (F : Nat) (wk : Nat) (zx2 : Int32) (zx3 : Int32) (zx4 : Int32) (cells : Nat → Int32) (reach : Nat → Int32) (wa : Int32) (wb : Int32) (uback : Nat → Int32) (ureach : Nat → Int32) (umakers : Nat → Int32) (umc : Int32) (f : Nat) (zx5 : Int32) : mX4_search_L17 zrec F wk zx2 zx3 zx4 cells reach wa wb uback ureach umakers umc (f + 1) zx5 = (if 8 ≤ zx5 then (some (0 : Int32)) else (lT (mX6_image zx4 zx5) (fun zx6 => bd (mX4_reaches reach zx2 zx6) (fun zr_1 => if zr_1 = 0 then (mX4_search_L17 zrec F wk zx2 zx3 zx4 cells reach wa wb uback ureach umakers umc f (zx5 + 1)) else (bd (mX4_step F cells zx2 zx3 zx6) (fun zr_2 => bd (mW_fits F wk wa wb uback ureach umakers umc zr_2 zx2) (fun zr_3 => bd (if zr_3 = 0 then (some (0 : Int32)) else (bd (zrec (zx2 + 1) zr_2) (fun zr_4 => some zr_4))) (fun zv => if zv = 0 then (mX4_search_L17 zrec F wk zx2 zx3 zx4 cells reach wa wb uback ureach umakers umc f (zx5 + 1)) else (some zv))))))))) := rfl
def mX4_search (F : Nat) (wk : Nat) (cells : Nat → Int32) (reach : Nat → Int32) (wa : Int32) (wb : Int32) (uback : Nat → Int32) (ureach : Nat → Int32) (umakers : Nat → Int32) (umc : Int32) : Nat → Int32 → Int32 → Option (Int32)
  | 0, _, _ => none
  | d + 1, zx2, zx3 => if zx2 < 8 then (bd (mX6_reverse F zx3) (fun zr => mX4_search_L17 (mX4_search F wk cells reach wa wb uback ureach umakers umc d) F wk zx2 zx3 zr cells reach wa wb uback ureach umakers umc F 0)) else (some zx3)
theorem mX4_search_s (F : Nat) (wk : Nat) (cells : Nat → Int32) (reach : Nat → Int32) (wa : Int32) (wb : Int32) (uback : Nat → Int32) (ureach : Nat → Int32) (umakers : Nat → Int32) (umc : Int32) (d : Nat) (zx2 : Int32) (zx3 : Int32) : mX4_search F wk cells reach wa wb uback ureach umakers umc (d + 1) zx2 zx3 = (if zx2 < 8 then (bd (mX6_reverse F zx3) (fun zr => mX4_search_L17 (mX4_search F wk cells reach wa wb uback ureach umakers umc d) F wk zx2 zx3 zr cells reach wa wb uback ureach umakers umc F 0)) else (some zx3)) := rfl
set_option maxRecDepth 100000 in
set_option maxHeartbeats 4000000 in
theorem wX4_search_L17 {p : Program} {l : Launch} {e : Env} {s : State} {m : MethodId} {zargs : Array Value} {zbelow : List Frame} {zmeth : Method} {c : Code} {D : va_G} {ad : Nat → Nat} {wd : Nat → Nat} {wk : Nat} {od : Nat → Nat} {cI : ClassId} {cells : Nat → Int32} {back : Nat → Int32} {reach : Nat → Int32} {filled : Nat → Int32} {fc : Int32} {makers : Nat → Int32} {mc : Int32} {wa : Int32} {wb : Int32} {ucells : Nat → Int32} {uback : Nat → Int32} {ureach : Nat → Int32} {ufilled : Nat → Int32} {ufc : Int32} {umakers : Nat → Int32} {umc : Int32} {zx2 : Int32} {zx3 : Int32} {zx4 : Int32} {d : Nat} {zrec : Int32 → Int32 → Option Int32} (C0 : tg_C p s m zmeth c zargs cX4_search RX4 wsX4_search 9 D [(cI, .int)]) (hP : va_P D vwCl (wT cI ad cells back reach filled fc makers mc) s.heap) (hPo : va_P D vwCl (wW wk od cI wd wa wb ucells uback ureach ufilled ufc umakers umc) s.heap) (hrec : ∀ za1 za2 zr9 : Int32, zrec za1 za2 = some zr9 → Met l yX4_search wsX4_search ({ frames := 4 + d, cells := 0, slots := 0, locals := 97 + 28 * d } : Room) (tg_P D [(cI, .int)] [.ref (ad 0), .ref (wd 0), .int za1, .int za2] ((wT cI ad cells back reach filled fc makers mc) ++ (wW wk od cI wd wa wb ucells uback ureach ufilled ufc umakers umc))) (tg_Ri zr9) 0 0 (fun _ => False)) (hlocks : zmeth.locks = false) (hr : zmeth.sig.returnType = (some .int)) (F : Nat) : ∀ (f : Nat) (zx5 : Int32) (zr0 : Int32), mX4_search_L17 zrec F wk zx2 zx3 zx4 cells reach wa wb uback ureach umakers umc f zx5 = some zr0 → ∀ (zls : Array Slot), lv_has zls 9 [(0, .ref (ad 0)), (1, .ref (wd 0)), (2, .int zx2), (3, .int zx3), (4, .int zx4), (5, .int zx5)] → W p l e ({ frames := 4 + (d + 1), cells := 0, slots := 0, locals := 97 + 28 * (d + 1) } : Room) s m zargs zbelow zmeth c s.heap [] 0 0 (MQ zbelow (tg_Ri zr0) zargs s 0 0 (fun _ => False)) (F0 m 17 zls []) := by
  obtain ⟨hx, hb, hml, hown, hts, hK, hN⟩ := C0
  intro f
  induction f with
  | zero => intro _ _ h; exact absurd (show none = some _ from h) (fun h9 => by cases h9)
  | succ f ih =>
    intro zx5 zr0 h  zls hl 
    rw [mX4_search_L17_s] at h
    refine lv_iload hx hb dX4_search_17 (lv_at hl 5 rfl) ?_
    refine lv_bipush (v := 8) hx hb dX4_search_19 (by decide) ?_
    refine lv_icmp_ge (tgt := 93) hx hb dX4_search_21 (by decide) (fun cb => ?_) (fun cb => ?_)
    · rw [if_pos cb] at h
      refine lv_iconst (v := 0) hx hb dX4_search_93 (by decide) ?_
      cases h
      exact W.iret hx hb hr (fun t ht hW => ⟨rfl, ht⟩) (fun _ h9 => absurd h9 List.not_mem_nil) dX4_search_94
    · rw [if_neg cb] at h
      refine lv_iload hx hb dX4_search_24 (lv_at hl 4 rfl) ?_
      refine lv_iload hx hb dX4_search_26 (lv_at hl 5 rfl) ?_
      refine tg_cRi (va_runSN (As := [.int zx4, .int zx5]) (rest := []) ⟨hx, hb, hml, hown, hts⟩ (qX6_image l D zx4 zx5 _ rfl) (⟨va_cnB 2 hts gX4_search_X6_image_n76 rfl rfl rfl (hN _ nw_X4_76) (hts _ kX4_search_1) zSX6_image ⟨show 0 + 1 ≤ 4 + (d + 1) by omega, show 8 + (2 + 11) + 0 ≤ 97 + 28 * (d + 1) by omega⟩, hts _ kX4_search_3, trivial⟩) (tg_preS tg_nil (hK.sub (tys' := []) [] rfl) hN) rfl rfl hl.1 rfl (lv_room (Nat.le_of_ble_eq_true rfl)) dX4_search_28 ⟨Nat.zero_le _, Nat.zero_le _⟩) ?_
      obtain ⟨zx6, ex6, h⟩ := lT_el h
      refine tg_top ex6 ?_
      refine lv_istore (lv' := [(6, .int zx6), (0, .ref (ad 0)), (1, .ref (wd 0)), (2, .int zx2), (3, .int zx3), (4, .int zx4), (5, .int zx5)]) hx hb dX4_search_31 hl (by decide) rfl (fun zls hl => ?_)
      refine lv_aload_n hx hb dX4_search_33 rfl (lv_at hl 1 rfl) ?_
      refine lv_iload_n hx hb dX4_search_34 rfl (lv_at hl 3 rfl) ?_
      refine lv_iload hx hb dX4_search_35 (lv_at hl 0 rfl) ?_
      obtain ⟨zr_1, hc, h⟩ := bd_el h
      refine tg_cRi (va_runV (As := [.int zx2, .int zx6]) (rest := []) ⟨hx, hb, hml, hown, hts⟩ (qX4_reaches l D cI ad cells back reach filled fc makers mc zx2 zx6 zr_1 hc) (cwV 2 hts gX4_search_X4_reaches rfl rfl rfl zVX4_reaches ⟨show 0 + 1 ≤ 4 + (d + 1) by omega, show 8 + (3 + 11) + 0 ≤ 97 + 28 * (d + 1) by omega⟩) (tg_preV (r := (RX4, TX4, 7)) (ci := 4) (q0 := 0) hP hK hN rfl rfl) rfl rfl hl.1 rfl (lv_room (Nat.le_of_ble_eq_true rfl)) dX4_search_37 ⟨Nat.zero_le _, Nat.zero_le _⟩) ?_
      refine lv_if_eq (tgt := 87) hx hb dX4_search_40 (by decide) (fun cb_1 => ?_) (fun cb_1 => ?_)
      · rw [if_pos cb_1] at h
        refine lv_iinc (v := (zx5 + 1)) (lv' := [(5, .int (zx5 + 1)), (6, .int zx6), (0, .ref (ad 0)), (1, .ref (wd 0)), (2, .int zx2), (3, .int zx3), (4, .int zx4)]) hx hb dX4_search_87 hl (k := 6) rfl rfl (by decide) rfl (fun zls hl => ?_)
        refine lv_goto (tgt := 17) hx hb dX4_search_90 (by decide) ?_
        exact ih _ _ h  _ (lv_sub hl [2, 3, 4, 5, 6, 0] rfl) 
      · rw [if_neg cb_1] at h
        refine lv_aload_n hx hb dX4_search_43 rfl (lv_at hl 1 rfl) ?_
        refine lv_iload_n hx hb dX4_search_44 rfl (lv_at hl 3 rfl) ?_
        refine lv_iload_n hx hb dX4_search_45 rfl (lv_at hl 4 rfl) ?_
        refine lv_iload hx hb dX4_search_46 (lv_at hl 0 rfl) ?_
        obtain ⟨zr_2, hc_1, h⟩ := bd_el h
        refine tg_cRi (va_runV (As := [.int zx2, .int zx3, .int zx6]) (rest := []) ⟨hx, hb, hml, hown, hts⟩ (qX4_step l D cI ad cells back reach filled fc makers mc zx2 zx3 zx6 F zr_2 hc_1) (cwV 3 hts gX4_search_X4_step rfl rfl rfl zVX4_step ⟨show 1 + 1 ≤ 4 + (d + 1) by omega, show 8 + (4 + 11) + 24 ≤ 97 + 28 * (d + 1) by omega⟩) (tg_preV (r := (RX4, TX4, 7)) (ci := 4) (q0 := 0) hP hK hN rfl rfl) rfl rfl hl.1 rfl (lv_room (Nat.le_of_ble_eq_true rfl)) dX4_search_48 ⟨Nat.zero_le _, Nat.zero_le _⟩) ?_
        refine lv_istore (lv' := [(7, .int zr_2), (6, .int zx6), (0, .ref (ad 0)), (1, .ref (wd 0)), (2, .int zx2), (3, .int zx3), (4, .int zx4), (5, .int zx5)]) hx hb dX4_search_51 hl (by decide) rfl (fun zls hl => ?_)
        refine lv_aload_n hx hb dX4_search_53 rfl (lv_at hl 3 rfl) ?_
        refine lv_iload hx hb dX4_search_54 (lv_at hl 0 rfl) ?_
        refine lv_iload_n hx hb dX4_search_56 rfl (lv_at hl 4 rfl) ?_
        obtain ⟨zr_3, hc_2, h⟩ := bd_el h
        refine wfits_X4_search ⟨hx, hb, hml, hown, hts, hK, hN⟩ hPo F (show 4 ≤ 4 + (d + 1) by omega) (show 97 ≤ 97 + 28 * (d + 1) by omega) hc_2 hl.1 (lv_room (Nat.le_of_ble_eq_true rfl)) dX4_search_57 ?_
        obtain ⟨zv, hv, h⟩ := bd_el h
        have hj : W p l e ({ frames := 4 + (d + 1), cells := 0, slots := 0, locals := 97 + 28 * (d + 1) } : Room) s m zargs zbelow zmeth c s.heap [] 0 0 (MQ zbelow (tg_Ri zr0) zargs s 0 0 (fun _ => False)) (F0 m 77 zls [.int zv]) := by
          refine lv_istore (lv' := [(8, .int zv), (7, .int zr_2), (6, .int zx6), (0, .ref (ad 0)), (1, .ref (wd 0)), (2, .int zx2), (3, .int zx3), (4, .int zx4), (5, .int zx5)]) hx hb dX4_search_77 hl (by decide) rfl (fun zls hl => ?_)
          refine lv_iload hx hb dX4_search_79 (lv_at hl 0 rfl) ?_
          refine lv_if_eq (tgt := 87) hx hb dX4_search_81 (by decide) (fun cb_2 => ?_) (fun cb_2 => ?_)
          · rw [if_pos cb_2] at h
            refine lv_iinc (v := (zx5 + 1)) (lv' := [(5, .int (zx5 + 1)), (8, .int zv), (7, .int zr_2), (6, .int zx6), (0, .ref (ad 0)), (1, .ref (wd 0)), (2, .int zx2), (3, .int zx3), (4, .int zx4)]) hx hb dX4_search_87 hl (k := 8) rfl rfl (by decide) rfl (fun zls hl => ?_)
            refine lv_goto (tgt := 17) hx hb dX4_search_90 (by decide) ?_
            exact ih _ _ h  _ (lv_sub hl [4, 5, 6, 7, 8, 0] rfl) 
          · rw [if_neg cb_2] at h
            refine lv_iload hx hb dX4_search_84 (lv_at hl 0 rfl) ?_
            cases h
            exact W.iret hx hb hr (fun t ht hW => ⟨rfl, ht⟩) (fun _ h9 => absurd h9 List.not_mem_nil) dX4_search_86
        refine lv_if_eq (tgt := 76) hx hb dX4_search_60 (by decide) (fun cb_3 => ?_) (fun cb_3 => ?_)
        · rw [if_pos cb_3] at hv
          refine lv_iconst (v := 0) hx hb dX4_search_76 (by decide) ?_
          cases hv
          exact hj 
        · rw [if_neg cb_3] at hv
          refine lv_aload_n hx hb dX4_search_63 rfl (lv_at hl 2 rfl) ?_
          refine lv_aload_n hx hb dX4_search_64 rfl (lv_at hl 3 rfl) ?_
          refine lv_iload_n hx hb dX4_search_65 rfl (lv_at hl 4 rfl) ?_
          refine lv_iconst (v := 1) hx hb dX4_search_66 (by decide) ?_
          refine lv_iadd hx hb dX4_search_67 ?_
          refine lv_iload hx hb dX4_search_68 (lv_at hl 0 rfl) ?_
          obtain ⟨zr_4, hc_3, hv⟩ := bd_el hv
          refine tg_cRi (va_runV (As := [.ref (wd 0), .int (zx2 + 1), .int zr_2]) (rest := []) ⟨hx, hb, hml, hown, hts⟩ (hrec (zx2 + 1) zr_2 zr_4 hc_3) (cwV 3 hts gX4_search_X4_search rfl rfl rfl zVX4_search ⟨show (4 + d) + 1 ≤ 4 + (d + 1) by omega, show 8 + (9 + 11) + (97 + 28 * d) ≤ 97 + 28 * (d + 1) by omega⟩) (tg_preV (r := (RX4, TX4, 7)) (ci := 4) (q0 := 0) (va_P.app hP hPo) hK hN rfl rfl) rfl rfl hl.1 rfl (lv_room (Nat.le_of_ble_eq_true rfl)) dX4_search_70 ⟨Nat.zero_le _, Nat.zero_le _⟩) ?_
          refine lv_goto (tgt := 77) hx hb dX4_search_73 (by decide) ?_
          cases hv
          exact hj 
set_option maxRecDepth 100000 in
set_option maxHeartbeats 4000000 in
theorem qX4_search_r (l : Launch) (D : va_G) (cI : ClassId) (ad : Nat → Nat) (cells : Nat → Int32) (back : Nat → Int32) (reach : Nat → Int32) (filled : Nat → Int32) (fc : Int32) (makers : Nat → Int32) (mc : Int32) (wd : Nat → Nat) (wk : Nat) (od : Nat → Nat) (wa : Int32) (wb : Int32) (ucells : Nat → Int32) (uback : Nat → Int32) (ureach : Nat → Int32) (ufilled : Nat → Int32) (ufc : Int32) (umakers : Nat → Int32) (umc : Int32) (F : Nat) : ∀ (d : Nat) (zx2 : Int32) (zx3 : Int32) (zr0 : Int32), mX4_search F wk cells reach wa wb uback ureach umakers umc d zx2 zx3 = some zr0 → Met l yX4_search wsX4_search ({ frames := 4 + d, cells := 0, slots := 0, locals := 97 + 28 * d } : Room) (tg_P D [(cI, .int)] [.ref (ad 0), .ref (wd 0), .int zx2, .int zx3] ((wT cI ad cells back reach filled fc makers mc) ++ (wW wk od cI wd wa wb ucells uback ureach ufilled ufc umakers umc))) (tg_Ri zr0) 0 0 (fun _ => False) := by
  intro d
  induction d with
  | zero => intro _ _ _ h; exact absurd (show none = some _ from h) (fun h9 => by cases h9)
  | succ d hrec =>
  intro zx2 zx3 zr0 h
  refine Met.ofW (cc := cX4_search) (maxL := 9) (ret := (some .int)) (by decide) rfl ?_
  intro p e s m zargs zbelow zmeth c s₁ B hml hv
  obtain ⟨hargs, hP, hK, hN⟩ := hv
  have hPo := tg_appR hP
  have hP := tg_appL hP
  have hx := B.exec
  have hb := B.bytes
  have hr := B.returns
  have hts := atoms_spec (ws := wsX4_search) B.pre
  have hown : s.vm.findClass RX4 = some m.cls := findClass_of_methodNamed B.named
  have hlocks := B.notSynchronized
  have hl := lv_entry ([.ref (ad 0), .ref (wd 0), .int zx2, .int zx3]) (n := 9) (Nat.le_of_ble_eq_true rfl)
  refine W.eq (g2 := entryFrame m ([.ref (ad 0), .ref (wd 0), .int zx2, .int zx3] : List Value).toArray 9) (by rw [hargs]) ?_
  rw [lg_entry_eq]
  generalize (lg_sl ([.ref (ad 0), .ref (wd 0), .int zx2, .int zx3]) ++ List.replicate (9 - (lg_sl ([.ref (ad 0), .ref (wd 0), .int zx2, .int zx3])).length) Slot.unset).toArray = zls at hl ⊢
  have hl : lv_has zls 9 [(0, .ref (ad 0)), (1, .ref (wd 0)), (2, .int zx2), (3, .int zx3)] := hl
  rw [mX4_search_s] at h
  refine lv_iload_n hx hb dX4_search_0 rfl (lv_at hl 2 rfl) ?_
  refine lv_bipush (v := 8) hx hb dX4_search_1 (by decide) ?_
  refine lv_icmp_lt (tgt := 8) hx hb dX4_search_3 (by decide) (fun cb => ?_) (fun cb => ?_)
  · rw [if_pos cb] at h
    refine lv_iload_n hx hb dX4_search_8 rfl (lv_at hl 3 rfl) ?_
    obtain ⟨zr, hc, h⟩ := bd_el h
    refine tg_cRi (va_runSN (As := [.int zx3]) (rest := []) ⟨hx, hb, hml, hown, hts⟩ (qX6_reverse l D zx3 F zr hc) (⟨va_cnB 1 hts gX4_search_X6_reverse_n123 rfl rfl rfl (hN _ nw_X4_123) (hts _ kX4_search_1) zSX6_reverse ⟨show 0 + 1 ≤ 4 + (d + 1) by omega, show 8 + (4 + 11) + 0 ≤ 97 + 28 * (d + 1) by omega⟩, hts _ kX4_search_2, trivial⟩) (tg_preS tg_nil (hK.sub (tys' := []) [] rfl) hN) rfl rfl hl.1 rfl (lv_room (Nat.le_of_ble_eq_true rfl)) dX4_search_9 ⟨Nat.zero_le _, Nat.zero_le _⟩) ?_
    refine lv_istore (lv' := [(4, .int zr), (0, .ref (ad 0)), (1, .ref (wd 0)), (2, .int zx2), (3, .int zx3)]) hx hb dX4_search_12 hl (by decide) rfl (fun zls hl => ?_)
    refine lv_iconst (v := 0) hx hb dX4_search_14 (by decide) ?_
    refine lv_istore (lv' := [(5, .int 0), (4, .int zr), (0, .ref (ad 0)), (1, .ref (wd 0)), (2, .int zx2), (3, .int zx3)]) hx hb dX4_search_15 hl (by decide) rfl (fun zls hl => ?_)
    exact wX4_search_L17 ⟨hx, hb, hml, hown, hts, hK, hN⟩ hP hPo hrec hlocks hr F F _ _ h  _ (lv_sub hl [2, 3, 4, 5, 1, 0] rfl) 
  · rw [if_neg cb] at h
    refine lv_iload_n hx hb dX4_search_6 rfl (lv_at hl 3 rfl) ?_
    cases h
    exact W.iret hx hb hr (fun t ht hW => ⟨rfl, ht⟩) (fun _ h9 => absurd h9 List.not_mem_nil) dX4_search_7
theorem qX4_search (l : Launch) (D : va_G) (cI : ClassId) (ad : Nat → Nat) (cells : Nat → Int32) (back : Nat → Int32) (reach : Nat → Int32) (filled : Nat → Int32) (fc : Int32) (makers : Nat → Int32) (mc : Int32) (wd : Nat → Nat) (wk : Nat) (od : Nat → Nat) (wa : Int32) (wb : Int32) (ucells : Nat → Int32) (uback : Nat → Int32) (ureach : Nat → Int32) (ufilled : Nat → Int32) (ufc : Int32) (umakers : Nat → Int32) (umc : Int32) (zx2 : Int32) (zx3 : Int32) (F d : Nat) (zr0 : Int32) (h : mX4_search F wk cells reach wa wb uback ureach umakers umc d zx2 zx3 = some zr0) : Met l yX4_search wsX4_search ({ frames := 4 + d, cells := 0, slots := 0, locals := 97 + 28 * d } : Room) (tg_P D [(cI, .int)] [.ref (ad 0), .ref (wd 0), .int zx2, .int zx3] ((wT cI ad cells back reach filled fc makers mc) ++ (wW wk od cI wd wa wb ucells uback ureach ufilled ufc umakers umc))) (tg_Ri zr0) 0 0 (fun _ => False) := qX4_search_r l D cI ad cells back reach filled fc makers mc wd wk od wa wb ucells uback ureach ufilled ufc umakers umc F d zx2 zx3 zr0 h

/-! ===== private int searchCell(TurnGroups$Wish, int, int); ===== -/
theorem kX4_searchCell_1 : Cond.fieldLink RX4 11 "TurnGroups$Tower" "cells" "[I" ∈ wsX4_searchCell := by decide +kernel
theorem uX4_searchCell_RX4 : ∀ w ∈ u_ws RX4 TX4 7, w ∈ wsX4_searchCell := by decide +kernel
def mX4_searchCell (F : Nat) (wk : Nat) (cells : Nat → Int32) (reach : Nat → Int32) (wa : Int32) (wb : Int32) (uback : Nat → Int32) (ureach : Nat → Int32) (umakers : Nat → Int32) (umc : Int32) (zx2 : Int32) (zx3 : Int32) : Option (Int32) := gd (inb (mX4_cellOf zx2 zx3) 64) (lT (cells (Int32.toNatClampNeg (mX4_cellOf zx2 zx3))) (fun zx4 => bd (mW_fits F wk wa wb uback ureach umakers umc zx4 zx2) (fun zr_1 => if zr_1 = 0 then (some (0 : Int32)) else (bd (mX4_search F wk cells reach wa wb uback ureach umakers umc 9 (zx2 + 1) zx4) (fun zr_2 => some zr_2)))))
set_option maxRecDepth 100000 in
set_option maxHeartbeats 4000000 in
theorem qX4_searchCell (l : Launch) (D : va_G) (cI : ClassId) (ad : Nat → Nat) (cells : Nat → Int32) (back : Nat → Int32) (reach : Nat → Int32) (filled : Nat → Int32) (fc : Int32) (makers : Nat → Int32) (mc : Int32) (wd : Nat → Nat) (wk : Nat) (od : Nat → Nat) (wa : Int32) (wb : Int32) (ucells : Nat → Int32) (uback : Nat → Int32) (ureach : Nat → Int32) (ufilled : Nat → Int32) (ufc : Int32) (umakers : Nat → Int32) (umc : Int32) (zx2 : Int32) (zx3 : Int32) (F : Nat) (zr0 : Int32) (h : mX4_searchCell F wk cells reach wa wb uback ureach umakers umc zx2 zx3 = some zr0) : Met l yX4_searchCell wsX4_searchCell ({ frames := 14, cells := 0, slots := 0, locals := 377 } : Room) (tg_P D [(cI, .int)] [.ref (ad 0), .ref (wd 0), .int zx2, .int zx3] ((wT cI ad cells back reach filled fc makers mc) ++ (wW wk od cI wd wa wb ucells uback ureach ufilled ufc umakers umc))) (tg_Ri zr0) 0 0 (fun _ => False) := by
  refine Met.ofW (cc := cX4_searchCell) (maxL := 5) (ret := (some .int)) (by decide) rfl ?_
  intro p e s m zargs zbelow zmeth c s₁ B hml hv
  obtain ⟨hargs, hP, hK, hN⟩ := hv
  have hPo := tg_appR hP
  have hP := tg_appL hP
  have hx := B.exec
  have hb := B.bytes
  have hr := B.returns
  have hts := atoms_spec (ws := wsX4_searchCell) B.pre
  have hown : s.vm.findClass RX4 = some m.cls := findClass_of_methodNamed B.named
  have hlocks := B.notSynchronized
  have hl := lv_entry ([.ref (ad 0), .ref (wd 0), .int zx2, .int zx3]) (n := 5) (Nat.le_of_ble_eq_true rfl)
  refine W.eq (g2 := entryFrame m ([.ref (ad 0), .ref (wd 0), .int zx2, .int zx3] : List Value).toArray 5) (by rw [hargs]) ?_
  rw [lg_entry_eq]
  generalize (lg_sl ([.ref (ad 0), .ref (wd 0), .int zx2, .int zx3]) ++ List.replicate (5 - (lg_sl ([.ref (ad 0), .ref (wd 0), .int zx2, .int zx3])).length) Slot.unset).toArray = zls at hl ⊢
  have hl : lv_has zls 5 [(0, .ref (ad 0)), (1, .ref (wd 0)), (2, .int zx2), (3, .int zx3)] := hl
  rw [mX4_searchCell] at h
  refine lv_aload_n hx hb dX4_searchCell_0 rfl (lv_at hl 0 rfl) ?_
  refine va_get (D := D) (ci := 4) (v := .ref (ad 1)) (C := RX4) (T := TX4) (N := 7) hx hb hts uX4_searchCell_RX4 hown hK hP 0 rfl rfl 0 (by decide) (hts _ kX4_searchCell_1) (fun _ h9 => h9) rfl dX4_searchCell_1 ?_
  refine lv_iload_n hx hb dX4_searchCell_4 rfl (lv_at hl 2 rfl) ?_
  refine lv_iload_n hx hb dX4_searchCell_5 rfl (lv_at hl 3 rfl) ?_
  refine tg_cRi (va_runS (As := [.int zx2, .int zx3]) (rest := [.ref (ad 1)]) ⟨hx, hb, hml, hown, hts⟩ (qX4_cellOf l D zx2 zx3 _ rfl) (va_cwS 2 hts gX4_searchCell_X4_cellOf rfl rfl rfl zSX4_cellOf ⟨Nat.le_of_ble_eq_true rfl, Nat.le_of_ble_eq_true rfl⟩) (tg_preS tg_nil (hK.sub (tys' := []) [] rfl) hN) rfl rfl hl.1 rfl (lv_room (Nat.le_of_ble_eq_true rfl)) dX4_searchCell_6 ⟨Nat.zero_le _, Nat.zero_le _⟩) ?_
  obtain ⟨gg, h⟩ := gd_el h
  refine va_iald hx hb hK hP 1 0 rfl rfl (inb_in gg) dX4_searchCell_9 ?_
  obtain ⟨zx4, ex4, h⟩ := lT_el h
  refine tg_top ex4 ?_
  refine lv_istore (lv' := [(4, .int zx4), (0, .ref (ad 0)), (1, .ref (wd 0)), (2, .int zx2), (3, .int zx3)]) hx hb dX4_searchCell_10 hl (by decide) rfl (fun zls hl => ?_)
  refine lv_aload_n hx hb dX4_searchCell_12 rfl (lv_at hl 2 rfl) ?_
  refine lv_iload hx hb dX4_searchCell_13 (lv_at hl 0 rfl) ?_
  refine lv_iload_n hx hb dX4_searchCell_15 rfl (lv_at hl 3 rfl) ?_
  obtain ⟨zr_1, hc, h⟩ := bd_el h
  refine wfits_X4_searchCell ⟨hx, hb, hml, hown, hts, hK, hN⟩ hPo F (Nat.le_of_ble_eq_true rfl) (Nat.le_of_ble_eq_true rfl) hc hl.1 (lv_room (Nat.le_of_ble_eq_true rfl)) dX4_searchCell_16 ?_
  refine lv_if_eq (tgt := 35) hx hb dX4_searchCell_19 (by decide) (fun cb => ?_) (fun cb => ?_)
  · rw [if_pos cb] at h
    refine lv_iconst (v := 0) hx hb dX4_searchCell_35 (by decide) ?_
    cases h
    exact W.iret hx hb hr (fun t ht hW => ⟨rfl, ht⟩) (fun _ h9 => absurd h9 List.not_mem_nil) dX4_searchCell_36
  · rw [if_neg cb] at h
    refine lv_aload_n hx hb dX4_searchCell_22 rfl (lv_at hl 1 rfl) ?_
    refine lv_aload_n hx hb dX4_searchCell_23 rfl (lv_at hl 2 rfl) ?_
    refine lv_iload_n hx hb dX4_searchCell_24 rfl (lv_at hl 3 rfl) ?_
    refine lv_iconst (v := 1) hx hb dX4_searchCell_25 (by decide) ?_
    refine lv_iadd hx hb dX4_searchCell_26 ?_
    refine lv_iload hx hb dX4_searchCell_27 (lv_at hl 0 rfl) ?_
    obtain ⟨zr_2, hc_1, h⟩ := bd_el h
    refine tg_cRi (va_runV (As := [.ref (wd 0), .int (zx2 + 1), .int zx4]) (rest := []) ⟨hx, hb, hml, hown, hts⟩ (qX4_search l D cI ad cells back reach filled fc makers mc wd wk od wa wb ucells uback ureach ufilled ufc umakers umc (zx2 + 1) zx4 F 9 zr_2 hc_1) (cwV 3 hts gX4_searchCell_X4_search rfl rfl rfl zVX4_search ⟨Nat.le_of_ble_eq_true rfl, Nat.le_of_ble_eq_true rfl⟩) (tg_preV (r := (RX4, TX4, 7)) (ci := 4) (q0 := 0) (va_P.app hP hPo) hK hN rfl rfl) rfl rfl hl.1 rfl (lv_room (Nat.le_of_ble_eq_true rfl)) dX4_searchCell_29 ⟨Nat.zero_le _, Nat.zero_le _⟩) ?_
    refine lv_goto (tgt := 36) hx hb dX4_searchCell_32 (by decide) ?_
    cases h
    exact W.iret hx hb hr (fun t ht hW => ⟨rfl, ht⟩) (fun _ h9 => absurd h9 List.not_mem_nil) dX4_searchCell_36
theorem zVX4_searchCell : yX4_searchCell.cls = RX4 ∧ yX4_searchCell.cls ≠ "java/lang/invoke/MethodHandle" ∧ yX4_searchCell.cls ≠ "java/lang/invoke/VarHandle" ∧ (parseMethodDescriptor yX4_searchCell.desc).map (fun d => d.parameters.length) = some 3 := by decide +kernel

/-! ===== int firstThat(TurnGroups$Wish); ===== -/
theorem kX4_firstThat_1 : Cond.constant RX4 100 (1985229328) ∈ wsX4_firstThat := by decide +kernel
def mX4_firstThat (F : Nat) (wk : Nat) (cells : Nat → Int32) (reach : Nat → Int32) (wa : Int32) (wb : Int32) (uback : Nat → Int32) (ureach : Nat → Int32) (umakers : Nat → Int32) (umc : Int32) : Option (Int32) := bd (mX4_search F wk cells reach wa wb uback ureach umakers umc 9 0 1985229328) (fun zr => some zr)
set_option maxRecDepth 100000 in
set_option maxHeartbeats 4000000 in
theorem qX4_firstThat (l : Launch) (D : va_G) (cI : ClassId) (ad : Nat → Nat) (cells : Nat → Int32) (back : Nat → Int32) (reach : Nat → Int32) (filled : Nat → Int32) (fc : Int32) (makers : Nat → Int32) (mc : Int32) (wd : Nat → Nat) (wk : Nat) (od : Nat → Nat) (wa : Int32) (wb : Int32) (ucells : Nat → Int32) (uback : Nat → Int32) (ureach : Nat → Int32) (ufilled : Nat → Int32) (ufc : Int32) (umakers : Nat → Int32) (umc : Int32) (F : Nat) (zr0 : Int32) (h : mX4_firstThat F wk cells reach wa wb uback ureach umakers umc = some zr0) : Met l yX4_firstThat wsX4_firstThat ({ frames := 14, cells := 0, slots := 0, locals := 377 } : Room) (tg_P D [(cI, .int)] [.ref (ad 0), .ref (wd 0)] ((wT cI ad cells back reach filled fc makers mc) ++ (wW wk od cI wd wa wb ucells uback ureach ufilled ufc umakers umc))) (tg_Ri zr0) 0 0 (fun _ => False) := by
  refine Met.ofW (cc := cX4_firstThat) (maxL := 2) (ret := (some .int)) (by decide) rfl ?_
  intro p e s m zargs zbelow zmeth c s₁ B hml hv
  obtain ⟨hargs, hP, hK, hN⟩ := hv
  have hPo := tg_appR hP
  have hP := tg_appL hP
  have hx := B.exec
  have hb := B.bytes
  have hr := B.returns
  have hts := atoms_spec (ws := wsX4_firstThat) B.pre
  have hown : s.vm.findClass RX4 = some m.cls := findClass_of_methodNamed B.named
  have hlocks := B.notSynchronized
  have hl := lv_entry ([.ref (ad 0), .ref (wd 0)]) (n := 2) (Nat.le_of_ble_eq_true rfl)
  refine W.eq (g2 := entryFrame m ([.ref (ad 0), .ref (wd 0)] : List Value).toArray 2) (by rw [hargs]) ?_
  rw [lg_entry_eq]
  generalize (lg_sl ([.ref (ad 0), .ref (wd 0)]) ++ List.replicate (2 - (lg_sl ([.ref (ad 0), .ref (wd 0)])).length) Slot.unset).toArray = zls at hl ⊢
  have hl : lv_has zls 2 [(0, .ref (ad 0)), (1, .ref (wd 0))] := hl
  rw [mX4_firstThat] at h
  refine lv_aload_n hx hb dX4_firstThat_0 rfl (lv_at hl 0 rfl) ?_
  refine lv_aload_n hx hb dX4_firstThat_1 rfl (lv_at hl 1 rfl) ?_
  refine lv_iconst (v := 0) hx hb dX4_firstThat_2 (by decide) ?_
  refine lv_ldc hx hb hown (hts _ kX4_firstThat_1) dX4_firstThat_3 ?_
  obtain ⟨zr, hc, h⟩ := bd_el h
  refine tg_cRi (va_runV (As := [.ref (wd 0), .int 0, .int 1985229328]) (rest := []) ⟨hx, hb, hml, hown, hts⟩ (qX4_search l D cI ad cells back reach filled fc makers mc wd wk od wa wb ucells uback ureach ufilled ufc umakers umc 0 1985229328 F 9 zr hc) (cwV 3 hts gX4_firstThat_X4_search rfl rfl rfl zVX4_search ⟨Nat.le_of_ble_eq_true rfl, Nat.le_of_ble_eq_true rfl⟩) (tg_preV (r := (RX4, TX4, 7)) (ci := 4) (q0 := 0) (va_P.app hP hPo) hK hN rfl rfl) rfl rfl hl.1 rfl (lv_room (Nat.le_of_ble_eq_true rfl)) dX4_firstThat_5 ⟨Nat.zero_le _, Nat.zero_le _⟩) ?_
  cases h
  exact W.iret hx hb hr (fun t ht hW => ⟨rfl, ht⟩) (fun _ h9 => absurd h9 List.not_mem_nil) dX4_firstThat_8
theorem zVX4_firstThat : yX4_firstThat.cls = RX4 ∧ yX4_firstThat.cls ≠ "java/lang/invoke/MethodHandle" ∧ yX4_firstThat.cls ≠ "java/lang/invoke/VarHandle" ∧ (parseMethodDescriptor yX4_firstThat.desc).map (fun d => d.parameters.length) = some 1 := by decide +kernel
