section
-- ===== PART A: goes FIRST, ahead of the names: the tables' words, and 'selects' of the private methods out of them =====
/-- a private method of a class that the tables say can be made, by its rows of tables_1 -/
def lw_okq (q : MethodName × Nat) : Prop := (q.1.cls ≠ "java/lang/invoke/MethodHandle" ∧ q.1.cls ≠ "java/lang/invoke/VarHandle") ∧ Cond.instantiable q.1.cls q.2 ∈ tables_1 ∧ Cond.privateMethod q.1 ∈ tables_1 ∧ Cond.instanceMethod q.1 ∈ tables_1
theorem lw_p0 : lw_okq (⟨"TurnGroups", "beginWith", "(I)V"⟩, 6) := ⟨⟨by decide +kernel, by decide +kernel⟩, List.mem_of_getElem? (i := 14) (by decide +kernel), List.mem_of_getElem? (i := 54) (by decide +kernel), List.mem_of_getElem? (i := 55) (by decide +kernel)⟩
theorem lw_p1 : lw_okq (⟨"TurnGroups", "tellsTurn", "(J)Z"⟩, 6) := ⟨⟨by decide +kernel, by decide +kernel⟩, List.mem_of_getElem? (i := 14) (by decide +kernel), List.mem_of_getElem? (i := 89) (by decide +kernel), List.mem_of_getElem? (i := 90) (by decide +kernel)⟩
theorem lw_p2 : lw_okq (⟨"TurnGroups", "ownBits", "()J"⟩, 6) := ⟨⟨by decide +kernel, by decide +kernel⟩, List.mem_of_getElem? (i := 14) (by decide +kernel), List.mem_of_getElem? (i := 93) (by decide +kernel), List.mem_of_getElem? (i := 94) (by decide +kernel)⟩
theorem lw_p3 : lw_okq (⟨"TurnGroups", "isPoint", "(I)Z"⟩, 6) := ⟨⟨by decide +kernel, by decide +kernel⟩, List.mem_of_getElem? (i := 14) (by decide +kernel), List.mem_of_getElem? (i := 113) (by decide +kernel), List.mem_of_getElem? (i := 114) (by decide +kernel)⟩
theorem lw_p4 : lw_okq (⟨"TurnGroups", "isFull", "()Z"⟩, 6) := ⟨⟨by decide +kernel, by decide +kernel⟩, List.mem_of_getElem? (i := 14) (by decide +kernel), List.mem_of_getElem? (i := 162) (by decide +kernel), List.mem_of_getElem? (i := 163) (by decide +kernel)⟩
theorem lw_p5 : lw_okq (⟨"TurnGroups", "joinSwaps", "(LTurnGroups$Tower;)V"⟩, 6) := ⟨⟨by decide +kernel, by decide +kernel⟩, List.mem_of_getElem? (i := 14) (by decide +kernel), List.mem_of_getElem? (i := 170) (by decide +kernel), List.mem_of_getElem? (i := 171) (by decide +kernel)⟩
theorem lw_p6 : lw_okq (⟨"TurnGroups$Tower", "settle", "(I)V"⟩, 7) := ⟨⟨by decide +kernel, by decide +kernel⟩, List.mem_of_getElem? (i := 23) (by decide +kernel), List.mem_of_getElem? (i := 181) (by decide +kernel), List.mem_of_getElem? (i := 182) (by decide +kernel)⟩
theorem lw_p7 : lw_okq (⟨"TurnGroups$Tower", "reaches", "(II)Z"⟩, 7) := ⟨⟨by decide +kernel, by decide +kernel⟩, List.mem_of_getElem? (i := 23) (by decide +kernel), List.mem_of_getElem? (i := 190) (by decide +kernel), List.mem_of_getElem? (i := 191) (by decide +kernel)⟩
theorem lw_p8 : lw_okq (⟨"TurnGroups$Tower", "spreadFrom", "(I)V"⟩, 7) := ⟨⟨by decide +kernel, by decide +kernel⟩, List.mem_of_getElem? (i := 23) (by decide +kernel), List.mem_of_getElem? (i := 196) (by decide +kernel), List.mem_of_getElem? (i := 197) (by decide +kernel)⟩
theorem lw_p9 : lw_okq (⟨"TurnGroups", "joinThreeCycles", "(LTurnGroups$Tower;)V"⟩, 6) := ⟨⟨by decide +kernel, by decide +kernel⟩, List.mem_of_getElem? (i := 14) (by decide +kernel), List.mem_of_getElem? (i := 203) (by decide +kernel), List.mem_of_getElem? (i := 204) (by decide +kernel)⟩
theorem lw_p10 : lw_okq (⟨"TurnGroups", "isGroup", "(I)Z"⟩, 6) := ⟨⟨by decide +kernel, by decide +kernel⟩, List.mem_of_getElem? (i := 14) (by decide +kernel), List.mem_of_getElem? (i := 211) (by decide +kernel), List.mem_of_getElem? (i := 212) (by decide +kernel)⟩
theorem lw_p11 : lw_okq (⟨"TurnGroups$Tower", "searchCell", "(LTurnGroups$Wish;II)I"⟩, 7) := ⟨⟨by decide +kernel, by decide +kernel⟩, List.mem_of_getElem? (i := 23) (by decide +kernel), List.mem_of_getElem? (i := 237) (by decide +kernel), List.mem_of_getElem? (i := 238) (by decide +kernel)⟩
theorem lw_p12 : lw_okq (⟨"TurnGroups$Tower", "search", "(LTurnGroups$Wish;II)I"⟩, 7) := ⟨⟨by decide +kernel, by decide +kernel⟩, List.mem_of_getElem? (i := 23) (by decide +kernel), List.mem_of_getElem? (i := 266) (by decide +kernel), List.mem_of_getElem? (i := 267) (by decide +kernel)⟩
theorem lw_p13 : lw_okq (⟨"TurnGroups$Tower", "step", "(III)I"⟩, 7) := ⟨⟨by decide +kernel, by decide +kernel⟩, List.mem_of_getElem? (i := 23) (by decide +kernel), List.mem_of_getElem? (i := 270) (by decide +kernel), List.mem_of_getElem? (i := 271) (by decide +kernel)⟩
theorem lw_p14 : lw_okq (⟨"TurnGroups", "isSet", "(I)Z"⟩, 6) := ⟨⟨by decide +kernel, by decide +kernel⟩, List.mem_of_getElem? (i := 14) (by decide +kernel), List.mem_of_getElem? (i := 297) (by decide +kernel), List.mem_of_getElem? (i := 298) (by decide +kernel)⟩
theorem lw_p15 : lw_okq (⟨"TurnGroups$Tower", "countLeaving", "(III)I"⟩, 7) := ⟨⟨by decide +kernel, by decide +kernel⟩, List.mem_of_getElem? (i := 23) (by decide +kernel), List.mem_of_getElem? (i := 423) (by decide +kernel), List.mem_of_getElem? (i := 424) (by decide +kernel)⟩
def lw_privs_1 : List (MethodName × Nat) := [(⟨"TurnGroups", "beginWith", "(I)V"⟩, 6), (⟨"TurnGroups", "tellsTurn", "(J)Z"⟩, 6), (⟨"TurnGroups", "ownBits", "()J"⟩, 6), (⟨"TurnGroups", "isPoint", "(I)Z"⟩, 6), (⟨"TurnGroups", "isFull", "()Z"⟩, 6), (⟨"TurnGroups", "joinSwaps", "(LTurnGroups$Tower;)V"⟩, 6), (⟨"TurnGroups$Tower", "settle", "(I)V"⟩, 7), (⟨"TurnGroups$Tower", "reaches", "(II)Z"⟩, 7), (⟨"TurnGroups$Tower", "spreadFrom", "(I)V"⟩, 7), (⟨"TurnGroups", "joinThreeCycles", "(LTurnGroups$Tower;)V"⟩, 6), (⟨"TurnGroups", "isGroup", "(I)Z"⟩, 6), (⟨"TurnGroups$Tower", "searchCell", "(LTurnGroups$Wish;II)I"⟩, 7), (⟨"TurnGroups$Tower", "search", "(LTurnGroups$Wish;II)I"⟩, 7), (⟨"TurnGroups$Tower", "step", "(III)I"⟩, 7), (⟨"TurnGroups", "isSet", "(I)Z"⟩, 6), (⟨"TurnGroups$Tower", "countLeaving", "(III)I"⟩, 7)]
theorem lw_r1 : ∀ q ∈ lw_privs_1, lw_okq q := List.forall_mem_cons.mpr ⟨lw_p0, List.forall_mem_cons.mpr ⟨lw_p1, List.forall_mem_cons.mpr ⟨lw_p2, List.forall_mem_cons.mpr ⟨lw_p3, List.forall_mem_cons.mpr ⟨lw_p4, List.forall_mem_cons.mpr ⟨lw_p5, List.forall_mem_cons.mpr ⟨lw_p6, List.forall_mem_cons.mpr ⟨lw_p7, List.forall_mem_cons.mpr ⟨lw_p8, List.forall_mem_cons.mpr ⟨lw_p9, List.forall_mem_cons.mpr ⟨lw_p10, List.forall_mem_cons.mpr ⟨lw_p11, List.forall_mem_cons.mpr ⟨lw_p12, List.forall_mem_cons.mpr ⟨lw_p13, List.forall_mem_cons.mpr ⟨lw_p14, List.forall_mem_cons.mpr ⟨lw_p15, fun _ h => absurd h List.not_mem_nil⟩⟩⟩⟩⟩⟩⟩⟩⟩⟩⟩⟩⟩⟩⟩⟩
theorem lw_p16 : lw_okq (⟨"TurnGroups$Tower", "descend", "(III)I"⟩, 7) := ⟨⟨by decide +kernel, by decide +kernel⟩, List.mem_of_getElem? (i := 23) (by decide +kernel), List.mem_of_getElem? (i := 436) (by decide +kernel), List.mem_of_getElem? (i := 437) (by decide +kernel)⟩
theorem lw_p17 : lw_okq (⟨"TurnGroupsModel", "layAll", "()V"⟩, 11) := ⟨⟨by decide +kernel, by decide +kernel⟩, List.mem_of_getElem? (i := 466) (by decide +kernel), List.mem_of_getElem? (i := 475) (by decide +kernel), List.mem_of_getElem? (i := 476) (by decide +kernel)⟩
theorem lw_p18 : lw_okq (⟨"TurnGroupsModel", "placeNow", "()I"⟩, 11) := ⟨⟨by decide +kernel, by decide +kernel⟩, List.mem_of_getElem? (i := 466) (by decide +kernel), List.mem_of_getElem? (i := 529) (by decide +kernel), List.mem_of_getElem? (i := 530) (by decide +kernel)⟩
theorem lw_p19 : lw_okq (⟨"TurnGroupsModel", "oneThen", "(II)I"⟩, 11) := ⟨⟨by decide +kernel, by decide +kernel⟩, List.mem_of_getElem? (i := 466) (by decide +kernel), List.mem_of_getElem? (i := 553) (by decide +kernel), List.mem_of_getElem? (i := 554) (by decide +kernel)⟩
theorem lw_p20 : lw_okq (⟨"TurnGroupsModel", "orderOf", "(I)I"⟩, 11) := ⟨⟨by decide +kernel, by decide +kernel⟩, List.mem_of_getElem? (i := 466) (by decide +kernel), List.mem_of_getElem? (i := 561) (by decide +kernel), List.mem_of_getElem? (i := 562) (by decide +kernel)⟩
theorem lw_p21 : lw_okq (⟨"TurnGroupsModel", "backOf", "(I)I"⟩, 11) := ⟨⟨by decide +kernel, by decide +kernel⟩, List.mem_of_getElem? (i := 466) (by decide +kernel), List.mem_of_getElem? (i := 565) (by decide +kernel), List.mem_of_getElem? (i := 566) (by decide +kernel)⟩
theorem lw_p22 : lw_okq (⟨"TurnGroupsModel", "isEven", "(I)Z"⟩, 11) := ⟨⟨by decide +kernel, by decide +kernel⟩, List.mem_of_getElem? (i := 466) (by decide +kernel), List.mem_of_getElem? (i := 577) (by decide +kernel), List.mem_of_getElem? (i := 578) (by decide +kernel)⟩
theorem lw_p23 : lw_okq (⟨"TurnGroupsModel", "newGroup", "(I)I"⟩, 11) := ⟨⟨by decide +kernel, by decide +kernel⟩, List.mem_of_getElem? (i := 466) (by decide +kernel), List.mem_of_getElem? (i := 581) (by decide +kernel), List.mem_of_getElem? (i := 582) (by decide +kernel)⟩
theorem lw_p24 : lw_okq (⟨"TurnGroupsModel", "copy", "(II)V"⟩, 11) := ⟨⟨by decide +kernel, by decide +kernel⟩, List.mem_of_getElem? (i := 466) (by decide +kernel), List.mem_of_getElem? (i := 585) (by decide +kernel), List.mem_of_getElem? (i := 586) (by decide +kernel)⟩
theorem lw_p25 : lw_okq (⟨"TurnGroupsModel", "isGroup", "(I)Z"⟩, 11) := ⟨⟨by decide +kernel, by decide +kernel⟩, List.mem_of_getElem? (i := 466) (by decide +kernel), List.mem_of_getElem? (i := 593) (by decide +kernel), List.mem_of_getElem? (i := 594) (by decide +kernel)⟩
theorem lw_p26 : lw_okq (⟨"TurnGroupsModel", "hasIt", "(II)Z"⟩, 11) := ⟨⟨by decide +kernel, by decide +kernel⟩, List.mem_of_getElem? (i := 466) (by decide +kernel), List.mem_of_getElem? (i := 597) (by decide +kernel), List.mem_of_getElem? (i := 598) (by decide +kernel)⟩
theorem lw_p27 : lw_okq (⟨"TurnGroupsModel", "begin", "(I)V"⟩, 11) := ⟨⟨by decide +kernel, by decide +kernel⟩, List.mem_of_getElem? (i := 466) (by decide +kernel), List.mem_of_getElem? (i := 601) (by decide +kernel), List.mem_of_getElem? (i := 602) (by decide +kernel)⟩
theorem lw_p28 : lw_okq (⟨"TurnGroupsModel", "clear", "(I)V"⟩, 11) := ⟨⟨by decide +kernel, by decide +kernel⟩, List.mem_of_getElem? (i := 466) (by decide +kernel), List.mem_of_getElem? (i := 605) (by decide +kernel), List.mem_of_getElem? (i := 606) (by decide +kernel)⟩
theorem lw_p29 : lw_okq (⟨"TurnGroupsModel", "joinAll", "(II)V"⟩, 11) := ⟨⟨by decide +kernel, by decide +kernel⟩, List.mem_of_getElem? (i := 466) (by decide +kernel), List.mem_of_getElem? (i := 609) (by decide +kernel), List.mem_of_getElem? (i := 610) (by decide +kernel)⟩
theorem lw_p30 : lw_okq (⟨"TurnGroupsModel", "join", "(II)V"⟩, 11) := ⟨⟨by decide +kernel, by decide +kernel⟩, List.mem_of_getElem? (i := 466) (by decide +kernel), List.mem_of_getElem? (i := 613) (by decide +kernel), List.mem_of_getElem? (i := 614) (by decide +kernel)⟩
theorem lw_p31 : lw_okq (⟨"TurnGroupsModel", "close", "(II)V"⟩, 11) := ⟨⟨by decide +kernel, by decide +kernel⟩, List.mem_of_getElem? (i := 466) (by decide +kernel), List.mem_of_getElem? (i := 622) (by decide +kernel), List.mem_of_getElem? (i := 623) (by decide +kernel)⟩
def lw_privs_2 : List (MethodName × Nat) := [(⟨"TurnGroups$Tower", "descend", "(III)I"⟩, 7), (⟨"TurnGroupsModel", "layAll", "()V"⟩, 11), (⟨"TurnGroupsModel", "placeNow", "()I"⟩, 11), (⟨"TurnGroupsModel", "oneThen", "(II)I"⟩, 11), (⟨"TurnGroupsModel", "orderOf", "(I)I"⟩, 11), (⟨"TurnGroupsModel", "backOf", "(I)I"⟩, 11), (⟨"TurnGroupsModel", "isEven", "(I)Z"⟩, 11), (⟨"TurnGroupsModel", "newGroup", "(I)I"⟩, 11), (⟨"TurnGroupsModel", "copy", "(II)V"⟩, 11), (⟨"TurnGroupsModel", "isGroup", "(I)Z"⟩, 11), (⟨"TurnGroupsModel", "hasIt", "(II)Z"⟩, 11), (⟨"TurnGroupsModel", "begin", "(I)V"⟩, 11), (⟨"TurnGroupsModel", "clear", "(I)V"⟩, 11), (⟨"TurnGroupsModel", "joinAll", "(II)V"⟩, 11), (⟨"TurnGroupsModel", "join", "(II)V"⟩, 11), (⟨"TurnGroupsModel", "close", "(II)V"⟩, 11)]
theorem lw_r2 : ∀ q ∈ lw_privs_2, lw_okq q := List.forall_mem_cons.mpr ⟨lw_p16, List.forall_mem_cons.mpr ⟨lw_p17, List.forall_mem_cons.mpr ⟨lw_p18, List.forall_mem_cons.mpr ⟨lw_p19, List.forall_mem_cons.mpr ⟨lw_p20, List.forall_mem_cons.mpr ⟨lw_p21, List.forall_mem_cons.mpr ⟨lw_p22, List.forall_mem_cons.mpr ⟨lw_p23, List.forall_mem_cons.mpr ⟨lw_p24, List.forall_mem_cons.mpr ⟨lw_p25, List.forall_mem_cons.mpr ⟨lw_p26, List.forall_mem_cons.mpr ⟨lw_p27, List.forall_mem_cons.mpr ⟨lw_p28, List.forall_mem_cons.mpr ⟨lw_p29, List.forall_mem_cons.mpr ⟨lw_p30, List.forall_mem_cons.mpr ⟨lw_p31, fun _ h => absurd h List.not_mem_nil⟩⟩⟩⟩⟩⟩⟩⟩⟩⟩⟩⟩⟩⟩⟩⟩
theorem lw_p32 : lw_okq (⟨"TurnGroupsModel", "carried", "(II)I"⟩, 11) := ⟨⟨by decide +kernel, by decide +kernel⟩, List.mem_of_getElem? (i := 466) (by decide +kernel), List.mem_of_getElem? (i := 626) (by decide +kernel), List.mem_of_getElem? (i := 627) (by decide +kernel)⟩
theorem lw_p33 : lw_okq (⟨"TurnGroupsModel", "setOf", "(II)I"⟩, 11) := ⟨⟨by decide +kernel, by decide +kernel⟩, List.mem_of_getElem? (i := 466) (by decide +kernel), List.mem_of_getElem? (i := 634) (by decide +kernel), List.mem_of_getElem? (i := 635) (by decide +kernel)⟩
theorem lw_p34 : lw_okq (⟨"TurnGroupsModel", "goDown", "(I)V"⟩, 11) := ⟨⟨by decide +kernel, by decide +kernel⟩, List.mem_of_getElem? (i := 466) (by decide +kernel), List.mem_of_getElem? (i := 642) (by decide +kernel), List.mem_of_getElem? (i := 643) (by decide +kernel)⟩
theorem lw_p35 : lw_okq (⟨"TurnGroupsModel", "sizeOf", "(I)I"⟩, 11) := ⟨⟨by decide +kernel, by decide +kernel⟩, List.mem_of_getElem? (i := 466) (by decide +kernel), List.mem_of_getElem? (i := 655) (by decide +kernel), List.mem_of_getElem? (i := 656) (by decide +kernel)⟩
theorem lw_p36 : lw_okq (⟨"TurnGroupsModel", "isWithin", "(II)Z"⟩, 11) := ⟨⟨by decide +kernel, by decide +kernel⟩, List.mem_of_getElem? (i := 466) (by decide +kernel), List.mem_of_getElem? (i := 667) (by decide +kernel), List.mem_of_getElem? (i := 668) (by decide +kernel)⟩
theorem lw_p37 : lw_okq (⟨"TurnGroupsModel", "isNormal", "(II)Z"⟩, 11) := ⟨⟨by decide +kernel, by decide +kernel⟩, List.mem_of_getElem? (i := 466) (by decide +kernel), List.mem_of_getElem? (i := 671) (by decide +kernel), List.mem_of_getElem? (i := 672) (by decide +kernel)⟩
theorem lw_p38 : lw_okq (⟨"TurnGroupsModel", "stillIn", "(I)I"⟩, 11) := ⟨⟨by decide +kernel, by decide +kernel⟩, List.mem_of_getElem? (i := 466) (by decide +kernel), List.mem_of_getElem? (i := 691) (by decide +kernel), List.mem_of_getElem? (i := 692) (by decide +kernel)⟩
def lw_privs_3 : List (MethodName × Nat) := [(⟨"TurnGroupsModel", "carried", "(II)I"⟩, 11), (⟨"TurnGroupsModel", "setOf", "(II)I"⟩, 11), (⟨"TurnGroupsModel", "goDown", "(I)V"⟩, 11), (⟨"TurnGroupsModel", "sizeOf", "(I)I"⟩, 11), (⟨"TurnGroupsModel", "isWithin", "(II)Z"⟩, 11), (⟨"TurnGroupsModel", "isNormal", "(II)Z"⟩, 11), (⟨"TurnGroupsModel", "stillIn", "(I)I"⟩, 11)]
theorem lw_r3 : ∀ q ∈ lw_privs_3, lw_okq q := List.forall_mem_cons.mpr ⟨lw_p32, List.forall_mem_cons.mpr ⟨lw_p33, List.forall_mem_cons.mpr ⟨lw_p34, List.forall_mem_cons.mpr ⟨lw_p35, List.forall_mem_cons.mpr ⟨lw_p36, List.forall_mem_cons.mpr ⟨lw_p37, List.forall_mem_cons.mpr ⟨lw_p38, fun _ h => absurd h List.not_mem_nil⟩⟩⟩⟩⟩⟩⟩
def lw_privs : List (MethodName × Nat) := lw_privs_1 ++ (lw_privs_2 ++ (lw_privs_3))
def lw_tbl : List Cond := k2_sels lw_privs ++ tables_1
theorem lw_privs_ok : ∀ q ∈ lw_privs, lw_okq q := by
  show ∀ q ∈ lw_privs_1 ++ (lw_privs_2 ++ (lw_privs_3)), lw_okq q
  exact List.forall_mem_append.mpr ⟨lw_r1, List.forall_mem_append.mpr ⟨lw_r2, lw_r3⟩⟩
end
section
/-! ===== BEGIN words of one list among another's, by their places ===== -/
theorem goodIn_r {big : List Cond} (ws : List Cond) (ps : List Nat) (hp : ws = ps.filterMap (fun i => big[i]?)) (h : ws.all goodWord = true) : GoodIn big ws := by
  intro w hw
  have h1 := List.all_eq_true.mp h w hw
  rw [hp] at hw
  obtain ⟨i, -, hi⟩ := List.mem_filterMap.mp hw
  have hm : w ∈ big := by first | exact List.mem_of_getElem? hi | exact List.getElem?_mem hi
  exact ⟨hm, good_of_word h1⟩
theorem goodIn_app {big a b : List Cond} (ha : GoodIn big a) (hb : GoodIn big b) : GoodIn big (a ++ b) := fun w h => (List.mem_append.mp h).elim (ha w) (hb w)
theorem goodIn_ca {big a b : List Cond} {c : Cond} (ha : GoodIn big (c :: a)) (hb : GoodIn big b) : GoodIn big (c :: (a ++ b)) := fun w h => (List.mem_cons.mp h).elim (fun e => ha w (List.mem_cons.mpr (Or.inl e))) (fun h => (List.mem_append.mp h).elim (fun h => ha w (List.mem_cons.mpr (Or.inr h))) (hb w))
theorem goodIn_sub {big ws : List Cond} (hm : ∀ w ∈ ws, w ∈ big) (h : ws.all goodWord = true) : GoodIn big ws := fun w hw => ⟨hm w hw, good_of_word (List.all_eq_true.mp h w hw)⟩
/-! ===== END ===== -/

/-! ===== BEGIN printed: names, fields, word lists, decode rows ===== -/
def RX0 : String := "TurnGroups$CarriesSet"
def TX0 : u_T := fun k => match k with
  | 0 => ("TurnGroups$CarriesSet", "from", "I", true)
  | _ => ("TurnGroups$CarriesSet", "onto", "I", true)
def tyX0 : Nat → FieldType := fun k => match k with
  | 0 => .int
  | _ => .int
abbrev wsX00 : List Cond := u_ws RX0 TX0 2
theorem nmX0 : ∀ a, a < 2 → ∀ b, b < 2 → a ≠ b → (TX0 a).2.1 ≠ (TX0 b).2.1 := by decide +kernel
theorem tyX0_ok : ∀ k, k < 2 → parseFieldDescriptor (TX0 k).2.2.1 = some (tyX0 k) := by decide +kernel
abbrev cX0_init : ByteArray := prog_2_method_1_code
def yX0_init : MethodName := ⟨RX0, "<init>", "(II)V"⟩
abbrev cX0_fits : ByteArray := prog_2_method_2_code
def yX0_fits : MethodName := ⟨RX0, "fits", "(II)Z"⟩
def RX1 : String := "TurnGroups$Commutes"
def TX1 : u_T := fun k => match k with
  | _ => ("TurnGroups$Commutes", "tower", "LTurnGroups$Tower;", true)
def tyX1 : Nat → FieldType := fun k => match k with
  | _ => .object "TurnGroups$Tower"
abbrev wsX10 : List Cond := u_ws RX1 TX1 1
theorem nmX1 : ∀ a, a < 1 → ∀ b, b < 1 → a ≠ b → (TX1 a).2.1 ≠ (TX1 b).2.1 := by decide +kernel
theorem tyX1_ok : ∀ k, k < 1 → parseFieldDescriptor (TX1 k).2.2.1 = some (tyX1 k) := by decide +kernel
abbrev cX1_init : ByteArray := prog_3_method_1_code
def yX1_init : MethodName := ⟨RX1, "<init>", "(LTurnGroups$Tower;)V"⟩
abbrev cX1_fits : ByteArray := prog_3_method_2_code
def yX1_fits : MethodName := ⟨RX1, "fits", "(II)Z"⟩
abbrev cX1_agree : ByteArray := prog_3_method_3_code
def yX1_agree : MethodName := ⟨RX1, "agree", "(III)Z"⟩
def RX2 : String := "TurnGroups$FixesSet"
def TX2 : u_T := fun k => match k with
  | _ => ("TurnGroups$FixesSet", "set", "I", true)
def tyX2 : Nat → FieldType := fun k => match k with
  | _ => .int
abbrev wsX20 : List Cond := u_ws RX2 TX2 1
theorem nmX2 : ∀ a, a < 1 → ∀ b, b < 1 → a ≠ b → (TX2 a).2.1 ≠ (TX2 b).2.1 := by decide +kernel
theorem tyX2_ok : ∀ k, k < 1 → parseFieldDescriptor (TX2 k).2.2.1 = some (tyX2 k) := by decide +kernel
abbrev cX2_init : ByteArray := prog_4_method_1_code
def yX2_init : MethodName := ⟨RX2, "<init>", "(I)V"⟩
abbrev cX2_fits : ByteArray := prog_4_method_2_code
def yX2_fits : MethodName := ⟨RX2, "fits", "(II)Z"⟩
def RX3 : String := "TurnGroups$InTower"
def TX3 : u_T := fun k => match k with
  | _ => ("TurnGroups$InTower", "tower", "LTurnGroups$Tower;", true)
def tyX3 : Nat → FieldType := fun k => match k with
  | _ => .object "TurnGroups$Tower"
abbrev wsX30 : List Cond := u_ws RX3 TX3 1
theorem nmX3 : ∀ a, a < 1 → ∀ b, b < 1 → a ≠ b → (TX3 a).2.1 ≠ (TX3 b).2.1 := by decide +kernel
theorem tyX3_ok : ∀ k, k < 1 → parseFieldDescriptor (TX3 k).2.2.1 = some (tyX3 k) := by decide +kernel
abbrev cX3_init : ByteArray := prog_5_method_1_code
def yX3_init : MethodName := ⟨RX3, "<init>", "(LTurnGroups$Tower;)V"⟩
abbrev cX3_fits : ByteArray := prog_5_method_2_code
def yX3_fits : MethodName := ⟨RX3, "fits", "(II)Z"⟩
def RX4 : String := "TurnGroups$Tower"
def TX4 : u_T := fun k => match k with
  | 0 => ("TurnGroups$Tower", "cells", "[I", true)
  | 1 => ("TurnGroups$Tower", "cellsBack", "[I", true)
  | 2 => ("TurnGroups$Tower", "reach", "[I", true)
  | 3 => ("TurnGroups$Tower", "filled", "[I", true)
  | 4 => ("TurnGroups$Tower", "filledCount", "I", false)
  | 5 => ("TurnGroups$Tower", "makers", "[I", true)
  | _ => ("TurnGroups$Tower", "makerCount", "I", false)
def tyX4 : Nat → FieldType := fun k => match k with
  | 0 => .array .int
  | 1 => .array .int
  | 2 => .array .int
  | 3 => .array .int
  | 4 => .int
  | 5 => .array .int
  | _ => .int
abbrev wsX40 : List Cond := u_ws RX4 TX4 7
theorem nmX4 : ∀ a, a < 7 → ∀ b, b < 7 → a ≠ b → (TX4 a).2.1 ≠ (TX4 b).2.1 := by decide +kernel
theorem tyX4_ok : ∀ k, k < 7 → parseFieldDescriptor (TX4 k).2.2.1 = some (tyX4 k) := by decide +kernel
abbrev cX4_init : ByteArray := prog_6_method_1_code
def yX4_init : MethodName := ⟨RX4, "<init>", "()V"⟩
abbrev cX4_clear : ByteArray := prog_6_method_2_code
def yX4_clear : MethodName := ⟨RX4, "clear", "()V"⟩
abbrev cX4_copyFrom : ByteArray := prog_6_method_3_code
def yX4_copyFrom : MethodName := ⟨RX4, "copyFrom", "(LTurnGroups$Tower;)V"⟩
abbrev cX4_join : ByteArray := prog_6_method_4_code
def yX4_join : MethodName := ⟨RX4, "join", "(I)Z"⟩
abbrev cX4_joinAll : ByteArray := prog_6_method_5_code
def yX4_joinAll : MethodName := ⟨RX4, "joinAll", "(LTurnGroups$Tower;)V"⟩
abbrev cX4_closeUnder : ByteArray := prog_6_method_6_code
def yX4_closeUnder : MethodName := ⟨RX4, "closeUnder", "(LTurnGroups$Tower;)V"⟩
abbrev cX4_becomeCarried : ByteArray := prog_6_method_7_code
def yX4_becomeCarried : MethodName := ⟨RX4, "becomeCarried", "(LTurnGroups$Tower;I)V"⟩
abbrev cX4_becomeDown : ByteArray := prog_6_method_8_code
def yX4_becomeDown : MethodName := ⟨RX4, "becomeDown", "(LTurnGroups$Tower;)V"⟩
abbrev cX4_gather : ByteArray := prog_6_method_9_code
def yX4_gather : MethodName := ⟨RX4, "gather", "(LTurnGroups$Tower;LTurnGroups$Wish;)V"⟩
abbrev cX4_holds : ByteArray := prog_6_method_10_code
def yX4_holds : MethodName := ⟨RX4, "holds", "(I)Z"⟩
abbrev cX4_holdsStart : ByteArray := prog_6_method_11_code
def yX4_holdsStart : MethodName := ⟨RX4, "holdsStart", "(II)Z"⟩
abbrev cX4_isWithin : ByteArray := prog_6_method_12_code
def yX4_isWithin : MethodName := ⟨RX4, "isWithin", "(LTurnGroups$Tower;)Z"⟩
abbrev cX4_staysUnder : ByteArray := prog_6_method_13_code
def yX4_staysUnder : MethodName := ⟨RX4, "staysUnder", "(LTurnGroups$Tower;)Z"⟩
abbrev cX4_turnsFrom : ByteArray := prog_6_method_14_code
def yX4_turnsFrom : MethodName := ⟨RX4, "turnsFrom", "(I)I"⟩
abbrev cX4_orbitFrom : ByteArray := prog_6_method_15_code
def yX4_orbitFrom : MethodName := ⟨RX4, "orbitFrom", "(II)I"⟩
abbrev cX4_blockOf : ByteArray := prog_6_method_16_code
def yX4_blockOf : MethodName := ⟨RX4, "blockOf", "(II)I"⟩
abbrev cX4_turnsThatLeave : ByteArray := prog_6_method_17_code
def yX4_turnsThatLeave : MethodName := ⟨RX4, "turnsThatLeave", "(I)I"⟩
abbrev cX4_turnAt : ByteArray := prog_6_method_18_code
def yX4_turnAt : MethodName := ⟨RX4, "turnAt", "(I)I"⟩
abbrev cX4_turnsAheadOf : ByteArray := prog_6_method_19_code
def yX4_turnsAheadOf : MethodName := ⟨RX4, "turnsAheadOf", "(I)I"⟩
abbrev cX4_firstThat : ByteArray := prog_6_method_20_code
def yX4_firstThat : MethodName := ⟨RX4, "firstThat", "(LTurnGroups$Wish;)I"⟩
abbrev cX4_reaches : ByteArray := prog_6_method_21_code
def yX4_reaches : MethodName := ⟨RX4, "reaches", "(II)Z"⟩
abbrev cX4_settle : ByteArray := prog_6_method_22_code
def yX4_settle : MethodName := ⟨RX4, "settle", "(I)V"⟩
abbrev cX4_spreadFrom : ByteArray := prog_6_method_23_code
def yX4_spreadFrom : MethodName := ⟨RX4, "spreadFrom", "(I)V"⟩
abbrev cX4_searchCell : ByteArray := prog_6_method_24_code
def yX4_searchCell : MethodName := ⟨RX4, "searchCell", "(LTurnGroups$Wish;II)I"⟩
abbrev cX4_search : ByteArray := prog_6_method_25_code
def yX4_search : MethodName := ⟨RX4, "search", "(LTurnGroups$Wish;II)I"⟩
abbrev cX4_countLeaving : ByteArray := prog_6_method_26_code
def yX4_countLeaving : MethodName := ⟨RX4, "countLeaving", "(III)I"⟩
abbrev cX4_step : ByteArray := prog_6_method_27_code
def yX4_step : MethodName := ⟨RX4, "step", "(III)I"⟩
abbrev cX4_descend : ByteArray := prog_6_method_28_code
def yX4_descend : MethodName := ⟨RX4, "descend", "(III)I"⟩
abbrev cX4_cellOf : ByteArray := prog_6_method_29_code
def yX4_cellOf : MethodName := ⟨RX4, "cellOf", "(II)I"⟩
abbrev cX4_levelOf : ByteArray := prog_6_method_30_code
def yX4_levelOf : MethodName := ⟨RX4, "levelOf", "(I)I"⟩
abbrev cX4_imageOfSet : ByteArray := prog_6_method_31_code
def yX4_imageOfSet : MethodName := ⟨RX4, "imageOfSet", "(II)I"⟩
abbrev cX4_mergeImages : ByteArray := prog_6_method_32_code
def yX4_mergeImages : MethodName := ⟨RX4, "mergeImages", "(II)I"⟩
abbrev cX4_merge : ByteArray := prog_6_method_33_code
def yX4_merge : MethodName := ⟨RX4, "merge", "(III)I"⟩
def RX5 : String := "TurnGroups$Wish"
def TX5 : u_T := fun k => match k with
  | _ => ("", "", "", false)
def tyX5 : Nat → FieldType := fun k => match k with
  | _ => .int
abbrev wsX50 : List Cond := u_ws RX5 TX5 0
theorem nmX5 : ∀ a, a < 0 → ∀ b, b < 0 → a ≠ b → (TX5 a).2.1 ≠ (TX5 b).2.1 := by decide +kernel
theorem tyX5_ok : ∀ k, k < 0 → parseFieldDescriptor (TX5 k).2.2.1 = some (tyX5 k) := by decide +kernel
abbrev cX5_init : ByteArray := prog_7_method_1_code
def yX5_init : MethodName := ⟨RX5, "<init>", "()V"⟩
def RX6 : String := "TurnGroups"
def TX6 : u_T := fun k => match k with
  | 0 => ("TurnGroups", "shelf", "[I", true)
  | 1 => ("TurnGroups", "groups", "[LTurnGroups$Tower;", true)
  | 2 => ("TurnGroups", "spare", "[LTurnGroups$Tower;", true)
  | 3 => ("TurnGroups", "pointCount", "I", false)
  | 4 => ("TurnGroups", "groupCount", "I", false)
  | _ => ("TurnGroups", "current", "I", false)
def tyX6 : Nat → FieldType := fun k => match k with
  | 0 => .array .int
  | 1 => .array (.object "TurnGroups$Tower")
  | 2 => .array (.object "TurnGroups$Tower")
  | 3 => .int
  | 4 => .int
  | _ => .int
abbrev wsX60 : List Cond := u_ws RX6 TX6 6
theorem nmX6 : ∀ a, a < 6 → ∀ b, b < 6 → a ≠ b → (TX6 a).2.1 ≠ (TX6 b).2.1 := by decide +kernel
theorem tyX6_ok : ∀ k, k < 6 → parseFieldDescriptor (TX6 k).2.2.1 = some (tyX6 k) := by decide +kernel
abbrev cX6_init : ByteArray := prog_1_method_1_code
def yX6_init : MethodName := ⟨RX6, "<init>", "()V"⟩
abbrev cX6_points : ByteArray := prog_1_method_2_code
def yX6_points : MethodName := ⟨RX6, "points", "(I)I"⟩
abbrev cX6_turn : ByteArray := prog_1_method_3_code
def yX6_turn : MethodName := ⟨RX6, "turn", "(J)I"⟩
abbrev cX6_told : ByteArray := prog_1_method_4_code
def yX6_told : MethodName := ⟨RX6, "told", "()J"⟩
abbrev cX6_to : ByteArray := prog_1_method_5_code
def yX6_to : MethodName := ⟨RX6, "to", "(I)I"⟩
abbrev cX6_lay : ByteArray := prog_1_method_6_code
def yX6_lay : MethodName := ⟨RX6, "lay", "(I)I"⟩
abbrev cX6_take : ByteArray := prog_1_method_7_code
def yX6_take : MethodName := ⟨RX6, "take", "(I)I"⟩
abbrev cX6_then : ByteArray := prog_1_method_8_code
def yX6_then : MethodName := ⟨RX6, "then", "(I)I"⟩
abbrev cX6_back : ByteArray := prog_1_method_9_code
def yX6_back : MethodName := ⟨RX6, "back", "()I"⟩
abbrev cX6_power : ByteArray := prog_1_method_10_code
def yX6_power : MethodName := ⟨RX6, "power", "(I)I"⟩
abbrev cX6_group : ByteArray := prog_1_method_11_code
def yX6_group : MethodName := ⟨RX6, "group", "(I)I"⟩
abbrev cX6_add : ByteArray := prog_1_method_12_code
def yX6_add : MethodName := ⟨RX6, "add", "(I)I"⟩
abbrev cX6_of : ByteArray := prog_1_method_13_code
def yX6_of : MethodName := ⟨RX6, "of", "(III)I"⟩
abbrev cX6_by : ByteArray := prog_1_method_14_code
def yX6_by : MethodName := ⟨RX6, "by", "(III)I"⟩
abbrev cX6_made : ByteArray := prog_1_method_15_code
def yX6_made : MethodName := ⟨RX6, "made", "(II)I"⟩
abbrev cX6_undo : ByteArray := prog_1_method_16_code
def yX6_undo : MethodName := ⟨RX6, "undo", "()I"⟩
abbrev cX6_size : ByteArray := prog_1_method_17_code
def yX6_size : MethodName := ⟨RX6, "size", "(I)I"⟩
abbrev cX6_has : ByteArray := prog_1_method_18_code
def yX6_has : MethodName := ⟨RX6, "has", "(I)I"⟩
abbrev cX6_is : ByteArray := prog_1_method_19_code
def yX6_is : MethodName := ⟨RX6, "is", "(III)I"⟩
abbrev cX6_orbit : ByteArray := prog_1_method_20_code
def yX6_orbit : MethodName := ⟨RX6, "orbit", "(II)I"⟩
abbrev cX6_block : ByteArray := prog_1_method_21_code
def yX6_block : MethodName := ⟨RX6, "block", "(III)I"⟩
abbrev cX6_steps : ByteArray := prog_1_method_22_code
def yX6_steps : MethodName := ⟨RX6, "steps", "(I)I"⟩
abbrev cX6_still : ByteArray := prog_1_method_23_code
def yX6_still : MethodName := ⟨RX6, "still", "(II)I"⟩
abbrev cX6_element : ByteArray := prog_1_method_24_code
def yX6_element : MethodName := ⟨RX6, "element", "(II)I"⟩
abbrev cX6_place : ByteArray := prog_1_method_25_code
def yX6_place : MethodName := ⟨RX6, "place", "(I)I"⟩
abbrev cX6_carry : ByteArray := prog_1_method_26_code
def yX6_carry : MethodName := ⟨RX6, "carry", "(III)I"⟩
abbrev cX6_count : ByteArray := prog_1_method_27_code
def yX6_count : MethodName := ⟨RX6, "count", "(I)I"⟩
abbrev cX6_beginWith : ByteArray := prog_1_method_28_code
def yX6_beginWith : MethodName := ⟨RX6, "beginWith", "(I)V"⟩
abbrev cX6_isPoint : ByteArray := prog_1_method_29_code
def yX6_isPoint : MethodName := ⟨RX6, "isPoint", "(I)Z"⟩
abbrev cX6_isSet : ByteArray := prog_1_method_30_code
def yX6_isSet : MethodName := ⟨RX6, "isSet", "(I)Z"⟩
abbrev cX6_isGroup : ByteArray := prog_1_method_31_code
def yX6_isGroup : MethodName := ⟨RX6, "isGroup", "(I)Z"⟩
abbrev cX6_isFull : ByteArray := prog_1_method_32_code
def yX6_isFull : MethodName := ⟨RX6, "isFull", "()Z"⟩
abbrev cX6_ownBits : ByteArray := prog_1_method_33_code
def yX6_ownBits : MethodName := ⟨RX6, "ownBits", "()J"⟩
abbrev cX6_tellsTurn : ByteArray := prog_1_method_34_code
def yX6_tellsTurn : MethodName := ⟨RX6, "tellsTurn", "(J)Z"⟩
abbrev cX6_joinSwaps : ByteArray := prog_1_method_35_code
def yX6_joinSwaps : MethodName := ⟨RX6, "joinSwaps", "(LTurnGroups$Tower;)V"⟩
abbrev cX6_joinThreeCycles : ByteArray := prog_1_method_36_code
def yX6_joinThreeCycles : MethodName := ⟨RX6, "joinThreeCycles", "(LTurnGroups$Tower;)V"⟩
abbrev cX6_isShelfPlace : ByteArray := prog_1_method_37_code
def yX6_isShelfPlace : MethodName := ⟨RX6, "isShelfPlace", "(I)Z"⟩
abbrev cX6_truth : ByteArray := prog_1_method_38_code
def yX6_truth : MethodName := ⟨RX6, "truth", "(Z)I"⟩
abbrev cX6_image : ByteArray := prog_1_method_39_code
def yX6_image : MethodName := ⟨RX6, "image", "(II)I"⟩
abbrev cX6_chain : ByteArray := prog_1_method_40_code
def yX6_chain : MethodName := ⟨RX6, "chain", "(II)I"⟩
abbrev cX6_reverse : ByteArray := prog_1_method_41_code
def yX6_reverse : MethodName := ⟨RX6, "reverse", "(I)I"⟩
abbrev cX6_swap : ByteArray := prog_1_method_42_code
def yX6_swap : MethodName := ⟨RX6, "swap", "(II)I"⟩
abbrev cX6_carried : ByteArray := prog_1_method_43_code
def yX6_carried : MethodName := ⟨RX6, "carried", "(II)I"⟩
abbrev cX6_commutator : ByteArray := prog_1_method_44_code
def yX6_commutator : MethodName := ⟨RX6, "commutator", "(II)I"⟩
abbrev cX6_timesToOne : ByteArray := prog_1_method_45_code
def yX6_timesToOne : MethodName := ⟨RX6, "timesToOne", "(I)I"⟩
abbrev cX6_pointsLeft : ByteArray := prog_1_method_46_code
def yX6_pointsLeft : MethodName := ⟨RX6, "pointsLeft", "(I)I"⟩
abbrev cX6_isEven : ByteArray := prog_1_method_47_code
def yX6_isEven : MethodName := ⟨RX6, "isEven", "(I)Z"⟩
def RX7 : String := "TurnGroupsModel"
def TX7 : u_T := fun k => match k with
  | 0 => ("TurnGroupsModel", "n", "I", false)
  | 1 => ("TurnGroupsModel", "many", "I", false)
  | 2 => ("TurnGroupsModel", "image", "[I", true)
  | 3 => ("TurnGroupsModel", "turn", "I", false)
  | 4 => ("TurnGroupsModel", "shelf", "[I", true)
  | 5 => ("TurnGroupsModel", "groups", "I", false)
  | 6 => ("TurnGroupsModel", "in", "[Z", true)
  | 7 => ("TurnGroupsModel", "now", "[I", true)
  | 8 => ("TurnGroupsModel", "makers", "[I", true)
  | 9 => ("TurnGroupsModel", "makerMany", "[I", true)
  | _ => ("TurnGroupsModel", "queue", "[I", true)
def tyX7 : Nat → FieldType := fun k => match k with
  | 0 => .int
  | 1 => .int
  | 2 => .array .int
  | 3 => .int
  | 4 => .array .int
  | 5 => .int
  | 6 => .array .boolean
  | 7 => .array .int
  | 8 => .array .int
  | 9 => .array .int
  | _ => .array .int
abbrev wsX70 : List Cond := u_ws RX7 TX7 11
theorem nmX7 : ∀ a, a < 11 → ∀ b, b < 11 → a ≠ b → (TX7 a).2.1 ≠ (TX7 b).2.1 := by decide +kernel
theorem tyX7_ok : ∀ k, k < 11 → parseFieldDescriptor (TX7 k).2.2.1 = some (tyX7 k) := by decide +kernel
abbrev cX7_init : ByteArray := prog_9_method_1_code
def yX7_init : MethodName := ⟨RX7, "<init>", "()V"⟩
abbrev cX7_isIn : ByteArray := prog_9_method_2_code
def yX7_isIn : MethodName := ⟨RX7, "isIn", "(III)Z"⟩
abbrev cX7_product : ByteArray := prog_9_method_3_code
def yX7_product : MethodName := ⟨RX7, "product", "(I)I"⟩
abbrev cX7_layAll : ByteArray := prog_9_method_4_code
def yX7_layAll : MethodName := ⟨RX7, "layAll", "()V"⟩
abbrev cX7_placeNow : ByteArray := prog_9_method_5_code
def yX7_placeNow : MethodName := ⟨RX7, "placeNow", "()I"⟩
abbrev cX7_oneThen : ByteArray := prog_9_method_6_code
def yX7_oneThen : MethodName := ⟨RX7, "oneThen", "(II)I"⟩
abbrev cX7_backOf : ByteArray := prog_9_method_7_code
def yX7_backOf : MethodName := ⟨RX7, "backOf", "(I)I"⟩
abbrev cX7_carried : ByteArray := prog_9_method_8_code
def yX7_carried : MethodName := ⟨RX7, "carried", "(II)I"⟩
abbrev cX7_orderOf : ByteArray := prog_9_method_9_code
def yX7_orderOf : MethodName := ⟨RX7, "orderOf", "(I)I"⟩
abbrev cX7_setOf : ByteArray := prog_9_method_10_code
def yX7_setOf : MethodName := ⟨RX7, "setOf", "(II)I"⟩
abbrev cX7_points : ByteArray := prog_9_method_11_code
def yX7_points : MethodName := ⟨RX7, "points", "(I)I"⟩
abbrev cX7_turn : ByteArray := prog_9_method_12_code
def yX7_turn : MethodName := ⟨RX7, "turn", "(J)I"⟩
abbrev cX7_told : ByteArray := prog_9_method_13_code
def yX7_told : MethodName := ⟨RX7, "told", "()J"⟩
abbrev cX7_to : ByteArray := prog_9_method_14_code
def yX7_to : MethodName := ⟨RX7, "to", "(I)I"⟩
abbrev cX7_lay : ByteArray := prog_9_method_15_code
def yX7_lay : MethodName := ⟨RX7, "lay", "(I)I"⟩
abbrev cX7_take : ByteArray := prog_9_method_16_code
def yX7_take : MethodName := ⟨RX7, "take", "(I)I"⟩
abbrev cX7_then : ByteArray := prog_9_method_17_code
def yX7_then : MethodName := ⟨RX7, "then", "(I)I"⟩
abbrev cX7_back : ByteArray := prog_9_method_18_code
def yX7_back : MethodName := ⟨RX7, "back", "()I"⟩
abbrev cX7_power : ByteArray := prog_9_method_19_code
def yX7_power : MethodName := ⟨RX7, "power", "(I)I"⟩
abbrev cX7_isGroup : ByteArray := prog_9_method_20_code
def yX7_isGroup : MethodName := ⟨RX7, "isGroup", "(I)Z"⟩
abbrev cX7_hasIt : ByteArray := prog_9_method_21_code
def yX7_hasIt : MethodName := ⟨RX7, "hasIt", "(II)Z"⟩
abbrev cX7_clear : ByteArray := prog_9_method_22_code
def yX7_clear : MethodName := ⟨RX7, "clear", "(I)V"⟩
abbrev cX7_copy : ByteArray := prog_9_method_23_code
def yX7_copy : MethodName := ⟨RX7, "copy", "(II)V"⟩
abbrev cX7_begin : ByteArray := prog_9_method_24_code
def yX7_begin : MethodName := ⟨RX7, "begin", "(I)V"⟩
abbrev cX7_join : ByteArray := prog_9_method_25_code
def yX7_join : MethodName := ⟨RX7, "join", "(II)V"⟩
abbrev cX7_joinAll : ByteArray := prog_9_method_26_code
def yX7_joinAll : MethodName := ⟨RX7, "joinAll", "(II)V"⟩
abbrev cX7_close : ByteArray := prog_9_method_27_code
def yX7_close : MethodName := ⟨RX7, "close", "(II)V"⟩
abbrev cX7_goDown : ByteArray := prog_9_method_28_code
def yX7_goDown : MethodName := ⟨RX7, "goDown", "(I)V"⟩
abbrev cX7_newGroup : ByteArray := prog_9_method_29_code
def yX7_newGroup : MethodName := ⟨RX7, "newGroup", "(I)I"⟩
abbrev cX7_isEven : ByteArray := prog_9_method_30_code
def yX7_isEven : MethodName := ⟨RX7, "isEven", "(I)Z"⟩
abbrev cX7_group : ByteArray := prog_9_method_31_code
def yX7_group : MethodName := ⟨RX7, "group", "(I)I"⟩
abbrev cX7_add : ByteArray := prog_9_method_32_code
def yX7_add : MethodName := ⟨RX7, "add", "(I)I"⟩
abbrev cX7_of : ByteArray := prog_9_method_33_code
def yX7_of : MethodName := ⟨RX7, "of", "(III)I"⟩
abbrev cX7_by : ByteArray := prog_9_method_34_code
def yX7_by : MethodName := ⟨RX7, "by", "(III)I"⟩
abbrev cX7_made : ByteArray := prog_9_method_35_code
def yX7_made : MethodName := ⟨RX7, "made", "(II)I"⟩
abbrev cX7_undo : ByteArray := prog_9_method_36_code
def yX7_undo : MethodName := ⟨RX7, "undo", "()I"⟩
abbrev cX7_sizeOf : ByteArray := prog_9_method_37_code
def yX7_sizeOf : MethodName := ⟨RX7, "sizeOf", "(I)I"⟩
abbrev cX7_size : ByteArray := prog_9_method_38_code
def yX7_size : MethodName := ⟨RX7, "size", "(I)I"⟩
abbrev cX7_has : ByteArray := prog_9_method_39_code
def yX7_has : MethodName := ⟨RX7, "has", "(I)I"⟩
abbrev cX7_isWithin : ByteArray := prog_9_method_40_code
def yX7_isWithin : MethodName := ⟨RX7, "isWithin", "(II)Z"⟩
abbrev cX7_isNormal : ByteArray := prog_9_method_41_code
def yX7_isNormal : MethodName := ⟨RX7, "isNormal", "(II)Z"⟩
abbrev cX7_is : ByteArray := prog_9_method_42_code
def yX7_is : MethodName := ⟨RX7, "is", "(III)I"⟩
abbrev cX7_orbit : ByteArray := prog_9_method_43_code
def yX7_orbit : MethodName := ⟨RX7, "orbit", "(II)I"⟩
abbrev cX7_block : ByteArray := prog_9_method_44_code
def yX7_block : MethodName := ⟨RX7, "block", "(III)I"⟩
abbrev cX7_steps : ByteArray := prog_9_method_45_code
def yX7_steps : MethodName := ⟨RX7, "steps", "(I)I"⟩
abbrev cX7_stillIn : ByteArray := prog_9_method_46_code
def yX7_stillIn : MethodName := ⟨RX7, "stillIn", "(I)I"⟩
abbrev cX7_still : ByteArray := prog_9_method_47_code
def yX7_still : MethodName := ⟨RX7, "still", "(II)I"⟩
abbrev cX7_element : ByteArray := prog_9_method_48_code
def yX7_element : MethodName := ⟨RX7, "element", "(II)I"⟩
abbrev cX7_place : ByteArray := prog_9_method_49_code
def yX7_place : MethodName := ⟨RX7, "place", "(I)I"⟩
abbrev cX7_carry : ByteArray := prog_9_method_50_code
def yX7_carry : MethodName := ⟨RX7, "carry", "(III)I"⟩
abbrev cX7_count : ByteArray := prog_9_method_51_code
def yX7_count : MethodName := ⟨RX7, "count", "(I)I"⟩
def RJ6 : String := "java/lang/Integer"
def TJ6 : u_T := fun k => match k with
  | _ => ("", "", "", false)
def tyJ6 : Nat → FieldType := fun k => match k with
  | _ => .int
abbrev wsJ60 : List Cond := u_ws RJ6 TJ6 0
theorem nmJ6 : ∀ a, a < 0 → ∀ b, b < 0 → a ≠ b → (TJ6 a).2.1 ≠ (TJ6 b).2.1 := by decide +kernel
theorem tyJ6_ok : ∀ k, k < 0 → parseFieldDescriptor (TJ6 k).2.2.1 = some (tyJ6 k) := by decide +kernel
abbrev cJ6_bitCount_0f7a4 : ByteArray := prog_10_method_49_code
def yJ6_bitCount_0f7a4 : MethodName := ⟨RJ6, "bitCount", "(I)I"⟩
def RJ9 : String := "java/lang/Math"
def TJ9 : u_T := fun k => match k with
  | _ => ("", "", "", false)
def tyJ9 : Nat → FieldType := fun k => match k with
  | _ => .int
abbrev wsJ90 : List Cond := u_ws RJ9 TJ9 0
theorem nmJ9 : ∀ a, a < 0 → ∀ b, b < 0 → a ≠ b → (TJ9 a).2.1 ≠ (TJ9 b).2.1 := by decide +kernel
theorem tyJ9_ok : ∀ k, k < 0 → parseFieldDescriptor (TJ9 k).2.2.1 = some (tyJ9 k) := by decide +kernel
abbrev cJ9_abs_067f4 : ByteArray := prog_11_method_61_code
def yJ9_abs_067f4 : MethodName := ⟨RJ9, "abs", "(J)J"⟩
def RJ10 : String := "java/lang/System"
def TJ10 : u_T := fun k => match k with
  | _ => ("", "", "", false)
def tyJ10 : Nat → FieldType := fun k => match k with
  | _ => .int
abbrev wsJ100 : List Cond := u_ws RJ10 TJ10 0
theorem nmJ10 : ∀ a, a < 0 → ∀ b, b < 0 → a ≠ b → (TJ10 a).2.1 ≠ (TJ10 b).2.1 := by decide +kernel
theorem tyJ10_ok : ∀ k, k < 0 → parseFieldDescriptor (TJ10 k).2.2.1 = some (tyJ10 k) := by decide +kernel
def RJ7 : String := "java/util/Arrays"
def TJ7 : u_T := fun k => match k with
  | _ => ("", "", "", false)
def tyJ7 : Nat → FieldType := fun k => match k with
  | _ => .int
abbrev wsJ70 : List Cond := u_ws RJ7 TJ7 0
theorem nmJ7 : ∀ a, a < 0 → ∀ b, b < 0 → a ≠ b → (TJ7 a).2.1 ≠ (TJ7 b).2.1 := by decide +kernel
theorem tyJ7_ok : ∀ k, k < 0 → parseFieldDescriptor (TJ7 k).2.2.1 = some (tyJ7 k) := by decide +kernel
abbrev cJ7_fill_53178 : ByteArray := prog_13_method_103_code
def yJ7_fill_53178 : MethodName := ⟨RJ7, "fill", "([II)V"⟩
def RL : String := "TurnGroupsLaw"
abbrev cL_law : ByteArray := code
def yL_law : MethodName := ⟨RL, "law", "([I)Z"⟩
def wsX5_init : List Cond := .code yX5_init cX5_init 1 none :: ([.methodLink RX5 1 objectInit, .instanceMethod objectInit, .code objectInit ⟨#[0xb1]⟩ 1 none])
def wsX0_init : List Cond := .code yX0_init cX0_init 3 none :: ([.fieldLink RX0 7 "TurnGroups$CarriesSet" "from" "I", .fieldLink RX0 13 "TurnGroups$CarriesSet" "onto" "I", .instanceMethod yX5_init, .initialized RX5, .code yX5_init cX5_init 1 none, .methodLink RX5 1 objectInit, .instanceMethod objectInit, .code objectInit ⟨#[0xb1]⟩ 1 none] ++ wsX00)
def wsX6_image : List Cond := .code yX6_image cX6_image 2 (some .int) :: ([])
def wsX0_fits : List Cond := .code yX0_fits cX0_fits 3 (some .boolean) :: ([.fieldLink RX0 7 "TurnGroups$CarriesSet" "from" "I", .fieldLink RX0 13 "TurnGroups$CarriesSet" "onto" "I", .static yX6_image, .initialized RX6, .code yX6_image cX6_image 2 (some .int)] ++ wsX00)
def wsX1_init : List Cond := .code yX1_init cX1_init 2 none :: ([.fieldLink RX1 7 "TurnGroups$Commutes" "tower" "LTurnGroups$Tower;", .instanceMethod yX5_init, .initialized RX5, .code yX5_init cX5_init 1 none, .methodLink RX5 1 objectInit, .instanceMethod objectInit, .code objectInit ⟨#[0xb1]⟩ 1 none] ++ wsX10)
def wsX1_agree : List Cond := .code yX1_agree cX1_agree 5 (some .boolean) :: ([.static yX6_image, .initialized RX6, .code yX6_image cX6_image 2 (some .int)])
def wsX1_fits : List Cond := .code yX1_fits cX1_fits 4 (some .boolean) :: ([.fieldLink RX1 7 "TurnGroups$Commutes" "tower" "LTurnGroups$Tower;", .methodLink RX1 23 yX1_agree, .static yX1_agree, .initialized RX1, .code yX1_agree cX1_agree 5 (some .boolean), .static yX6_image, .initialized RX6, .code yX6_image cX6_image 2 (some .int)] ++ wsX10 ++ wsX40)
def wsX2_init : List Cond := .code yX2_init cX2_init 2 none :: ([.fieldLink RX2 7 "TurnGroups$FixesSet" "set" "I", .instanceMethod yX5_init, .initialized RX5, .code yX5_init cX5_init 1 none, .methodLink RX5 1 objectInit, .instanceMethod objectInit, .code objectInit ⟨#[0xb1]⟩ 1 none] ++ wsX20)
def wsX2_fits : List Cond := .code yX2_fits cX2_fits 4 (some .boolean) :: ([.fieldLink RX2 7 "TurnGroups$FixesSet" "set" "I", .static yX6_image, .initialized RX6, .code yX6_image cX6_image 2 (some .int)] ++ wsX20)
def wsX3_init : List Cond := .code yX3_init cX3_init 2 none :: ([.fieldLink RX3 7 "TurnGroups$InTower" "tower" "LTurnGroups$Tower;", .instanceMethod yX5_init, .initialized RX5, .code yX5_init cX5_init 1 none, .methodLink RX5 1 objectInit, .instanceMethod objectInit, .code objectInit ⟨#[0xb1]⟩ 1 none] ++ wsX30)
def wsX4_reaches : List Cond := .code yX4_reaches cX4_reaches 3 (some .boolean) :: ([.fieldLink RX4 18 "TurnGroups$Tower" "reach" "[I"] ++ wsX40)
def wsX4_cellOf : List Cond := .code yX4_cellOf cX4_cellOf 2 (some .int) :: ([])
def wsX6_chain : List Cond := .code yX6_chain cX6_chain 5 (some .int) :: ([])
def wsX4_holdsStart : List Cond := .code yX4_holdsStart cX4_holdsStart 6 (some .boolean) :: ([.fieldLink RX4 15 "TurnGroups$Tower" "cellsBack" "[I", .static yX6_image, .initialized RX6, .code yX6_image cX6_image 2 (some .int), .methodLink RX4 65 yX4_reaches, .instanceMethod yX4_reaches, .selects RX4 yX4_reaches yX4_reaches, .initialized RX4, .code yX4_reaches cX4_reaches 3 (some .boolean), .fieldLink RX4 18 "TurnGroups$Tower" "reach" "[I", .methodLink RX4 79 yX4_cellOf, .static yX4_cellOf, .code yX4_cellOf cX4_cellOf 2 (some .int), .static yX6_chain, .code yX6_chain cX6_chain 5 (some .int)] ++ wsX40)
def wsX3_fits : List Cond := .code yX3_fits cX3_fits 3 (some .boolean) :: ([.fieldLink RX3 7 "TurnGroups$InTower" "tower" "LTurnGroups$Tower;", .methodLink RX3 13 yX4_holdsStart, .instanceMethod yX4_holdsStart, .selects RX4 yX4_holdsStart yX4_holdsStart, .initialized RX4, .code yX4_holdsStart cX4_holdsStart 6 (some .boolean), .fieldLink RX4 15 "TurnGroups$Tower" "cellsBack" "[I", .static yX6_image, .initialized RX6, .code yX6_image cX6_image 2 (some .int), .methodLink RX4 65 yX4_reaches, .instanceMethod yX4_reaches, .selects RX4 yX4_reaches yX4_reaches, .code yX4_reaches cX4_reaches 3 (some .boolean), .fieldLink RX4 18 "TurnGroups$Tower" "reach" "[I", .methodLink RX4 79 yX4_cellOf, .static yX4_cellOf, .code yX4_cellOf cX4_cellOf 2 (some .int), .static yX6_chain, .code yX6_chain cX6_chain 5 (some .int)] ++ wsX30 ++ wsX40)
def wsX4_init : List Cond := .code yX4_init cX4_init 1 none :: ([.methodLink RX4 5 objectInit, .instanceMethod objectInit, .code objectInit ⟨#[0xb1]⟩ 1 none, .arrayClass .int, .fieldLink RX4 11 "TurnGroups$Tower" "cells" "[I", .fieldLink RX4 15 "TurnGroups$Tower" "cellsBack" "[I", .fieldLink RX4 18 "TurnGroups$Tower" "reach" "[I", .fieldLink RX4 21 "TurnGroups$Tower" "filled" "[I", .fieldLink RX4 24 "TurnGroups$Tower" "makers" "[I"] ++ wsX40)
def wsX4_clear : List Cond := .code yX4_clear cX4_clear 2 none :: ([.fieldLink RX4 18 "TurnGroups$Tower" "reach" "[I", .fieldLink RX4 27 "TurnGroups$Tower" "filledCount" "I", .fieldLink RX4 31 "TurnGroups$Tower" "makerCount" "I"] ++ wsX40)
def wsX4_copyFrom : List Cond := .code yX4_copyFrom cX4_copyFrom 2 none :: ([.fieldLink RX4 11 "TurnGroups$Tower" "cells" "[I", .methodLink RX4 34 arraycopyName, .native arraycopyName, .static arraycopyName, .initialized "java/lang/System", .fieldLink RX4 15 "TurnGroups$Tower" "cellsBack" "[I", .fieldLink RX4 18 "TurnGroups$Tower" "reach" "[I", .fieldLink RX4 21 "TurnGroups$Tower" "filled" "[I", .fieldLink RX4 24 "TurnGroups$Tower" "makers" "[I", .fieldLink RX4 27 "TurnGroups$Tower" "filledCount" "I", .fieldLink RX4 31 "TurnGroups$Tower" "makerCount" "I"] ++ wsX40)
def wsX6_reverse : List Cond := .code yX6_reverse cX6_reverse 4 (some .int) :: ([])
def wsX4_settle : List Cond := .code yX4_settle cX4_settle 6 none :: ([.constant RX4 100 (1985229328), .fieldLink RX4 11 "TurnGroups$Tower" "cells" "[I", .fieldLink RX4 15 "TurnGroups$Tower" "cellsBack" "[I", .fieldLink RX4 18 "TurnGroups$Tower" "reach" "[I", .fieldLink RX4 27 "TurnGroups$Tower" "filledCount" "I", .fieldLink RX4 21 "TurnGroups$Tower" "filled" "[I", .static yX6_image, .initialized RX6, .code yX6_image cX6_image 2 (some .int), .methodLink RX4 79 yX4_cellOf, .static yX4_cellOf, .initialized RX4, .code yX4_cellOf cX4_cellOf 2 (some .int), .methodLink RX4 65 yX4_reaches, .instanceMethod yX4_reaches, .selects RX4 yX4_reaches yX4_reaches, .code yX4_reaches cX4_reaches 3 (some .boolean), .static yX6_reverse, .code yX6_reverse cX6_reverse 4 (some .int), .static yX6_chain, .code yX6_chain cX6_chain 5 (some .int)] ++ wsX40)
def wsX4_levelOf : List Cond := .code yX4_levelOf cX4_levelOf 1 (some .int) :: ([])
def wsX4_spreadFrom_r1 : List Cond := [Cond.fieldLink RX4 27 "TurnGroups$Tower" "filledCount" "I", Cond.fieldLink RX4 21 "TurnGroups$Tower" "filled" "[I", Cond.fieldLink RX4 11 "TurnGroups$Tower" "cells" "[I", Cond.methodLink RX4 94 yX4_levelOf, Cond.static yX4_levelOf, Cond.initialized RX4, Cond.code yX4_levelOf cX4_levelOf 1 (some .int), Cond.static yX6_chain, Cond.initialized RX6, Cond.code yX6_chain cX6_chain 5 (some .int), Cond.methodLink RX4 40 yX4_settle, Cond.instanceMethod yX4_settle, Cond.selects RX4 yX4_settle yX4_settle, Cond.code yX4_settle cX4_settle 6 none, Cond.constant RX4 100 (1985229328), Cond.fieldLink RX4 15 "TurnGroups$Tower" "cellsBack" "[I", Cond.fieldLink RX4 18 "TurnGroups$Tower" "reach" "[I", Cond.static yX6_image, Cond.code yX6_image cX6_image 2 (some .int), Cond.methodLink RX4 79 yX4_cellOf, Cond.static yX4_cellOf, Cond.code yX4_cellOf cX4_cellOf 2 (some .int), Cond.methodLink RX4 65 yX4_reaches, Cond.instanceMethod yX4_reaches]
def wsX4_spreadFrom_r2 : List Cond := [Cond.selects RX4 yX4_reaches yX4_reaches, Cond.code yX4_reaches cX4_reaches 3 (some .boolean), Cond.static yX6_reverse, Cond.code yX6_reverse cX6_reverse 4 (some .int)]
def wsX4_spreadFrom : List Cond := .code yX4_spreadFrom cX4_spreadFrom 6 none :: ((wsX4_spreadFrom_r1 ++ wsX4_spreadFrom_r2) ++ wsX40)
def wsX4_join_r1 : List Cond := [Cond.fieldLink RX4 27 "TurnGroups$Tower" "filledCount" "I", Cond.fieldLink RX4 31 "TurnGroups$Tower" "makerCount" "I", Cond.fieldLink RX4 24 "TurnGroups$Tower" "makers" "[I", Cond.methodLink RX4 40 yX4_settle, Cond.instanceMethod yX4_settle, Cond.selects RX4 yX4_settle yX4_settle, Cond.initialized RX4, Cond.code yX4_settle cX4_settle 6 none, Cond.constant RX4 100 (1985229328), Cond.fieldLink RX4 11 "TurnGroups$Tower" "cells" "[I", Cond.fieldLink RX4 15 "TurnGroups$Tower" "cellsBack" "[I", Cond.fieldLink RX4 18 "TurnGroups$Tower" "reach" "[I", Cond.fieldLink RX4 21 "TurnGroups$Tower" "filled" "[I", Cond.static yX6_image, Cond.initialized RX6, Cond.code yX6_image cX6_image 2 (some .int), Cond.methodLink RX4 79 yX4_cellOf, Cond.static yX4_cellOf, Cond.code yX4_cellOf cX4_cellOf 2 (some .int), Cond.methodLink RX4 65 yX4_reaches, Cond.instanceMethod yX4_reaches, Cond.selects RX4 yX4_reaches yX4_reaches, Cond.code yX4_reaches cX4_reaches 3 (some .boolean), Cond.static yX6_reverse]
def wsX4_join_r2 : List Cond := [Cond.code yX6_reverse cX6_reverse 4 (some .int), Cond.static yX6_chain, Cond.code yX6_chain cX6_chain 5 (some .int), Cond.methodLink RX4 44 yX4_spreadFrom, Cond.instanceMethod yX4_spreadFrom, Cond.selects RX4 yX4_spreadFrom yX4_spreadFrom, Cond.code yX4_spreadFrom cX4_spreadFrom 6 none, Cond.methodLink RX4 94 yX4_levelOf, Cond.static yX4_levelOf, Cond.code yX4_levelOf cX4_levelOf 1 (some .int)]
def wsX4_join : List Cond := .code yX4_join cX4_join 3 (some .boolean) :: ((wsX4_join_r1 ++ wsX4_join_r2) ++ wsX40)
def wsX4_joinAll_r1 : List Cond := [Cond.fieldLink RX4 31 "TurnGroups$Tower" "makerCount" "I", Cond.fieldLink RX4 24 "TurnGroups$Tower" "makers" "[I", Cond.methodLink RX4 47 yX4_join, Cond.instanceMethod yX4_join, Cond.selects RX4 yX4_join yX4_join, Cond.initialized RX4, Cond.code yX4_join cX4_join 3 (some .boolean), Cond.fieldLink RX4 27 "TurnGroups$Tower" "filledCount" "I", Cond.methodLink RX4 40 yX4_settle, Cond.instanceMethod yX4_settle, Cond.selects RX4 yX4_settle yX4_settle, Cond.code yX4_settle cX4_settle 6 none, Cond.constant RX4 100 (1985229328), Cond.fieldLink RX4 11 "TurnGroups$Tower" "cells" "[I", Cond.fieldLink RX4 15 "TurnGroups$Tower" "cellsBack" "[I", Cond.fieldLink RX4 18 "TurnGroups$Tower" "reach" "[I", Cond.fieldLink RX4 21 "TurnGroups$Tower" "filled" "[I", Cond.static yX6_image, Cond.initialized RX6, Cond.code yX6_image cX6_image 2 (some .int), Cond.methodLink RX4 79 yX4_cellOf, Cond.static yX4_cellOf, Cond.code yX4_cellOf cX4_cellOf 2 (some .int), Cond.methodLink RX4 65 yX4_reaches]
def wsX4_joinAll_r2 : List Cond := [Cond.instanceMethod yX4_reaches, Cond.selects RX4 yX4_reaches yX4_reaches, Cond.code yX4_reaches cX4_reaches 3 (some .boolean), Cond.static yX6_reverse, Cond.code yX6_reverse cX6_reverse 4 (some .int), Cond.static yX6_chain, Cond.code yX6_chain cX6_chain 5 (some .int), Cond.methodLink RX4 44 yX4_spreadFrom, Cond.instanceMethod yX4_spreadFrom, Cond.selects RX4 yX4_spreadFrom yX4_spreadFrom, Cond.code yX4_spreadFrom cX4_spreadFrom 6 none, Cond.methodLink RX4 94 yX4_levelOf, Cond.static yX4_levelOf, Cond.code yX4_levelOf cX4_levelOf 1 (some .int)]
def wsX4_joinAll : List Cond := .code yX4_joinAll cX4_joinAll 3 none :: ((wsX4_joinAll_r1 ++ wsX4_joinAll_r2) ++ wsX40)
def wsX6_carried : List Cond := .code yX6_carried cX6_carried 2 (some .int) :: ([.methodLink RX6 64 yX6_reverse, .static yX6_reverse, .initialized RX6, .code yX6_reverse cX6_reverse 4 (some .int), .methodLink RX6 57 yX6_chain, .static yX6_chain, .code yX6_chain cX6_chain 5 (some .int)])
def wsX4_closeUnder_r1 : List Cond := [Cond.fieldLink RX4 31 "TurnGroups$Tower" "makerCount" "I", Cond.fieldLink RX4 24 "TurnGroups$Tower" "makers" "[I", Cond.static yX6_carried, Cond.initialized RX6, Cond.code yX6_carried cX6_carried 2 (some .int), Cond.methodLink RX6 64 yX6_reverse, Cond.static yX6_reverse, Cond.code yX6_reverse cX6_reverse 4 (some .int), Cond.methodLink RX6 57 yX6_chain, Cond.static yX6_chain, Cond.code yX6_chain cX6_chain 5 (some .int), Cond.methodLink RX4 47 yX4_join, Cond.instanceMethod yX4_join, Cond.selects RX4 yX4_join yX4_join, Cond.initialized RX4, Cond.code yX4_join cX4_join 3 (some .boolean), Cond.fieldLink RX4 27 "TurnGroups$Tower" "filledCount" "I", Cond.methodLink RX4 40 yX4_settle, Cond.instanceMethod yX4_settle, Cond.selects RX4 yX4_settle yX4_settle, Cond.code yX4_settle cX4_settle 6 none, Cond.constant RX4 100 (1985229328), Cond.fieldLink RX4 11 "TurnGroups$Tower" "cells" "[I", Cond.fieldLink RX4 15 "TurnGroups$Tower" "cellsBack" "[I"]
def wsX4_closeUnder_r2 : List Cond := [Cond.fieldLink RX4 18 "TurnGroups$Tower" "reach" "[I", Cond.fieldLink RX4 21 "TurnGroups$Tower" "filled" "[I", Cond.static yX6_image, Cond.code yX6_image cX6_image 2 (some .int), Cond.methodLink RX4 79 yX4_cellOf, Cond.static yX4_cellOf, Cond.code yX4_cellOf cX4_cellOf 2 (some .int), Cond.methodLink RX4 65 yX4_reaches, Cond.instanceMethod yX4_reaches, Cond.selects RX4 yX4_reaches yX4_reaches, Cond.code yX4_reaches cX4_reaches 3 (some .boolean), Cond.methodLink RX4 44 yX4_spreadFrom, Cond.instanceMethod yX4_spreadFrom, Cond.selects RX4 yX4_spreadFrom yX4_spreadFrom, Cond.code yX4_spreadFrom cX4_spreadFrom 6 none, Cond.methodLink RX4 94 yX4_levelOf, Cond.static yX4_levelOf, Cond.code yX4_levelOf cX4_levelOf 1 (some .int)]
def wsX4_closeUnder : List Cond := .code yX4_closeUnder cX4_closeUnder 4 none :: ((wsX4_closeUnder_r1 ++ wsX4_closeUnder_r2) ++ wsX40)
def wsX4_becomeCarried_r1 : List Cond := [Cond.fieldLink RX4 31 "TurnGroups$Tower" "makerCount" "I", Cond.fieldLink RX4 24 "TurnGroups$Tower" "makers" "[I", Cond.methodLink RX4 55 yX4_clear, Cond.instanceMethod yX4_clear, Cond.selects RX4 yX4_clear yX4_clear, Cond.initialized RX4, Cond.code yX4_clear cX4_clear 2 none, Cond.fieldLink RX4 18 "TurnGroups$Tower" "reach" "[I", Cond.fieldLink RX4 27 "TurnGroups$Tower" "filledCount" "I", Cond.static yX6_carried, Cond.initialized RX6, Cond.code yX6_carried cX6_carried 2 (some .int), Cond.methodLink RX6 64 yX6_reverse, Cond.static yX6_reverse, Cond.code yX6_reverse cX6_reverse 4 (some .int), Cond.methodLink RX6 57 yX6_chain, Cond.static yX6_chain, Cond.code yX6_chain cX6_chain 5 (some .int), Cond.methodLink RX4 47 yX4_join, Cond.instanceMethod yX4_join, Cond.selects RX4 yX4_join yX4_join, Cond.code yX4_join cX4_join 3 (some .boolean), Cond.methodLink RX4 40 yX4_settle, Cond.instanceMethod yX4_settle]
def wsX4_becomeCarried_r2 : List Cond := [Cond.selects RX4 yX4_settle yX4_settle, Cond.code yX4_settle cX4_settle 6 none, Cond.constant RX4 100 (1985229328), Cond.fieldLink RX4 11 "TurnGroups$Tower" "cells" "[I", Cond.fieldLink RX4 15 "TurnGroups$Tower" "cellsBack" "[I", Cond.fieldLink RX4 21 "TurnGroups$Tower" "filled" "[I", Cond.static yX6_image, Cond.code yX6_image cX6_image 2 (some .int), Cond.methodLink RX4 79 yX4_cellOf, Cond.static yX4_cellOf, Cond.code yX4_cellOf cX4_cellOf 2 (some .int), Cond.methodLink RX4 65 yX4_reaches, Cond.instanceMethod yX4_reaches, Cond.selects RX4 yX4_reaches yX4_reaches, Cond.code yX4_reaches cX4_reaches 3 (some .boolean), Cond.methodLink RX4 44 yX4_spreadFrom, Cond.instanceMethod yX4_spreadFrom, Cond.selects RX4 yX4_spreadFrom yX4_spreadFrom, Cond.code yX4_spreadFrom cX4_spreadFrom 6 none, Cond.methodLink RX4 94 yX4_levelOf, Cond.static yX4_levelOf, Cond.code yX4_levelOf cX4_levelOf 1 (some .int)]
def wsX4_becomeCarried : List Cond := .code yX4_becomeCarried cX4_becomeCarried 4 none :: ((wsX4_becomeCarried_r1 ++ wsX4_becomeCarried_r2) ++ wsX40)
def wsX6_commutator : List Cond := .code yX6_commutator cX6_commutator 2 (some .int) :: ([.methodLink RX6 64 yX6_reverse, .static yX6_reverse, .initialized RX6, .code yX6_reverse cX6_reverse 4 (some .int), .methodLink RX6 57 yX6_chain, .static yX6_chain, .code yX6_chain cX6_chain 5 (some .int)])
def wsX4_becomeDown_r1 : List Cond := [Cond.fieldLink RX4 31 "TurnGroups$Tower" "makerCount" "I", Cond.fieldLink RX4 24 "TurnGroups$Tower" "makers" "[I", Cond.methodLink RX4 55 yX4_clear, Cond.instanceMethod yX4_clear, Cond.selects RX4 yX4_clear yX4_clear, Cond.initialized RX4, Cond.code yX4_clear cX4_clear 2 none, Cond.fieldLink RX4 18 "TurnGroups$Tower" "reach" "[I", Cond.fieldLink RX4 27 "TurnGroups$Tower" "filledCount" "I", Cond.static yX6_commutator, Cond.initialized RX6, Cond.code yX6_commutator cX6_commutator 2 (some .int), Cond.methodLink RX6 64 yX6_reverse, Cond.static yX6_reverse, Cond.code yX6_reverse cX6_reverse 4 (some .int), Cond.methodLink RX6 57 yX6_chain, Cond.static yX6_chain, Cond.code yX6_chain cX6_chain 5 (some .int), Cond.methodLink RX4 47 yX4_join, Cond.instanceMethod yX4_join, Cond.selects RX4 yX4_join yX4_join, Cond.code yX4_join cX4_join 3 (some .boolean), Cond.methodLink RX4 40 yX4_settle, Cond.instanceMethod yX4_settle]
def wsX4_becomeDown_r2 : List Cond := [Cond.selects RX4 yX4_settle yX4_settle, Cond.code yX4_settle cX4_settle 6 none, Cond.constant RX4 100 (1985229328), Cond.fieldLink RX4 11 "TurnGroups$Tower" "cells" "[I", Cond.fieldLink RX4 15 "TurnGroups$Tower" "cellsBack" "[I", Cond.fieldLink RX4 21 "TurnGroups$Tower" "filled" "[I", Cond.static yX6_image, Cond.code yX6_image cX6_image 2 (some .int), Cond.methodLink RX4 79 yX4_cellOf, Cond.static yX4_cellOf, Cond.code yX4_cellOf cX4_cellOf 2 (some .int), Cond.methodLink RX4 65 yX4_reaches, Cond.instanceMethod yX4_reaches, Cond.selects RX4 yX4_reaches yX4_reaches, Cond.code yX4_reaches cX4_reaches 3 (some .boolean), Cond.methodLink RX4 44 yX4_spreadFrom, Cond.instanceMethod yX4_spreadFrom, Cond.selects RX4 yX4_spreadFrom yX4_spreadFrom, Cond.code yX4_spreadFrom cX4_spreadFrom 6 none, Cond.methodLink RX4 94 yX4_levelOf, Cond.static yX4_levelOf, Cond.code yX4_levelOf cX4_levelOf 1 (some .int), Cond.methodLink RX4 61 yX4_closeUnder, Cond.instanceMethod yX4_closeUnder]
def wsX4_becomeDown_r3 : List Cond := [Cond.selects RX4 yX4_closeUnder yX4_closeUnder, Cond.code yX4_closeUnder cX4_closeUnder 4 none, Cond.static yX6_carried, Cond.code yX6_carried cX6_carried 2 (some .int)]
def wsX4_becomeDown : List Cond := .code yX4_becomeDown cX4_becomeDown 4 none :: ((wsX4_becomeDown_r1 ++ (wsX4_becomeDown_r2 ++ wsX4_becomeDown_r3)) ++ wsX40)
def wsX4_step : List Cond := .code yX4_step cX4_step 4 (some .int) :: ([.fieldLink RX4 11 "TurnGroups$Tower" "cells" "[I", .methodLink RX4 79 yX4_cellOf, .static yX4_cellOf, .initialized RX4, .code yX4_cellOf cX4_cellOf 2 (some .int), .static yX6_chain, .initialized RX6, .code yX6_chain cX6_chain 5 (some .int)] ++ wsX40)
def wsX4_search_r1 : List Cond := [Cond.static yX6_reverse, Cond.initialized RX6, Cond.code yX6_reverse cX6_reverse 4 (some .int), Cond.static yX6_image, Cond.code yX6_image cX6_image 2 (some .int), Cond.methodLink RX4 65 yX4_reaches, Cond.instanceMethod yX4_reaches, Cond.selects RX4 yX4_reaches yX4_reaches, Cond.initialized RX4, Cond.code yX4_reaches cX4_reaches 3 (some .boolean), Cond.fieldLink RX4 18 "TurnGroups$Tower" "reach" "[I", Cond.methodLink RX4 131 yX4_step, Cond.instanceMethod yX4_step, Cond.selects RX4 yX4_step yX4_step, Cond.code yX4_step cX4_step 4 (some .int), Cond.fieldLink RX4 11 "TurnGroups$Tower" "cells" "[I", Cond.methodLink RX4 79 yX4_cellOf, Cond.static yX4_cellOf, Cond.code yX4_cellOf cX4_cellOf 2 (some .int), Cond.static yX6_chain, Cond.code yX6_chain cX6_chain 5 (some .int), Cond.methodLink RX4 126 ⟨"TurnGroups$Wish", "fits", "(II)Z"⟩, Cond.sameMethod "TurnGroups$Wish" "TurnGroups$Wish" "fits" "(II)Z", Cond.selects RX0 ⟨"TurnGroups$Wish", "fits", "(II)Z"⟩ yX0_fits]
def wsX4_search_r2 : List Cond := [Cond.instanceMethod yX0_fits, Cond.initialized RX0, Cond.code yX0_fits cX0_fits 3 (some .boolean), Cond.fieldLink RX0 7 "TurnGroups$CarriesSet" "from" "I", Cond.fieldLink RX0 13 "TurnGroups$CarriesSet" "onto" "I", Cond.selects RX1 ⟨"TurnGroups$Wish", "fits", "(II)Z"⟩ yX1_fits, Cond.instanceMethod yX1_fits, Cond.initialized RX1, Cond.code yX1_fits cX1_fits 4 (some .boolean), Cond.fieldLink RX1 7 "TurnGroups$Commutes" "tower" "LTurnGroups$Tower;", Cond.methodLink RX1 23 yX1_agree, Cond.static yX1_agree, Cond.code yX1_agree cX1_agree 5 (some .boolean), Cond.selects RX2 ⟨"TurnGroups$Wish", "fits", "(II)Z"⟩ yX2_fits, Cond.instanceMethod yX2_fits, Cond.initialized RX2, Cond.code yX2_fits cX2_fits 4 (some .boolean), Cond.fieldLink RX2 7 "TurnGroups$FixesSet" "set" "I", Cond.selects RX3 ⟨"TurnGroups$Wish", "fits", "(II)Z"⟩ yX3_fits, Cond.instanceMethod yX3_fits, Cond.initialized RX3, Cond.code yX3_fits cX3_fits 3 (some .boolean), Cond.fieldLink RX3 7 "TurnGroups$InTower" "tower" "LTurnGroups$Tower;", Cond.methodLink RX3 13 yX4_holdsStart]
def wsX4_search_r3 : List Cond := [Cond.instanceMethod yX4_holdsStart, Cond.selects RX4 yX4_holdsStart yX4_holdsStart, Cond.code yX4_holdsStart cX4_holdsStart 6 (some .boolean), Cond.fieldLink RX4 15 "TurnGroups$Tower" "cellsBack" "[I", Cond.methodLink RX4 120 yX4_search, Cond.instanceMethod yX4_search, Cond.selects RX4 yX4_search yX4_search]
def wsX4_search : List Cond := .code yX4_search cX4_search 9 (some .int) :: ((wsX4_search_r1 ++ (wsX4_search_r2 ++ wsX4_search_r3)) ++ wsX40 ++ wsX00 ++ wsX10 ++ wsX20 ++ wsX30)
def wsX4_searchCell_r1 : List Cond := [Cond.fieldLink RX4 11 "TurnGroups$Tower" "cells" "[I", Cond.methodLink RX4 79 yX4_cellOf, Cond.static yX4_cellOf, Cond.initialized RX4, Cond.code yX4_cellOf cX4_cellOf 2 (some .int), Cond.methodLink RX4 126 ⟨"TurnGroups$Wish", "fits", "(II)Z"⟩, Cond.sameMethod "TurnGroups$Wish" "TurnGroups$Wish" "fits" "(II)Z", Cond.selects RX0 ⟨"TurnGroups$Wish", "fits", "(II)Z"⟩ yX0_fits, Cond.instanceMethod yX0_fits, Cond.initialized RX0, Cond.code yX0_fits cX0_fits 3 (some .boolean), Cond.fieldLink RX0 7 "TurnGroups$CarriesSet" "from" "I", Cond.fieldLink RX0 13 "TurnGroups$CarriesSet" "onto" "I", Cond.static yX6_image, Cond.initialized RX6, Cond.code yX6_image cX6_image 2 (some .int), Cond.selects RX1 ⟨"TurnGroups$Wish", "fits", "(II)Z"⟩ yX1_fits, Cond.instanceMethod yX1_fits, Cond.initialized RX1, Cond.code yX1_fits cX1_fits 4 (some .boolean), Cond.fieldLink RX1 7 "TurnGroups$Commutes" "tower" "LTurnGroups$Tower;", Cond.methodLink RX1 23 yX1_agree, Cond.static yX1_agree, Cond.code yX1_agree cX1_agree 5 (some .boolean)]
def wsX4_searchCell_r2 : List Cond := [Cond.selects RX2 ⟨"TurnGroups$Wish", "fits", "(II)Z"⟩ yX2_fits, Cond.instanceMethod yX2_fits, Cond.initialized RX2, Cond.code yX2_fits cX2_fits 4 (some .boolean), Cond.fieldLink RX2 7 "TurnGroups$FixesSet" "set" "I", Cond.selects RX3 ⟨"TurnGroups$Wish", "fits", "(II)Z"⟩ yX3_fits, Cond.instanceMethod yX3_fits, Cond.initialized RX3, Cond.code yX3_fits cX3_fits 3 (some .boolean), Cond.fieldLink RX3 7 "TurnGroups$InTower" "tower" "LTurnGroups$Tower;", Cond.methodLink RX3 13 yX4_holdsStart, Cond.instanceMethod yX4_holdsStart, Cond.selects RX4 yX4_holdsStart yX4_holdsStart, Cond.code yX4_holdsStart cX4_holdsStart 6 (some .boolean), Cond.fieldLink RX4 15 "TurnGroups$Tower" "cellsBack" "[I", Cond.methodLink RX4 65 yX4_reaches, Cond.instanceMethod yX4_reaches, Cond.selects RX4 yX4_reaches yX4_reaches, Cond.code yX4_reaches cX4_reaches 3 (some .boolean), Cond.fieldLink RX4 18 "TurnGroups$Tower" "reach" "[I", Cond.static yX6_chain, Cond.code yX6_chain cX6_chain 5 (some .int), Cond.methodLink RX4 120 yX4_search, Cond.instanceMethod yX4_search]
def wsX4_searchCell_r3 : List Cond := [Cond.selects RX4 yX4_search yX4_search, Cond.code yX4_search cX4_search 9 (some .int), Cond.static yX6_reverse, Cond.code yX6_reverse cX6_reverse 4 (some .int), Cond.methodLink RX4 131 yX4_step, Cond.instanceMethod yX4_step, Cond.selects RX4 yX4_step yX4_step, Cond.code yX4_step cX4_step 4 (some .int)]
def wsX4_searchCell : List Cond := .code yX4_searchCell cX4_searchCell 5 (some .int) :: ((wsX4_searchCell_r1 ++ (wsX4_searchCell_r2 ++ wsX4_searchCell_r3)) ++ wsX40 ++ wsX00 ++ wsX10 ++ wsX20 ++ wsX30)
def wsX4_gather_r1 : List Cond := [Cond.methodLink RX4 55 yX4_clear, Cond.instanceMethod yX4_clear, Cond.selects RX4 yX4_clear yX4_clear, Cond.initialized RX4, Cond.code yX4_clear cX4_clear 2 none, Cond.fieldLink RX4 18 "TurnGroups$Tower" "reach" "[I", Cond.fieldLink RX4 27 "TurnGroups$Tower" "filledCount" "I", Cond.fieldLink RX4 31 "TurnGroups$Tower" "makerCount" "I", Cond.methodLink RX4 65 yX4_reaches, Cond.instanceMethod yX4_reaches, Cond.selects RX4 yX4_reaches yX4_reaches, Cond.code yX4_reaches cX4_reaches 3 (some .boolean), Cond.methodLink RX4 69 yX4_searchCell, Cond.instanceMethod yX4_searchCell, Cond.selects RX4 yX4_searchCell yX4_searchCell, Cond.code yX4_searchCell cX4_searchCell 5 (some .int), Cond.fieldLink RX4 11 "TurnGroups$Tower" "cells" "[I", Cond.methodLink RX4 79 yX4_cellOf, Cond.static yX4_cellOf, Cond.code yX4_cellOf cX4_cellOf 2 (some .int), Cond.methodLink RX4 126 ⟨"TurnGroups$Wish", "fits", "(II)Z"⟩, Cond.sameMethod "TurnGroups$Wish" "TurnGroups$Wish" "fits" "(II)Z", Cond.selects RX0 ⟨"TurnGroups$Wish", "fits", "(II)Z"⟩ yX0_fits, Cond.instanceMethod yX0_fits]
def wsX4_gather_r2 : List Cond := [Cond.initialized RX0, Cond.code yX0_fits cX0_fits 3 (some .boolean), Cond.fieldLink RX0 7 "TurnGroups$CarriesSet" "from" "I", Cond.fieldLink RX0 13 "TurnGroups$CarriesSet" "onto" "I", Cond.static yX6_image, Cond.initialized RX6, Cond.code yX6_image cX6_image 2 (some .int), Cond.selects RX1 ⟨"TurnGroups$Wish", "fits", "(II)Z"⟩ yX1_fits, Cond.instanceMethod yX1_fits, Cond.initialized RX1, Cond.code yX1_fits cX1_fits 4 (some .boolean), Cond.fieldLink RX1 7 "TurnGroups$Commutes" "tower" "LTurnGroups$Tower;", Cond.methodLink RX1 23 yX1_agree, Cond.static yX1_agree, Cond.code yX1_agree cX1_agree 5 (some .boolean), Cond.selects RX2 ⟨"TurnGroups$Wish", "fits", "(II)Z"⟩ yX2_fits, Cond.instanceMethod yX2_fits, Cond.initialized RX2, Cond.code yX2_fits cX2_fits 4 (some .boolean), Cond.fieldLink RX2 7 "TurnGroups$FixesSet" "set" "I", Cond.selects RX3 ⟨"TurnGroups$Wish", "fits", "(II)Z"⟩ yX3_fits, Cond.instanceMethod yX3_fits, Cond.initialized RX3, Cond.code yX3_fits cX3_fits 3 (some .boolean)]
def wsX4_gather_r3 : List Cond := [Cond.fieldLink RX3 7 "TurnGroups$InTower" "tower" "LTurnGroups$Tower;", Cond.methodLink RX3 13 yX4_holdsStart, Cond.instanceMethod yX4_holdsStart, Cond.selects RX4 yX4_holdsStart yX4_holdsStart, Cond.code yX4_holdsStart cX4_holdsStart 6 (some .boolean), Cond.fieldLink RX4 15 "TurnGroups$Tower" "cellsBack" "[I", Cond.static yX6_chain, Cond.code yX6_chain cX6_chain 5 (some .int), Cond.methodLink RX4 120 yX4_search, Cond.instanceMethod yX4_search, Cond.selects RX4 yX4_search yX4_search, Cond.code yX4_search cX4_search 9 (some .int), Cond.static yX6_reverse, Cond.code yX6_reverse cX6_reverse 4 (some .int), Cond.methodLink RX4 131 yX4_step, Cond.instanceMethod yX4_step, Cond.selects RX4 yX4_step yX4_step, Cond.code yX4_step cX4_step 4 (some .int), Cond.methodLink RX4 47 yX4_join, Cond.instanceMethod yX4_join, Cond.selects RX4 yX4_join yX4_join, Cond.code yX4_join cX4_join 3 (some .boolean), Cond.fieldLink RX4 24 "TurnGroups$Tower" "makers" "[I", Cond.methodLink RX4 40 yX4_settle]
def wsX4_gather_r4 : List Cond := [Cond.instanceMethod yX4_settle, Cond.selects RX4 yX4_settle yX4_settle, Cond.code yX4_settle cX4_settle 6 none, Cond.constant RX4 100 (1985229328), Cond.fieldLink RX4 21 "TurnGroups$Tower" "filled" "[I", Cond.methodLink RX4 44 yX4_spreadFrom, Cond.instanceMethod yX4_spreadFrom, Cond.selects RX4 yX4_spreadFrom yX4_spreadFrom, Cond.code yX4_spreadFrom cX4_spreadFrom 6 none, Cond.methodLink RX4 94 yX4_levelOf, Cond.static yX4_levelOf, Cond.code yX4_levelOf cX4_levelOf 1 (some .int)]
def wsX4_gather : List Cond := .code yX4_gather cX4_gather 6 none :: ((wsX4_gather_r1 ++ (wsX4_gather_r2 ++ (wsX4_gather_r3 ++ wsX4_gather_r4))) ++ wsX40 ++ wsX00 ++ wsX10 ++ wsX20 ++ wsX30)
def wsX4_holds : List Cond := .code yX4_holds cX4_holds 2 (some .boolean) :: ([.methodLink RX4 73 yX4_holdsStart, .instanceMethod yX4_holdsStart, .selects RX4 yX4_holdsStart yX4_holdsStart, .initialized RX4, .code yX4_holdsStart cX4_holdsStart 6 (some .boolean), .fieldLink RX4 15 "TurnGroups$Tower" "cellsBack" "[I", .static yX6_image, .initialized RX6, .code yX6_image cX6_image 2 (some .int), .methodLink RX4 65 yX4_reaches, .instanceMethod yX4_reaches, .selects RX4 yX4_reaches yX4_reaches, .code yX4_reaches cX4_reaches 3 (some .boolean), .fieldLink RX4 18 "TurnGroups$Tower" "reach" "[I", .methodLink RX4 79 yX4_cellOf, .static yX4_cellOf, .code yX4_cellOf cX4_cellOf 2 (some .int), .static yX6_chain, .code yX6_chain cX6_chain 5 (some .int)] ++ wsX40)
def wsX4_isWithin_r1 : List Cond := [Cond.fieldLink RX4 31 "TurnGroups$Tower" "makerCount" "I", Cond.fieldLink RX4 24 "TurnGroups$Tower" "makers" "[I", Cond.methodLink RX4 85 yX4_holds, Cond.instanceMethod yX4_holds, Cond.selects RX4 yX4_holds yX4_holds, Cond.initialized RX4, Cond.code yX4_holds cX4_holds 2 (some .boolean), Cond.methodLink RX4 73 yX4_holdsStart, Cond.instanceMethod yX4_holdsStart, Cond.selects RX4 yX4_holdsStart yX4_holdsStart, Cond.code yX4_holdsStart cX4_holdsStart 6 (some .boolean), Cond.fieldLink RX4 15 "TurnGroups$Tower" "cellsBack" "[I", Cond.static yX6_image, Cond.initialized RX6, Cond.code yX6_image cX6_image 2 (some .int), Cond.methodLink RX4 65 yX4_reaches, Cond.instanceMethod yX4_reaches, Cond.selects RX4 yX4_reaches yX4_reaches, Cond.code yX4_reaches cX4_reaches 3 (some .boolean), Cond.fieldLink RX4 18 "TurnGroups$Tower" "reach" "[I", Cond.methodLink RX4 79 yX4_cellOf, Cond.static yX4_cellOf, Cond.code yX4_cellOf cX4_cellOf 2 (some .int), Cond.static yX6_chain]
def wsX4_isWithin_r2 : List Cond := [Cond.code yX6_chain cX6_chain 5 (some .int)]
def wsX4_isWithin : List Cond := .code yX4_isWithin cX4_isWithin 3 (some .boolean) :: ((wsX4_isWithin_r1 ++ wsX4_isWithin_r2) ++ wsX40)
def wsX4_staysUnder_r1 : List Cond := [Cond.fieldLink RX4 31 "TurnGroups$Tower" "makerCount" "I", Cond.fieldLink RX4 24 "TurnGroups$Tower" "makers" "[I", Cond.static yX6_carried, Cond.initialized RX6, Cond.code yX6_carried cX6_carried 2 (some .int), Cond.methodLink RX6 64 yX6_reverse, Cond.static yX6_reverse, Cond.code yX6_reverse cX6_reverse 4 (some .int), Cond.methodLink RX6 57 yX6_chain, Cond.static yX6_chain, Cond.code yX6_chain cX6_chain 5 (some .int), Cond.methodLink RX4 85 yX4_holds, Cond.instanceMethod yX4_holds, Cond.selects RX4 yX4_holds yX4_holds, Cond.initialized RX4, Cond.code yX4_holds cX4_holds 2 (some .boolean), Cond.methodLink RX4 73 yX4_holdsStart, Cond.instanceMethod yX4_holdsStart, Cond.selects RX4 yX4_holdsStart yX4_holdsStart, Cond.code yX4_holdsStart cX4_holdsStart 6 (some .boolean), Cond.fieldLink RX4 15 "TurnGroups$Tower" "cellsBack" "[I", Cond.static yX6_image, Cond.code yX6_image cX6_image 2 (some .int), Cond.methodLink RX4 65 yX4_reaches]
def wsX4_staysUnder_r2 : List Cond := [Cond.instanceMethod yX4_reaches, Cond.selects RX4 yX4_reaches yX4_reaches, Cond.code yX4_reaches cX4_reaches 3 (some .boolean), Cond.fieldLink RX4 18 "TurnGroups$Tower" "reach" "[I", Cond.methodLink RX4 79 yX4_cellOf, Cond.static yX4_cellOf, Cond.code yX4_cellOf cX4_cellOf 2 (some .int)]
def wsX4_staysUnder : List Cond := .code yX4_staysUnder cX4_staysUnder 4 (some .boolean) :: ((wsX4_staysUnder_r1 ++ wsX4_staysUnder_r2) ++ wsX40)
def wsJ6_bitCount_0f7a4 : List Cond := .code yJ6_bitCount_0f7a4 cJ6_bitCount_0f7a4 1 (some .int) :: ([.constant RJ6 265 (1431655765), .constant RJ6 266 (858993459), .constant RJ6 267 (252645135)])
def wsX4_turnsFrom : List Cond := .code yX4_turnsFrom cX4_turnsFrom 4 (some .int) :: ([.fieldLink RX4 18 "TurnGroups$Tower" "reach" "[I", .methodLink RX4 88 yJ6_bitCount_0f7a4, .static yJ6_bitCount_0f7a4, .initialized RJ6, .code yJ6_bitCount_0f7a4 cJ6_bitCount_0f7a4 1 (some .int), .constant RJ6 265 (1431655765), .constant RJ6 266 (858993459), .constant RJ6 267 (252645135)] ++ wsX40)
def wsX4_imageOfSet : List Cond := .code yX4_imageOfSet cX4_imageOfSet 4 (some .int) :: ([.static yX6_image, .initialized RX6, .code yX6_image cX6_image 2 (some .int)])
def wsX4_orbitFrom : List Cond := .code yX4_orbitFrom cX4_orbitFrom 7 (some .int) :: ([.fieldLink RX4 27 "TurnGroups$Tower" "filledCount" "I", .fieldLink RX4 21 "TurnGroups$Tower" "filled" "[I", .fieldLink RX4 11 "TurnGroups$Tower" "cells" "[I", .methodLink RX4 94 yX4_levelOf, .static yX4_levelOf, .initialized RX4, .code yX4_levelOf cX4_levelOf 1 (some .int), .methodLink RX4 97 yX4_imageOfSet, .static yX4_imageOfSet, .code yX4_imageOfSet cX4_imageOfSet 4 (some .int), .static yX6_image, .initialized RX6, .code yX6_image cX6_image 2 (some .int)] ++ wsX40)
def wsX4_merge : List Cond := .code yX4_merge cX4_merge 7 (some .int) :: ([.static yX6_image, .initialized RX6, .code yX6_image cX6_image 2 (some .int)])
def wsX4_mergeImages : List Cond := .code yX4_mergeImages cX4_mergeImages 4 (some .int) :: ([.static yX6_image, .initialized RX6, .code yX6_image cX6_image 2 (some .int), .methodLink RX4 101 yX4_merge, .static yX4_merge, .initialized RX4, .code yX4_merge cX4_merge 7 (some .int)])
def wsX4_blockOf : List Cond := .code yX4_blockOf cX4_blockOf 6 (some .int) :: ([.constant RX4 100 (1985229328), .fieldLink RX4 31 "TurnGroups$Tower" "makerCount" "I", .fieldLink RX4 24 "TurnGroups$Tower" "makers" "[I", .methodLink RX4 101 yX4_merge, .static yX4_merge, .initialized RX4, .code yX4_merge cX4_merge 7 (some .int), .static yX6_image, .initialized RX6, .code yX6_image cX6_image 2 (some .int), .methodLink RX4 105 yX4_mergeImages, .static yX4_mergeImages, .code yX4_mergeImages cX4_mergeImages 4 (some .int)] ++ wsX40)
def wsX4_countLeaving : List Cond := .code yX4_countLeaving cX4_countLeaving 8 (some .int) :: ([.methodLink RX4 65 yX4_reaches, .instanceMethod yX4_reaches, .selects RX4 yX4_reaches yX4_reaches, .initialized RX4, .code yX4_reaches cX4_reaches 3 (some .boolean), .fieldLink RX4 18 "TurnGroups$Tower" "reach" "[I", .methodLink RX4 131 yX4_step, .instanceMethod yX4_step, .selects RX4 yX4_step yX4_step, .code yX4_step cX4_step 4 (some .int), .fieldLink RX4 11 "TurnGroups$Tower" "cells" "[I", .methodLink RX4 79 yX4_cellOf, .static yX4_cellOf, .code yX4_cellOf cX4_cellOf 2 (some .int), .static yX6_chain, .initialized RX6, .code yX6_chain cX6_chain 5 (some .int), .static yX6_image, .code yX6_image cX6_image 2 (some .int), .methodLink RX4 111 yX4_countLeaving, .instanceMethod yX4_countLeaving, .selects RX4 yX4_countLeaving yX4_countLeaving] ++ wsX40)
def wsX4_turnsThatLeave_r1 : List Cond := [Cond.fieldLink RX4 11 "TurnGroups$Tower" "cells" "[I", Cond.methodLink RX4 65 yX4_reaches, Cond.instanceMethod yX4_reaches, Cond.selects RX4 yX4_reaches yX4_reaches, Cond.initialized RX4, Cond.code yX4_reaches cX4_reaches 3 (some .boolean), Cond.fieldLink RX4 18 "TurnGroups$Tower" "reach" "[I", Cond.methodLink RX4 108 yX4_orbitFrom, Cond.instanceMethod yX4_orbitFrom, Cond.selects RX4 yX4_orbitFrom yX4_orbitFrom, Cond.code yX4_orbitFrom cX4_orbitFrom 7 (some .int), Cond.fieldLink RX4 27 "TurnGroups$Tower" "filledCount" "I", Cond.fieldLink RX4 21 "TurnGroups$Tower" "filled" "[I", Cond.methodLink RX4 94 yX4_levelOf, Cond.static yX4_levelOf, Cond.code yX4_levelOf cX4_levelOf 1 (some .int), Cond.methodLink RX4 97 yX4_imageOfSet, Cond.static yX4_imageOfSet, Cond.code yX4_imageOfSet cX4_imageOfSet 4 (some .int), Cond.static yX6_image, Cond.initialized RX6, Cond.code yX6_image cX6_image 2 (some .int), Cond.methodLink RX4 79 yX4_cellOf, Cond.static yX4_cellOf]
def wsX4_turnsThatLeave_r2 : List Cond := [Cond.code yX4_cellOf cX4_cellOf 2 (some .int), Cond.methodLink RX4 88 yJ6_bitCount_0f7a4, Cond.static yJ6_bitCount_0f7a4, Cond.initialized RJ6, Cond.code yJ6_bitCount_0f7a4 cJ6_bitCount_0f7a4 1 (some .int), Cond.constant RJ6 265 (1431655765), Cond.constant RJ6 266 (858993459), Cond.constant RJ6 267 (252645135), Cond.methodLink RX4 111 yX4_countLeaving, Cond.instanceMethod yX4_countLeaving, Cond.selects RX4 yX4_countLeaving yX4_countLeaving, Cond.code yX4_countLeaving cX4_countLeaving 8 (some .int), Cond.methodLink RX4 131 yX4_step, Cond.instanceMethod yX4_step, Cond.selects RX4 yX4_step yX4_step, Cond.code yX4_step cX4_step 4 (some .int), Cond.static yX6_chain, Cond.code yX6_chain cX6_chain 5 (some .int)]
def wsX4_turnsThatLeave : List Cond := .code yX4_turnsThatLeave cX4_turnsThatLeave 8 (some .int) :: ((wsX4_turnsThatLeave_r1 ++ wsX4_turnsThatLeave_r2) ++ wsX40)
def wsX4_descend : List Cond := .code yX4_descend cX4_descend 4 (some .int) :: ([.static yX6_reverse, .initialized RX6, .code yX6_reverse cX6_reverse 4 (some .int), .static yX6_image, .code yX6_image cX6_image 2 (some .int), .methodLink RX4 131 yX4_step, .instanceMethod yX4_step, .selects RX4 yX4_step yX4_step, .initialized RX4, .code yX4_step cX4_step 4 (some .int), .fieldLink RX4 11 "TurnGroups$Tower" "cells" "[I", .methodLink RX4 79 yX4_cellOf, .static yX4_cellOf, .code yX4_cellOf cX4_cellOf 2 (some .int), .static yX6_chain, .code yX6_chain cX6_chain 5 (some .int)] ++ wsX40)
def wsX4_turnAt_r1 : List Cond := [Cond.constant RX4 100 (1985229328), Cond.fieldLink RX4 18 "TurnGroups$Tower" "reach" "[I", Cond.methodLink RX4 114 yX4_turnsFrom, Cond.instanceMethod yX4_turnsFrom, Cond.selects RX4 yX4_turnsFrom yX4_turnsFrom, Cond.initialized RX4, Cond.code yX4_turnsFrom cX4_turnsFrom 4 (some .int), Cond.methodLink RX4 88 yJ6_bitCount_0f7a4, Cond.static yJ6_bitCount_0f7a4, Cond.initialized RJ6, Cond.code yJ6_bitCount_0f7a4 cJ6_bitCount_0f7a4 1 (some .int), Cond.constant RJ6 265 (1431655765), Cond.constant RJ6 266 (858993459), Cond.constant RJ6 267 (252645135), Cond.methodLink RX4 97 yX4_imageOfSet, Cond.static yX4_imageOfSet, Cond.code yX4_imageOfSet cX4_imageOfSet 4 (some .int), Cond.static yX6_image, Cond.initialized RX6, Cond.code yX6_image cX6_image 2 (some .int), Cond.methodLink RX4 117 yX4_descend, Cond.instanceMethod yX4_descend, Cond.selects RX4 yX4_descend yX4_descend, Cond.code yX4_descend cX4_descend 4 (some .int)]
def wsX4_turnAt_r2 : List Cond := [Cond.static yX6_reverse, Cond.code yX6_reverse cX6_reverse 4 (some .int), Cond.methodLink RX4 131 yX4_step, Cond.instanceMethod yX4_step, Cond.selects RX4 yX4_step yX4_step, Cond.code yX4_step cX4_step 4 (some .int), Cond.fieldLink RX4 11 "TurnGroups$Tower" "cells" "[I", Cond.methodLink RX4 79 yX4_cellOf, Cond.static yX4_cellOf, Cond.code yX4_cellOf cX4_cellOf 2 (some .int), Cond.static yX6_chain, Cond.code yX6_chain cX6_chain 5 (some .int)]
def wsX4_turnAt : List Cond := .code yX4_turnAt cX4_turnAt 8 (some .int) :: ((wsX4_turnAt_r1 ++ wsX4_turnAt_r2) ++ wsX40)
def wsX4_turnsAheadOf_r1 : List Cond := [Cond.constant RX4 100 (1985229328), Cond.fieldLink RX4 18 "TurnGroups$Tower" "reach" "[I", Cond.static yX6_image, Cond.initialized RX6, Cond.code yX6_image cX6_image 2 (some .int), Cond.methodLink RX4 97 yX4_imageOfSet, Cond.static yX4_imageOfSet, Cond.initialized RX4, Cond.code yX4_imageOfSet cX4_imageOfSet 4 (some .int), Cond.methodLink RX4 88 yJ6_bitCount_0f7a4, Cond.static yJ6_bitCount_0f7a4, Cond.initialized RJ6, Cond.code yJ6_bitCount_0f7a4 cJ6_bitCount_0f7a4 1 (some .int), Cond.constant RJ6 265 (1431655765), Cond.constant RJ6 266 (858993459), Cond.constant RJ6 267 (252645135), Cond.methodLink RX4 114 yX4_turnsFrom, Cond.instanceMethod yX4_turnsFrom, Cond.selects RX4 yX4_turnsFrom yX4_turnsFrom, Cond.code yX4_turnsFrom cX4_turnsFrom 4 (some .int), Cond.methodLink RX4 117 yX4_descend, Cond.instanceMethod yX4_descend, Cond.selects RX4 yX4_descend yX4_descend, Cond.code yX4_descend cX4_descend 4 (some .int)]
def wsX4_turnsAheadOf_r2 : List Cond := [Cond.static yX6_reverse, Cond.code yX6_reverse cX6_reverse 4 (some .int), Cond.methodLink RX4 131 yX4_step, Cond.instanceMethod yX4_step, Cond.selects RX4 yX4_step yX4_step, Cond.code yX4_step cX4_step 4 (some .int), Cond.fieldLink RX4 11 "TurnGroups$Tower" "cells" "[I", Cond.methodLink RX4 79 yX4_cellOf, Cond.static yX4_cellOf, Cond.code yX4_cellOf cX4_cellOf 2 (some .int), Cond.static yX6_chain, Cond.code yX6_chain cX6_chain 5 (some .int)]
def wsX4_turnsAheadOf : List Cond := .code yX4_turnsAheadOf cX4_turnsAheadOf 8 (some .int) :: ((wsX4_turnsAheadOf_r1 ++ wsX4_turnsAheadOf_r2) ++ wsX40)
def wsX4_firstThat_r1 : List Cond := [Cond.constant RX4 100 (1985229328), Cond.methodLink RX4 120 yX4_search, Cond.instanceMethod yX4_search, Cond.selects RX4 yX4_search yX4_search, Cond.initialized RX4, Cond.code yX4_search cX4_search 9 (some .int), Cond.static yX6_reverse, Cond.initialized RX6, Cond.code yX6_reverse cX6_reverse 4 (some .int), Cond.static yX6_image, Cond.code yX6_image cX6_image 2 (some .int), Cond.methodLink RX4 65 yX4_reaches, Cond.instanceMethod yX4_reaches, Cond.selects RX4 yX4_reaches yX4_reaches, Cond.code yX4_reaches cX4_reaches 3 (some .boolean), Cond.fieldLink RX4 18 "TurnGroups$Tower" "reach" "[I", Cond.methodLink RX4 131 yX4_step, Cond.instanceMethod yX4_step, Cond.selects RX4 yX4_step yX4_step, Cond.code yX4_step cX4_step 4 (some .int), Cond.fieldLink RX4 11 "TurnGroups$Tower" "cells" "[I", Cond.methodLink RX4 79 yX4_cellOf, Cond.static yX4_cellOf, Cond.code yX4_cellOf cX4_cellOf 2 (some .int)]
def wsX4_firstThat_r2 : List Cond := [Cond.static yX6_chain, Cond.code yX6_chain cX6_chain 5 (some .int), Cond.methodLink RX4 126 ⟨"TurnGroups$Wish", "fits", "(II)Z"⟩, Cond.sameMethod "TurnGroups$Wish" "TurnGroups$Wish" "fits" "(II)Z", Cond.selects RX0 ⟨"TurnGroups$Wish", "fits", "(II)Z"⟩ yX0_fits, Cond.instanceMethod yX0_fits, Cond.initialized RX0, Cond.code yX0_fits cX0_fits 3 (some .boolean), Cond.fieldLink RX0 7 "TurnGroups$CarriesSet" "from" "I", Cond.fieldLink RX0 13 "TurnGroups$CarriesSet" "onto" "I", Cond.selects RX1 ⟨"TurnGroups$Wish", "fits", "(II)Z"⟩ yX1_fits, Cond.instanceMethod yX1_fits, Cond.initialized RX1, Cond.code yX1_fits cX1_fits 4 (some .boolean), Cond.fieldLink RX1 7 "TurnGroups$Commutes" "tower" "LTurnGroups$Tower;", Cond.methodLink RX1 23 yX1_agree, Cond.static yX1_agree, Cond.code yX1_agree cX1_agree 5 (some .boolean), Cond.selects RX2 ⟨"TurnGroups$Wish", "fits", "(II)Z"⟩ yX2_fits, Cond.instanceMethod yX2_fits, Cond.initialized RX2, Cond.code yX2_fits cX2_fits 4 (some .boolean), Cond.fieldLink RX2 7 "TurnGroups$FixesSet" "set" "I", Cond.selects RX3 ⟨"TurnGroups$Wish", "fits", "(II)Z"⟩ yX3_fits]
def wsX4_firstThat_r3 : List Cond := [Cond.instanceMethod yX3_fits, Cond.initialized RX3, Cond.code yX3_fits cX3_fits 3 (some .boolean), Cond.fieldLink RX3 7 "TurnGroups$InTower" "tower" "LTurnGroups$Tower;", Cond.methodLink RX3 13 yX4_holdsStart, Cond.instanceMethod yX4_holdsStart, Cond.selects RX4 yX4_holdsStart yX4_holdsStart, Cond.code yX4_holdsStart cX4_holdsStart 6 (some .boolean), Cond.fieldLink RX4 15 "TurnGroups$Tower" "cellsBack" "[I"]
def wsX4_firstThat : List Cond := .code yX4_firstThat cX4_firstThat 2 (some .int) :: ((wsX4_firstThat_r1 ++ (wsX4_firstThat_r2 ++ wsX4_firstThat_r3)) ++ wsX40 ++ wsX00 ++ wsX10 ++ wsX20 ++ wsX30)
def wsJ7_fill_53178 : List Cond := .code yJ7_fill_53178 cJ7_fill_53178 4 none :: ([])
def wsX6_beginWith : List Cond := .code yX6_beginWith cX6_beginWith 2 none :: ([.fieldLink RX6 156 "TurnGroups" "pointCount" "I", .fieldLink RX6 27 "TurnGroups" "groupCount" "I", .constant RX6 73 (1985229328), .fieldLink RX6 43 "TurnGroups" "current" "I", .fieldLink RX6 9 "TurnGroups" "shelf" "[I", .methodLink RX6 183 yJ7_fill_53178, .static yJ7_fill_53178, .initialized RJ7, .code yJ7_fill_53178 cJ7_fill_53178 4 none] ++ wsX60)
def wsX6_init_r1 : List Cond := [Cond.methodLink RX6 1 objectInit, Cond.instanceMethod objectInit, Cond.code objectInit ⟨#[0xb1]⟩ 1 none, Cond.arrayClass .int, Cond.fieldLink RX6 9 "TurnGroups" "shelf" "[I", Cond.classLink RX6 13 RX4, Cond.fieldLink RX6 15 "TurnGroups" "groups" "[LTurnGroups$Tower;", Cond.fieldLink RX6 19 "TurnGroups" "spare" "[LTurnGroups$Tower;", Cond.instantiable RX4 7, Cond.initialized RX4, Cond.instanceMethod yX4_init, Cond.code yX4_init cX4_init 1 none, Cond.methodLink RX4 5 objectInit, Cond.fieldLink RX4 11 "TurnGroups$Tower" "cells" "[I", Cond.fieldLink RX4 15 "TurnGroups$Tower" "cellsBack" "[I", Cond.fieldLink RX4 18 "TurnGroups$Tower" "reach" "[I", Cond.fieldLink RX4 21 "TurnGroups$Tower" "filled" "[I", Cond.fieldLink RX4 24 "TurnGroups$Tower" "makers" "[I", Cond.methodLink RX6 23 yX6_beginWith, Cond.instanceMethod yX6_beginWith, Cond.selects RX6 yX6_beginWith yX6_beginWith, Cond.initialized RX6, Cond.code yX6_beginWith cX6_beginWith 2 none, Cond.fieldLink RX6 156 "TurnGroups" "pointCount" "I"]
def wsX6_init_r2 : List Cond := [Cond.fieldLink RX6 27 "TurnGroups" "groupCount" "I", Cond.constant RX6 73 (1985229328), Cond.fieldLink RX6 43 "TurnGroups" "current" "I", Cond.methodLink RX6 183 yJ7_fill_53178, Cond.static yJ7_fill_53178, Cond.initialized RJ7, Cond.code yJ7_fill_53178 cJ7_fill_53178 4 none]
def wsX6_init : List Cond := .code yX6_init cX6_init 2 none :: ((wsX6_init_r1 ++ wsX6_init_r2) ++ wsX60 ++ wsX40)
def wsX6_points : List Cond := .code yX6_points cX6_points 3 (some .int) :: ([.fieldLink RX6 27 "TurnGroups" "groupCount" "I", .methodLink RX6 23 yX6_beginWith, .instanceMethod yX6_beginWith, .selects RX6 yX6_beginWith yX6_beginWith, .initialized RX6, .code yX6_beginWith cX6_beginWith 2 none, .fieldLink RX6 156 "TurnGroups" "pointCount" "I", .constant RX6 73 (1985229328), .fieldLink RX6 43 "TurnGroups" "current" "I", .fieldLink RX6 9 "TurnGroups" "shelf" "[I", .methodLink RX6 183 yJ7_fill_53178, .static yJ7_fill_53178, .initialized RJ7, .code yJ7_fill_53178 cJ7_fill_53178 4 none] ++ wsX60)
def wsX6_ownBits : List Cond := .code yX6_ownBits cX6_ownBits 1 (some .long) :: ([.fieldLink RX6 156 "TurnGroups" "pointCount" "I"] ++ wsX60)
def wsX6_tellsTurn : List Cond := .code yX6_tellsTurn cX6_tellsTurn 6 (some .boolean) :: ([.constantLong RX6 41 (-1), .fieldLink RX6 156 "TurnGroups" "pointCount" "I", .methodLink RX6 37 yX6_ownBits, .instanceMethod yX6_ownBits, .selects RX6 yX6_ownBits yX6_ownBits, .initialized RX6, .code yX6_ownBits cX6_ownBits 1 (some .long), .methodLink RX6 168 yJ6_bitCount_0f7a4, .static yJ6_bitCount_0f7a4, .initialized RJ6, .code yJ6_bitCount_0f7a4 cJ6_bitCount_0f7a4 1 (some .int), .constant RJ6 265 (1431655765), .constant RJ6 266 (858993459), .constant RJ6 267 (252645135)] ++ wsX60)
def wsX6_turn : List Cond := .code yX6_turn cX6_turn 5 (some .int) :: ([.constantLong RX6 35 (1985229328), .constantLong RX6 41 (-1), .fieldLink RX6 43 "TurnGroups" "current" "I", .methodLink RX6 31 yX6_tellsTurn, .instanceMethod yX6_tellsTurn, .selects RX6 yX6_tellsTurn yX6_tellsTurn, .initialized RX6, .code yX6_tellsTurn cX6_tellsTurn 6 (some .boolean), .fieldLink RX6 156 "TurnGroups" "pointCount" "I", .methodLink RX6 37 yX6_ownBits, .instanceMethod yX6_ownBits, .selects RX6 yX6_ownBits yX6_ownBits, .code yX6_ownBits cX6_ownBits 1 (some .long), .methodLink RX6 168 yJ6_bitCount_0f7a4, .static yJ6_bitCount_0f7a4, .initialized RJ6, .code yJ6_bitCount_0f7a4 cJ6_bitCount_0f7a4 1 (some .int), .constant RJ6 265 (1431655765), .constant RJ6 266 (858993459), .constant RJ6 267 (252645135)] ++ wsX60)
def wsX6_told : List Cond := .code yX6_told cX6_told 1 (some .long) :: ([.fieldLink RX6 43 "TurnGroups" "current" "I", .methodLink RX6 37 yX6_ownBits, .instanceMethod yX6_ownBits, .selects RX6 yX6_ownBits yX6_ownBits, .initialized RX6, .code yX6_ownBits cX6_ownBits 1 (some .long), .fieldLink RX6 156 "TurnGroups" "pointCount" "I"] ++ wsX60)
def wsX6_isPoint : List Cond := .code yX6_isPoint cX6_isPoint 2 (some .boolean) :: ([.fieldLink RX6 156 "TurnGroups" "pointCount" "I"] ++ wsX60)
def wsX6_to : List Cond := .code yX6_to cX6_to 2 (some .int) :: ([.fieldLink RX6 43 "TurnGroups" "current" "I", .methodLink RX6 46 yX6_isPoint, .instanceMethod yX6_isPoint, .selects RX6 yX6_isPoint yX6_isPoint, .initialized RX6, .code yX6_isPoint cX6_isPoint 2 (some .boolean), .fieldLink RX6 156 "TurnGroups" "pointCount" "I", .methodLink RX6 50 yX6_image, .static yX6_image, .code yX6_image cX6_image 2 (some .int)] ++ wsX60)
def wsX6_isShelfPlace : List Cond := .code yX6_isShelfPlace cX6_isShelfPlace 1 (some .boolean) :: ([])
def wsX6_lay : List Cond := .code yX6_lay cX6_lay 2 (some .int) :: ([.fieldLink RX6 9 "TurnGroups" "shelf" "[I", .fieldLink RX6 43 "TurnGroups" "current" "I", .methodLink RX6 54 yX6_isShelfPlace, .static yX6_isShelfPlace, .initialized RX6, .code yX6_isShelfPlace cX6_isShelfPlace 1 (some .boolean)] ++ wsX60)
def wsX6_take : List Cond := .code yX6_take cX6_take 2 (some .int) :: ([.fieldLink RX6 9 "TurnGroups" "shelf" "[I", .fieldLink RX6 43 "TurnGroups" "current" "I", .methodLink RX6 54 yX6_isShelfPlace, .static yX6_isShelfPlace, .initialized RX6, .code yX6_isShelfPlace cX6_isShelfPlace 1 (some .boolean)] ++ wsX60)
def wsX6_then : List Cond := .code yX6_then cX6_then 2 (some .int) :: ([.fieldLink RX6 43 "TurnGroups" "current" "I", .fieldLink RX6 9 "TurnGroups" "shelf" "[I", .methodLink RX6 54 yX6_isShelfPlace, .static yX6_isShelfPlace, .initialized RX6, .code yX6_isShelfPlace cX6_isShelfPlace 1 (some .boolean), .methodLink RX6 57 yX6_chain, .static yX6_chain, .code yX6_chain cX6_chain 5 (some .int)] ++ wsX60)
def wsX6_timesToOne : List Cond := .code yX6_timesToOne cX6_timesToOne 3 (some .int) :: ([.constant RX6 73 (1985229328), .methodLink RX6 57 yX6_chain, .static yX6_chain, .initialized RX6, .code yX6_chain cX6_chain 5 (some .int)])
def wsX6_back : List Cond := .code yX6_back cX6_back 2 (some .int) :: ([.fieldLink RX6 43 "TurnGroups" "current" "I", .methodLink RX6 60 yX6_timesToOne, .static yX6_timesToOne, .initialized RX6, .code yX6_timesToOne cX6_timesToOne 3 (some .int), .constant RX6 73 (1985229328), .methodLink RX6 57 yX6_chain, .static yX6_chain, .code yX6_chain cX6_chain 5 (some .int), .methodLink RX6 64 yX6_reverse, .static yX6_reverse, .code yX6_reverse cX6_reverse 4 (some .int)] ++ wsX60)
def wsX6_truth : List Cond := .code yX6_truth cX6_truth 1 (some .int) :: ([])
def wsX6_power : List Cond := .code yX6_power cX6_power 8 (some .int) :: ([.methodLink RX6 67 Lib.MathLoose.abs_long.x, .static Lib.MathLoose.abs_long.x, .initialized "java/lang/Math", .code Lib.MathLoose.abs_long.x Lib.MathLoose.abs_long.code 2 (some .long), .fieldLink RX6 43 "TurnGroups" "current" "I", .constant RX6 73 (1985229328), .methodLink RX6 64 yX6_reverse, .static yX6_reverse, .initialized RX6, .code yX6_reverse cX6_reverse 4 (some .int), .methodLink RX6 57 yX6_chain, .static yX6_chain, .code yX6_chain cX6_chain 5 (some .int), .methodLink RX6 74 yX6_truth, .static yX6_truth, .code yX6_truth cX6_truth 1 (some .int)] ++ wsX60)
def wsX6_isFull : List Cond := .code yX6_isFull cX6_isFull 1 (some .boolean) :: ([.fieldLink RX6 27 "TurnGroups" "groupCount" "I"] ++ wsX60)
def wsX6_swap : List Cond := .code yX6_swap cX6_swap 3 (some .int) :: ([.constant RX6 73 (1985229328)])
def wsX6_joinSwaps_r1 : List Cond := [Cond.fieldLink RX6 156 "TurnGroups" "pointCount" "I", Cond.methodLink RX6 189 yX6_swap, Cond.static yX6_swap, Cond.initialized RX6, Cond.code yX6_swap cX6_swap 3 (some .int), Cond.constant RX6 73 (1985229328), Cond.methodLink RX6 95 yX4_join, Cond.instanceMethod yX4_join, Cond.selects RX4 yX4_join yX4_join, Cond.initialized RX4, Cond.code yX4_join cX4_join 3 (some .boolean), Cond.fieldLink RX4 27 "TurnGroups$Tower" "filledCount" "I", Cond.fieldLink RX4 31 "TurnGroups$Tower" "makerCount" "I", Cond.fieldLink RX4 24 "TurnGroups$Tower" "makers" "[I", Cond.methodLink RX4 40 yX4_settle, Cond.instanceMethod yX4_settle, Cond.selects RX4 yX4_settle yX4_settle, Cond.code yX4_settle cX4_settle 6 none, Cond.constant RX4 100 (1985229328), Cond.fieldLink RX4 11 "TurnGroups$Tower" "cells" "[I", Cond.fieldLink RX4 15 "TurnGroups$Tower" "cellsBack" "[I", Cond.fieldLink RX4 18 "TurnGroups$Tower" "reach" "[I", Cond.fieldLink RX4 21 "TurnGroups$Tower" "filled" "[I", Cond.static yX6_image]
def wsX6_joinSwaps_r2 : List Cond := [Cond.code yX6_image cX6_image 2 (some .int), Cond.methodLink RX4 79 yX4_cellOf, Cond.static yX4_cellOf, Cond.code yX4_cellOf cX4_cellOf 2 (some .int), Cond.methodLink RX4 65 yX4_reaches, Cond.instanceMethod yX4_reaches, Cond.selects RX4 yX4_reaches yX4_reaches, Cond.code yX4_reaches cX4_reaches 3 (some .boolean), Cond.static yX6_reverse, Cond.code yX6_reverse cX6_reverse 4 (some .int), Cond.static yX6_chain, Cond.code yX6_chain cX6_chain 5 (some .int), Cond.methodLink RX4 44 yX4_spreadFrom, Cond.instanceMethod yX4_spreadFrom, Cond.selects RX4 yX4_spreadFrom yX4_spreadFrom, Cond.code yX4_spreadFrom cX4_spreadFrom 6 none, Cond.methodLink RX4 94 yX4_levelOf, Cond.static yX4_levelOf, Cond.code yX4_levelOf cX4_levelOf 1 (some .int)]
def wsX6_joinSwaps : List Cond := .code yX6_joinSwaps cX6_joinSwaps 3 none :: ((wsX6_joinSwaps_r1 ++ wsX6_joinSwaps_r2) ++ wsX60 ++ wsX40)
def wsX6_joinThreeCycles_r1 : List Cond := [Cond.fieldLink RX6 156 "TurnGroups" "pointCount" "I", Cond.methodLink RX6 189 yX6_swap, Cond.static yX6_swap, Cond.initialized RX6, Cond.code yX6_swap cX6_swap 3 (some .int), Cond.constant RX6 73 (1985229328), Cond.methodLink RX6 57 yX6_chain, Cond.static yX6_chain, Cond.code yX6_chain cX6_chain 5 (some .int), Cond.methodLink RX6 95 yX4_join, Cond.instanceMethod yX4_join, Cond.selects RX4 yX4_join yX4_join, Cond.initialized RX4, Cond.code yX4_join cX4_join 3 (some .boolean), Cond.fieldLink RX4 27 "TurnGroups$Tower" "filledCount" "I", Cond.fieldLink RX4 31 "TurnGroups$Tower" "makerCount" "I", Cond.fieldLink RX4 24 "TurnGroups$Tower" "makers" "[I", Cond.methodLink RX4 40 yX4_settle, Cond.instanceMethod yX4_settle, Cond.selects RX4 yX4_settle yX4_settle, Cond.code yX4_settle cX4_settle 6 none, Cond.constant RX4 100 (1985229328), Cond.fieldLink RX4 11 "TurnGroups$Tower" "cells" "[I", Cond.fieldLink RX4 15 "TurnGroups$Tower" "cellsBack" "[I"]
def wsX6_joinThreeCycles_r2 : List Cond := [Cond.fieldLink RX4 18 "TurnGroups$Tower" "reach" "[I", Cond.fieldLink RX4 21 "TurnGroups$Tower" "filled" "[I", Cond.static yX6_image, Cond.code yX6_image cX6_image 2 (some .int), Cond.methodLink RX4 79 yX4_cellOf, Cond.static yX4_cellOf, Cond.code yX4_cellOf cX4_cellOf 2 (some .int), Cond.methodLink RX4 65 yX4_reaches, Cond.instanceMethod yX4_reaches, Cond.selects RX4 yX4_reaches yX4_reaches, Cond.code yX4_reaches cX4_reaches 3 (some .boolean), Cond.static yX6_reverse, Cond.code yX6_reverse cX6_reverse 4 (some .int), Cond.methodLink RX4 44 yX4_spreadFrom, Cond.instanceMethod yX4_spreadFrom, Cond.selects RX4 yX4_spreadFrom yX4_spreadFrom, Cond.code yX4_spreadFrom cX4_spreadFrom 6 none, Cond.methodLink RX4 94 yX4_levelOf, Cond.static yX4_levelOf, Cond.code yX4_levelOf cX4_levelOf 1 (some .int)]
def wsX6_joinThreeCycles : List Cond := .code yX6_joinThreeCycles cX6_joinThreeCycles 3 none :: ((wsX6_joinThreeCycles_r1 ++ wsX6_joinThreeCycles_r2) ++ wsX60 ++ wsX40)
def wsX6_group_r1 : List Cond := [Cond.fieldLink RX6 15 "TurnGroups" "groups" "[LTurnGroups$Tower;", Cond.fieldLink RX6 27 "TurnGroups" "groupCount" "I", Cond.methodLink RX6 78 yX6_isFull, Cond.instanceMethod yX6_isFull, Cond.selects RX6 yX6_isFull yX6_isFull, Cond.initialized RX6, Cond.code yX6_isFull cX6_isFull 1 (some .boolean), Cond.methodLink RX6 82 yX4_clear, Cond.instanceMethod yX4_clear, Cond.selects RX4 yX4_clear yX4_clear, Cond.initialized RX4, Cond.code yX4_clear cX4_clear 2 none, Cond.fieldLink RX4 18 "TurnGroups$Tower" "reach" "[I", Cond.fieldLink RX4 27 "TurnGroups$Tower" "filledCount" "I", Cond.fieldLink RX4 31 "TurnGroups$Tower" "makerCount" "I", Cond.methodLink RX6 85 yX6_joinSwaps, Cond.instanceMethod yX6_joinSwaps, Cond.selects RX6 yX6_joinSwaps yX6_joinSwaps, Cond.code yX6_joinSwaps cX6_joinSwaps 3 none, Cond.fieldLink RX6 156 "TurnGroups" "pointCount" "I", Cond.methodLink RX6 189 yX6_swap, Cond.static yX6_swap, Cond.code yX6_swap cX6_swap 3 (some .int), Cond.constant RX6 73 (1985229328)]
def wsX6_group_r2 : List Cond := [Cond.methodLink RX6 95 yX4_join, Cond.instanceMethod yX4_join, Cond.selects RX4 yX4_join yX4_join, Cond.code yX4_join cX4_join 3 (some .boolean), Cond.fieldLink RX4 24 "TurnGroups$Tower" "makers" "[I", Cond.methodLink RX4 40 yX4_settle, Cond.instanceMethod yX4_settle, Cond.selects RX4 yX4_settle yX4_settle, Cond.code yX4_settle cX4_settle 6 none, Cond.constant RX4 100 (1985229328), Cond.fieldLink RX4 11 "TurnGroups$Tower" "cells" "[I", Cond.fieldLink RX4 15 "TurnGroups$Tower" "cellsBack" "[I", Cond.fieldLink RX4 21 "TurnGroups$Tower" "filled" "[I", Cond.static yX6_image, Cond.code yX6_image cX6_image 2 (some .int), Cond.methodLink RX4 79 yX4_cellOf, Cond.static yX4_cellOf, Cond.code yX4_cellOf cX4_cellOf 2 (some .int), Cond.methodLink RX4 65 yX4_reaches, Cond.instanceMethod yX4_reaches, Cond.selects RX4 yX4_reaches yX4_reaches, Cond.code yX4_reaches cX4_reaches 3 (some .boolean), Cond.static yX6_reverse, Cond.code yX6_reverse cX6_reverse 4 (some .int)]
def wsX6_group_r3 : List Cond := [Cond.static yX6_chain, Cond.code yX6_chain cX6_chain 5 (some .int), Cond.methodLink RX4 44 yX4_spreadFrom, Cond.instanceMethod yX4_spreadFrom, Cond.selects RX4 yX4_spreadFrom yX4_spreadFrom, Cond.code yX4_spreadFrom cX4_spreadFrom 6 none, Cond.methodLink RX4 94 yX4_levelOf, Cond.static yX4_levelOf, Cond.code yX4_levelOf cX4_levelOf 1 (some .int), Cond.methodLink RX6 89 yX6_joinThreeCycles, Cond.instanceMethod yX6_joinThreeCycles, Cond.selects RX6 yX6_joinThreeCycles yX6_joinThreeCycles, Cond.code yX6_joinThreeCycles cX6_joinThreeCycles 3 none, Cond.methodLink RX6 57 yX6_chain]
def wsX6_group : List Cond := .code yX6_group cX6_group 3 (some .int) :: ((wsX6_group_r1 ++ (wsX6_group_r2 ++ wsX6_group_r3)) ++ wsX60 ++ wsX40)
def wsX6_isGroup : List Cond := .code yX6_isGroup cX6_isGroup 2 (some .boolean) :: ([.fieldLink RX6 27 "TurnGroups" "groupCount" "I"] ++ wsX60)
def wsX6_add_r1 : List Cond := [Cond.fieldLink RX6 15 "TurnGroups" "groups" "[LTurnGroups$Tower;", Cond.fieldLink RX6 43 "TurnGroups" "current" "I", Cond.methodLink RX6 92 yX6_isGroup, Cond.instanceMethod yX6_isGroup, Cond.selects RX6 yX6_isGroup yX6_isGroup, Cond.initialized RX6, Cond.code yX6_isGroup cX6_isGroup 2 (some .boolean), Cond.fieldLink RX6 27 "TurnGroups" "groupCount" "I", Cond.methodLink RX6 95 yX4_join, Cond.instanceMethod yX4_join, Cond.selects RX4 yX4_join yX4_join, Cond.initialized RX4, Cond.code yX4_join cX4_join 3 (some .boolean), Cond.fieldLink RX4 27 "TurnGroups$Tower" "filledCount" "I", Cond.fieldLink RX4 31 "TurnGroups$Tower" "makerCount" "I", Cond.fieldLink RX4 24 "TurnGroups$Tower" "makers" "[I", Cond.methodLink RX4 40 yX4_settle, Cond.instanceMethod yX4_settle, Cond.selects RX4 yX4_settle yX4_settle, Cond.code yX4_settle cX4_settle 6 none, Cond.constant RX4 100 (1985229328), Cond.fieldLink RX4 11 "TurnGroups$Tower" "cells" "[I", Cond.fieldLink RX4 15 "TurnGroups$Tower" "cellsBack" "[I", Cond.fieldLink RX4 18 "TurnGroups$Tower" "reach" "[I"]
def wsX6_add_r2 : List Cond := [Cond.fieldLink RX4 21 "TurnGroups$Tower" "filled" "[I", Cond.static yX6_image, Cond.code yX6_image cX6_image 2 (some .int), Cond.methodLink RX4 79 yX4_cellOf, Cond.static yX4_cellOf, Cond.code yX4_cellOf cX4_cellOf 2 (some .int), Cond.methodLink RX4 65 yX4_reaches, Cond.instanceMethod yX4_reaches, Cond.selects RX4 yX4_reaches yX4_reaches, Cond.code yX4_reaches cX4_reaches 3 (some .boolean), Cond.static yX6_reverse, Cond.code yX6_reverse cX6_reverse 4 (some .int), Cond.static yX6_chain, Cond.code yX6_chain cX6_chain 5 (some .int), Cond.methodLink RX4 44 yX4_spreadFrom, Cond.instanceMethod yX4_spreadFrom, Cond.selects RX4 yX4_spreadFrom yX4_spreadFrom, Cond.code yX4_spreadFrom cX4_spreadFrom 6 none, Cond.methodLink RX4 94 yX4_levelOf, Cond.static yX4_levelOf, Cond.code yX4_levelOf cX4_levelOf 1 (some .int), Cond.methodLink RX6 74 yX6_truth, Cond.static yX6_truth, Cond.code yX6_truth cX6_truth 1 (some .int)]
def wsX6_add : List Cond := .code yX6_add cX6_add 2 (some .int) :: ((wsX6_add_r1 ++ wsX6_add_r2) ++ wsX60 ++ wsX40)
def wsX6_of_r1 : List Cond := [Cond.fieldLink RX6 15 "TurnGroups" "groups" "[LTurnGroups$Tower;", Cond.fieldLink RX6 27 "TurnGroups" "groupCount" "I", Cond.classLink RX6 98 RX3, Cond.instantiable RX3 1, Cond.initialized RX3, Cond.methodLink RX6 92 yX6_isGroup, Cond.instanceMethod yX6_isGroup, Cond.selects RX6 yX6_isGroup yX6_isGroup, Cond.initialized RX6, Cond.code yX6_isGroup cX6_isGroup 2 (some .boolean), Cond.methodLink RX6 78 yX6_isFull, Cond.instanceMethod yX6_isFull, Cond.selects RX6 yX6_isFull yX6_isFull, Cond.code yX6_isFull cX6_isFull 1 (some .boolean), Cond.methodLink RX6 100 yX3_init, Cond.instanceMethod yX3_init, Cond.code yX3_init cX3_init 2 none, Cond.fieldLink RX3 7 "TurnGroups$InTower" "tower" "LTurnGroups$Tower;", Cond.instanceMethod yX5_init, Cond.initialized RX5, Cond.code yX5_init cX5_init 1 none, Cond.methodLink RX5 1 objectInit, Cond.instanceMethod objectInit, Cond.code objectInit ⟨#[0xb1]⟩ 1 none]
def wsX6_of_r2 : List Cond := [Cond.methodLink RX6 102 yX4_gather, Cond.instanceMethod yX4_gather, Cond.selects RX4 yX4_gather yX4_gather, Cond.initialized RX4, Cond.code yX4_gather cX4_gather 6 none, Cond.methodLink RX4 55 yX4_clear, Cond.instanceMethod yX4_clear, Cond.selects RX4 yX4_clear yX4_clear, Cond.code yX4_clear cX4_clear 2 none, Cond.fieldLink RX4 18 "TurnGroups$Tower" "reach" "[I", Cond.fieldLink RX4 27 "TurnGroups$Tower" "filledCount" "I", Cond.fieldLink RX4 31 "TurnGroups$Tower" "makerCount" "I", Cond.methodLink RX4 65 yX4_reaches, Cond.instanceMethod yX4_reaches, Cond.selects RX4 yX4_reaches yX4_reaches, Cond.code yX4_reaches cX4_reaches 3 (some .boolean), Cond.methodLink RX4 69 yX4_searchCell, Cond.instanceMethod yX4_searchCell, Cond.selects RX4 yX4_searchCell yX4_searchCell, Cond.code yX4_searchCell cX4_searchCell 5 (some .int), Cond.fieldLink RX4 11 "TurnGroups$Tower" "cells" "[I", Cond.methodLink RX4 79 yX4_cellOf, Cond.static yX4_cellOf, Cond.code yX4_cellOf cX4_cellOf 2 (some .int)]
def wsX6_of_r3 : List Cond := [Cond.methodLink RX4 126 ⟨"TurnGroups$Wish", "fits", "(II)Z"⟩, Cond.sameMethod "TurnGroups$Wish" "TurnGroups$Wish" "fits" "(II)Z", Cond.selects RX0 ⟨"TurnGroups$Wish", "fits", "(II)Z"⟩ yX0_fits, Cond.instanceMethod yX0_fits, Cond.initialized RX0, Cond.code yX0_fits cX0_fits 3 (some .boolean), Cond.fieldLink RX0 7 "TurnGroups$CarriesSet" "from" "I", Cond.fieldLink RX0 13 "TurnGroups$CarriesSet" "onto" "I", Cond.static yX6_image, Cond.code yX6_image cX6_image 2 (some .int), Cond.selects RX1 ⟨"TurnGroups$Wish", "fits", "(II)Z"⟩ yX1_fits, Cond.instanceMethod yX1_fits, Cond.initialized RX1, Cond.code yX1_fits cX1_fits 4 (some .boolean), Cond.fieldLink RX1 7 "TurnGroups$Commutes" "tower" "LTurnGroups$Tower;", Cond.methodLink RX1 23 yX1_agree, Cond.static yX1_agree, Cond.code yX1_agree cX1_agree 5 (some .boolean), Cond.selects RX2 ⟨"TurnGroups$Wish", "fits", "(II)Z"⟩ yX2_fits, Cond.instanceMethod yX2_fits, Cond.initialized RX2, Cond.code yX2_fits cX2_fits 4 (some .boolean), Cond.fieldLink RX2 7 "TurnGroups$FixesSet" "set" "I", Cond.selects RX3 ⟨"TurnGroups$Wish", "fits", "(II)Z"⟩ yX3_fits]
def wsX6_of_r4 : List Cond := [Cond.instanceMethod yX3_fits, Cond.code yX3_fits cX3_fits 3 (some .boolean), Cond.methodLink RX3 13 yX4_holdsStart, Cond.instanceMethod yX4_holdsStart, Cond.selects RX4 yX4_holdsStart yX4_holdsStart, Cond.code yX4_holdsStart cX4_holdsStart 6 (some .boolean), Cond.fieldLink RX4 15 "TurnGroups$Tower" "cellsBack" "[I", Cond.static yX6_chain, Cond.code yX6_chain cX6_chain 5 (some .int), Cond.methodLink RX4 120 yX4_search, Cond.instanceMethod yX4_search, Cond.selects RX4 yX4_search yX4_search, Cond.code yX4_search cX4_search 9 (some .int), Cond.static yX6_reverse, Cond.code yX6_reverse cX6_reverse 4 (some .int), Cond.methodLink RX4 131 yX4_step, Cond.instanceMethod yX4_step, Cond.selects RX4 yX4_step yX4_step, Cond.code yX4_step cX4_step 4 (some .int), Cond.methodLink RX4 47 yX4_join, Cond.instanceMethod yX4_join, Cond.selects RX4 yX4_join yX4_join, Cond.code yX4_join cX4_join 3 (some .boolean), Cond.fieldLink RX4 24 "TurnGroups$Tower" "makers" "[I"]
def wsX6_of_r5 : List Cond := [Cond.methodLink RX4 40 yX4_settle, Cond.instanceMethod yX4_settle, Cond.selects RX4 yX4_settle yX4_settle, Cond.code yX4_settle cX4_settle 6 none, Cond.constant RX4 100 (1985229328), Cond.fieldLink RX4 21 "TurnGroups$Tower" "filled" "[I", Cond.methodLink RX4 44 yX4_spreadFrom, Cond.instanceMethod yX4_spreadFrom, Cond.selects RX4 yX4_spreadFrom yX4_spreadFrom, Cond.code yX4_spreadFrom cX4_spreadFrom 6 none, Cond.methodLink RX4 94 yX4_levelOf, Cond.static yX4_levelOf, Cond.code yX4_levelOf cX4_levelOf 1 (some .int), Cond.methodLink RX6 106 yX4_copyFrom, Cond.instanceMethod yX4_copyFrom, Cond.selects RX4 yX4_copyFrom yX4_copyFrom, Cond.code yX4_copyFrom cX4_copyFrom 2 none, Cond.methodLink RX4 34 arraycopyName, Cond.native arraycopyName, Cond.static arraycopyName, Cond.initialized "java/lang/System", Cond.methodLink RX6 109 yX4_joinAll, Cond.instanceMethod yX4_joinAll, Cond.selects RX4 yX4_joinAll yX4_joinAll]
def wsX6_of_r6 : List Cond := [Cond.code yX4_joinAll cX4_joinAll 3 none, Cond.methodLink RX6 112 yX4_closeUnder, Cond.instanceMethod yX4_closeUnder, Cond.selects RX4 yX4_closeUnder yX4_closeUnder, Cond.code yX4_closeUnder cX4_closeUnder 4 none, Cond.static yX6_carried, Cond.code yX6_carried cX6_carried 2 (some .int), Cond.methodLink RX6 64 yX6_reverse, Cond.methodLink RX6 57 yX6_chain]
def wsX6_of : List Cond := .code yX6_of cX6_of 5 (some .int) :: ((wsX6_of_r1 ++ (wsX6_of_r2 ++ (wsX6_of_r3 ++ (wsX6_of_r4 ++ (wsX6_of_r5 ++ wsX6_of_r6))))) ++ wsX60 ++ wsX30 ++ wsX40 ++ wsX00 ++ wsX10 ++ wsX20)
def wsX6_isSet : List Cond := .code yX6_isSet cX6_isSet 2 (some .boolean) :: ([.fieldLink RX6 156 "TurnGroups" "pointCount" "I"] ++ wsX60)
def wsX6_by_r1 : List Cond := [Cond.classLink RX6 118 RX2, Cond.instantiable RX2 1, Cond.initialized RX2, Cond.classLink RX6 122 RX0, Cond.instantiable RX0 2, Cond.initialized RX0, Cond.fieldLink RX6 15 "TurnGroups" "groups" "[LTurnGroups$Tower;", Cond.fieldLink RX6 27 "TurnGroups" "groupCount" "I", Cond.methodLink RX6 92 yX6_isGroup, Cond.instanceMethod yX6_isGroup, Cond.selects RX6 yX6_isGroup yX6_isGroup, Cond.initialized RX6, Cond.code yX6_isGroup cX6_isGroup 2 (some .boolean), Cond.methodLink RX6 115 yX6_isSet, Cond.instanceMethod yX6_isSet, Cond.selects RX6 yX6_isSet yX6_isSet, Cond.code yX6_isSet cX6_isSet 2 (some .boolean), Cond.fieldLink RX6 156 "TurnGroups" "pointCount" "I", Cond.methodLink RX6 78 yX6_isFull, Cond.instanceMethod yX6_isFull, Cond.selects RX6 yX6_isFull yX6_isFull, Cond.code yX6_isFull cX6_isFull 1 (some .boolean), Cond.methodLink RX6 120 yX2_init, Cond.instanceMethod yX2_init]
def wsX6_by_r2 : List Cond := [Cond.code yX2_init cX2_init 2 none, Cond.fieldLink RX2 7 "TurnGroups$FixesSet" "set" "I", Cond.instanceMethod yX5_init, Cond.initialized RX5, Cond.code yX5_init cX5_init 1 none, Cond.methodLink RX5 1 objectInit, Cond.instanceMethod objectInit, Cond.code objectInit ⟨#[0xb1]⟩ 1 none, Cond.methodLink RX6 124 yX0_init, Cond.instanceMethod yX0_init, Cond.code yX0_init cX0_init 3 none, Cond.fieldLink RX0 7 "TurnGroups$CarriesSet" "from" "I", Cond.fieldLink RX0 13 "TurnGroups$CarriesSet" "onto" "I", Cond.methodLink RX6 102 yX4_gather, Cond.instanceMethod yX4_gather, Cond.selects RX4 yX4_gather yX4_gather, Cond.initialized RX4, Cond.code yX4_gather cX4_gather 6 none, Cond.methodLink RX4 55 yX4_clear, Cond.instanceMethod yX4_clear, Cond.selects RX4 yX4_clear yX4_clear, Cond.code yX4_clear cX4_clear 2 none, Cond.fieldLink RX4 18 "TurnGroups$Tower" "reach" "[I", Cond.fieldLink RX4 27 "TurnGroups$Tower" "filledCount" "I"]
def wsX6_by_r3 : List Cond := [Cond.fieldLink RX4 31 "TurnGroups$Tower" "makerCount" "I", Cond.methodLink RX4 65 yX4_reaches, Cond.instanceMethod yX4_reaches, Cond.selects RX4 yX4_reaches yX4_reaches, Cond.code yX4_reaches cX4_reaches 3 (some .boolean), Cond.methodLink RX4 69 yX4_searchCell, Cond.instanceMethod yX4_searchCell, Cond.selects RX4 yX4_searchCell yX4_searchCell, Cond.code yX4_searchCell cX4_searchCell 5 (some .int), Cond.fieldLink RX4 11 "TurnGroups$Tower" "cells" "[I", Cond.methodLink RX4 79 yX4_cellOf, Cond.static yX4_cellOf, Cond.code yX4_cellOf cX4_cellOf 2 (some .int), Cond.methodLink RX4 126 ⟨"TurnGroups$Wish", "fits", "(II)Z"⟩, Cond.sameMethod "TurnGroups$Wish" "TurnGroups$Wish" "fits" "(II)Z", Cond.selects RX0 ⟨"TurnGroups$Wish", "fits", "(II)Z"⟩ yX0_fits, Cond.instanceMethod yX0_fits, Cond.code yX0_fits cX0_fits 3 (some .boolean), Cond.static yX6_image, Cond.code yX6_image cX6_image 2 (some .int), Cond.selects RX1 ⟨"TurnGroups$Wish", "fits", "(II)Z"⟩ yX1_fits, Cond.instanceMethod yX1_fits, Cond.initialized RX1, Cond.code yX1_fits cX1_fits 4 (some .boolean)]
def wsX6_by_r4 : List Cond := [Cond.fieldLink RX1 7 "TurnGroups$Commutes" "tower" "LTurnGroups$Tower;", Cond.methodLink RX1 23 yX1_agree, Cond.static yX1_agree, Cond.code yX1_agree cX1_agree 5 (some .boolean), Cond.selects RX2 ⟨"TurnGroups$Wish", "fits", "(II)Z"⟩ yX2_fits, Cond.instanceMethod yX2_fits, Cond.code yX2_fits cX2_fits 4 (some .boolean), Cond.selects RX3 ⟨"TurnGroups$Wish", "fits", "(II)Z"⟩ yX3_fits, Cond.instanceMethod yX3_fits, Cond.initialized RX3, Cond.code yX3_fits cX3_fits 3 (some .boolean), Cond.fieldLink RX3 7 "TurnGroups$InTower" "tower" "LTurnGroups$Tower;", Cond.methodLink RX3 13 yX4_holdsStart, Cond.instanceMethod yX4_holdsStart, Cond.selects RX4 yX4_holdsStart yX4_holdsStart, Cond.code yX4_holdsStart cX4_holdsStart 6 (some .boolean), Cond.fieldLink RX4 15 "TurnGroups$Tower" "cellsBack" "[I", Cond.static yX6_chain, Cond.code yX6_chain cX6_chain 5 (some .int), Cond.methodLink RX4 120 yX4_search, Cond.instanceMethod yX4_search, Cond.selects RX4 yX4_search yX4_search, Cond.code yX4_search cX4_search 9 (some .int), Cond.static yX6_reverse]
def wsX6_by_r5 : List Cond := [Cond.code yX6_reverse cX6_reverse 4 (some .int), Cond.methodLink RX4 131 yX4_step, Cond.instanceMethod yX4_step, Cond.selects RX4 yX4_step yX4_step, Cond.code yX4_step cX4_step 4 (some .int), Cond.methodLink RX4 47 yX4_join, Cond.instanceMethod yX4_join, Cond.selects RX4 yX4_join yX4_join, Cond.code yX4_join cX4_join 3 (some .boolean), Cond.fieldLink RX4 24 "TurnGroups$Tower" "makers" "[I", Cond.methodLink RX4 40 yX4_settle, Cond.instanceMethod yX4_settle, Cond.selects RX4 yX4_settle yX4_settle, Cond.code yX4_settle cX4_settle 6 none, Cond.constant RX4 100 (1985229328), Cond.fieldLink RX4 21 "TurnGroups$Tower" "filled" "[I", Cond.methodLink RX4 44 yX4_spreadFrom, Cond.instanceMethod yX4_spreadFrom, Cond.selects RX4 yX4_spreadFrom yX4_spreadFrom, Cond.code yX4_spreadFrom cX4_spreadFrom 6 none, Cond.methodLink RX4 94 yX4_levelOf, Cond.static yX4_levelOf, Cond.code yX4_levelOf cX4_levelOf 1 (some .int)]
def wsX6_by : List Cond := .code yX6_by cX6_by 5 (some .int) :: ((wsX6_by_r1 ++ (wsX6_by_r2 ++ (wsX6_by_r3 ++ (wsX6_by_r4 ++ wsX6_by_r5)))) ++ wsX20 ++ wsX00 ++ wsX60 ++ wsX40 ++ wsX10 ++ wsX30)
def wsX6_made_r1 : List Cond := [Cond.fieldLink RX6 15 "TurnGroups" "groups" "[LTurnGroups$Tower;", Cond.fieldLink RX6 27 "TurnGroups" "groupCount" "I", Cond.fieldLink RX6 19 "TurnGroups" "spare" "[LTurnGroups$Tower;", Cond.fieldLink RX6 43 "TurnGroups" "current" "I", Cond.classLink RX6 127 RX1, Cond.instantiable RX1 1, Cond.initialized RX1, Cond.methodLink RX6 92 yX6_isGroup, Cond.instanceMethod yX6_isGroup, Cond.selects RX6 yX6_isGroup yX6_isGroup, Cond.initialized RX6, Cond.code yX6_isGroup cX6_isGroup 2 (some .boolean), Cond.methodLink RX6 78 yX6_isFull, Cond.instanceMethod yX6_isFull, Cond.selects RX6 yX6_isFull yX6_isFull, Cond.code yX6_isFull cX6_isFull 1 (some .boolean), Cond.methodLink RX6 82 yX4_clear, Cond.instanceMethod yX4_clear, Cond.selects RX4 yX4_clear yX4_clear, Cond.initialized RX4, Cond.code yX4_clear cX4_clear 2 none, Cond.fieldLink RX4 18 "TurnGroups$Tower" "reach" "[I", Cond.fieldLink RX4 27 "TurnGroups$Tower" "filledCount" "I", Cond.fieldLink RX4 31 "TurnGroups$Tower" "makerCount" "I"]
def wsX6_made_r2 : List Cond := [Cond.methodLink RX6 95 yX4_join, Cond.instanceMethod yX4_join, Cond.selects RX4 yX4_join yX4_join, Cond.code yX4_join cX4_join 3 (some .boolean), Cond.fieldLink RX4 24 "TurnGroups$Tower" "makers" "[I", Cond.methodLink RX4 40 yX4_settle, Cond.instanceMethod yX4_settle, Cond.selects RX4 yX4_settle yX4_settle, Cond.code yX4_settle cX4_settle 6 none, Cond.constant RX4 100 (1985229328), Cond.fieldLink RX4 11 "TurnGroups$Tower" "cells" "[I", Cond.fieldLink RX4 15 "TurnGroups$Tower" "cellsBack" "[I", Cond.fieldLink RX4 21 "TurnGroups$Tower" "filled" "[I", Cond.static yX6_image, Cond.code yX6_image cX6_image 2 (some .int), Cond.methodLink RX4 79 yX4_cellOf, Cond.static yX4_cellOf, Cond.code yX4_cellOf cX4_cellOf 2 (some .int), Cond.methodLink RX4 65 yX4_reaches, Cond.instanceMethod yX4_reaches, Cond.selects RX4 yX4_reaches yX4_reaches, Cond.code yX4_reaches cX4_reaches 3 (some .boolean), Cond.static yX6_reverse, Cond.code yX6_reverse cX6_reverse 4 (some .int)]
def wsX6_made_r3 : List Cond := [Cond.static yX6_chain, Cond.code yX6_chain cX6_chain 5 (some .int), Cond.methodLink RX4 44 yX4_spreadFrom, Cond.instanceMethod yX4_spreadFrom, Cond.selects RX4 yX4_spreadFrom yX4_spreadFrom, Cond.code yX4_spreadFrom cX4_spreadFrom 6 none, Cond.methodLink RX4 94 yX4_levelOf, Cond.static yX4_levelOf, Cond.code yX4_levelOf cX4_levelOf 1 (some .int), Cond.methodLink RX6 129 yX1_init, Cond.instanceMethod yX1_init, Cond.code yX1_init cX1_init 2 none, Cond.fieldLink RX1 7 "TurnGroups$Commutes" "tower" "LTurnGroups$Tower;", Cond.instanceMethod yX5_init, Cond.initialized RX5, Cond.code yX5_init cX5_init 1 none, Cond.methodLink RX5 1 objectInit, Cond.instanceMethod objectInit, Cond.code objectInit ⟨#[0xb1]⟩ 1 none, Cond.methodLink RX6 102 yX4_gather, Cond.instanceMethod yX4_gather, Cond.selects RX4 yX4_gather yX4_gather, Cond.code yX4_gather cX4_gather 6 none, Cond.methodLink RX4 55 yX4_clear]
def wsX6_made_r4 : List Cond := [Cond.methodLink RX4 69 yX4_searchCell, Cond.instanceMethod yX4_searchCell, Cond.selects RX4 yX4_searchCell yX4_searchCell, Cond.code yX4_searchCell cX4_searchCell 5 (some .int), Cond.methodLink RX4 126 ⟨"TurnGroups$Wish", "fits", "(II)Z"⟩, Cond.sameMethod "TurnGroups$Wish" "TurnGroups$Wish" "fits" "(II)Z", Cond.selects RX0 ⟨"TurnGroups$Wish", "fits", "(II)Z"⟩ yX0_fits, Cond.instanceMethod yX0_fits, Cond.initialized RX0, Cond.code yX0_fits cX0_fits 3 (some .boolean), Cond.fieldLink RX0 7 "TurnGroups$CarriesSet" "from" "I", Cond.fieldLink RX0 13 "TurnGroups$CarriesSet" "onto" "I", Cond.selects RX1 ⟨"TurnGroups$Wish", "fits", "(II)Z"⟩ yX1_fits, Cond.instanceMethod yX1_fits, Cond.code yX1_fits cX1_fits 4 (some .boolean), Cond.methodLink RX1 23 yX1_agree, Cond.static yX1_agree, Cond.code yX1_agree cX1_agree 5 (some .boolean), Cond.selects RX2 ⟨"TurnGroups$Wish", "fits", "(II)Z"⟩ yX2_fits, Cond.instanceMethod yX2_fits, Cond.initialized RX2, Cond.code yX2_fits cX2_fits 4 (some .boolean), Cond.fieldLink RX2 7 "TurnGroups$FixesSet" "set" "I", Cond.selects RX3 ⟨"TurnGroups$Wish", "fits", "(II)Z"⟩ yX3_fits]
def wsX6_made_r5 : List Cond := [Cond.instanceMethod yX3_fits, Cond.initialized RX3, Cond.code yX3_fits cX3_fits 3 (some .boolean), Cond.fieldLink RX3 7 "TurnGroups$InTower" "tower" "LTurnGroups$Tower;", Cond.methodLink RX3 13 yX4_holdsStart, Cond.instanceMethod yX4_holdsStart, Cond.selects RX4 yX4_holdsStart yX4_holdsStart, Cond.code yX4_holdsStart cX4_holdsStart 6 (some .boolean), Cond.methodLink RX4 120 yX4_search, Cond.instanceMethod yX4_search, Cond.selects RX4 yX4_search yX4_search, Cond.code yX4_search cX4_search 9 (some .int), Cond.methodLink RX4 131 yX4_step, Cond.instanceMethod yX4_step, Cond.selects RX4 yX4_step yX4_step, Cond.code yX4_step cX4_step 4 (some .int), Cond.methodLink RX4 47 yX4_join, Cond.methodLink RX6 130 yX4_becomeCarried, Cond.instanceMethod yX4_becomeCarried, Cond.selects RX4 yX4_becomeCarried yX4_becomeCarried, Cond.code yX4_becomeCarried cX4_becomeCarried 4 none, Cond.static yX6_carried, Cond.code yX6_carried cX6_carried 2 (some .int), Cond.methodLink RX6 64 yX6_reverse]
def wsX6_made_r6 : List Cond := [Cond.methodLink RX6 57 yX6_chain, Cond.methodLink RX6 134 yX4_becomeDown, Cond.instanceMethod yX4_becomeDown, Cond.selects RX4 yX4_becomeDown yX4_becomeDown, Cond.code yX4_becomeDown cX4_becomeDown 4 none, Cond.static yX6_commutator, Cond.code yX6_commutator cX6_commutator 2 (some .int), Cond.methodLink RX4 61 yX4_closeUnder, Cond.instanceMethod yX4_closeUnder, Cond.selects RX4 yX4_closeUnder yX4_closeUnder, Cond.code yX4_closeUnder cX4_closeUnder 4 none]
def wsX6_made : List Cond := .code yX6_made cX6_made 4 (some .int) :: ((wsX6_made_r1 ++ (wsX6_made_r2 ++ (wsX6_made_r3 ++ (wsX6_made_r4 ++ (wsX6_made_r5 ++ wsX6_made_r6))))) ++ wsX60 ++ wsX10 ++ wsX40 ++ wsX00 ++ wsX20 ++ wsX30)
def wsX6_undo : List Cond := .code yX6_undo cX6_undo 1 (some .int) :: ([.fieldLink RX6 27 "TurnGroups" "groupCount" "I"] ++ wsX60)
def wsX6_size : List Cond := .code yX6_size cX6_size 2 (some .int) :: ([.fieldLink RX6 15 "TurnGroups" "groups" "[LTurnGroups$Tower;", .methodLink RX6 92 yX6_isGroup, .instanceMethod yX6_isGroup, .selects RX6 yX6_isGroup yX6_isGroup, .initialized RX6, .code yX6_isGroup cX6_isGroup 2 (some .boolean), .fieldLink RX6 27 "TurnGroups" "groupCount" "I", .methodLink RX6 137 yX4_turnsFrom, .instanceMethod yX4_turnsFrom, .selects RX4 yX4_turnsFrom yX4_turnsFrom, .initialized RX4, .code yX4_turnsFrom cX4_turnsFrom 4 (some .int), .fieldLink RX4 18 "TurnGroups$Tower" "reach" "[I", .methodLink RX4 88 yJ6_bitCount_0f7a4, .static yJ6_bitCount_0f7a4, .initialized RJ6, .code yJ6_bitCount_0f7a4 cJ6_bitCount_0f7a4 1 (some .int), .constant RJ6 265 (1431655765), .constant RJ6 266 (858993459), .constant RJ6 267 (252645135)] ++ wsX60 ++ wsX40)
def wsX6_has_r1 : List Cond := [Cond.fieldLink RX6 15 "TurnGroups" "groups" "[LTurnGroups$Tower;", Cond.fieldLink RX6 43 "TurnGroups" "current" "I", Cond.methodLink RX6 92 yX6_isGroup, Cond.instanceMethod yX6_isGroup, Cond.selects RX6 yX6_isGroup yX6_isGroup, Cond.initialized RX6, Cond.code yX6_isGroup cX6_isGroup 2 (some .boolean), Cond.fieldLink RX6 27 "TurnGroups" "groupCount" "I", Cond.methodLink RX6 140 yX4_holds, Cond.instanceMethod yX4_holds, Cond.selects RX4 yX4_holds yX4_holds, Cond.initialized RX4, Cond.code yX4_holds cX4_holds 2 (some .boolean), Cond.methodLink RX4 73 yX4_holdsStart, Cond.instanceMethod yX4_holdsStart, Cond.selects RX4 yX4_holdsStart yX4_holdsStart, Cond.code yX4_holdsStart cX4_holdsStart 6 (some .boolean), Cond.fieldLink RX4 15 "TurnGroups$Tower" "cellsBack" "[I", Cond.static yX6_image, Cond.code yX6_image cX6_image 2 (some .int), Cond.methodLink RX4 65 yX4_reaches, Cond.instanceMethod yX4_reaches, Cond.selects RX4 yX4_reaches yX4_reaches, Cond.code yX4_reaches cX4_reaches 3 (some .boolean)]
def wsX6_has_r2 : List Cond := [Cond.fieldLink RX4 18 "TurnGroups$Tower" "reach" "[I", Cond.methodLink RX4 79 yX4_cellOf, Cond.static yX4_cellOf, Cond.code yX4_cellOf cX4_cellOf 2 (some .int), Cond.static yX6_chain, Cond.code yX6_chain cX6_chain 5 (some .int), Cond.methodLink RX6 74 yX6_truth, Cond.static yX6_truth, Cond.code yX6_truth cX6_truth 1 (some .int)]
def wsX6_has : List Cond := .code yX6_has cX6_has 2 (some .int) :: ((wsX6_has_r1 ++ wsX6_has_r2) ++ wsX60 ++ wsX40)
def wsX6_is_r1 : List Cond := [Cond.fieldLink RX6 15 "TurnGroups" "groups" "[LTurnGroups$Tower;", Cond.methodLink RX6 92 yX6_isGroup, Cond.instanceMethod yX6_isGroup, Cond.selects RX6 yX6_isGroup yX6_isGroup, Cond.initialized RX6, Cond.code yX6_isGroup cX6_isGroup 2 (some .boolean), Cond.fieldLink RX6 27 "TurnGroups" "groupCount" "I", Cond.methodLink RX6 143 yX4_isWithin, Cond.instanceMethod yX4_isWithin, Cond.selects RX4 yX4_isWithin yX4_isWithin, Cond.initialized RX4, Cond.code yX4_isWithin cX4_isWithin 3 (some .boolean), Cond.fieldLink RX4 31 "TurnGroups$Tower" "makerCount" "I", Cond.fieldLink RX4 24 "TurnGroups$Tower" "makers" "[I", Cond.methodLink RX4 85 yX4_holds, Cond.instanceMethod yX4_holds, Cond.selects RX4 yX4_holds yX4_holds, Cond.code yX4_holds cX4_holds 2 (some .boolean), Cond.methodLink RX4 73 yX4_holdsStart, Cond.instanceMethod yX4_holdsStart, Cond.selects RX4 yX4_holdsStart yX4_holdsStart, Cond.code yX4_holdsStart cX4_holdsStart 6 (some .boolean), Cond.fieldLink RX4 15 "TurnGroups$Tower" "cellsBack" "[I", Cond.static yX6_image]
def wsX6_is_r2 : List Cond := [Cond.code yX6_image cX6_image 2 (some .int), Cond.methodLink RX4 65 yX4_reaches, Cond.instanceMethod yX4_reaches, Cond.selects RX4 yX4_reaches yX4_reaches, Cond.code yX4_reaches cX4_reaches 3 (some .boolean), Cond.fieldLink RX4 18 "TurnGroups$Tower" "reach" "[I", Cond.methodLink RX4 79 yX4_cellOf, Cond.static yX4_cellOf, Cond.code yX4_cellOf cX4_cellOf 2 (some .int), Cond.static yX6_chain, Cond.code yX6_chain cX6_chain 5 (some .int), Cond.methodLink RX6 147 yX4_staysUnder, Cond.instanceMethod yX4_staysUnder, Cond.selects RX4 yX4_staysUnder yX4_staysUnder, Cond.code yX4_staysUnder cX4_staysUnder 4 (some .boolean), Cond.static yX6_carried, Cond.code yX6_carried cX6_carried 2 (some .int), Cond.methodLink RX6 64 yX6_reverse, Cond.static yX6_reverse, Cond.code yX6_reverse cX6_reverse 4 (some .int), Cond.methodLink RX6 57 yX6_chain, Cond.methodLink RX6 74 yX6_truth, Cond.static yX6_truth, Cond.code yX6_truth cX6_truth 1 (some .int)]
def wsX6_is_r3 : List Cond := [Cond.methodLink RX6 137 yX4_turnsFrom, Cond.instanceMethod yX4_turnsFrom, Cond.selects RX4 yX4_turnsFrom yX4_turnsFrom, Cond.code yX4_turnsFrom cX4_turnsFrom 4 (some .int), Cond.methodLink RX4 88 yJ6_bitCount_0f7a4, Cond.static yJ6_bitCount_0f7a4, Cond.initialized RJ6, Cond.code yJ6_bitCount_0f7a4 cJ6_bitCount_0f7a4 1 (some .int), Cond.constant RJ6 265 (1431655765), Cond.constant RJ6 266 (858993459), Cond.constant RJ6 267 (252645135)]
def wsX6_is : List Cond := .code yX6_is cX6_is 4 (some .int) :: ((wsX6_is_r1 ++ (wsX6_is_r2 ++ wsX6_is_r3)) ++ wsX60 ++ wsX40)
def wsX6_orbit_r1 : List Cond := [Cond.fieldLink RX6 15 "TurnGroups" "groups" "[LTurnGroups$Tower;", Cond.methodLink RX6 92 yX6_isGroup, Cond.instanceMethod yX6_isGroup, Cond.selects RX6 yX6_isGroup yX6_isGroup, Cond.initialized RX6, Cond.code yX6_isGroup cX6_isGroup 2 (some .boolean), Cond.fieldLink RX6 27 "TurnGroups" "groupCount" "I", Cond.methodLink RX6 46 yX6_isPoint, Cond.instanceMethod yX6_isPoint, Cond.selects RX6 yX6_isPoint yX6_isPoint, Cond.code yX6_isPoint cX6_isPoint 2 (some .boolean), Cond.fieldLink RX6 156 "TurnGroups" "pointCount" "I", Cond.methodLink RX6 150 yX4_orbitFrom, Cond.instanceMethod yX4_orbitFrom, Cond.selects RX4 yX4_orbitFrom yX4_orbitFrom, Cond.initialized RX4, Cond.code yX4_orbitFrom cX4_orbitFrom 7 (some .int), Cond.fieldLink RX4 27 "TurnGroups$Tower" "filledCount" "I", Cond.fieldLink RX4 21 "TurnGroups$Tower" "filled" "[I", Cond.fieldLink RX4 11 "TurnGroups$Tower" "cells" "[I", Cond.methodLink RX4 94 yX4_levelOf, Cond.static yX4_levelOf, Cond.code yX4_levelOf cX4_levelOf 1 (some .int), Cond.methodLink RX4 97 yX4_imageOfSet]
def wsX6_orbit_r2 : List Cond := [Cond.static yX4_imageOfSet, Cond.code yX4_imageOfSet cX4_imageOfSet 4 (some .int), Cond.static yX6_image, Cond.code yX6_image cX6_image 2 (some .int)]
def wsX6_orbit : List Cond := .code yX6_orbit cX6_orbit 3 (some .int) :: ((wsX6_orbit_r1 ++ wsX6_orbit_r2) ++ wsX60 ++ wsX40)
def wsX6_block_r1 : List Cond := [Cond.fieldLink RX6 15 "TurnGroups" "groups" "[LTurnGroups$Tower;", Cond.methodLink RX6 92 yX6_isGroup, Cond.instanceMethod yX6_isGroup, Cond.selects RX6 yX6_isGroup yX6_isGroup, Cond.initialized RX6, Cond.code yX6_isGroup cX6_isGroup 2 (some .boolean), Cond.fieldLink RX6 27 "TurnGroups" "groupCount" "I", Cond.methodLink RX6 46 yX6_isPoint, Cond.instanceMethod yX6_isPoint, Cond.selects RX6 yX6_isPoint yX6_isPoint, Cond.code yX6_isPoint cX6_isPoint 2 (some .boolean), Cond.fieldLink RX6 156 "TurnGroups" "pointCount" "I", Cond.methodLink RX6 153 yX4_blockOf, Cond.instanceMethod yX4_blockOf, Cond.selects RX4 yX4_blockOf yX4_blockOf, Cond.initialized RX4, Cond.code yX4_blockOf cX4_blockOf 6 (some .int), Cond.constant RX4 100 (1985229328), Cond.fieldLink RX4 31 "TurnGroups$Tower" "makerCount" "I", Cond.fieldLink RX4 24 "TurnGroups$Tower" "makers" "[I", Cond.methodLink RX4 101 yX4_merge, Cond.static yX4_merge, Cond.code yX4_merge cX4_merge 7 (some .int), Cond.static yX6_image]
def wsX6_block_r2 : List Cond := [Cond.code yX6_image cX6_image 2 (some .int), Cond.methodLink RX4 105 yX4_mergeImages, Cond.static yX4_mergeImages, Cond.code yX4_mergeImages cX4_mergeImages 4 (some .int)]
def wsX6_block : List Cond := .code yX6_block cX6_block 4 (some .int) :: ((wsX6_block_r1 ++ wsX6_block_r2) ++ wsX60 ++ wsX40)
def wsX6_steps_r1 : List Cond := [Cond.fieldLink RX6 15 "TurnGroups" "groups" "[LTurnGroups$Tower;", Cond.fieldLink RX6 19 "TurnGroups" "spare" "[LTurnGroups$Tower;", Cond.methodLink RX6 92 yX6_isGroup, Cond.instanceMethod yX6_isGroup, Cond.selects RX6 yX6_isGroup yX6_isGroup, Cond.initialized RX6, Cond.code yX6_isGroup cX6_isGroup 2 (some .boolean), Cond.fieldLink RX6 27 "TurnGroups" "groupCount" "I", Cond.methodLink RX6 137 yX4_turnsFrom, Cond.instanceMethod yX4_turnsFrom, Cond.selects RX4 yX4_turnsFrom yX4_turnsFrom, Cond.initialized RX4, Cond.code yX4_turnsFrom cX4_turnsFrom 4 (some .int), Cond.fieldLink RX4 18 "TurnGroups$Tower" "reach" "[I", Cond.methodLink RX4 88 yJ6_bitCount_0f7a4, Cond.static yJ6_bitCount_0f7a4, Cond.initialized RJ6, Cond.code yJ6_bitCount_0f7a4 cJ6_bitCount_0f7a4 1 (some .int), Cond.constant RJ6 265 (1431655765), Cond.constant RJ6 266 (858993459), Cond.constant RJ6 267 (252645135), Cond.methodLink RX6 134 yX4_becomeDown, Cond.instanceMethod yX4_becomeDown, Cond.selects RX4 yX4_becomeDown yX4_becomeDown]
def wsX6_steps_r2 : List Cond := [Cond.code yX4_becomeDown cX4_becomeDown 4 none, Cond.fieldLink RX4 31 "TurnGroups$Tower" "makerCount" "I", Cond.fieldLink RX4 24 "TurnGroups$Tower" "makers" "[I", Cond.methodLink RX4 55 yX4_clear, Cond.instanceMethod yX4_clear, Cond.selects RX4 yX4_clear yX4_clear, Cond.code yX4_clear cX4_clear 2 none, Cond.fieldLink RX4 27 "TurnGroups$Tower" "filledCount" "I", Cond.static yX6_commutator, Cond.code yX6_commutator cX6_commutator 2 (some .int), Cond.methodLink RX6 64 yX6_reverse, Cond.static yX6_reverse, Cond.code yX6_reverse cX6_reverse 4 (some .int), Cond.methodLink RX6 57 yX6_chain, Cond.static yX6_chain, Cond.code yX6_chain cX6_chain 5 (some .int), Cond.methodLink RX4 47 yX4_join, Cond.instanceMethod yX4_join, Cond.selects RX4 yX4_join yX4_join, Cond.code yX4_join cX4_join 3 (some .boolean), Cond.methodLink RX4 40 yX4_settle, Cond.instanceMethod yX4_settle, Cond.selects RX4 yX4_settle yX4_settle, Cond.code yX4_settle cX4_settle 6 none]
def wsX6_steps_r3 : List Cond := [Cond.constant RX4 100 (1985229328), Cond.fieldLink RX4 11 "TurnGroups$Tower" "cells" "[I", Cond.fieldLink RX4 15 "TurnGroups$Tower" "cellsBack" "[I", Cond.fieldLink RX4 21 "TurnGroups$Tower" "filled" "[I", Cond.static yX6_image, Cond.code yX6_image cX6_image 2 (some .int), Cond.methodLink RX4 79 yX4_cellOf, Cond.static yX4_cellOf, Cond.code yX4_cellOf cX4_cellOf 2 (some .int), Cond.methodLink RX4 65 yX4_reaches, Cond.instanceMethod yX4_reaches, Cond.selects RX4 yX4_reaches yX4_reaches, Cond.code yX4_reaches cX4_reaches 3 (some .boolean), Cond.methodLink RX4 44 yX4_spreadFrom, Cond.instanceMethod yX4_spreadFrom, Cond.selects RX4 yX4_spreadFrom yX4_spreadFrom, Cond.code yX4_spreadFrom cX4_spreadFrom 6 none, Cond.methodLink RX4 94 yX4_levelOf, Cond.static yX4_levelOf, Cond.code yX4_levelOf cX4_levelOf 1 (some .int), Cond.methodLink RX4 61 yX4_closeUnder, Cond.instanceMethod yX4_closeUnder, Cond.selects RX4 yX4_closeUnder yX4_closeUnder, Cond.code yX4_closeUnder cX4_closeUnder 4 none]
def wsX6_steps_r4 : List Cond := [Cond.static yX6_carried, Cond.code yX6_carried cX6_carried 2 (some .int)]
def wsX6_steps : List Cond := .code yX6_steps cX6_steps 6 (some .int) :: ((wsX6_steps_r1 ++ (wsX6_steps_r2 ++ (wsX6_steps_r3 ++ wsX6_steps_r4))) ++ wsX60 ++ wsX40)
def wsX6_still_r1 : List Cond := [Cond.fieldLink RX6 156 "TurnGroups" "pointCount" "I", Cond.fieldLink RX6 15 "TurnGroups" "groups" "[LTurnGroups$Tower;", Cond.methodLink RX6 92 yX6_isGroup, Cond.instanceMethod yX6_isGroup, Cond.selects RX6 yX6_isGroup yX6_isGroup, Cond.initialized RX6, Cond.code yX6_isGroup cX6_isGroup 2 (some .boolean), Cond.fieldLink RX6 27 "TurnGroups" "groupCount" "I", Cond.methodLink RX6 159 yX4_turnsThatLeave, Cond.instanceMethod yX4_turnsThatLeave, Cond.selects RX4 yX4_turnsThatLeave yX4_turnsThatLeave, Cond.initialized RX4, Cond.code yX4_turnsThatLeave cX4_turnsThatLeave 8 (some .int), Cond.fieldLink RX4 11 "TurnGroups$Tower" "cells" "[I", Cond.methodLink RX4 65 yX4_reaches, Cond.instanceMethod yX4_reaches, Cond.selects RX4 yX4_reaches yX4_reaches, Cond.code yX4_reaches cX4_reaches 3 (some .boolean), Cond.fieldLink RX4 18 "TurnGroups$Tower" "reach" "[I", Cond.methodLink RX4 108 yX4_orbitFrom, Cond.instanceMethod yX4_orbitFrom, Cond.selects RX4 yX4_orbitFrom yX4_orbitFrom, Cond.code yX4_orbitFrom cX4_orbitFrom 7 (some .int), Cond.fieldLink RX4 27 "TurnGroups$Tower" "filledCount" "I"]
def wsX6_still_r2 : List Cond := [Cond.fieldLink RX4 21 "TurnGroups$Tower" "filled" "[I", Cond.methodLink RX4 94 yX4_levelOf, Cond.static yX4_levelOf, Cond.code yX4_levelOf cX4_levelOf 1 (some .int), Cond.methodLink RX4 97 yX4_imageOfSet, Cond.static yX4_imageOfSet, Cond.code yX4_imageOfSet cX4_imageOfSet 4 (some .int), Cond.static yX6_image, Cond.code yX6_image cX6_image 2 (some .int), Cond.methodLink RX4 79 yX4_cellOf, Cond.static yX4_cellOf, Cond.code yX4_cellOf cX4_cellOf 2 (some .int), Cond.methodLink RX4 88 yJ6_bitCount_0f7a4, Cond.static yJ6_bitCount_0f7a4, Cond.initialized RJ6, Cond.code yJ6_bitCount_0f7a4 cJ6_bitCount_0f7a4 1 (some .int), Cond.constant RJ6 265 (1431655765), Cond.constant RJ6 266 (858993459), Cond.constant RJ6 267 (252645135), Cond.methodLink RX4 111 yX4_countLeaving, Cond.instanceMethod yX4_countLeaving, Cond.selects RX4 yX4_countLeaving yX4_countLeaving, Cond.code yX4_countLeaving cX4_countLeaving 8 (some .int), Cond.methodLink RX4 131 yX4_step]
def wsX6_still_r3 : List Cond := [Cond.instanceMethod yX4_step, Cond.selects RX4 yX4_step yX4_step, Cond.code yX4_step cX4_step 4 (some .int), Cond.static yX6_chain, Cond.code yX6_chain cX6_chain 5 (some .int)]
def wsX6_still : List Cond := .code yX6_still cX6_still 3 (some .int) :: ((wsX6_still_r1 ++ (wsX6_still_r2 ++ wsX6_still_r3)) ++ wsX60 ++ wsX40)
def wsX6_element_r1 : List Cond := [Cond.fieldLink RX6 15 "TurnGroups" "groups" "[LTurnGroups$Tower;", Cond.fieldLink RX6 43 "TurnGroups" "current" "I", Cond.methodLink RX6 92 yX6_isGroup, Cond.instanceMethod yX6_isGroup, Cond.selects RX6 yX6_isGroup yX6_isGroup, Cond.initialized RX6, Cond.code yX6_isGroup cX6_isGroup 2 (some .boolean), Cond.fieldLink RX6 27 "TurnGroups" "groupCount" "I", Cond.methodLink RX6 137 yX4_turnsFrom, Cond.instanceMethod yX4_turnsFrom, Cond.selects RX4 yX4_turnsFrom yX4_turnsFrom, Cond.initialized RX4, Cond.code yX4_turnsFrom cX4_turnsFrom 4 (some .int), Cond.fieldLink RX4 18 "TurnGroups$Tower" "reach" "[I", Cond.methodLink RX4 88 yJ6_bitCount_0f7a4, Cond.static yJ6_bitCount_0f7a4, Cond.initialized RJ6, Cond.code yJ6_bitCount_0f7a4 cJ6_bitCount_0f7a4 1 (some .int), Cond.constant RJ6 265 (1431655765), Cond.constant RJ6 266 (858993459), Cond.constant RJ6 267 (252645135), Cond.methodLink RX6 162 yX4_turnAt, Cond.instanceMethod yX4_turnAt, Cond.selects RX4 yX4_turnAt yX4_turnAt]
def wsX6_element_r2 : List Cond := [Cond.code yX4_turnAt cX4_turnAt 8 (some .int), Cond.constant RX4 100 (1985229328), Cond.methodLink RX4 114 yX4_turnsFrom, Cond.methodLink RX4 97 yX4_imageOfSet, Cond.static yX4_imageOfSet, Cond.code yX4_imageOfSet cX4_imageOfSet 4 (some .int), Cond.static yX6_image, Cond.code yX6_image cX6_image 2 (some .int), Cond.methodLink RX4 117 yX4_descend, Cond.instanceMethod yX4_descend, Cond.selects RX4 yX4_descend yX4_descend, Cond.code yX4_descend cX4_descend 4 (some .int), Cond.static yX6_reverse, Cond.code yX6_reverse cX6_reverse 4 (some .int), Cond.methodLink RX4 131 yX4_step, Cond.instanceMethod yX4_step, Cond.selects RX4 yX4_step yX4_step, Cond.code yX4_step cX4_step 4 (some .int), Cond.fieldLink RX4 11 "TurnGroups$Tower" "cells" "[I", Cond.methodLink RX4 79 yX4_cellOf, Cond.static yX4_cellOf, Cond.code yX4_cellOf cX4_cellOf 2 (some .int), Cond.static yX6_chain, Cond.code yX6_chain cX6_chain 5 (some .int)]
def wsX6_element : List Cond := .code yX6_element cX6_element 3 (some .int) :: ((wsX6_element_r1 ++ wsX6_element_r2) ++ wsX60 ++ wsX40)
def wsX6_place_r1 : List Cond := [Cond.fieldLink RX6 15 "TurnGroups" "groups" "[LTurnGroups$Tower;", Cond.fieldLink RX6 43 "TurnGroups" "current" "I", Cond.methodLink RX6 92 yX6_isGroup, Cond.instanceMethod yX6_isGroup, Cond.selects RX6 yX6_isGroup yX6_isGroup, Cond.initialized RX6, Cond.code yX6_isGroup cX6_isGroup 2 (some .boolean), Cond.fieldLink RX6 27 "TurnGroups" "groupCount" "I", Cond.methodLink RX6 165 yX4_turnsAheadOf, Cond.instanceMethod yX4_turnsAheadOf, Cond.selects RX4 yX4_turnsAheadOf yX4_turnsAheadOf, Cond.initialized RX4, Cond.code yX4_turnsAheadOf cX4_turnsAheadOf 8 (some .int), Cond.constant RX4 100 (1985229328), Cond.fieldLink RX4 18 "TurnGroups$Tower" "reach" "[I", Cond.static yX6_image, Cond.code yX6_image cX6_image 2 (some .int), Cond.methodLink RX4 97 yX4_imageOfSet, Cond.static yX4_imageOfSet, Cond.code yX4_imageOfSet cX4_imageOfSet 4 (some .int), Cond.methodLink RX4 88 yJ6_bitCount_0f7a4, Cond.static yJ6_bitCount_0f7a4, Cond.initialized RJ6, Cond.code yJ6_bitCount_0f7a4 cJ6_bitCount_0f7a4 1 (some .int)]
def wsX6_place_r2 : List Cond := [Cond.constant RJ6 265 (1431655765), Cond.constant RJ6 266 (858993459), Cond.constant RJ6 267 (252645135), Cond.methodLink RX4 114 yX4_turnsFrom, Cond.instanceMethod yX4_turnsFrom, Cond.selects RX4 yX4_turnsFrom yX4_turnsFrom, Cond.code yX4_turnsFrom cX4_turnsFrom 4 (some .int), Cond.methodLink RX4 117 yX4_descend, Cond.instanceMethod yX4_descend, Cond.selects RX4 yX4_descend yX4_descend, Cond.code yX4_descend cX4_descend 4 (some .int), Cond.static yX6_reverse, Cond.code yX6_reverse cX6_reverse 4 (some .int), Cond.methodLink RX4 131 yX4_step, Cond.instanceMethod yX4_step, Cond.selects RX4 yX4_step yX4_step, Cond.code yX4_step cX4_step 4 (some .int), Cond.fieldLink RX4 11 "TurnGroups$Tower" "cells" "[I", Cond.methodLink RX4 79 yX4_cellOf, Cond.static yX4_cellOf, Cond.code yX4_cellOf cX4_cellOf 2 (some .int), Cond.static yX6_chain, Cond.code yX6_chain cX6_chain 5 (some .int)]
def wsX6_place : List Cond := .code yX6_place cX6_place 2 (some .int) :: ((wsX6_place_r1 ++ wsX6_place_r2) ++ wsX60 ++ wsX40)
def wsX6_carry_r1 : List Cond := [Cond.fieldLink RX6 15 "TurnGroups" "groups" "[LTurnGroups$Tower;", Cond.classLink RX6 122 RX0, Cond.instantiable RX0 2, Cond.initialized RX0, Cond.fieldLink RX6 43 "TurnGroups" "current" "I", Cond.methodLink RX6 92 yX6_isGroup, Cond.instanceMethod yX6_isGroup, Cond.selects RX6 yX6_isGroup yX6_isGroup, Cond.initialized RX6, Cond.code yX6_isGroup cX6_isGroup 2 (some .boolean), Cond.fieldLink RX6 27 "TurnGroups" "groupCount" "I", Cond.methodLink RX6 115 yX6_isSet, Cond.instanceMethod yX6_isSet, Cond.selects RX6 yX6_isSet yX6_isSet, Cond.code yX6_isSet cX6_isSet 2 (some .boolean), Cond.fieldLink RX6 156 "TurnGroups" "pointCount" "I", Cond.methodLink RX6 168 yJ6_bitCount_0f7a4, Cond.static yJ6_bitCount_0f7a4, Cond.initialized RJ6, Cond.code yJ6_bitCount_0f7a4 cJ6_bitCount_0f7a4 1 (some .int), Cond.constant RJ6 265 (1431655765), Cond.constant RJ6 266 (858993459), Cond.constant RJ6 267 (252645135), Cond.methodLink RX6 124 yX0_init]
def wsX6_carry_r2 : List Cond := [Cond.instanceMethod yX0_init, Cond.code yX0_init cX0_init 3 none, Cond.fieldLink RX0 7 "TurnGroups$CarriesSet" "from" "I", Cond.fieldLink RX0 13 "TurnGroups$CarriesSet" "onto" "I", Cond.instanceMethod yX5_init, Cond.initialized RX5, Cond.code yX5_init cX5_init 1 none, Cond.methodLink RX5 1 objectInit, Cond.instanceMethod objectInit, Cond.code objectInit ⟨#[0xb1]⟩ 1 none, Cond.methodLink RX6 173 yX4_firstThat, Cond.instanceMethod yX4_firstThat, Cond.selects RX4 yX4_firstThat yX4_firstThat, Cond.initialized RX4, Cond.code yX4_firstThat cX4_firstThat 2 (some .int), Cond.constant RX4 100 (1985229328), Cond.methodLink RX4 120 yX4_search, Cond.instanceMethod yX4_search, Cond.selects RX4 yX4_search yX4_search, Cond.code yX4_search cX4_search 9 (some .int), Cond.static yX6_reverse, Cond.code yX6_reverse cX6_reverse 4 (some .int), Cond.static yX6_image, Cond.code yX6_image cX6_image 2 (some .int)]
def wsX6_carry_r3 : List Cond := [Cond.methodLink RX4 65 yX4_reaches, Cond.instanceMethod yX4_reaches, Cond.selects RX4 yX4_reaches yX4_reaches, Cond.code yX4_reaches cX4_reaches 3 (some .boolean), Cond.fieldLink RX4 18 "TurnGroups$Tower" "reach" "[I", Cond.methodLink RX4 131 yX4_step, Cond.instanceMethod yX4_step, Cond.selects RX4 yX4_step yX4_step, Cond.code yX4_step cX4_step 4 (some .int), Cond.fieldLink RX4 11 "TurnGroups$Tower" "cells" "[I", Cond.methodLink RX4 79 yX4_cellOf, Cond.static yX4_cellOf, Cond.code yX4_cellOf cX4_cellOf 2 (some .int), Cond.static yX6_chain, Cond.code yX6_chain cX6_chain 5 (some .int), Cond.methodLink RX4 126 ⟨"TurnGroups$Wish", "fits", "(II)Z"⟩, Cond.sameMethod "TurnGroups$Wish" "TurnGroups$Wish" "fits" "(II)Z", Cond.selects RX0 ⟨"TurnGroups$Wish", "fits", "(II)Z"⟩ yX0_fits, Cond.instanceMethod yX0_fits, Cond.code yX0_fits cX0_fits 3 (some .boolean), Cond.selects RX1 ⟨"TurnGroups$Wish", "fits", "(II)Z"⟩ yX1_fits, Cond.instanceMethod yX1_fits, Cond.initialized RX1, Cond.code yX1_fits cX1_fits 4 (some .boolean)]
def wsX6_carry_r4 : List Cond := [Cond.fieldLink RX1 7 "TurnGroups$Commutes" "tower" "LTurnGroups$Tower;", Cond.methodLink RX1 23 yX1_agree, Cond.static yX1_agree, Cond.code yX1_agree cX1_agree 5 (some .boolean), Cond.selects RX2 ⟨"TurnGroups$Wish", "fits", "(II)Z"⟩ yX2_fits, Cond.instanceMethod yX2_fits, Cond.initialized RX2, Cond.code yX2_fits cX2_fits 4 (some .boolean), Cond.fieldLink RX2 7 "TurnGroups$FixesSet" "set" "I", Cond.selects RX3 ⟨"TurnGroups$Wish", "fits", "(II)Z"⟩ yX3_fits, Cond.instanceMethod yX3_fits, Cond.initialized RX3, Cond.code yX3_fits cX3_fits 3 (some .boolean), Cond.fieldLink RX3 7 "TurnGroups$InTower" "tower" "LTurnGroups$Tower;", Cond.methodLink RX3 13 yX4_holdsStart, Cond.instanceMethod yX4_holdsStart, Cond.selects RX4 yX4_holdsStart yX4_holdsStart, Cond.code yX4_holdsStart cX4_holdsStart 6 (some .boolean), Cond.fieldLink RX4 15 "TurnGroups$Tower" "cellsBack" "[I"]
def wsX6_carry : List Cond := .code yX6_carry cX6_carry 5 (some .int) :: ((wsX6_carry_r1 ++ (wsX6_carry_r2 ++ (wsX6_carry_r3 ++ wsX6_carry_r4))) ++ wsX60 ++ wsX00 ++ wsX40 ++ wsX10 ++ wsX20 ++ wsX30)
def wsX6_pointsLeft : List Cond := .code yX6_pointsLeft cX6_pointsLeft 3 (some .int) :: ([.methodLink RX6 50 yX6_image, .static yX6_image, .initialized RX6, .code yX6_image cX6_image 2 (some .int)])
def wsX6_isEven : List Cond := .code yX6_isEven cX6_isEven 4 (some .boolean) :: ([.methodLink RX6 50 yX6_image, .static yX6_image, .initialized RX6, .code yX6_image cX6_image 2 (some .int)])
def wsX6_count : List Cond := .code yX6_count cX6_count 2 (some .int) :: ([.fieldLink RX6 156 "TurnGroups" "pointCount" "I", .fieldLink RX6 27 "TurnGroups" "groupCount" "I", .fieldLink RX6 43 "TurnGroups" "current" "I", .methodLink RX6 177 yX6_pointsLeft, .static yX6_pointsLeft, .initialized RX6, .code yX6_pointsLeft cX6_pointsLeft 3 (some .int), .methodLink RX6 50 yX6_image, .static yX6_image, .code yX6_image cX6_image 2 (some .int), .methodLink RX6 180 yX6_isEven, .static yX6_isEven, .code yX6_isEven cX6_isEven 4 (some .boolean), .methodLink RX6 74 yX6_truth, .static yX6_truth, .code yX6_truth cX6_truth 1 (some .int)] ++ wsX60)
def wsX7_product : List Cond := .code yX7_product cX7_product 3 (some .int) :: ([])
def wsX7_layAll : List Cond := .code yX7_layAll cX7_layAll 8 none :: ([.fieldLink RX7 7 "TurnGroupsModel" "n" "I", .fieldLink RX7 46 "TurnGroupsModel" "many" "I", .fieldLink RX7 14 "TurnGroupsModel" "image" "[I", .methodLink RX7 42 yX7_product, .static yX7_product, .initialized RX7, .code yX7_product cX7_product 3 (some .int)] ++ wsX70)
def wsX7_init_r1 : List Cond := [Cond.methodLink RX7 1 objectInit, Cond.instanceMethod objectInit, Cond.code objectInit ⟨#[0xb1]⟩ 1 none, Cond.fieldLink RX7 7 "TurnGroupsModel" "n" "I", Cond.constant RX7 13 (322560), Cond.arrayClass .int, Cond.fieldLink RX7 14 "TurnGroupsModel" "image" "[I", Cond.fieldLink RX7 18 "TurnGroupsModel" "shelf" "[I", Cond.constant RX7 21 (524160), Cond.arrayClass .boolean, Cond.fieldLink RX7 22 "TurnGroupsModel" "in" "[Z", Cond.fieldLink RX7 26 "TurnGroupsModel" "now" "[I", Cond.fieldLink RX7 29 "TurnGroupsModel" "makers" "[I", Cond.fieldLink RX7 32 "TurnGroupsModel" "makerMany" "[I", Cond.constant RX7 35 (40320), Cond.fieldLink RX7 36 "TurnGroupsModel" "queue" "[I", Cond.methodLink RX7 39 yX7_layAll, Cond.instanceMethod yX7_layAll, Cond.selects RX7 yX7_layAll yX7_layAll, Cond.initialized RX7, Cond.code yX7_layAll cX7_layAll 8 none, Cond.fieldLink RX7 46 "TurnGroupsModel" "many" "I", Cond.methodLink RX7 42 yX7_product, Cond.static yX7_product]
def wsX7_init_r2 : List Cond := [Cond.code yX7_product cX7_product 3 (some .int)]
def wsX7_init : List Cond := .code yX7_init cX7_init 1 none :: ((wsX7_init_r1 ++ wsX7_init_r2) ++ wsX70)
def wsX7_isIn : List Cond := .code yX7_isIn cX7_isIn 3 (some .boolean) :: ([])
def wsX7_placeNow : List Cond := .code yX7_placeNow cX7_placeNow 5 (some .int) :: ([.fieldLink RX7 7 "TurnGroupsModel" "n" "I", .fieldLink RX7 26 "TurnGroupsModel" "now" "[I"] ++ wsX70)
def wsX7_oneThen : List Cond := .code yX7_oneThen cX7_oneThen 4 (some .int) :: ([.fieldLink RX7 7 "TurnGroupsModel" "n" "I", .fieldLink RX7 26 "TurnGroupsModel" "now" "[I", .fieldLink RX7 14 "TurnGroupsModel" "image" "[I", .methodLink RX7 49 yX7_placeNow, .instanceMethod yX7_placeNow, .selects RX7 yX7_placeNow yX7_placeNow, .initialized RX7, .code yX7_placeNow cX7_placeNow 5 (some .int)] ++ wsX70)
def wsX7_backOf : List Cond := .code yX7_backOf cX7_backOf 3 (some .int) :: ([.fieldLink RX7 7 "TurnGroupsModel" "n" "I", .fieldLink RX7 26 "TurnGroupsModel" "now" "[I", .fieldLink RX7 14 "TurnGroupsModel" "image" "[I", .methodLink RX7 49 yX7_placeNow, .instanceMethod yX7_placeNow, .selects RX7 yX7_placeNow yX7_placeNow, .initialized RX7, .code yX7_placeNow cX7_placeNow 5 (some .int)] ++ wsX70)
def wsX7_carried : List Cond := .code yX7_carried cX7_carried 4 (some .int) :: ([.fieldLink RX7 7 "TurnGroupsModel" "n" "I", .fieldLink RX7 26 "TurnGroupsModel" "now" "[I", .fieldLink RX7 14 "TurnGroupsModel" "image" "[I", .methodLink RX7 49 yX7_placeNow, .instanceMethod yX7_placeNow, .selects RX7 yX7_placeNow yX7_placeNow, .initialized RX7, .code yX7_placeNow cX7_placeNow 5 (some .int)] ++ wsX70)
def wsX7_orderOf : List Cond := .code yX7_orderOf cX7_orderOf 4 (some .int) :: ([.methodLink RX7 53 yX7_oneThen, .instanceMethod yX7_oneThen, .selects RX7 yX7_oneThen yX7_oneThen, .initialized RX7, .code yX7_oneThen cX7_oneThen 4 (some .int), .fieldLink RX7 7 "TurnGroupsModel" "n" "I", .fieldLink RX7 26 "TurnGroupsModel" "now" "[I", .fieldLink RX7 14 "TurnGroupsModel" "image" "[I", .methodLink RX7 49 yX7_placeNow, .instanceMethod yX7_placeNow, .selects RX7 yX7_placeNow yX7_placeNow, .code yX7_placeNow cX7_placeNow 5 (some .int)] ++ wsX70)
def wsX7_setOf : List Cond := .code yX7_setOf cX7_setOf 5 (some .int) :: ([.fieldLink RX7 7 "TurnGroupsModel" "n" "I", .fieldLink RX7 14 "TurnGroupsModel" "image" "[I"] ++ wsX70)
def wsX7_points : List Cond := .code yX7_points cX7_points 4 (some .int) :: ([.fieldLink RX7 61 "TurnGroupsModel" "groups" "I", .fieldLink RX7 7 "TurnGroupsModel" "n" "I", .fieldLink RX7 64 "TurnGroupsModel" "turn" "I", .fieldLink RX7 18 "TurnGroupsModel" "shelf" "[I", .methodLink RX7 57 yX7_isIn, .static yX7_isIn, .initialized RX7, .code yX7_isIn cX7_isIn 3 (some .boolean), .methodLink RX7 39 yX7_layAll, .instanceMethod yX7_layAll, .selects RX7 yX7_layAll yX7_layAll, .code yX7_layAll cX7_layAll 8 none, .fieldLink RX7 46 "TurnGroupsModel" "many" "I", .fieldLink RX7 14 "TurnGroupsModel" "image" "[I", .methodLink RX7 42 yX7_product, .static yX7_product, .code yX7_product cX7_product 3 (some .int)] ++ wsX70)
def wsX7_turn : List Cond := .code yX7_turn cX7_turn 5 (some .int) :: ([.fieldLink RX7 7 "TurnGroupsModel" "n" "I", .fieldLink RX7 26 "TurnGroupsModel" "now" "[I", .constantLong RX7 67 (15), .fieldLink RX7 64 "TurnGroupsModel" "turn" "I", .methodLink RX7 49 yX7_placeNow, .instanceMethod yX7_placeNow, .selects RX7 yX7_placeNow yX7_placeNow, .initialized RX7, .code yX7_placeNow cX7_placeNow 5 (some .int)] ++ wsX70)
def wsX7_told : List Cond := .code yX7_told cX7_told 4 (some .long) :: ([.fieldLink RX7 7 "TurnGroupsModel" "n" "I", .fieldLink RX7 14 "TurnGroupsModel" "image" "[I", .fieldLink RX7 64 "TurnGroupsModel" "turn" "I"] ++ wsX70)
def wsX7_to : List Cond := .code yX7_to cX7_to 2 (some .int) :: ([.fieldLink RX7 7 "TurnGroupsModel" "n" "I", .fieldLink RX7 14 "TurnGroupsModel" "image" "[I", .fieldLink RX7 64 "TurnGroupsModel" "turn" "I", .methodLink RX7 57 yX7_isIn, .static yX7_isIn, .initialized RX7, .code yX7_isIn cX7_isIn 3 (some .boolean)] ++ wsX70)
def wsX7_lay : List Cond := .code yX7_lay cX7_lay 2 (some .int) :: ([.fieldLink RX7 18 "TurnGroupsModel" "shelf" "[I", .fieldLink RX7 64 "TurnGroupsModel" "turn" "I", .methodLink RX7 57 yX7_isIn, .static yX7_isIn, .initialized RX7, .code yX7_isIn cX7_isIn 3 (some .boolean)] ++ wsX70)
def wsX7_take : List Cond := .code yX7_take cX7_take 2 (some .int) :: ([.fieldLink RX7 18 "TurnGroupsModel" "shelf" "[I", .fieldLink RX7 64 "TurnGroupsModel" "turn" "I", .methodLink RX7 57 yX7_isIn, .static yX7_isIn, .initialized RX7, .code yX7_isIn cX7_isIn 3 (some .boolean)] ++ wsX70)
def wsX7_then : List Cond := .code yX7_then cX7_then 2 (some .int) :: ([.fieldLink RX7 64 "TurnGroupsModel" "turn" "I", .fieldLink RX7 18 "TurnGroupsModel" "shelf" "[I", .methodLink RX7 57 yX7_isIn, .static yX7_isIn, .initialized RX7, .code yX7_isIn cX7_isIn 3 (some .boolean), .methodLink RX7 53 yX7_oneThen, .instanceMethod yX7_oneThen, .selects RX7 yX7_oneThen yX7_oneThen, .code yX7_oneThen cX7_oneThen 4 (some .int), .fieldLink RX7 7 "TurnGroupsModel" "n" "I", .fieldLink RX7 26 "TurnGroupsModel" "now" "[I", .fieldLink RX7 14 "TurnGroupsModel" "image" "[I", .methodLink RX7 49 yX7_placeNow, .instanceMethod yX7_placeNow, .selects RX7 yX7_placeNow yX7_placeNow, .code yX7_placeNow cX7_placeNow 5 (some .int)] ++ wsX70)
def wsX7_back : List Cond := .code yX7_back cX7_back 2 (some .int) :: ([.fieldLink RX7 64 "TurnGroupsModel" "turn" "I", .methodLink RX7 69 yX7_orderOf, .instanceMethod yX7_orderOf, .selects RX7 yX7_orderOf yX7_orderOf, .initialized RX7, .code yX7_orderOf cX7_orderOf 4 (some .int), .methodLink RX7 53 yX7_oneThen, .instanceMethod yX7_oneThen, .selects RX7 yX7_oneThen yX7_oneThen, .code yX7_oneThen cX7_oneThen 4 (some .int), .fieldLink RX7 7 "TurnGroupsModel" "n" "I", .fieldLink RX7 26 "TurnGroupsModel" "now" "[I", .fieldLink RX7 14 "TurnGroupsModel" "image" "[I", .methodLink RX7 49 yX7_placeNow, .instanceMethod yX7_placeNow, .selects RX7 yX7_placeNow yX7_placeNow, .code yX7_placeNow cX7_placeNow 5 (some .int), .methodLink RX7 72 yX7_backOf, .instanceMethod yX7_backOf, .selects RX7 yX7_backOf yX7_backOf, .code yX7_backOf cX7_backOf 3 (some .int)] ++ wsX70)
def wsX7_power : List Cond := .code yX7_power cX7_power 6 (some .int) :: ([.fieldLink RX7 64 "TurnGroupsModel" "turn" "I", .methodLink RX7 69 yX7_orderOf, .instanceMethod yX7_orderOf, .selects RX7 yX7_orderOf yX7_orderOf, .initialized RX7, .code yX7_orderOf cX7_orderOf 4 (some .int), .methodLink RX7 53 yX7_oneThen, .instanceMethod yX7_oneThen, .selects RX7 yX7_oneThen yX7_oneThen, .code yX7_oneThen cX7_oneThen 4 (some .int), .fieldLink RX7 7 "TurnGroupsModel" "n" "I", .fieldLink RX7 26 "TurnGroupsModel" "now" "[I", .fieldLink RX7 14 "TurnGroupsModel" "image" "[I", .methodLink RX7 49 yX7_placeNow, .instanceMethod yX7_placeNow, .selects RX7 yX7_placeNow yX7_placeNow, .code yX7_placeNow cX7_placeNow 5 (some .int)] ++ wsX70)
def wsX7_isGroup : List Cond := .code yX7_isGroup cX7_isGroup 2 (some .boolean) :: ([.fieldLink RX7 61 "TurnGroupsModel" "groups" "I", .methodLink RX7 57 yX7_isIn, .static yX7_isIn, .initialized RX7, .code yX7_isIn cX7_isIn 3 (some .boolean)] ++ wsX70)
def wsX7_hasIt : List Cond := .code yX7_hasIt cX7_hasIt 3 (some .boolean) :: ([.fieldLink RX7 22 "TurnGroupsModel" "in" "[Z", .constant RX7 35 (40320)] ++ wsX70)
def wsX7_clear : List Cond := .code yX7_clear cX7_clear 3 none :: ([.fieldLink RX7 46 "TurnGroupsModel" "many" "I", .fieldLink RX7 22 "TurnGroupsModel" "in" "[Z", .constant RX7 35 (40320)] ++ wsX70)
def wsX7_copy : List Cond := .code yX7_copy cX7_copy 4 none :: ([.fieldLink RX7 46 "TurnGroupsModel" "many" "I", .fieldLink RX7 22 "TurnGroupsModel" "in" "[Z", .constant RX7 35 (40320)] ++ wsX70)
def wsX7_begin : List Cond := .code yX7_begin cX7_begin 2 none :: ([.fieldLink RX7 32 "TurnGroupsModel" "makerMany" "[I", .methodLink RX7 75 yX7_clear, .instanceMethod yX7_clear, .selects RX7 yX7_clear yX7_clear, .initialized RX7, .code yX7_clear cX7_clear 3 none, .fieldLink RX7 46 "TurnGroupsModel" "many" "I", .fieldLink RX7 22 "TurnGroupsModel" "in" "[Z", .constant RX7 35 (40320)] ++ wsX70)
def wsX7_join_r1 : List Cond := [Cond.fieldLink RX7 29 "TurnGroupsModel" "makers" "[I", Cond.fieldLink RX7 32 "TurnGroupsModel" "makerMany" "[I", Cond.fieldLink RX7 36 "TurnGroupsModel" "queue" "[I", Cond.fieldLink RX7 22 "TurnGroupsModel" "in" "[Z", Cond.constant RX7 35 (40320), Cond.methodLink RX7 79 yX7_hasIt, Cond.instanceMethod yX7_hasIt, Cond.selects RX7 yX7_hasIt yX7_hasIt, Cond.initialized RX7, Cond.code yX7_hasIt cX7_hasIt 3 (some .boolean), Cond.methodLink RX7 75 yX7_clear, Cond.instanceMethod yX7_clear, Cond.selects RX7 yX7_clear yX7_clear, Cond.code yX7_clear cX7_clear 3 none, Cond.fieldLink RX7 46 "TurnGroupsModel" "many" "I", Cond.methodLink RX7 53 yX7_oneThen, Cond.instanceMethod yX7_oneThen, Cond.selects RX7 yX7_oneThen yX7_oneThen, Cond.code yX7_oneThen cX7_oneThen 4 (some .int), Cond.fieldLink RX7 7 "TurnGroupsModel" "n" "I", Cond.fieldLink RX7 26 "TurnGroupsModel" "now" "[I", Cond.fieldLink RX7 14 "TurnGroupsModel" "image" "[I", Cond.methodLink RX7 49 yX7_placeNow, Cond.instanceMethod yX7_placeNow]
def wsX7_join_r2 : List Cond := [Cond.selects RX7 yX7_placeNow yX7_placeNow, Cond.code yX7_placeNow cX7_placeNow 5 (some .int)]
def wsX7_join : List Cond := .code yX7_join cX7_join 7 none :: ((wsX7_join_r1 ++ wsX7_join_r2) ++ wsX70)
def wsX7_joinAll_r1 : List Cond := [Cond.fieldLink RX7 46 "TurnGroupsModel" "many" "I", Cond.methodLink RX7 79 yX7_hasIt, Cond.instanceMethod yX7_hasIt, Cond.selects RX7 yX7_hasIt yX7_hasIt, Cond.initialized RX7, Cond.code yX7_hasIt cX7_hasIt 3 (some .boolean), Cond.fieldLink RX7 22 "TurnGroupsModel" "in" "[Z", Cond.constant RX7 35 (40320), Cond.methodLink RX7 83 yX7_join, Cond.instanceMethod yX7_join, Cond.selects RX7 yX7_join yX7_join, Cond.code yX7_join cX7_join 7 none, Cond.fieldLink RX7 29 "TurnGroupsModel" "makers" "[I", Cond.fieldLink RX7 32 "TurnGroupsModel" "makerMany" "[I", Cond.fieldLink RX7 36 "TurnGroupsModel" "queue" "[I", Cond.methodLink RX7 75 yX7_clear, Cond.instanceMethod yX7_clear, Cond.selects RX7 yX7_clear yX7_clear, Cond.code yX7_clear cX7_clear 3 none, Cond.methodLink RX7 53 yX7_oneThen, Cond.instanceMethod yX7_oneThen, Cond.selects RX7 yX7_oneThen yX7_oneThen, Cond.code yX7_oneThen cX7_oneThen 4 (some .int), Cond.fieldLink RX7 7 "TurnGroupsModel" "n" "I"]
def wsX7_joinAll_r2 : List Cond := [Cond.fieldLink RX7 26 "TurnGroupsModel" "now" "[I", Cond.fieldLink RX7 14 "TurnGroupsModel" "image" "[I", Cond.methodLink RX7 49 yX7_placeNow, Cond.instanceMethod yX7_placeNow, Cond.selects RX7 yX7_placeNow yX7_placeNow, Cond.code yX7_placeNow cX7_placeNow 5 (some .int)]
def wsX7_joinAll : List Cond := .code yX7_joinAll cX7_joinAll 4 none :: ((wsX7_joinAll_r1 ++ wsX7_joinAll_r2) ++ wsX70)
def wsX7_close_r1 : List Cond := [Cond.fieldLink RX7 32 "TurnGroupsModel" "makerMany" "[I", Cond.fieldLink RX7 29 "TurnGroupsModel" "makers" "[I", Cond.methodLink RX7 87 yX7_carried, Cond.instanceMethod yX7_carried, Cond.selects RX7 yX7_carried yX7_carried, Cond.initialized RX7, Cond.code yX7_carried cX7_carried 4 (some .int), Cond.fieldLink RX7 7 "TurnGroupsModel" "n" "I", Cond.fieldLink RX7 26 "TurnGroupsModel" "now" "[I", Cond.fieldLink RX7 14 "TurnGroupsModel" "image" "[I", Cond.methodLink RX7 49 yX7_placeNow, Cond.instanceMethod yX7_placeNow, Cond.selects RX7 yX7_placeNow yX7_placeNow, Cond.code yX7_placeNow cX7_placeNow 5 (some .int), Cond.methodLink RX7 83 yX7_join, Cond.instanceMethod yX7_join, Cond.selects RX7 yX7_join yX7_join, Cond.code yX7_join cX7_join 7 none, Cond.fieldLink RX7 36 "TurnGroupsModel" "queue" "[I", Cond.fieldLink RX7 22 "TurnGroupsModel" "in" "[Z", Cond.constant RX7 35 (40320), Cond.methodLink RX7 79 yX7_hasIt, Cond.instanceMethod yX7_hasIt, Cond.selects RX7 yX7_hasIt yX7_hasIt]
def wsX7_close_r2 : List Cond := [Cond.code yX7_hasIt cX7_hasIt 3 (some .boolean), Cond.methodLink RX7 75 yX7_clear, Cond.instanceMethod yX7_clear, Cond.selects RX7 yX7_clear yX7_clear, Cond.code yX7_clear cX7_clear 3 none, Cond.fieldLink RX7 46 "TurnGroupsModel" "many" "I", Cond.methodLink RX7 53 yX7_oneThen, Cond.instanceMethod yX7_oneThen, Cond.selects RX7 yX7_oneThen yX7_oneThen, Cond.code yX7_oneThen cX7_oneThen 4 (some .int)]
def wsX7_close : List Cond := .code yX7_close cX7_close 5 none :: ((wsX7_close_r1 ++ wsX7_close_r2) ++ wsX70)
def wsX7_goDown_r1 : List Cond := [Cond.fieldLink RX7 32 "TurnGroupsModel" "makerMany" "[I", Cond.fieldLink RX7 29 "TurnGroupsModel" "makers" "[I", Cond.methodLink RX7 90 yX7_begin, Cond.instanceMethod yX7_begin, Cond.selects RX7 yX7_begin yX7_begin, Cond.initialized RX7, Cond.code yX7_begin cX7_begin 2 none, Cond.methodLink RX7 75 yX7_clear, Cond.instanceMethod yX7_clear, Cond.selects RX7 yX7_clear yX7_clear, Cond.code yX7_clear cX7_clear 3 none, Cond.fieldLink RX7 46 "TurnGroupsModel" "many" "I", Cond.fieldLink RX7 22 "TurnGroupsModel" "in" "[Z", Cond.constant RX7 35 (40320), Cond.methodLink RX7 93 yX7_joinAll, Cond.instanceMethod yX7_joinAll, Cond.selects RX7 yX7_joinAll yX7_joinAll, Cond.code yX7_joinAll cX7_joinAll 4 none, Cond.methodLink RX7 79 yX7_hasIt, Cond.instanceMethod yX7_hasIt, Cond.selects RX7 yX7_hasIt yX7_hasIt, Cond.code yX7_hasIt cX7_hasIt 3 (some .boolean), Cond.methodLink RX7 83 yX7_join, Cond.instanceMethod yX7_join]
def wsX7_goDown_r2 : List Cond := [Cond.selects RX7 yX7_join yX7_join, Cond.code yX7_join cX7_join 7 none, Cond.fieldLink RX7 36 "TurnGroupsModel" "queue" "[I", Cond.methodLink RX7 53 yX7_oneThen, Cond.instanceMethod yX7_oneThen, Cond.selects RX7 yX7_oneThen yX7_oneThen, Cond.code yX7_oneThen cX7_oneThen 4 (some .int), Cond.fieldLink RX7 7 "TurnGroupsModel" "n" "I", Cond.fieldLink RX7 26 "TurnGroupsModel" "now" "[I", Cond.fieldLink RX7 14 "TurnGroupsModel" "image" "[I", Cond.methodLink RX7 49 yX7_placeNow, Cond.instanceMethod yX7_placeNow, Cond.selects RX7 yX7_placeNow yX7_placeNow, Cond.code yX7_placeNow cX7_placeNow 5 (some .int), Cond.methodLink RX7 72 yX7_backOf, Cond.instanceMethod yX7_backOf, Cond.selects RX7 yX7_backOf yX7_backOf, Cond.code yX7_backOf cX7_backOf 3 (some .int), Cond.methodLink RX7 96 yX7_close, Cond.instanceMethod yX7_close, Cond.selects RX7 yX7_close yX7_close, Cond.code yX7_close cX7_close 5 none, Cond.methodLink RX7 87 yX7_carried, Cond.instanceMethod yX7_carried]
def wsX7_goDown_r3 : List Cond := [Cond.selects RX7 yX7_carried yX7_carried, Cond.code yX7_carried cX7_carried 4 (some .int)]
def wsX7_goDown : List Cond := .code yX7_goDown cX7_goDown 6 none :: ((wsX7_goDown_r1 ++ (wsX7_goDown_r2 ++ wsX7_goDown_r3)) ++ wsX70)
def wsX7_newGroup : List Cond := .code yX7_newGroup cX7_newGroup 2 (some .int) :: ([.fieldLink RX7 61 "TurnGroupsModel" "groups" "I", .methodLink RX7 99 yX7_copy, .instanceMethod yX7_copy, .selects RX7 yX7_copy yX7_copy, .initialized RX7, .code yX7_copy cX7_copy 4 none, .fieldLink RX7 46 "TurnGroupsModel" "many" "I", .fieldLink RX7 22 "TurnGroupsModel" "in" "[Z", .constant RX7 35 (40320)] ++ wsX70)
def wsX7_isEven : List Cond := .code yX7_isEven cX7_isEven 5 (some .boolean) :: ([.fieldLink RX7 7 "TurnGroupsModel" "n" "I", .fieldLink RX7 14 "TurnGroupsModel" "image" "[I"] ++ wsX70)
def wsX7_group : List Cond := .code yX7_group cX7_group 3 (some .int) :: ([.fieldLink RX7 61 "TurnGroupsModel" "groups" "I", .fieldLink RX7 46 "TurnGroupsModel" "many" "I", .fieldLink RX7 22 "TurnGroupsModel" "in" "[Z", .constant RX7 35 (40320), .methodLink RX7 57 yX7_isIn, .static yX7_isIn, .initialized RX7, .code yX7_isIn cX7_isIn 3 (some .boolean), .methodLink RX7 102 yX7_isEven, .instanceMethod yX7_isEven, .selects RX7 yX7_isEven yX7_isEven, .code yX7_isEven cX7_isEven 5 (some .boolean), .fieldLink RX7 7 "TurnGroupsModel" "n" "I", .fieldLink RX7 14 "TurnGroupsModel" "image" "[I", .methodLink RX7 106 yX7_newGroup, .instanceMethod yX7_newGroup, .selects RX7 yX7_newGroup yX7_newGroup, .code yX7_newGroup cX7_newGroup 2 (some .int), .methodLink RX7 99 yX7_copy, .instanceMethod yX7_copy, .selects RX7 yX7_copy yX7_copy, .code yX7_copy cX7_copy 4 none] ++ wsX70)
def wsX7_add_r1 : List Cond := [Cond.fieldLink RX7 64 "TurnGroupsModel" "turn" "I", Cond.methodLink RX7 109 yX7_isGroup, Cond.instanceMethod yX7_isGroup, Cond.selects RX7 yX7_isGroup yX7_isGroup, Cond.initialized RX7, Cond.code yX7_isGroup cX7_isGroup 2 (some .boolean), Cond.fieldLink RX7 61 "TurnGroupsModel" "groups" "I", Cond.methodLink RX7 57 yX7_isIn, Cond.static yX7_isIn, Cond.code yX7_isIn cX7_isIn 3 (some .boolean), Cond.methodLink RX7 79 yX7_hasIt, Cond.instanceMethod yX7_hasIt, Cond.selects RX7 yX7_hasIt yX7_hasIt, Cond.code yX7_hasIt cX7_hasIt 3 (some .boolean), Cond.fieldLink RX7 22 "TurnGroupsModel" "in" "[Z", Cond.constant RX7 35 (40320), Cond.methodLink RX7 90 yX7_begin, Cond.instanceMethod yX7_begin, Cond.selects RX7 yX7_begin yX7_begin, Cond.code yX7_begin cX7_begin 2 none, Cond.fieldLink RX7 32 "TurnGroupsModel" "makerMany" "[I", Cond.methodLink RX7 75 yX7_clear, Cond.instanceMethod yX7_clear, Cond.selects RX7 yX7_clear yX7_clear]
def wsX7_add_r2 : List Cond := [Cond.code yX7_clear cX7_clear 3 none, Cond.fieldLink RX7 46 "TurnGroupsModel" "many" "I", Cond.methodLink RX7 93 yX7_joinAll, Cond.instanceMethod yX7_joinAll, Cond.selects RX7 yX7_joinAll yX7_joinAll, Cond.code yX7_joinAll cX7_joinAll 4 none, Cond.methodLink RX7 83 yX7_join, Cond.instanceMethod yX7_join, Cond.selects RX7 yX7_join yX7_join, Cond.code yX7_join cX7_join 7 none, Cond.fieldLink RX7 29 "TurnGroupsModel" "makers" "[I", Cond.fieldLink RX7 36 "TurnGroupsModel" "queue" "[I", Cond.methodLink RX7 53 yX7_oneThen, Cond.instanceMethod yX7_oneThen, Cond.selects RX7 yX7_oneThen yX7_oneThen, Cond.code yX7_oneThen cX7_oneThen 4 (some .int), Cond.fieldLink RX7 7 "TurnGroupsModel" "n" "I", Cond.fieldLink RX7 26 "TurnGroupsModel" "now" "[I", Cond.fieldLink RX7 14 "TurnGroupsModel" "image" "[I", Cond.methodLink RX7 49 yX7_placeNow, Cond.instanceMethod yX7_placeNow, Cond.selects RX7 yX7_placeNow yX7_placeNow, Cond.code yX7_placeNow cX7_placeNow 5 (some .int), Cond.methodLink RX7 99 yX7_copy]
def wsX7_add_r3 : List Cond := [Cond.instanceMethod yX7_copy, Cond.selects RX7 yX7_copy yX7_copy, Cond.code yX7_copy cX7_copy 4 none]
def wsX7_add : List Cond := .code yX7_add cX7_add 2 (some .int) :: ((wsX7_add_r1 ++ (wsX7_add_r2 ++ wsX7_add_r3)) ++ wsX70)
def wsX7_of_r1 : List Cond := [Cond.fieldLink RX7 61 "TurnGroupsModel" "groups" "I", Cond.fieldLink RX7 46 "TurnGroupsModel" "many" "I", Cond.fieldLink RX7 22 "TurnGroupsModel" "in" "[Z", Cond.constant RX7 112 (403200), Cond.methodLink RX7 57 yX7_isIn, Cond.static yX7_isIn, Cond.initialized RX7, Cond.code yX7_isIn cX7_isIn 3 (some .boolean), Cond.methodLink RX7 109 yX7_isGroup, Cond.instanceMethod yX7_isGroup, Cond.selects RX7 yX7_isGroup yX7_isGroup, Cond.code yX7_isGroup cX7_isGroup 2 (some .boolean), Cond.methodLink RX7 79 yX7_hasIt, Cond.instanceMethod yX7_hasIt, Cond.selects RX7 yX7_hasIt yX7_hasIt, Cond.code yX7_hasIt cX7_hasIt 3 (some .boolean), Cond.constant RX7 35 (40320), Cond.methodLink RX7 106 yX7_newGroup, Cond.instanceMethod yX7_newGroup, Cond.selects RX7 yX7_newGroup yX7_newGroup, Cond.code yX7_newGroup cX7_newGroup 2 (some .int), Cond.methodLink RX7 99 yX7_copy, Cond.instanceMethod yX7_copy, Cond.selects RX7 yX7_copy yX7_copy]
def wsX7_of_r2 : List Cond := [Cond.code yX7_copy cX7_copy 4 none, Cond.methodLink RX7 90 yX7_begin, Cond.instanceMethod yX7_begin, Cond.selects RX7 yX7_begin yX7_begin, Cond.code yX7_begin cX7_begin 2 none, Cond.fieldLink RX7 32 "TurnGroupsModel" "makerMany" "[I", Cond.methodLink RX7 75 yX7_clear, Cond.instanceMethod yX7_clear, Cond.selects RX7 yX7_clear yX7_clear, Cond.code yX7_clear cX7_clear 3 none, Cond.methodLink RX7 93 yX7_joinAll, Cond.instanceMethod yX7_joinAll, Cond.selects RX7 yX7_joinAll yX7_joinAll, Cond.code yX7_joinAll cX7_joinAll 4 none, Cond.methodLink RX7 83 yX7_join, Cond.instanceMethod yX7_join, Cond.selects RX7 yX7_join yX7_join, Cond.code yX7_join cX7_join 7 none, Cond.fieldLink RX7 29 "TurnGroupsModel" "makers" "[I", Cond.fieldLink RX7 36 "TurnGroupsModel" "queue" "[I", Cond.methodLink RX7 53 yX7_oneThen, Cond.instanceMethod yX7_oneThen, Cond.selects RX7 yX7_oneThen yX7_oneThen, Cond.code yX7_oneThen cX7_oneThen 4 (some .int)]
def wsX7_of_r3 : List Cond := [Cond.fieldLink RX7 7 "TurnGroupsModel" "n" "I", Cond.fieldLink RX7 26 "TurnGroupsModel" "now" "[I", Cond.fieldLink RX7 14 "TurnGroupsModel" "image" "[I", Cond.methodLink RX7 49 yX7_placeNow, Cond.instanceMethod yX7_placeNow, Cond.selects RX7 yX7_placeNow yX7_placeNow, Cond.code yX7_placeNow cX7_placeNow 5 (some .int), Cond.methodLink RX7 96 yX7_close, Cond.instanceMethod yX7_close, Cond.selects RX7 yX7_close yX7_close, Cond.code yX7_close cX7_close 5 none, Cond.methodLink RX7 87 yX7_carried, Cond.instanceMethod yX7_carried, Cond.selects RX7 yX7_carried yX7_carried, Cond.code yX7_carried cX7_carried 4 (some .int)]
def wsX7_of : List Cond := .code yX7_of cX7_of 5 (some .int) :: ((wsX7_of_r1 ++ (wsX7_of_r2 ++ wsX7_of_r3)) ++ wsX70)
def wsX7_by_r1 : List Cond := [Cond.fieldLink RX7 7 "TurnGroupsModel" "n" "I", Cond.fieldLink RX7 61 "TurnGroupsModel" "groups" "I", Cond.fieldLink RX7 46 "TurnGroupsModel" "many" "I", Cond.fieldLink RX7 14 "TurnGroupsModel" "image" "[I", Cond.fieldLink RX7 22 "TurnGroupsModel" "in" "[Z", Cond.constant RX7 35 (40320), Cond.methodLink RX7 57 yX7_isIn, Cond.static yX7_isIn, Cond.initialized RX7, Cond.code yX7_isIn cX7_isIn 3 (some .boolean), Cond.methodLink RX7 109 yX7_isGroup, Cond.instanceMethod yX7_isGroup, Cond.selects RX7 yX7_isGroup yX7_isGroup, Cond.code yX7_isGroup cX7_isGroup 2 (some .boolean), Cond.methodLink RX7 79 yX7_hasIt, Cond.instanceMethod yX7_hasIt, Cond.selects RX7 yX7_hasIt yX7_hasIt, Cond.code yX7_hasIt cX7_hasIt 3 (some .boolean), Cond.methodLink RX7 113 yX7_setOf, Cond.instanceMethod yX7_setOf, Cond.selects RX7 yX7_setOf yX7_setOf, Cond.code yX7_setOf cX7_setOf 5 (some .int), Cond.methodLink RX7 106 yX7_newGroup, Cond.instanceMethod yX7_newGroup]
def wsX7_by_r2 : List Cond := [Cond.selects RX7 yX7_newGroup yX7_newGroup, Cond.code yX7_newGroup cX7_newGroup 2 (some .int), Cond.methodLink RX7 99 yX7_copy, Cond.instanceMethod yX7_copy, Cond.selects RX7 yX7_copy yX7_copy, Cond.code yX7_copy cX7_copy 4 none]
def wsX7_by : List Cond := .code yX7_by cX7_by 7 (some .int) :: ((wsX7_by_r1 ++ wsX7_by_r2) ++ wsX70)
def wsX7_made_r1 : List Cond := [Cond.fieldLink RX7 61 "TurnGroupsModel" "groups" "I", Cond.fieldLink RX7 29 "TurnGroupsModel" "makers" "[I", Cond.fieldLink RX7 64 "TurnGroupsModel" "turn" "I", Cond.fieldLink RX7 32 "TurnGroupsModel" "makerMany" "[I", Cond.fieldLink RX7 46 "TurnGroupsModel" "many" "I", Cond.fieldLink RX7 22 "TurnGroupsModel" "in" "[Z", Cond.constant RX7 119 (483840), Cond.methodLink RX7 57 yX7_isIn, Cond.static yX7_isIn, Cond.initialized RX7, Cond.code yX7_isIn cX7_isIn 3 (some .boolean), Cond.methodLink RX7 109 yX7_isGroup, Cond.instanceMethod yX7_isGroup, Cond.selects RX7 yX7_isGroup yX7_isGroup, Cond.code yX7_isGroup cX7_isGroup 2 (some .boolean), Cond.methodLink RX7 116 yX7_goDown, Cond.instanceMethod yX7_goDown, Cond.selects RX7 yX7_goDown yX7_goDown, Cond.code yX7_goDown cX7_goDown 6 none, Cond.methodLink RX7 90 yX7_begin, Cond.instanceMethod yX7_begin, Cond.selects RX7 yX7_begin yX7_begin, Cond.code yX7_begin cX7_begin 2 none, Cond.methodLink RX7 75 yX7_clear]
def wsX7_made_r2 : List Cond := [Cond.instanceMethod yX7_clear, Cond.selects RX7 yX7_clear yX7_clear, Cond.code yX7_clear cX7_clear 3 none, Cond.constant RX7 35 (40320), Cond.methodLink RX7 93 yX7_joinAll, Cond.instanceMethod yX7_joinAll, Cond.selects RX7 yX7_joinAll yX7_joinAll, Cond.code yX7_joinAll cX7_joinAll 4 none, Cond.methodLink RX7 79 yX7_hasIt, Cond.instanceMethod yX7_hasIt, Cond.selects RX7 yX7_hasIt yX7_hasIt, Cond.code yX7_hasIt cX7_hasIt 3 (some .boolean), Cond.methodLink RX7 83 yX7_join, Cond.instanceMethod yX7_join, Cond.selects RX7 yX7_join yX7_join, Cond.code yX7_join cX7_join 7 none, Cond.fieldLink RX7 36 "TurnGroupsModel" "queue" "[I", Cond.methodLink RX7 53 yX7_oneThen, Cond.instanceMethod yX7_oneThen, Cond.selects RX7 yX7_oneThen yX7_oneThen, Cond.code yX7_oneThen cX7_oneThen 4 (some .int), Cond.fieldLink RX7 7 "TurnGroupsModel" "n" "I", Cond.fieldLink RX7 26 "TurnGroupsModel" "now" "[I", Cond.fieldLink RX7 14 "TurnGroupsModel" "image" "[I"]
def wsX7_made_r3 : List Cond := [Cond.methodLink RX7 49 yX7_placeNow, Cond.instanceMethod yX7_placeNow, Cond.selects RX7 yX7_placeNow yX7_placeNow, Cond.code yX7_placeNow cX7_placeNow 5 (some .int), Cond.methodLink RX7 72 yX7_backOf, Cond.instanceMethod yX7_backOf, Cond.selects RX7 yX7_backOf yX7_backOf, Cond.code yX7_backOf cX7_backOf 3 (some .int), Cond.methodLink RX7 96 yX7_close, Cond.instanceMethod yX7_close, Cond.selects RX7 yX7_close yX7_close, Cond.code yX7_close cX7_close 5 none, Cond.methodLink RX7 87 yX7_carried, Cond.instanceMethod yX7_carried, Cond.selects RX7 yX7_carried yX7_carried, Cond.code yX7_carried cX7_carried 4 (some .int), Cond.methodLink RX7 106 yX7_newGroup, Cond.instanceMethod yX7_newGroup, Cond.selects RX7 yX7_newGroup yX7_newGroup, Cond.code yX7_newGroup cX7_newGroup 2 (some .int), Cond.methodLink RX7 99 yX7_copy, Cond.instanceMethod yX7_copy, Cond.selects RX7 yX7_copy yX7_copy, Cond.code yX7_copy cX7_copy 4 none]
def wsX7_made : List Cond := .code yX7_made cX7_made 7 (some .int) :: ((wsX7_made_r1 ++ (wsX7_made_r2 ++ wsX7_made_r3)) ++ wsX70)
def wsX7_undo : List Cond := .code yX7_undo cX7_undo 1 (some .int) :: ([.fieldLink RX7 61 "TurnGroupsModel" "groups" "I"] ++ wsX70)
def wsX7_sizeOf : List Cond := .code yX7_sizeOf cX7_sizeOf 4 (some .int) :: ([.fieldLink RX7 46 "TurnGroupsModel" "many" "I", .methodLink RX7 79 yX7_hasIt, .instanceMethod yX7_hasIt, .selects RX7 yX7_hasIt yX7_hasIt, .initialized RX7, .code yX7_hasIt cX7_hasIt 3 (some .boolean), .fieldLink RX7 22 "TurnGroupsModel" "in" "[Z", .constant RX7 35 (40320)] ++ wsX70)
def wsX7_size : List Cond := .code yX7_size cX7_size 2 (some .int) :: ([.methodLink RX7 109 yX7_isGroup, .instanceMethod yX7_isGroup, .selects RX7 yX7_isGroup yX7_isGroup, .initialized RX7, .code yX7_isGroup cX7_isGroup 2 (some .boolean), .fieldLink RX7 61 "TurnGroupsModel" "groups" "I", .methodLink RX7 57 yX7_isIn, .static yX7_isIn, .code yX7_isIn cX7_isIn 3 (some .boolean), .methodLink RX7 120 yX7_sizeOf, .instanceMethod yX7_sizeOf, .selects RX7 yX7_sizeOf yX7_sizeOf, .code yX7_sizeOf cX7_sizeOf 4 (some .int), .fieldLink RX7 46 "TurnGroupsModel" "many" "I", .methodLink RX7 79 yX7_hasIt, .instanceMethod yX7_hasIt, .selects RX7 yX7_hasIt yX7_hasIt, .code yX7_hasIt cX7_hasIt 3 (some .boolean), .fieldLink RX7 22 "TurnGroupsModel" "in" "[Z", .constant RX7 35 (40320)] ++ wsX70)
def wsX7_has : List Cond := .code yX7_has cX7_has 2 (some .int) :: ([.fieldLink RX7 64 "TurnGroupsModel" "turn" "I", .methodLink RX7 109 yX7_isGroup, .instanceMethod yX7_isGroup, .selects RX7 yX7_isGroup yX7_isGroup, .initialized RX7, .code yX7_isGroup cX7_isGroup 2 (some .boolean), .fieldLink RX7 61 "TurnGroupsModel" "groups" "I", .methodLink RX7 57 yX7_isIn, .static yX7_isIn, .code yX7_isIn cX7_isIn 3 (some .boolean), .methodLink RX7 79 yX7_hasIt, .instanceMethod yX7_hasIt, .selects RX7 yX7_hasIt yX7_hasIt, .code yX7_hasIt cX7_hasIt 3 (some .boolean), .fieldLink RX7 22 "TurnGroupsModel" "in" "[Z", .constant RX7 35 (40320)] ++ wsX70)
def wsX7_isWithin : List Cond := .code yX7_isWithin cX7_isWithin 5 (some .boolean) :: ([.fieldLink RX7 46 "TurnGroupsModel" "many" "I", .methodLink RX7 79 yX7_hasIt, .instanceMethod yX7_hasIt, .selects RX7 yX7_hasIt yX7_hasIt, .initialized RX7, .code yX7_hasIt cX7_hasIt 3 (some .boolean), .fieldLink RX7 22 "TurnGroupsModel" "in" "[Z", .constant RX7 35 (40320)] ++ wsX70)
def wsX7_isNormal_r1 : List Cond := [Cond.fieldLink RX7 32 "TurnGroupsModel" "makerMany" "[I", Cond.fieldLink RX7 29 "TurnGroupsModel" "makers" "[I", Cond.methodLink RX7 90 yX7_begin, Cond.instanceMethod yX7_begin, Cond.selects RX7 yX7_begin yX7_begin, Cond.initialized RX7, Cond.code yX7_begin cX7_begin 2 none, Cond.methodLink RX7 75 yX7_clear, Cond.instanceMethod yX7_clear, Cond.selects RX7 yX7_clear yX7_clear, Cond.code yX7_clear cX7_clear 3 none, Cond.fieldLink RX7 46 "TurnGroupsModel" "many" "I", Cond.fieldLink RX7 22 "TurnGroupsModel" "in" "[Z", Cond.constant RX7 35 (40320), Cond.methodLink RX7 93 yX7_joinAll, Cond.instanceMethod yX7_joinAll, Cond.selects RX7 yX7_joinAll yX7_joinAll, Cond.code yX7_joinAll cX7_joinAll 4 none, Cond.methodLink RX7 79 yX7_hasIt, Cond.instanceMethod yX7_hasIt, Cond.selects RX7 yX7_hasIt yX7_hasIt, Cond.code yX7_hasIt cX7_hasIt 3 (some .boolean), Cond.methodLink RX7 83 yX7_join, Cond.instanceMethod yX7_join]
def wsX7_isNormal_r2 : List Cond := [Cond.selects RX7 yX7_join yX7_join, Cond.code yX7_join cX7_join 7 none, Cond.fieldLink RX7 36 "TurnGroupsModel" "queue" "[I", Cond.methodLink RX7 53 yX7_oneThen, Cond.instanceMethod yX7_oneThen, Cond.selects RX7 yX7_oneThen yX7_oneThen, Cond.code yX7_oneThen cX7_oneThen 4 (some .int), Cond.fieldLink RX7 7 "TurnGroupsModel" "n" "I", Cond.fieldLink RX7 26 "TurnGroupsModel" "now" "[I", Cond.fieldLink RX7 14 "TurnGroupsModel" "image" "[I", Cond.methodLink RX7 49 yX7_placeNow, Cond.instanceMethod yX7_placeNow, Cond.selects RX7 yX7_placeNow yX7_placeNow, Cond.code yX7_placeNow cX7_placeNow 5 (some .int), Cond.methodLink RX7 87 yX7_carried, Cond.instanceMethod yX7_carried, Cond.selects RX7 yX7_carried yX7_carried, Cond.code yX7_carried cX7_carried 4 (some .int)]
def wsX7_isNormal : List Cond := .code yX7_isNormal cX7_isNormal 6 (some .boolean) :: ((wsX7_isNormal_r1 ++ wsX7_isNormal_r2) ++ wsX70)
def wsX7_is_r1 : List Cond := [Cond.methodLink RX7 57 yX7_isIn, Cond.static yX7_isIn, Cond.initialized RX7, Cond.code yX7_isIn cX7_isIn 3 (some .boolean), Cond.methodLink RX7 109 yX7_isGroup, Cond.instanceMethod yX7_isGroup, Cond.selects RX7 yX7_isGroup yX7_isGroup, Cond.code yX7_isGroup cX7_isGroup 2 (some .boolean), Cond.fieldLink RX7 61 "TurnGroupsModel" "groups" "I", Cond.methodLink RX7 123 yX7_isWithin, Cond.instanceMethod yX7_isWithin, Cond.selects RX7 yX7_isWithin yX7_isWithin, Cond.code yX7_isWithin cX7_isWithin 5 (some .boolean), Cond.fieldLink RX7 46 "TurnGroupsModel" "many" "I", Cond.methodLink RX7 79 yX7_hasIt, Cond.instanceMethod yX7_hasIt, Cond.selects RX7 yX7_hasIt yX7_hasIt, Cond.code yX7_hasIt cX7_hasIt 3 (some .boolean), Cond.fieldLink RX7 22 "TurnGroupsModel" "in" "[Z", Cond.constant RX7 35 (40320), Cond.methodLink RX7 126 yX7_isNormal, Cond.instanceMethod yX7_isNormal, Cond.selects RX7 yX7_isNormal yX7_isNormal, Cond.code yX7_isNormal cX7_isNormal 6 (some .boolean)]
def wsX7_is_r2 : List Cond := [Cond.fieldLink RX7 32 "TurnGroupsModel" "makerMany" "[I", Cond.fieldLink RX7 29 "TurnGroupsModel" "makers" "[I", Cond.methodLink RX7 90 yX7_begin, Cond.instanceMethod yX7_begin, Cond.selects RX7 yX7_begin yX7_begin, Cond.code yX7_begin cX7_begin 2 none, Cond.methodLink RX7 75 yX7_clear, Cond.instanceMethod yX7_clear, Cond.selects RX7 yX7_clear yX7_clear, Cond.code yX7_clear cX7_clear 3 none, Cond.methodLink RX7 93 yX7_joinAll, Cond.instanceMethod yX7_joinAll, Cond.selects RX7 yX7_joinAll yX7_joinAll, Cond.code yX7_joinAll cX7_joinAll 4 none, Cond.methodLink RX7 83 yX7_join, Cond.instanceMethod yX7_join, Cond.selects RX7 yX7_join yX7_join, Cond.code yX7_join cX7_join 7 none, Cond.fieldLink RX7 36 "TurnGroupsModel" "queue" "[I", Cond.methodLink RX7 53 yX7_oneThen, Cond.instanceMethod yX7_oneThen, Cond.selects RX7 yX7_oneThen yX7_oneThen, Cond.code yX7_oneThen cX7_oneThen 4 (some .int), Cond.fieldLink RX7 7 "TurnGroupsModel" "n" "I"]
def wsX7_is_r3 : List Cond := [Cond.fieldLink RX7 26 "TurnGroupsModel" "now" "[I", Cond.fieldLink RX7 14 "TurnGroupsModel" "image" "[I", Cond.methodLink RX7 49 yX7_placeNow, Cond.instanceMethod yX7_placeNow, Cond.selects RX7 yX7_placeNow yX7_placeNow, Cond.code yX7_placeNow cX7_placeNow 5 (some .int), Cond.methodLink RX7 87 yX7_carried, Cond.instanceMethod yX7_carried, Cond.selects RX7 yX7_carried yX7_carried, Cond.code yX7_carried cX7_carried 4 (some .int)]
def wsX7_is : List Cond := .code yX7_is cX7_is 5 (some .int) :: ((wsX7_is_r1 ++ (wsX7_is_r2 ++ wsX7_is_r3)) ++ wsX70)
def wsX7_orbit : List Cond := .code yX7_orbit cX7_orbit 5 (some .int) :: ([.fieldLink RX7 7 "TurnGroupsModel" "n" "I", .fieldLink RX7 46 "TurnGroupsModel" "many" "I", .fieldLink RX7 14 "TurnGroupsModel" "image" "[I", .methodLink RX7 109 yX7_isGroup, .instanceMethod yX7_isGroup, .selects RX7 yX7_isGroup yX7_isGroup, .initialized RX7, .code yX7_isGroup cX7_isGroup 2 (some .boolean), .fieldLink RX7 61 "TurnGroupsModel" "groups" "I", .methodLink RX7 57 yX7_isIn, .static yX7_isIn, .code yX7_isIn cX7_isIn 3 (some .boolean), .methodLink RX7 79 yX7_hasIt, .instanceMethod yX7_hasIt, .selects RX7 yX7_hasIt yX7_hasIt, .code yX7_hasIt cX7_hasIt 3 (some .boolean), .fieldLink RX7 22 "TurnGroupsModel" "in" "[Z", .constant RX7 35 (40320)] ++ wsX70)
def wsX7_block : List Cond := .code yX7_block cX7_block 8 (some .int) :: ([.fieldLink RX7 7 "TurnGroupsModel" "n" "I", .fieldLink RX7 46 "TurnGroupsModel" "many" "I", .methodLink RX7 109 yX7_isGroup, .instanceMethod yX7_isGroup, .selects RX7 yX7_isGroup yX7_isGroup, .initialized RX7, .code yX7_isGroup cX7_isGroup 2 (some .boolean), .fieldLink RX7 61 "TurnGroupsModel" "groups" "I", .methodLink RX7 57 yX7_isIn, .static yX7_isIn, .code yX7_isIn cX7_isIn 3 (some .boolean), .methodLink RX7 79 yX7_hasIt, .instanceMethod yX7_hasIt, .selects RX7 yX7_hasIt yX7_hasIt, .code yX7_hasIt cX7_hasIt 3 (some .boolean), .fieldLink RX7 22 "TurnGroupsModel" "in" "[Z", .constant RX7 35 (40320), .methodLink RX7 113 yX7_setOf, .instanceMethod yX7_setOf, .selects RX7 yX7_setOf yX7_setOf, .code yX7_setOf cX7_setOf 5 (some .int), .fieldLink RX7 14 "TurnGroupsModel" "image" "[I"] ++ wsX70)
def wsX7_steps_r1 : List Cond := [Cond.methodLink RX7 109 yX7_isGroup, Cond.instanceMethod yX7_isGroup, Cond.selects RX7 yX7_isGroup yX7_isGroup, Cond.initialized RX7, Cond.code yX7_isGroup cX7_isGroup 2 (some .boolean), Cond.fieldLink RX7 61 "TurnGroupsModel" "groups" "I", Cond.methodLink RX7 57 yX7_isIn, Cond.static yX7_isIn, Cond.code yX7_isIn cX7_isIn 3 (some .boolean), Cond.methodLink RX7 99 yX7_copy, Cond.instanceMethod yX7_copy, Cond.selects RX7 yX7_copy yX7_copy, Cond.code yX7_copy cX7_copy 4 none, Cond.fieldLink RX7 46 "TurnGroupsModel" "many" "I", Cond.fieldLink RX7 22 "TurnGroupsModel" "in" "[Z", Cond.constant RX7 35 (40320), Cond.methodLink RX7 120 yX7_sizeOf, Cond.instanceMethod yX7_sizeOf, Cond.selects RX7 yX7_sizeOf yX7_sizeOf, Cond.code yX7_sizeOf cX7_sizeOf 4 (some .int), Cond.methodLink RX7 79 yX7_hasIt, Cond.instanceMethod yX7_hasIt, Cond.selects RX7 yX7_hasIt yX7_hasIt, Cond.code yX7_hasIt cX7_hasIt 3 (some .boolean)]
def wsX7_steps_r2 : List Cond := [Cond.methodLink RX7 116 yX7_goDown, Cond.instanceMethod yX7_goDown, Cond.selects RX7 yX7_goDown yX7_goDown, Cond.code yX7_goDown cX7_goDown 6 none, Cond.fieldLink RX7 32 "TurnGroupsModel" "makerMany" "[I", Cond.fieldLink RX7 29 "TurnGroupsModel" "makers" "[I", Cond.methodLink RX7 90 yX7_begin, Cond.instanceMethod yX7_begin, Cond.selects RX7 yX7_begin yX7_begin, Cond.code yX7_begin cX7_begin 2 none, Cond.methodLink RX7 75 yX7_clear, Cond.instanceMethod yX7_clear, Cond.selects RX7 yX7_clear yX7_clear, Cond.code yX7_clear cX7_clear 3 none, Cond.methodLink RX7 93 yX7_joinAll, Cond.instanceMethod yX7_joinAll, Cond.selects RX7 yX7_joinAll yX7_joinAll, Cond.code yX7_joinAll cX7_joinAll 4 none, Cond.methodLink RX7 83 yX7_join, Cond.instanceMethod yX7_join, Cond.selects RX7 yX7_join yX7_join, Cond.code yX7_join cX7_join 7 none, Cond.fieldLink RX7 36 "TurnGroupsModel" "queue" "[I", Cond.methodLink RX7 53 yX7_oneThen]
def wsX7_steps_r3 : List Cond := [Cond.instanceMethod yX7_oneThen, Cond.selects RX7 yX7_oneThen yX7_oneThen, Cond.code yX7_oneThen cX7_oneThen 4 (some .int), Cond.fieldLink RX7 7 "TurnGroupsModel" "n" "I", Cond.fieldLink RX7 26 "TurnGroupsModel" "now" "[I", Cond.fieldLink RX7 14 "TurnGroupsModel" "image" "[I", Cond.methodLink RX7 49 yX7_placeNow, Cond.instanceMethod yX7_placeNow, Cond.selects RX7 yX7_placeNow yX7_placeNow, Cond.code yX7_placeNow cX7_placeNow 5 (some .int), Cond.methodLink RX7 72 yX7_backOf, Cond.instanceMethod yX7_backOf, Cond.selects RX7 yX7_backOf yX7_backOf, Cond.code yX7_backOf cX7_backOf 3 (some .int), Cond.methodLink RX7 96 yX7_close, Cond.instanceMethod yX7_close, Cond.selects RX7 yX7_close yX7_close, Cond.code yX7_close cX7_close 5 none, Cond.methodLink RX7 87 yX7_carried, Cond.instanceMethod yX7_carried, Cond.selects RX7 yX7_carried yX7_carried, Cond.code yX7_carried cX7_carried 4 (some .int)]
def wsX7_steps : List Cond := .code yX7_steps cX7_steps 5 (some .int) :: ((wsX7_steps_r1 ++ (wsX7_steps_r2 ++ wsX7_steps_r3)) ++ wsX70)
def wsX7_stillIn : List Cond := .code yX7_stillIn cX7_stillIn 4 (some .int) :: ([.fieldLink RX7 7 "TurnGroupsModel" "n" "I", .fieldLink RX7 14 "TurnGroupsModel" "image" "[I"] ++ wsX70)
def wsX7_still : List Cond := .code yX7_still cX7_still 5 (some .int) :: ([.fieldLink RX7 7 "TurnGroupsModel" "n" "I", .fieldLink RX7 46 "TurnGroupsModel" "many" "I", .methodLink RX7 109 yX7_isGroup, .instanceMethod yX7_isGroup, .selects RX7 yX7_isGroup yX7_isGroup, .initialized RX7, .code yX7_isGroup cX7_isGroup 2 (some .boolean), .fieldLink RX7 61 "TurnGroupsModel" "groups" "I", .methodLink RX7 57 yX7_isIn, .static yX7_isIn, .code yX7_isIn cX7_isIn 3 (some .boolean), .methodLink RX7 79 yX7_hasIt, .instanceMethod yX7_hasIt, .selects RX7 yX7_hasIt yX7_hasIt, .code yX7_hasIt cX7_hasIt 3 (some .boolean), .fieldLink RX7 22 "TurnGroupsModel" "in" "[Z", .constant RX7 35 (40320), .methodLink RX7 129 yX7_stillIn, .instanceMethod yX7_stillIn, .selects RX7 yX7_stillIn yX7_stillIn, .code yX7_stillIn cX7_stillIn 4 (some .int), .fieldLink RX7 14 "TurnGroupsModel" "image" "[I"] ++ wsX70)
def wsX7_element : List Cond := .code yX7_element cX7_element 5 (some .int) :: ([.fieldLink RX7 46 "TurnGroupsModel" "many" "I", .fieldLink RX7 64 "TurnGroupsModel" "turn" "I", .methodLink RX7 109 yX7_isGroup, .instanceMethod yX7_isGroup, .selects RX7 yX7_isGroup yX7_isGroup, .initialized RX7, .code yX7_isGroup cX7_isGroup 2 (some .boolean), .fieldLink RX7 61 "TurnGroupsModel" "groups" "I", .methodLink RX7 57 yX7_isIn, .static yX7_isIn, .code yX7_isIn cX7_isIn 3 (some .boolean), .methodLink RX7 79 yX7_hasIt, .instanceMethod yX7_hasIt, .selects RX7 yX7_hasIt yX7_hasIt, .code yX7_hasIt cX7_hasIt 3 (some .boolean), .fieldLink RX7 22 "TurnGroupsModel" "in" "[Z", .constant RX7 35 (40320)] ++ wsX70)
def wsX7_place : List Cond := .code yX7_place cX7_place 4 (some .int) :: ([.fieldLink RX7 64 "TurnGroupsModel" "turn" "I", .methodLink RX7 109 yX7_isGroup, .instanceMethod yX7_isGroup, .selects RX7 yX7_isGroup yX7_isGroup, .initialized RX7, .code yX7_isGroup cX7_isGroup 2 (some .boolean), .fieldLink RX7 61 "TurnGroupsModel" "groups" "I", .methodLink RX7 57 yX7_isIn, .static yX7_isIn, .code yX7_isIn cX7_isIn 3 (some .boolean), .methodLink RX7 79 yX7_hasIt, .instanceMethod yX7_hasIt, .selects RX7 yX7_hasIt yX7_hasIt, .code yX7_hasIt cX7_hasIt 3 (some .boolean), .fieldLink RX7 22 "TurnGroupsModel" "in" "[Z", .constant RX7 35 (40320)] ++ wsX70)
def wsX7_carry : List Cond := .code yX7_carry cX7_carry 6 (some .int) :: ([.fieldLink RX7 7 "TurnGroupsModel" "n" "I", .fieldLink RX7 46 "TurnGroupsModel" "many" "I", .fieldLink RX7 64 "TurnGroupsModel" "turn" "I", .methodLink RX7 109 yX7_isGroup, .instanceMethod yX7_isGroup, .selects RX7 yX7_isGroup yX7_isGroup, .initialized RX7, .code yX7_isGroup cX7_isGroup 2 (some .boolean), .fieldLink RX7 61 "TurnGroupsModel" "groups" "I", .methodLink RX7 57 yX7_isIn, .static yX7_isIn, .code yX7_isIn cX7_isIn 3 (some .boolean), .methodLink RX7 79 yX7_hasIt, .instanceMethod yX7_hasIt, .selects RX7 yX7_hasIt yX7_hasIt, .code yX7_hasIt cX7_hasIt 3 (some .boolean), .fieldLink RX7 22 "TurnGroupsModel" "in" "[Z", .constant RX7 35 (40320), .methodLink RX7 113 yX7_setOf, .instanceMethod yX7_setOf, .selects RX7 yX7_setOf yX7_setOf, .code yX7_setOf cX7_setOf 5 (some .int), .fieldLink RX7 14 "TurnGroupsModel" "image" "[I"] ++ wsX70)
def wsX7_count : List Cond := .code yX7_count cX7_count 2 (some .int) :: ([.fieldLink RX7 7 "TurnGroupsModel" "n" "I", .fieldLink RX7 61 "TurnGroupsModel" "groups" "I", .fieldLink RX7 64 "TurnGroupsModel" "turn" "I", .methodLink RX7 129 yX7_stillIn, .instanceMethod yX7_stillIn, .selects RX7 yX7_stillIn yX7_stillIn, .initialized RX7, .code yX7_stillIn cX7_stillIn 4 (some .int), .fieldLink RX7 14 "TurnGroupsModel" "image" "[I", .methodLink RX7 102 yX7_isEven, .instanceMethod yX7_isEven, .selects RX7 yX7_isEven yX7_isEven, .code yX7_isEven cX7_isEven 5 (some .boolean)] ++ wsX70)
def wsJ9_abs_067f4 : List Cond := .code yJ9_abs_067f4 cJ9_abs_067f4 2 (some .long) :: ([])
abbrev vwCl : List vw_C := [(RX0, TX0, 2), (RX1, TX1, 1), (RX2, TX2, 1), (RX3, TX3, 1), (RX4, TX4, 7), (RX6, TX6, 6), (RX7, TX7, 11)]
end
section
set_option maxRecDepth 20000 in
theorem ggX0_init_X5_init : GoodIn wsX0_init wsX5_init := goodIn_r _ [5, 6, 7, 8] (by decide +kernel) (by decide +kernel)
set_option maxRecDepth 20000 in
theorem gX0_init_X5_init_n1 : GoodIn wsX0_init (wsX5_init) := ggX0_init_X5_init
theorem dX0_init_0 : decode cX0_init 0 = .ok (.aload_n 0, 1) := by decide +kernel
theorem dX0_init_1 : decode cX0_init 1 = .ok (.invokespecial 1, 3) := by decide +kernel
theorem dX0_init_4 : decode cX0_init 4 = .ok (.aload_n 0, 1) := by decide +kernel
theorem dX0_init_5 : decode cX0_init 5 = .ok (.iload_n 1, 1) := by decide +kernel
theorem dX0_init_6 : decode cX0_init 6 = .ok (.putfield 7, 3) := by decide +kernel
theorem dX0_init_9 : decode cX0_init 9 = .ok (.aload_n 0, 1) := by decide +kernel
theorem dX0_init_10 : decode cX0_init 10 = .ok (.iload_n 2, 1) := by decide +kernel
theorem dX0_init_11 : decode cX0_init 11 = .ok (.putfield 13, 3) := by decide +kernel
theorem dX0_init_14 : decode cX0_init 14 = .ok (.return_, 1) := by decide +kernel
set_option maxRecDepth 20000 in
theorem ggX0_fits_X6_image : GoodIn wsX0_fits wsX6_image := goodIn_r _ [5] (by decide +kernel) (by decide +kernel)
set_option maxRecDepth 20000 in
theorem gX0_fits_X6_image_n16 : GoodIn wsX0_fits (wsX6_image) := ggX0_fits_X6_image
theorem dX0_fits_0 : decode cX0_fits 0 = .ok (.aload_n 0, 1) := by decide +kernel
theorem dX0_fits_1 : decode cX0_fits 1 = .ok (.getfield 7, 3) := by decide +kernel
theorem dX0_fits_4 : decode cX0_fits 4 = .ok (.iload_n 2, 1) := by decide +kernel
theorem dX0_fits_5 : decode cX0_fits 5 = .ok (.ishr, 1) := by decide +kernel
theorem dX0_fits_6 : decode cX0_fits 6 = .ok (.iconst 1, 1) := by decide +kernel
theorem dX0_fits_7 : decode cX0_fits 7 = .ok (.iand, 1) := by decide +kernel
theorem dX0_fits_8 : decode cX0_fits 8 = .ok (.aload_n 0, 1) := by decide +kernel
theorem dX0_fits_9 : decode cX0_fits 9 = .ok (.getfield 13, 3) := by decide +kernel
theorem dX0_fits_12 : decode cX0_fits 12 = .ok (.iload_n 1, 1) := by decide +kernel
theorem dX0_fits_13 : decode cX0_fits 13 = .ok (.iload_n 2, 1) := by decide +kernel
theorem dX0_fits_14 : decode cX0_fits 14 = .ok (.invokestatic 16, 3) := by decide +kernel
theorem dX0_fits_17 : decode cX0_fits 17 = .ok (.ishr, 1) := by decide +kernel
theorem dX0_fits_18 : decode cX0_fits 18 = .ok (.iconst 1, 1) := by decide +kernel
theorem dX0_fits_19 : decode cX0_fits 19 = .ok (.iand, 1) := by decide +kernel
theorem dX0_fits_20 : decode cX0_fits 20 = .ok (.if_icmp .ne 7, 3) := by decide +kernel
theorem dX0_fits_23 : decode cX0_fits 23 = .ok (.iconst 1, 1) := by decide +kernel
theorem dX0_fits_24 : decode cX0_fits 24 = .ok (.goto 4, 3) := by decide +kernel
theorem dX0_fits_27 : decode cX0_fits 27 = .ok (.iconst 0, 1) := by decide +kernel
theorem dX0_fits_28 : decode cX0_fits 28 = .ok (.ireturn, 1) := by decide +kernel
set_option maxRecDepth 20000 in
theorem ggX1_init_X5_init : GoodIn wsX1_init wsX5_init := goodIn_r _ [4, 5, 6, 7] (by decide +kernel) (by decide +kernel)
set_option maxRecDepth 20000 in
theorem gX1_init_X5_init_n1 : GoodIn wsX1_init (wsX5_init) := ggX1_init_X5_init
theorem dX1_init_0 : decode cX1_init 0 = .ok (.aload_n 0, 1) := by decide +kernel
theorem dX1_init_1 : decode cX1_init 1 = .ok (.invokespecial 1, 3) := by decide +kernel
theorem dX1_init_4 : decode cX1_init 4 = .ok (.aload_n 0, 1) := by decide +kernel
theorem dX1_init_5 : decode cX1_init 5 = .ok (.aload_n 1, 1) := by decide +kernel
theorem dX1_init_6 : decode cX1_init 6 = .ok (.putfield 7, 3) := by decide +kernel
theorem dX1_init_9 : decode cX1_init 9 = .ok (.return_, 1) := by decide +kernel
set_option maxRecDepth 20000 in
theorem ggX1_fits_X1_agree : GoodIn wsX1_fits wsX1_agree := goodIn_r _ [5, 6, 7, 8] (by decide +kernel) (by decide +kernel)
set_option maxRecDepth 20000 in
theorem gX1_fits_X1_agree : GoodIn wsX1_fits (va_wsS RX1 23 yX1_agree wsX1_agree) := goodIn_app (goodIn_of _ (by decide +kernel)) ggX1_fits_X1_agree
theorem dX1_fits_0 : decode cX1_fits 0 = .ok (.iconst 0, 1) := by decide +kernel
theorem dX1_fits_1 : decode cX1_fits 1 = .ok (.istore_n 3, 1) := by decide +kernel
theorem dX1_fits_2 : decode cX1_fits 2 = .ok (.iload_n 3, 1) := by decide +kernel
theorem dX1_fits_3 : decode cX1_fits 3 = .ok (.aload_n 0, 1) := by decide +kernel
theorem dX1_fits_4 : decode cX1_fits 4 = .ok (.getfield 7, 3) := by decide +kernel
theorem dX1_fits_7 : decode cX1_fits 7 = .ok (.getfield 13, 3) := by decide +kernel
theorem dX1_fits_10 : decode cX1_fits 10 = .ok (.if_icmp .ge 28, 3) := by decide +kernel
theorem dX1_fits_13 : decode cX1_fits 13 = .ok (.iload_n 1, 1) := by decide +kernel
theorem dX1_fits_14 : decode cX1_fits 14 = .ok (.aload_n 0, 1) := by decide +kernel
theorem dX1_fits_15 : decode cX1_fits 15 = .ok (.getfield 7, 3) := by decide +kernel
theorem dX1_fits_18 : decode cX1_fits 18 = .ok (.getfield 19, 3) := by decide +kernel
theorem dX1_fits_21 : decode cX1_fits 21 = .ok (.iload_n 3, 1) := by decide +kernel
theorem dX1_fits_22 : decode cX1_fits 22 = .ok (.iaload, 1) := by decide +kernel
theorem dX1_fits_23 : decode cX1_fits 23 = .ok (.iload_n 2, 1) := by decide +kernel
theorem dX1_fits_24 : decode cX1_fits 24 = .ok (.invokestatic 23, 3) := by decide +kernel
theorem dX1_fits_27 : decode cX1_fits 27 = .ok (.ifCond .ne 5, 3) := by decide +kernel
theorem dX1_fits_30 : decode cX1_fits 30 = .ok (.iconst 0, 1) := by decide +kernel
theorem dX1_fits_31 : decode cX1_fits 31 = .ok (.ireturn, 1) := by decide +kernel
theorem dX1_fits_32 : decode cX1_fits 32 = .ok (.iinc 3 1, 3) := by decide +kernel
theorem dX1_fits_35 : decode cX1_fits 35 = .ok (.goto (-33), 3) := by decide +kernel
theorem dX1_fits_38 : decode cX1_fits 38 = .ok (.iconst 1, 1) := by decide +kernel
theorem dX1_fits_39 : decode cX1_fits 39 = .ok (.ireturn, 1) := by decide +kernel
set_option maxRecDepth 20000 in
theorem ggX1_agree_X6_image : GoodIn wsX1_agree wsX6_image := goodIn_r _ [3] (by decide +kernel) (by decide +kernel)
set_option maxRecDepth 20000 in
theorem gX1_agree_X6_image_n27 : GoodIn wsX1_agree (wsX6_image) := ggX1_agree_X6_image
theorem dX1_agree_0 : decode cX1_agree 0 = .ok (.iconst 0, 1) := by decide +kernel
theorem dX1_agree_1 : decode cX1_agree 1 = .ok (.istore_n 3, 1) := by decide +kernel
theorem dX1_agree_2 : decode cX1_agree 2 = .ok (.iload_n 3, 1) := by decide +kernel
theorem dX1_agree_3 : decode cX1_agree 3 = .ok (.iload_n 2, 1) := by decide +kernel
theorem dX1_agree_4 : decode cX1_agree 4 = .ok (.if_icmp .gt 42, 3) := by decide +kernel
theorem dX1_agree_7 : decode cX1_agree 7 = .ok (.iload_n 1, 1) := by decide +kernel
theorem dX1_agree_8 : decode cX1_agree 8 = .ok (.iload_n 3, 1) := by decide +kernel
theorem dX1_agree_9 : decode cX1_agree 9 = .ok (.invokestatic 27, 3) := by decide +kernel
theorem dX1_agree_12 : decode cX1_agree 12 = .ok (.istore 4, 2) := by decide +kernel
theorem dX1_agree_14 : decode cX1_agree 14 = .ok (.iload 4, 2) := by decide +kernel
theorem dX1_agree_16 : decode cX1_agree 16 = .ok (.iload_n 2, 1) := by decide +kernel
theorem dX1_agree_17 : decode cX1_agree 17 = .ok (.if_icmp .gt 23, 3) := by decide +kernel
theorem dX1_agree_20 : decode cX1_agree 20 = .ok (.iload_n 0, 1) := by decide +kernel
theorem dX1_agree_21 : decode cX1_agree 21 = .ok (.iload 4, 2) := by decide +kernel
theorem dX1_agree_23 : decode cX1_agree 23 = .ok (.invokestatic 27, 3) := by decide +kernel
theorem dX1_agree_26 : decode cX1_agree 26 = .ok (.iload_n 1, 1) := by decide +kernel
theorem dX1_agree_27 : decode cX1_agree 27 = .ok (.iload_n 0, 1) := by decide +kernel
theorem dX1_agree_28 : decode cX1_agree 28 = .ok (.iload_n 3, 1) := by decide +kernel
theorem dX1_agree_29 : decode cX1_agree 29 = .ok (.invokestatic 27, 3) := by decide +kernel
theorem dX1_agree_32 : decode cX1_agree 32 = .ok (.invokestatic 27, 3) := by decide +kernel
theorem dX1_agree_35 : decode cX1_agree 35 = .ok (.if_icmp .eq 5, 3) := by decide +kernel
theorem dX1_agree_38 : decode cX1_agree 38 = .ok (.iconst 0, 1) := by decide +kernel
theorem dX1_agree_39 : decode cX1_agree 39 = .ok (.ireturn, 1) := by decide +kernel
theorem dX1_agree_40 : decode cX1_agree 40 = .ok (.iinc 3 1, 3) := by decide +kernel
theorem dX1_agree_43 : decode cX1_agree 43 = .ok (.goto (-41), 3) := by decide +kernel
theorem dX1_agree_46 : decode cX1_agree 46 = .ok (.iconst 1, 1) := by decide +kernel
theorem dX1_agree_47 : decode cX1_agree 47 = .ok (.ireturn, 1) := by decide +kernel
set_option maxRecDepth 20000 in
theorem ggX2_init_X5_init : GoodIn wsX2_init wsX5_init := goodIn_r _ [4, 5, 6, 7] (by decide +kernel) (by decide +kernel)
set_option maxRecDepth 20000 in
theorem gX2_init_X5_init_n1 : GoodIn wsX2_init (wsX5_init) := ggX2_init_X5_init
theorem dX2_init_0 : decode cX2_init 0 = .ok (.aload_n 0, 1) := by decide +kernel
theorem dX2_init_1 : decode cX2_init 1 = .ok (.invokespecial 1, 3) := by decide +kernel
theorem dX2_init_4 : decode cX2_init 4 = .ok (.aload_n 0, 1) := by decide +kernel
theorem dX2_init_5 : decode cX2_init 5 = .ok (.iload_n 1, 1) := by decide +kernel
theorem dX2_init_6 : decode cX2_init 6 = .ok (.putfield 7, 3) := by decide +kernel
theorem dX2_init_9 : decode cX2_init 9 = .ok (.return_, 1) := by decide +kernel
set_option maxRecDepth 20000 in
theorem ggX2_fits_X6_image : GoodIn wsX2_fits wsX6_image := goodIn_r _ [4] (by decide +kernel) (by decide +kernel)
set_option maxRecDepth 20000 in
theorem gX2_fits_X6_image_n13 : GoodIn wsX2_fits (wsX6_image) := ggX2_fits_X6_image
theorem dX2_fits_0 : decode cX2_fits 0 = .ok (.iload_n 1, 1) := by decide +kernel
theorem dX2_fits_1 : decode cX2_fits 1 = .ok (.iload_n 2, 1) := by decide +kernel
theorem dX2_fits_2 : decode cX2_fits 2 = .ok (.invokestatic 13, 3) := by decide +kernel
theorem dX2_fits_5 : decode cX2_fits 5 = .ok (.istore_n 3, 1) := by decide +kernel
theorem dX2_fits_6 : decode cX2_fits 6 = .ok (.iload_n 3, 1) := by decide +kernel
theorem dX2_fits_7 : decode cX2_fits 7 = .ok (.iload_n 2, 1) := by decide +kernel
theorem dX2_fits_8 : decode cX2_fits 8 = .ok (.if_icmp .eq 21, 3) := by decide +kernel
theorem dX2_fits_11 : decode cX2_fits 11 = .ok (.aload_n 0, 1) := by decide +kernel
theorem dX2_fits_12 : decode cX2_fits 12 = .ok (.getfield 7, 3) := by decide +kernel
theorem dX2_fits_15 : decode cX2_fits 15 = .ok (.iload_n 2, 1) := by decide +kernel
theorem dX2_fits_16 : decode cX2_fits 16 = .ok (.ishr, 1) := by decide +kernel
theorem dX2_fits_17 : decode cX2_fits 17 = .ok (.aload_n 0, 1) := by decide +kernel
theorem dX2_fits_18 : decode cX2_fits 18 = .ok (.getfield 7, 3) := by decide +kernel
theorem dX2_fits_21 : decode cX2_fits 21 = .ok (.iload_n 3, 1) := by decide +kernel
theorem dX2_fits_22 : decode cX2_fits 22 = .ok (.ishr, 1) := by decide +kernel
theorem dX2_fits_23 : decode cX2_fits 23 = .ok (.ior, 1) := by decide +kernel
theorem dX2_fits_24 : decode cX2_fits 24 = .ok (.iconst 1, 1) := by decide +kernel
theorem dX2_fits_25 : decode cX2_fits 25 = .ok (.iand, 1) := by decide +kernel
theorem dX2_fits_26 : decode cX2_fits 26 = .ok (.ifCond .ne 7, 3) := by decide +kernel
theorem dX2_fits_29 : decode cX2_fits 29 = .ok (.iconst 1, 1) := by decide +kernel
theorem dX2_fits_30 : decode cX2_fits 30 = .ok (.goto 4, 3) := by decide +kernel
theorem dX2_fits_33 : decode cX2_fits 33 = .ok (.iconst 0, 1) := by decide +kernel
theorem dX2_fits_34 : decode cX2_fits 34 = .ok (.ireturn, 1) := by decide +kernel
set_option maxRecDepth 20000 in
theorem ggX3_init_X5_init : GoodIn wsX3_init wsX5_init := goodIn_r _ [4, 5, 6, 7] (by decide +kernel) (by decide +kernel)
set_option maxRecDepth 20000 in
theorem gX3_init_X5_init_n1 : GoodIn wsX3_init (wsX5_init) := ggX3_init_X5_init
theorem dX3_init_0 : decode cX3_init 0 = .ok (.aload_n 0, 1) := by decide +kernel
theorem dX3_init_1 : decode cX3_init 1 = .ok (.invokespecial 1, 3) := by decide +kernel
theorem dX3_init_4 : decode cX3_init 4 = .ok (.aload_n 0, 1) := by decide +kernel
theorem dX3_init_5 : decode cX3_init 5 = .ok (.aload_n 1, 1) := by decide +kernel
theorem dX3_init_6 : decode cX3_init 6 = .ok (.putfield 7, 3) := by decide +kernel
theorem dX3_init_9 : decode cX3_init 9 = .ok (.return_, 1) := by decide +kernel
set_option maxRecDepth 20000 in
theorem ggX3_fits_X4_holdsStart : GoodIn wsX3_fits wsX4_holdsStart := goodIn_r _ [6, 7, 8, 9, 10, 11, 12, 13, 5, 14, 15, 16, 17, 18, 19, 20, 22, 23, 24, 25, 26, 27, 28] (by decide +kernel) (by decide +kernel)
set_option maxRecDepth 20000 in
theorem gX3_fits_X4_holdsStart : GoodIn wsX3_fits (wsV RX3 13 RX4 yX4_holdsStart wsX4_holdsStart) := goodIn_app (goodIn_of _ (by decide +kernel)) ggX3_fits_X4_holdsStart
theorem dX3_fits_0 : decode cX3_fits 0 = .ok (.aload_n 0, 1) := by decide +kernel
theorem dX3_fits_1 : decode cX3_fits 1 = .ok (.getfield 7, 3) := by decide +kernel
theorem dX3_fits_4 : decode cX3_fits 4 = .ok (.iload_n 1, 1) := by decide +kernel
theorem dX3_fits_5 : decode cX3_fits 5 = .ok (.iload_n 2, 1) := by decide +kernel
theorem dX3_fits_6 : decode cX3_fits 6 = .ok (.invokevirtual 13, 3) := by decide +kernel
theorem dX3_fits_9 : decode cX3_fits 9 = .ok (.ireturn, 1) := by decide +kernel
theorem dX5_init_0 : decode cX5_init 0 = .ok (.aload_n 0, 1) := by decide +kernel
theorem dX5_init_1 : decode cX5_init 1 = .ok (.invokespecial 1, 3) := by decide +kernel
theorem dX5_init_4 : decode cX5_init 4 = .ok (.return_, 1) := by decide +kernel
theorem dJ6_bitCount_0f7a4_0 : decode cJ6_bitCount_0f7a4 0 = .ok (.iload_n 0, 1) := by decide +kernel
theorem dJ6_bitCount_0f7a4_1 : decode cJ6_bitCount_0f7a4 1 = .ok (.iload_n 0, 1) := by decide +kernel
theorem dJ6_bitCount_0f7a4_2 : decode cJ6_bitCount_0f7a4 2 = .ok (.iconst 1, 1) := by decide +kernel
theorem dJ6_bitCount_0f7a4_3 : decode cJ6_bitCount_0f7a4 3 = .ok (.iushr, 1) := by decide +kernel
theorem dJ6_bitCount_0f7a4_4 : decode cJ6_bitCount_0f7a4 4 = .ok (.ldc_w 265, 3) := by decide +kernel
theorem dJ6_bitCount_0f7a4_7 : decode cJ6_bitCount_0f7a4 7 = .ok (.iand, 1) := by decide +kernel
theorem dJ6_bitCount_0f7a4_8 : decode cJ6_bitCount_0f7a4 8 = .ok (.isub, 1) := by decide +kernel
theorem dJ6_bitCount_0f7a4_9 : decode cJ6_bitCount_0f7a4 9 = .ok (.istore_n 0, 1) := by decide +kernel
theorem dJ6_bitCount_0f7a4_10 : decode cJ6_bitCount_0f7a4 10 = .ok (.iload_n 0, 1) := by decide +kernel
theorem dJ6_bitCount_0f7a4_11 : decode cJ6_bitCount_0f7a4 11 = .ok (.ldc_w 266, 3) := by decide +kernel
theorem dJ6_bitCount_0f7a4_14 : decode cJ6_bitCount_0f7a4 14 = .ok (.iand, 1) := by decide +kernel
theorem dJ6_bitCount_0f7a4_15 : decode cJ6_bitCount_0f7a4 15 = .ok (.iload_n 0, 1) := by decide +kernel
theorem dJ6_bitCount_0f7a4_16 : decode cJ6_bitCount_0f7a4 16 = .ok (.iconst 2, 1) := by decide +kernel
theorem dJ6_bitCount_0f7a4_17 : decode cJ6_bitCount_0f7a4 17 = .ok (.iushr, 1) := by decide +kernel
theorem dJ6_bitCount_0f7a4_18 : decode cJ6_bitCount_0f7a4 18 = .ok (.ldc_w 266, 3) := by decide +kernel
theorem dJ6_bitCount_0f7a4_21 : decode cJ6_bitCount_0f7a4 21 = .ok (.iand, 1) := by decide +kernel
theorem dJ6_bitCount_0f7a4_22 : decode cJ6_bitCount_0f7a4 22 = .ok (.iadd, 1) := by decide +kernel
theorem dJ6_bitCount_0f7a4_23 : decode cJ6_bitCount_0f7a4 23 = .ok (.istore_n 0, 1) := by decide +kernel
theorem dJ6_bitCount_0f7a4_24 : decode cJ6_bitCount_0f7a4 24 = .ok (.iload_n 0, 1) := by decide +kernel
theorem dJ6_bitCount_0f7a4_25 : decode cJ6_bitCount_0f7a4 25 = .ok (.iload_n 0, 1) := by decide +kernel
theorem dJ6_bitCount_0f7a4_26 : decode cJ6_bitCount_0f7a4 26 = .ok (.iconst 4, 1) := by decide +kernel
theorem dJ6_bitCount_0f7a4_27 : decode cJ6_bitCount_0f7a4 27 = .ok (.iushr, 1) := by decide +kernel
theorem dJ6_bitCount_0f7a4_28 : decode cJ6_bitCount_0f7a4 28 = .ok (.iadd, 1) := by decide +kernel
theorem dJ6_bitCount_0f7a4_29 : decode cJ6_bitCount_0f7a4 29 = .ok (.ldc_w 267, 3) := by decide +kernel
theorem dJ6_bitCount_0f7a4_32 : decode cJ6_bitCount_0f7a4 32 = .ok (.iand, 1) := by decide +kernel
theorem dJ6_bitCount_0f7a4_33 : decode cJ6_bitCount_0f7a4 33 = .ok (.istore_n 0, 1) := by decide +kernel
theorem dJ6_bitCount_0f7a4_34 : decode cJ6_bitCount_0f7a4 34 = .ok (.iload_n 0, 1) := by decide +kernel
theorem dJ6_bitCount_0f7a4_35 : decode cJ6_bitCount_0f7a4 35 = .ok (.iload_n 0, 1) := by decide +kernel
theorem dJ6_bitCount_0f7a4_36 : decode cJ6_bitCount_0f7a4 36 = .ok (.bipush 8, 2) := by decide +kernel
theorem dJ6_bitCount_0f7a4_38 : decode cJ6_bitCount_0f7a4 38 = .ok (.iushr, 1) := by decide +kernel
theorem dJ6_bitCount_0f7a4_39 : decode cJ6_bitCount_0f7a4 39 = .ok (.iadd, 1) := by decide +kernel
theorem dJ6_bitCount_0f7a4_40 : decode cJ6_bitCount_0f7a4 40 = .ok (.istore_n 0, 1) := by decide +kernel
theorem dJ6_bitCount_0f7a4_41 : decode cJ6_bitCount_0f7a4 41 = .ok (.iload_n 0, 1) := by decide +kernel
theorem dJ6_bitCount_0f7a4_42 : decode cJ6_bitCount_0f7a4 42 = .ok (.iload_n 0, 1) := by decide +kernel
theorem dJ6_bitCount_0f7a4_43 : decode cJ6_bitCount_0f7a4 43 = .ok (.bipush 16, 2) := by decide +kernel
theorem dJ6_bitCount_0f7a4_45 : decode cJ6_bitCount_0f7a4 45 = .ok (.iushr, 1) := by decide +kernel
theorem dJ6_bitCount_0f7a4_46 : decode cJ6_bitCount_0f7a4 46 = .ok (.iadd, 1) := by decide +kernel
theorem dJ6_bitCount_0f7a4_47 : decode cJ6_bitCount_0f7a4 47 = .ok (.istore_n 0, 1) := by decide +kernel
theorem dJ6_bitCount_0f7a4_48 : decode cJ6_bitCount_0f7a4 48 = .ok (.iload_n 0, 1) := by decide +kernel
theorem dJ6_bitCount_0f7a4_49 : decode cJ6_bitCount_0f7a4 49 = .ok (.bipush 63, 2) := by decide +kernel
theorem dJ6_bitCount_0f7a4_51 : decode cJ6_bitCount_0f7a4 51 = .ok (.iand, 1) := by decide +kernel
theorem dJ6_bitCount_0f7a4_52 : decode cJ6_bitCount_0f7a4 52 = .ok (.ireturn, 1) := by decide +kernel
theorem dJ9_abs_067f4_0 : decode cJ9_abs_067f4 0 = .ok (.lload_n 0, 1) := by decide +kernel
theorem dJ9_abs_067f4_1 : decode cJ9_abs_067f4 1 = .ok (.lconst 0, 1) := by decide +kernel
theorem dJ9_abs_067f4_2 : decode cJ9_abs_067f4 2 = .ok (.lcmp, 1) := by decide +kernel
theorem dJ9_abs_067f4_3 : decode cJ9_abs_067f4 3 = .ok (.ifCond .ge 8, 3) := by decide +kernel
theorem dJ9_abs_067f4_6 : decode cJ9_abs_067f4 6 = .ok (.lload_n 0, 1) := by decide +kernel
theorem dJ9_abs_067f4_7 : decode cJ9_abs_067f4 7 = .ok (.lneg, 1) := by decide +kernel
theorem dJ9_abs_067f4_8 : decode cJ9_abs_067f4 8 = .ok (.goto 4, 3) := by decide +kernel
theorem dJ9_abs_067f4_11 : decode cJ9_abs_067f4 11 = .ok (.lload_n 0, 1) := by decide +kernel
theorem dJ9_abs_067f4_12 : decode cJ9_abs_067f4 12 = .ok (.lreturn, 1) := by decide +kernel
theorem dJ7_fill_53178_0 : decode cJ7_fill_53178 0 = .ok (.iconst 0, 1) := by decide +kernel
theorem dJ7_fill_53178_1 : decode cJ7_fill_53178 1 = .ok (.istore_n 2, 1) := by decide +kernel
theorem dJ7_fill_53178_2 : decode cJ7_fill_53178 2 = .ok (.aload_n 0, 1) := by decide +kernel
theorem dJ7_fill_53178_3 : decode cJ7_fill_53178 3 = .ok (.arraylength, 1) := by decide +kernel
theorem dJ7_fill_53178_4 : decode cJ7_fill_53178 4 = .ok (.istore_n 3, 1) := by decide +kernel
theorem dJ7_fill_53178_5 : decode cJ7_fill_53178 5 = .ok (.iload_n 2, 1) := by decide +kernel
theorem dJ7_fill_53178_6 : decode cJ7_fill_53178 6 = .ok (.iload_n 3, 1) := by decide +kernel
theorem dJ7_fill_53178_7 : decode cJ7_fill_53178 7 = .ok (.if_icmp .ge 13, 3) := by decide +kernel
theorem dJ7_fill_53178_10 : decode cJ7_fill_53178 10 = .ok (.aload_n 0, 1) := by decide +kernel
theorem dJ7_fill_53178_11 : decode cJ7_fill_53178 11 = .ok (.iload_n 2, 1) := by decide +kernel
theorem dJ7_fill_53178_12 : decode cJ7_fill_53178 12 = .ok (.iload_n 1, 1) := by decide +kernel
theorem dJ7_fill_53178_13 : decode cJ7_fill_53178 13 = .ok (.iastore, 1) := by decide +kernel
theorem dJ7_fill_53178_14 : decode cJ7_fill_53178 14 = .ok (.iinc 2 1, 3) := by decide +kernel
theorem dJ7_fill_53178_17 : decode cJ7_fill_53178 17 = .ok (.goto (-12), 3) := by decide +kernel
theorem dJ7_fill_53178_20 : decode cJ7_fill_53178 20 = .ok (.return_, 1) := by decide +kernel
end
section
theorem dX4_init_0 : decode cX4_init 0 = .ok (.aload_n 0, 1) := by decide +kernel
theorem dX4_init_1 : decode cX4_init 1 = .ok (.invokespecial 5, 3) := by decide +kernel
theorem dX4_init_4 : decode cX4_init 4 = .ok (.aload_n 0, 1) := by decide +kernel
theorem dX4_init_5 : decode cX4_init 5 = .ok (.bipush 64, 2) := by decide +kernel
theorem dX4_init_7 : decode cX4_init 7 = .ok (.newarray .int, 2) := by decide +kernel
theorem dX4_init_9 : decode cX4_init 9 = .ok (.putfield 11, 3) := by decide +kernel
theorem dX4_init_12 : decode cX4_init 12 = .ok (.aload_n 0, 1) := by decide +kernel
theorem dX4_init_13 : decode cX4_init 13 = .ok (.bipush 64, 2) := by decide +kernel
theorem dX4_init_15 : decode cX4_init 15 = .ok (.newarray .int, 2) := by decide +kernel
theorem dX4_init_17 : decode cX4_init 17 = .ok (.putfield 15, 3) := by decide +kernel
theorem dX4_init_20 : decode cX4_init 20 = .ok (.aload_n 0, 1) := by decide +kernel
theorem dX4_init_21 : decode cX4_init 21 = .ok (.bipush 8, 2) := by decide +kernel
theorem dX4_init_23 : decode cX4_init 23 = .ok (.newarray .int, 2) := by decide +kernel
theorem dX4_init_25 : decode cX4_init 25 = .ok (.putfield 18, 3) := by decide +kernel
theorem dX4_init_28 : decode cX4_init 28 = .ok (.aload_n 0, 1) := by decide +kernel
theorem dX4_init_29 : decode cX4_init 29 = .ok (.bipush 28, 2) := by decide +kernel
theorem dX4_init_31 : decode cX4_init 31 = .ok (.newarray .int, 2) := by decide +kernel
theorem dX4_init_33 : decode cX4_init 33 = .ok (.putfield 21, 3) := by decide +kernel
theorem dX4_init_36 : decode cX4_init 36 = .ok (.aload_n 0, 1) := by decide +kernel
theorem dX4_init_37 : decode cX4_init 37 = .ok (.bipush 16, 2) := by decide +kernel
theorem dX4_init_39 : decode cX4_init 39 = .ok (.newarray .int, 2) := by decide +kernel
theorem dX4_init_41 : decode cX4_init 41 = .ok (.putfield 24, 3) := by decide +kernel
theorem dX4_init_44 : decode cX4_init 44 = .ok (.return_, 1) := by decide +kernel
theorem dX4_clear_0 : decode cX4_clear 0 = .ok (.iconst 0, 1) := by decide +kernel
theorem dX4_clear_1 : decode cX4_clear 1 = .ok (.istore_n 1, 1) := by decide +kernel
theorem dX4_clear_2 : decode cX4_clear 2 = .ok (.iload_n 1, 1) := by decide +kernel
theorem dX4_clear_3 : decode cX4_clear 3 = .ok (.bipush 8, 2) := by decide +kernel
theorem dX4_clear_5 : decode cX4_clear 5 = .ok (.if_icmp .ge 18, 3) := by decide +kernel
theorem dX4_clear_8 : decode cX4_clear 8 = .ok (.aload_n 0, 1) := by decide +kernel
theorem dX4_clear_9 : decode cX4_clear 9 = .ok (.getfield 18, 3) := by decide +kernel
theorem dX4_clear_12 : decode cX4_clear 12 = .ok (.iload_n 1, 1) := by decide +kernel
theorem dX4_clear_13 : decode cX4_clear 13 = .ok (.iconst 1, 1) := by decide +kernel
theorem dX4_clear_14 : decode cX4_clear 14 = .ok (.iload_n 1, 1) := by decide +kernel
theorem dX4_clear_15 : decode cX4_clear 15 = .ok (.ishl, 1) := by decide +kernel
theorem dX4_clear_16 : decode cX4_clear 16 = .ok (.iastore, 1) := by decide +kernel
theorem dX4_clear_17 : decode cX4_clear 17 = .ok (.iinc 1 1, 3) := by decide +kernel
theorem dX4_clear_20 : decode cX4_clear 20 = .ok (.goto (-18), 3) := by decide +kernel
theorem dX4_clear_23 : decode cX4_clear 23 = .ok (.aload_n 0, 1) := by decide +kernel
theorem dX4_clear_24 : decode cX4_clear 24 = .ok (.iconst 0, 1) := by decide +kernel
theorem dX4_clear_25 : decode cX4_clear 25 = .ok (.putfield 27, 3) := by decide +kernel
theorem dX4_clear_28 : decode cX4_clear 28 = .ok (.aload_n 0, 1) := by decide +kernel
theorem dX4_clear_29 : decode cX4_clear 29 = .ok (.iconst 0, 1) := by decide +kernel
theorem dX4_clear_30 : decode cX4_clear 30 = .ok (.putfield 31, 3) := by decide +kernel
theorem dX4_clear_33 : decode cX4_clear 33 = .ok (.return_, 1) := by decide +kernel
theorem dX4_copyFrom_0 : decode cX4_copyFrom 0 = .ok (.aload_n 1, 1) := by decide +kernel
theorem dX4_copyFrom_1 : decode cX4_copyFrom 1 = .ok (.getfield 11, 3) := by decide +kernel
theorem dX4_copyFrom_4 : decode cX4_copyFrom 4 = .ok (.iconst 0, 1) := by decide +kernel
theorem dX4_copyFrom_5 : decode cX4_copyFrom 5 = .ok (.aload_n 0, 1) := by decide +kernel
theorem dX4_copyFrom_6 : decode cX4_copyFrom 6 = .ok (.getfield 11, 3) := by decide +kernel
theorem dX4_copyFrom_9 : decode cX4_copyFrom 9 = .ok (.iconst 0, 1) := by decide +kernel
theorem dX4_copyFrom_10 : decode cX4_copyFrom 10 = .ok (.bipush 64, 2) := by decide +kernel
theorem dX4_copyFrom_12 : decode cX4_copyFrom 12 = .ok (.invokestatic 34, 3) := by decide +kernel
theorem dX4_copyFrom_15 : decode cX4_copyFrom 15 = .ok (.aload_n 1, 1) := by decide +kernel
theorem dX4_copyFrom_16 : decode cX4_copyFrom 16 = .ok (.getfield 15, 3) := by decide +kernel
theorem dX4_copyFrom_19 : decode cX4_copyFrom 19 = .ok (.iconst 0, 1) := by decide +kernel
theorem dX4_copyFrom_20 : decode cX4_copyFrom 20 = .ok (.aload_n 0, 1) := by decide +kernel
theorem dX4_copyFrom_21 : decode cX4_copyFrom 21 = .ok (.getfield 15, 3) := by decide +kernel
theorem dX4_copyFrom_24 : decode cX4_copyFrom 24 = .ok (.iconst 0, 1) := by decide +kernel
theorem dX4_copyFrom_25 : decode cX4_copyFrom 25 = .ok (.bipush 64, 2) := by decide +kernel
theorem dX4_copyFrom_27 : decode cX4_copyFrom 27 = .ok (.invokestatic 34, 3) := by decide +kernel
theorem dX4_copyFrom_30 : decode cX4_copyFrom 30 = .ok (.aload_n 1, 1) := by decide +kernel
theorem dX4_copyFrom_31 : decode cX4_copyFrom 31 = .ok (.getfield 18, 3) := by decide +kernel
theorem dX4_copyFrom_34 : decode cX4_copyFrom 34 = .ok (.iconst 0, 1) := by decide +kernel
theorem dX4_copyFrom_35 : decode cX4_copyFrom 35 = .ok (.aload_n 0, 1) := by decide +kernel
theorem dX4_copyFrom_36 : decode cX4_copyFrom 36 = .ok (.getfield 18, 3) := by decide +kernel
theorem dX4_copyFrom_39 : decode cX4_copyFrom 39 = .ok (.iconst 0, 1) := by decide +kernel
theorem dX4_copyFrom_40 : decode cX4_copyFrom 40 = .ok (.bipush 8, 2) := by decide +kernel
theorem dX4_copyFrom_42 : decode cX4_copyFrom 42 = .ok (.invokestatic 34, 3) := by decide +kernel
theorem dX4_copyFrom_45 : decode cX4_copyFrom 45 = .ok (.aload_n 1, 1) := by decide +kernel
theorem dX4_copyFrom_46 : decode cX4_copyFrom 46 = .ok (.getfield 21, 3) := by decide +kernel
theorem dX4_copyFrom_49 : decode cX4_copyFrom 49 = .ok (.iconst 0, 1) := by decide +kernel
theorem dX4_copyFrom_50 : decode cX4_copyFrom 50 = .ok (.aload_n 0, 1) := by decide +kernel
theorem dX4_copyFrom_51 : decode cX4_copyFrom 51 = .ok (.getfield 21, 3) := by decide +kernel
theorem dX4_copyFrom_54 : decode cX4_copyFrom 54 = .ok (.iconst 0, 1) := by decide +kernel
theorem dX4_copyFrom_55 : decode cX4_copyFrom 55 = .ok (.bipush 28, 2) := by decide +kernel
theorem dX4_copyFrom_57 : decode cX4_copyFrom 57 = .ok (.invokestatic 34, 3) := by decide +kernel
theorem dX4_copyFrom_60 : decode cX4_copyFrom 60 = .ok (.aload_n 1, 1) := by decide +kernel
theorem dX4_copyFrom_61 : decode cX4_copyFrom 61 = .ok (.getfield 24, 3) := by decide +kernel
theorem dX4_copyFrom_64 : decode cX4_copyFrom 64 = .ok (.iconst 0, 1) := by decide +kernel
theorem dX4_copyFrom_65 : decode cX4_copyFrom 65 = .ok (.aload_n 0, 1) := by decide +kernel
theorem dX4_copyFrom_66 : decode cX4_copyFrom 66 = .ok (.getfield 24, 3) := by decide +kernel
theorem dX4_copyFrom_69 : decode cX4_copyFrom 69 = .ok (.iconst 0, 1) := by decide +kernel
theorem dX4_copyFrom_70 : decode cX4_copyFrom 70 = .ok (.bipush 16, 2) := by decide +kernel
theorem dX4_copyFrom_72 : decode cX4_copyFrom 72 = .ok (.invokestatic 34, 3) := by decide +kernel
theorem dX4_copyFrom_75 : decode cX4_copyFrom 75 = .ok (.aload_n 0, 1) := by decide +kernel
theorem dX4_copyFrom_76 : decode cX4_copyFrom 76 = .ok (.aload_n 1, 1) := by decide +kernel
theorem dX4_copyFrom_77 : decode cX4_copyFrom 77 = .ok (.getfield 27, 3) := by decide +kernel
theorem dX4_copyFrom_80 : decode cX4_copyFrom 80 = .ok (.putfield 27, 3) := by decide +kernel
theorem dX4_copyFrom_83 : decode cX4_copyFrom 83 = .ok (.aload_n 0, 1) := by decide +kernel
theorem dX4_copyFrom_84 : decode cX4_copyFrom 84 = .ok (.aload_n 1, 1) := by decide +kernel
theorem dX4_copyFrom_85 : decode cX4_copyFrom 85 = .ok (.getfield 31, 3) := by decide +kernel
theorem dX4_copyFrom_88 : decode cX4_copyFrom 88 = .ok (.putfield 31, 3) := by decide +kernel
theorem dX4_copyFrom_91 : decode cX4_copyFrom 91 = .ok (.return_, 1) := by decide +kernel
set_option maxRecDepth 20000 in
theorem ggX4_join_X4_settle : GoodIn wsX4_join wsX4_settle := goodIn_r _ [8, 9, 10, 11, 12, 1, 13, 14, 15, 16, 17, 18, 7, 19, 20, 21, 22, 23, 24, 25, 26, 27, 35, 36, 37, 38, 39, 40, 41] (by decide +kernel) (by decide +kernel)
set_option maxRecDepth 20000 in
theorem gX4_join_X4_settle : GoodIn wsX4_join (wsV RX4 40 RX4 yX4_settle wsX4_settle) := goodIn_app (goodIn_of _ (by decide +kernel)) ggX4_join_X4_settle
set_option maxRecDepth 20000 in
theorem ggX4_join_X4_spreadFrom : GoodIn wsX4_join wsX4_spreadFrom := goodIn_r _ [31, 1, 13, 10, 32, 33, 7, 34, 26, 15, 27, 4, 5, 6, 8, 9, 11, 12, 14, 16, 17, 18, 19, 20, 21, 22, 23, 24, 25, 35, 36, 37, 38, 39, 40, 41] (by decide +kernel) (by decide +kernel)
set_option maxRecDepth 20000 in
theorem gX4_join_X4_spreadFrom : GoodIn wsX4_join (wsV RX4 44 RX4 yX4_spreadFrom wsX4_spreadFrom) := goodIn_app (goodIn_of _ (by decide +kernel)) ggX4_join_X4_spreadFrom
theorem dX4_join_0 : decode cX4_join 0 = .ok (.aload_n 0, 1) := by decide +kernel
theorem dX4_join_1 : decode cX4_join 1 = .ok (.getfield 27, 3) := by decide +kernel
theorem dX4_join_4 : decode cX4_join 4 = .ok (.istore_n 2, 1) := by decide +kernel
theorem dX4_join_5 : decode cX4_join 5 = .ok (.aload_n 0, 1) := by decide +kernel
theorem dX4_join_6 : decode cX4_join 6 = .ok (.iload_n 1, 1) := by decide +kernel
theorem dX4_join_7 : decode cX4_join 7 = .ok (.invokevirtual 40, 3) := by decide +kernel
theorem dX4_join_10 : decode cX4_join 10 = .ok (.aload_n 0, 1) := by decide +kernel
theorem dX4_join_11 : decode cX4_join 11 = .ok (.getfield 27, 3) := by decide +kernel
theorem dX4_join_14 : decode cX4_join 14 = .ok (.iload_n 2, 1) := by decide +kernel
theorem dX4_join_15 : decode cX4_join 15 = .ok (.if_icmp .ne 5, 3) := by decide +kernel
theorem dX4_join_18 : decode cX4_join 18 = .ok (.iconst 0, 1) := by decide +kernel
theorem dX4_join_19 : decode cX4_join 19 = .ok (.ireturn, 1) := by decide +kernel
theorem dX4_join_20 : decode cX4_join 20 = .ok (.aload_n 0, 1) := by decide +kernel
theorem dX4_join_21 : decode cX4_join 21 = .ok (.getfield 31, 3) := by decide +kernel
theorem dX4_join_24 : decode cX4_join 24 = .ok (.bipush 16, 2) := by decide +kernel
theorem dX4_join_26 : decode cX4_join 26 = .ok (.if_icmp .ge 23, 3) := by decide +kernel
theorem dX4_join_29 : decode cX4_join 29 = .ok (.aload_n 0, 1) := by decide +kernel
theorem dX4_join_30 : decode cX4_join 30 = .ok (.getfield 24, 3) := by decide +kernel
theorem dX4_join_33 : decode cX4_join 33 = .ok (.aload_n 0, 1) := by decide +kernel
theorem dX4_join_34 : decode cX4_join 34 = .ok (.getfield 31, 3) := by decide +kernel
theorem dX4_join_37 : decode cX4_join 37 = .ok (.iload_n 1, 1) := by decide +kernel
theorem dX4_join_38 : decode cX4_join 38 = .ok (.iastore, 1) := by decide +kernel
theorem dX4_join_39 : decode cX4_join 39 = .ok (.aload_n 0, 1) := by decide +kernel
theorem dX4_join_40 : decode cX4_join 40 = .ok (.dup, 1) := by decide +kernel
theorem dX4_join_41 : decode cX4_join 41 = .ok (.getfield 31, 3) := by decide +kernel
theorem dX4_join_44 : decode cX4_join 44 = .ok (.iconst 1, 1) := by decide +kernel
theorem dX4_join_45 : decode cX4_join 45 = .ok (.iadd, 1) := by decide +kernel
theorem dX4_join_46 : decode cX4_join 46 = .ok (.putfield 31, 3) := by decide +kernel
theorem dX4_join_49 : decode cX4_join 49 = .ok (.aload_n 0, 1) := by decide +kernel
theorem dX4_join_50 : decode cX4_join 50 = .ok (.iload_n 2, 1) := by decide +kernel
theorem dX4_join_51 : decode cX4_join 51 = .ok (.invokevirtual 44, 3) := by decide +kernel
theorem dX4_join_54 : decode cX4_join 54 = .ok (.iconst 1, 1) := by decide +kernel
theorem dX4_join_55 : decode cX4_join 55 = .ok (.ireturn, 1) := by decide +kernel
set_option maxRecDepth 20000 in
theorem ggX4_joinAll_X4_join : GoodIn wsX4_joinAll wsX4_join := goodIn_r _ [7, 8, 1, 2, 9, 10, 11, 6, 12, 13, 14, 15, 16, 17, 18, 19, 20, 21, 22, 23, 24, 25, 26, 27, 28, 29, 30, 31, 32, 33, 34, 35, 36, 37, 38, 39, 40, 41, 42, 43, 44, 45] (by decide +kernel) (by decide +kernel)
set_option maxRecDepth 20000 in
theorem gX4_joinAll_X4_join : GoodIn wsX4_joinAll (wsV RX4 47 RX4 yX4_join wsX4_join) := goodIn_app (goodIn_of _ (by decide +kernel)) ggX4_joinAll_X4_join
theorem dX4_joinAll_0 : decode cX4_joinAll 0 = .ok (.iconst 0, 1) := by decide +kernel
theorem dX4_joinAll_1 : decode cX4_joinAll 1 = .ok (.istore_n 2, 1) := by decide +kernel
theorem dX4_joinAll_2 : decode cX4_joinAll 2 = .ok (.iload_n 2, 1) := by decide +kernel
theorem dX4_joinAll_3 : decode cX4_joinAll 3 = .ok (.aload_n 1, 1) := by decide +kernel
theorem dX4_joinAll_4 : decode cX4_joinAll 4 = .ok (.getfield 31, 3) := by decide +kernel
theorem dX4_joinAll_7 : decode cX4_joinAll 7 = .ok (.if_icmp .ge 20, 3) := by decide +kernel
theorem dX4_joinAll_10 : decode cX4_joinAll 10 = .ok (.aload_n 0, 1) := by decide +kernel
theorem dX4_joinAll_11 : decode cX4_joinAll 11 = .ok (.aload_n 1, 1) := by decide +kernel
theorem dX4_joinAll_12 : decode cX4_joinAll 12 = .ok (.getfield 24, 3) := by decide +kernel
theorem dX4_joinAll_15 : decode cX4_joinAll 15 = .ok (.iload_n 2, 1) := by decide +kernel
theorem dX4_joinAll_16 : decode cX4_joinAll 16 = .ok (.iaload, 1) := by decide +kernel
theorem dX4_joinAll_17 : decode cX4_joinAll 17 = .ok (.invokevirtual 47, 3) := by decide +kernel
theorem dX4_joinAll_20 : decode cX4_joinAll 20 = .ok (.pop, 1) := by decide +kernel
theorem dX4_joinAll_21 : decode cX4_joinAll 21 = .ok (.iinc 2 1, 3) := by decide +kernel
theorem dX4_joinAll_24 : decode cX4_joinAll 24 = .ok (.goto (-22), 3) := by decide +kernel
theorem dX4_joinAll_27 : decode cX4_joinAll 27 = .ok (.return_, 1) := by decide +kernel
set_option maxRecDepth 20000 in
theorem ggX4_closeUnder_X6_carried : GoodIn wsX4_closeUnder wsX6_carried := goodIn_r _ [5, 6, 7, 4, 8, 9, 10, 11] (by decide +kernel) (by decide +kernel)
set_option maxRecDepth 20000 in
theorem gX4_closeUnder_X6_carried_n51 : GoodIn wsX4_closeUnder (wsX6_carried) := ggX4_closeUnder_X6_carried
set_option maxRecDepth 20000 in
theorem ggX4_closeUnder_X4_join : GoodIn wsX4_closeUnder wsX4_join := goodIn_r _ [16, 17, 1, 2, 18, 19, 20, 15, 21, 22, 23, 24, 25, 26, 27, 4, 28, 29, 30, 31, 32, 33, 34, 35, 7, 8, 10, 11, 36, 37, 38, 39, 40, 41, 42, 43, 44, 45, 46, 47, 48, 49] (by decide +kernel) (by decide +kernel)
set_option maxRecDepth 20000 in
theorem gX4_closeUnder_X4_join : GoodIn wsX4_closeUnder (wsV RX4 47 RX4 yX4_join wsX4_join) := goodIn_app (goodIn_of _ (by decide +kernel)) ggX4_closeUnder_X4_join
theorem dX4_closeUnder_0 : decode cX4_closeUnder 0 = .ok (.iconst 0, 1) := by decide +kernel
theorem dX4_closeUnder_1 : decode cX4_closeUnder 1 = .ok (.istore_n 2, 1) := by decide +kernel
theorem dX4_closeUnder_2 : decode cX4_closeUnder 2 = .ok (.iload_n 2, 1) := by decide +kernel
theorem dX4_closeUnder_3 : decode cX4_closeUnder 3 = .ok (.aload_n 0, 1) := by decide +kernel
theorem dX4_closeUnder_4 : decode cX4_closeUnder 4 = .ok (.getfield 31, 3) := by decide +kernel
theorem dX4_closeUnder_7 : decode cX4_closeUnder 7 = .ok (.if_icmp .ge 51, 3) := by decide +kernel
theorem dX4_closeUnder_10 : decode cX4_closeUnder 10 = .ok (.iload_n 2, 1) := by decide +kernel
theorem dX4_closeUnder_11 : decode cX4_closeUnder 11 = .ok (.bipush 16, 2) := by decide +kernel
theorem dX4_closeUnder_13 : decode cX4_closeUnder 13 = .ok (.if_icmp .ge 45, 3) := by decide +kernel
theorem dX4_closeUnder_16 : decode cX4_closeUnder 16 = .ok (.iconst 0, 1) := by decide +kernel
theorem dX4_closeUnder_17 : decode cX4_closeUnder 17 = .ok (.istore_n 3, 1) := by decide +kernel
theorem dX4_closeUnder_18 : decode cX4_closeUnder 18 = .ok (.iload_n 3, 1) := by decide +kernel
theorem dX4_closeUnder_19 : decode cX4_closeUnder 19 = .ok (.aload_n 1, 1) := by decide +kernel
theorem dX4_closeUnder_20 : decode cX4_closeUnder 20 = .ok (.getfield 31, 3) := by decide +kernel
theorem dX4_closeUnder_23 : decode cX4_closeUnder 23 = .ok (.if_icmp .ge 29, 3) := by decide +kernel
theorem dX4_closeUnder_26 : decode cX4_closeUnder 26 = .ok (.aload_n 0, 1) := by decide +kernel
theorem dX4_closeUnder_27 : decode cX4_closeUnder 27 = .ok (.aload_n 0, 1) := by decide +kernel
theorem dX4_closeUnder_28 : decode cX4_closeUnder 28 = .ok (.getfield 24, 3) := by decide +kernel
theorem dX4_closeUnder_31 : decode cX4_closeUnder 31 = .ok (.iload_n 2, 1) := by decide +kernel
theorem dX4_closeUnder_32 : decode cX4_closeUnder 32 = .ok (.iaload, 1) := by decide +kernel
theorem dX4_closeUnder_33 : decode cX4_closeUnder 33 = .ok (.aload_n 1, 1) := by decide +kernel
theorem dX4_closeUnder_34 : decode cX4_closeUnder 34 = .ok (.getfield 24, 3) := by decide +kernel
theorem dX4_closeUnder_37 : decode cX4_closeUnder 37 = .ok (.iload_n 3, 1) := by decide +kernel
theorem dX4_closeUnder_38 : decode cX4_closeUnder 38 = .ok (.iaload, 1) := by decide +kernel
theorem dX4_closeUnder_39 : decode cX4_closeUnder 39 = .ok (.invokestatic 51, 3) := by decide +kernel
theorem dX4_closeUnder_42 : decode cX4_closeUnder 42 = .ok (.invokevirtual 47, 3) := by decide +kernel
theorem dX4_closeUnder_45 : decode cX4_closeUnder 45 = .ok (.pop, 1) := by decide +kernel
theorem dX4_closeUnder_46 : decode cX4_closeUnder 46 = .ok (.iinc 3 1, 3) := by decide +kernel
theorem dX4_closeUnder_49 : decode cX4_closeUnder 49 = .ok (.goto (-31), 3) := by decide +kernel
theorem dX4_closeUnder_52 : decode cX4_closeUnder 52 = .ok (.iinc 2 1, 3) := by decide +kernel
theorem dX4_closeUnder_55 : decode cX4_closeUnder 55 = .ok (.goto (-53), 3) := by decide +kernel
theorem dX4_closeUnder_58 : decode cX4_closeUnder 58 = .ok (.return_, 1) := by decide +kernel
set_option maxRecDepth 20000 in
theorem ggX4_becomeCarried_X4_clear : GoodIn wsX4_becomeCarried wsX4_clear := goodIn_r _ [7, 8, 9, 1, 47, 48, 49, 50, 51, 52, 53] (by decide +kernel) (by decide +kernel)
set_option maxRecDepth 20000 in
theorem gX4_becomeCarried_X4_clear : GoodIn wsX4_becomeCarried (wsV RX4 55 RX4 yX4_clear wsX4_clear) := goodIn_app (goodIn_of _ (by decide +kernel)) ggX4_becomeCarried_X4_clear
set_option maxRecDepth 20000 in
theorem ggX4_becomeCarried_X6_carried : GoodIn wsX4_becomeCarried wsX6_carried := goodIn_r _ [12, 13, 14, 11, 15, 16, 17, 18] (by decide +kernel) (by decide +kernel)
set_option maxRecDepth 20000 in
theorem gX4_becomeCarried_X6_carried_n51 : GoodIn wsX4_becomeCarried (wsX6_carried) := ggX4_becomeCarried_X6_carried
set_option maxRecDepth 20000 in
theorem ggX4_becomeCarried_X4_join : GoodIn wsX4_becomeCarried wsX4_join := goodIn_r _ [22, 9, 1, 2, 23, 24, 25, 6, 26, 27, 28, 29, 8, 30, 31, 11, 32, 33, 34, 35, 36, 37, 38, 39, 14, 15, 17, 18, 40, 41, 42, 43, 44, 45, 46, 47, 48, 49, 50, 51, 52, 53] (by decide +kernel) (by decide +kernel)
set_option maxRecDepth 20000 in
theorem gX4_becomeCarried_X4_join : GoodIn wsX4_becomeCarried (wsV RX4 47 RX4 yX4_join wsX4_join) := goodIn_app (goodIn_of _ (by decide +kernel)) ggX4_becomeCarried_X4_join
theorem dX4_becomeCarried_0 : decode cX4_becomeCarried 0 = .ok (.aload_n 0, 1) := by decide +kernel
theorem dX4_becomeCarried_1 : decode cX4_becomeCarried 1 = .ok (.invokevirtual 55, 3) := by decide +kernel
theorem dX4_becomeCarried_4 : decode cX4_becomeCarried 4 = .ok (.iconst 0, 1) := by decide +kernel
theorem dX4_becomeCarried_5 : decode cX4_becomeCarried 5 = .ok (.istore_n 3, 1) := by decide +kernel
theorem dX4_becomeCarried_6 : decode cX4_becomeCarried 6 = .ok (.iload_n 3, 1) := by decide +kernel
theorem dX4_becomeCarried_7 : decode cX4_becomeCarried 7 = .ok (.aload_n 1, 1) := by decide +kernel
theorem dX4_becomeCarried_8 : decode cX4_becomeCarried 8 = .ok (.getfield 31, 3) := by decide +kernel
theorem dX4_becomeCarried_11 : decode cX4_becomeCarried 11 = .ok (.if_icmp .ge 24, 3) := by decide +kernel
theorem dX4_becomeCarried_14 : decode cX4_becomeCarried 14 = .ok (.aload_n 0, 1) := by decide +kernel
theorem dX4_becomeCarried_15 : decode cX4_becomeCarried 15 = .ok (.aload_n 1, 1) := by decide +kernel
theorem dX4_becomeCarried_16 : decode cX4_becomeCarried 16 = .ok (.getfield 24, 3) := by decide +kernel
theorem dX4_becomeCarried_19 : decode cX4_becomeCarried 19 = .ok (.iload_n 3, 1) := by decide +kernel
theorem dX4_becomeCarried_20 : decode cX4_becomeCarried 20 = .ok (.iaload, 1) := by decide +kernel
theorem dX4_becomeCarried_21 : decode cX4_becomeCarried 21 = .ok (.iload_n 2, 1) := by decide +kernel
theorem dX4_becomeCarried_22 : decode cX4_becomeCarried 22 = .ok (.invokestatic 51, 3) := by decide +kernel
theorem dX4_becomeCarried_25 : decode cX4_becomeCarried 25 = .ok (.invokevirtual 47, 3) := by decide +kernel
theorem dX4_becomeCarried_28 : decode cX4_becomeCarried 28 = .ok (.pop, 1) := by decide +kernel
theorem dX4_becomeCarried_29 : decode cX4_becomeCarried 29 = .ok (.iinc 3 1, 3) := by decide +kernel
theorem dX4_becomeCarried_32 : decode cX4_becomeCarried 32 = .ok (.goto (-26), 3) := by decide +kernel
theorem dX4_becomeCarried_35 : decode cX4_becomeCarried 35 = .ok (.return_, 1) := by decide +kernel
set_option maxRecDepth 20000 in
theorem ggX4_becomeDown_X4_clear : GoodIn wsX4_becomeDown wsX4_clear := goodIn_r _ [7, 8, 9, 1, 53, 54, 55, 56, 57, 58, 59] (by decide +kernel) (by decide +kernel)
set_option maxRecDepth 20000 in
theorem gX4_becomeDown_X4_clear : GoodIn wsX4_becomeDown (wsV RX4 55 RX4 yX4_clear wsX4_clear) := goodIn_app (goodIn_of _ (by decide +kernel)) ggX4_becomeDown_X4_clear
set_option maxRecDepth 20000 in
theorem ggX4_becomeDown_X6_commutator : GoodIn wsX4_becomeDown wsX6_commutator := goodIn_r _ [12, 13, 14, 11, 15, 16, 17, 18] (by decide +kernel) (by decide +kernel)
set_option maxRecDepth 20000 in
theorem gX4_becomeDown_X6_commutator_n58 : GoodIn wsX4_becomeDown (wsX6_commutator) := ggX4_becomeDown_X6_commutator
set_option maxRecDepth 20000 in
theorem ggX4_becomeDown_X4_join : GoodIn wsX4_becomeDown wsX4_join := goodIn_r _ [22, 9, 1, 2, 23, 24, 25, 6, 26, 27, 28, 29, 8, 30, 31, 11, 32, 33, 34, 35, 36, 37, 38, 39, 14, 15, 17, 18, 40, 41, 42, 43, 44, 45, 46, 53, 54, 55, 56, 57, 58, 59] (by decide +kernel) (by decide +kernel)
set_option maxRecDepth 20000 in
theorem gX4_becomeDown_X4_join : GoodIn wsX4_becomeDown (wsV RX4 47 RX4 yX4_join wsX4_join) := goodIn_app (goodIn_of _ (by decide +kernel)) ggX4_becomeDown_X4_join
set_option maxRecDepth 20000 in
theorem ggX4_becomeDown_X4_closeUnder : GoodIn wsX4_becomeDown wsX4_closeUnder := goodIn_r _ [50, 1, 2, 51, 11, 52, 13, 14, 15, 16, 17, 18, 19, 20, 21, 6, 22, 9, 23, 24, 25, 26, 27, 28, 29, 8, 30, 31, 32, 33, 34, 35, 36, 37, 38, 39, 40, 41, 42, 43, 44, 45, 46, 53, 54, 55, 56, 57, 58, 59] (by decide +kernel) (by decide +kernel)
set_option maxRecDepth 20000 in
theorem gX4_becomeDown_X4_closeUnder : GoodIn wsX4_becomeDown (wsV RX4 61 RX4 yX4_closeUnder wsX4_closeUnder) := goodIn_app (goodIn_of _ (by decide +kernel)) ggX4_becomeDown_X4_closeUnder
theorem dX4_becomeDown_0 : decode cX4_becomeDown 0 = .ok (.aload_n 0, 1) := by decide +kernel
theorem dX4_becomeDown_1 : decode cX4_becomeDown 1 = .ok (.invokevirtual 55, 3) := by decide +kernel
theorem dX4_becomeDown_4 : decode cX4_becomeDown 4 = .ok (.iconst 0, 1) := by decide +kernel
theorem dX4_becomeDown_5 : decode cX4_becomeDown 5 = .ok (.istore_n 2, 1) := by decide +kernel
theorem dX4_becomeDown_6 : decode cX4_becomeDown 6 = .ok (.iload_n 2, 1) := by decide +kernel
theorem dX4_becomeDown_7 : decode cX4_becomeDown 7 = .ok (.aload_n 1, 1) := by decide +kernel
theorem dX4_becomeDown_8 : decode cX4_becomeDown 8 = .ok (.getfield 31, 3) := by decide +kernel
theorem dX4_becomeDown_11 : decode cX4_becomeDown 11 = .ok (.if_icmp .ge 42, 3) := by decide +kernel
theorem dX4_becomeDown_14 : decode cX4_becomeDown 14 = .ok (.iconst 0, 1) := by decide +kernel
theorem dX4_becomeDown_15 : decode cX4_becomeDown 15 = .ok (.istore_n 3, 1) := by decide +kernel
theorem dX4_becomeDown_16 : decode cX4_becomeDown 16 = .ok (.iload_n 3, 1) := by decide +kernel
theorem dX4_becomeDown_17 : decode cX4_becomeDown 17 = .ok (.iload_n 2, 1) := by decide +kernel
theorem dX4_becomeDown_18 : decode cX4_becomeDown 18 = .ok (.if_icmp .ge 29, 3) := by decide +kernel
theorem dX4_becomeDown_21 : decode cX4_becomeDown 21 = .ok (.aload_n 0, 1) := by decide +kernel
theorem dX4_becomeDown_22 : decode cX4_becomeDown 22 = .ok (.aload_n 1, 1) := by decide +kernel
theorem dX4_becomeDown_23 : decode cX4_becomeDown 23 = .ok (.getfield 24, 3) := by decide +kernel
theorem dX4_becomeDown_26 : decode cX4_becomeDown 26 = .ok (.iload_n 2, 1) := by decide +kernel
theorem dX4_becomeDown_27 : decode cX4_becomeDown 27 = .ok (.iaload, 1) := by decide +kernel
theorem dX4_becomeDown_28 : decode cX4_becomeDown 28 = .ok (.aload_n 1, 1) := by decide +kernel
theorem dX4_becomeDown_29 : decode cX4_becomeDown 29 = .ok (.getfield 24, 3) := by decide +kernel
theorem dX4_becomeDown_32 : decode cX4_becomeDown 32 = .ok (.iload_n 3, 1) := by decide +kernel
theorem dX4_becomeDown_33 : decode cX4_becomeDown 33 = .ok (.iaload, 1) := by decide +kernel
theorem dX4_becomeDown_34 : decode cX4_becomeDown 34 = .ok (.invokestatic 58, 3) := by decide +kernel
theorem dX4_becomeDown_37 : decode cX4_becomeDown 37 = .ok (.invokevirtual 47, 3) := by decide +kernel
theorem dX4_becomeDown_40 : decode cX4_becomeDown 40 = .ok (.pop, 1) := by decide +kernel
theorem dX4_becomeDown_41 : decode cX4_becomeDown 41 = .ok (.iinc 3 1, 3) := by decide +kernel
theorem dX4_becomeDown_44 : decode cX4_becomeDown 44 = .ok (.goto (-28), 3) := by decide +kernel
theorem dX4_becomeDown_47 : decode cX4_becomeDown 47 = .ok (.iinc 2 1, 3) := by decide +kernel
theorem dX4_becomeDown_50 : decode cX4_becomeDown 50 = .ok (.goto (-44), 3) := by decide +kernel
theorem dX4_becomeDown_53 : decode cX4_becomeDown 53 = .ok (.aload_n 0, 1) := by decide +kernel
theorem dX4_becomeDown_54 : decode cX4_becomeDown 54 = .ok (.aload_n 1, 1) := by decide +kernel
theorem dX4_becomeDown_55 : decode cX4_becomeDown 55 = .ok (.invokevirtual 61, 3) := by decide +kernel
theorem dX4_becomeDown_58 : decode cX4_becomeDown 58 = .ok (.return_, 1) := by decide +kernel
set_option maxRecDepth 20000 in
theorem ggX4_gather_X4_clear : GoodIn wsX4_gather wsX4_clear := goodIn_r _ [5, 6, 7, 8, 85, 86, 87, 88, 89, 90, 91] (by decide +kernel) (by decide +kernel)
set_option maxRecDepth 20000 in
theorem gX4_gather_X4_clear : GoodIn wsX4_gather (wsV RX4 55 RX4 yX4_clear wsX4_clear) := goodIn_app (goodIn_of _ (by decide +kernel)) ggX4_gather_X4_clear
set_option maxRecDepth 20000 in
theorem ggX4_gather_X4_reaches : GoodIn wsX4_gather wsX4_reaches := goodIn_r _ [12, 6, 85, 86, 87, 88, 89, 90, 91] (by decide +kernel) (by decide +kernel)
set_option maxRecDepth 20000 in
theorem gX4_gather_X4_reaches : GoodIn wsX4_gather (wsV RX4 65 RX4 yX4_reaches wsX4_reaches) := goodIn_app (goodIn_of _ (by decide +kernel)) ggX4_gather_X4_reaches
set_option maxRecDepth 20000 in
theorem ggX4_gather_X4_searchCell : GoodIn wsX4_gather wsX4_searchCell := goodIn_r _ [16, 17, 18, 19, 4, 20, 21, 22, 23, 24, 25, 26, 27, 28, 29, 30, 31, 32, 33, 34, 35, 36, 37, 38, 39, 40, 41, 42, 43, 44, 45, 46, 47, 48, 49, 50, 51, 52, 53, 54, 9, 10, 11, 12, 6, 55, 56, 57, 58, 59, 60, 61, 62, 63, 64, 65, 66, 85, 86, 87, 88, 89, 90, 91, 92, 93, 94, 95, 96] (by decide +kernel) (by decide +kernel)
set_option maxRecDepth 20000 in
theorem gX4_gather_X4_searchCell : GoodIn wsX4_gather (wsV RX4 69 RX4 yX4_searchCell wsX4_searchCell) := goodIn_app (goodIn_of _ (by decide +kernel)) ggX4_gather_X4_searchCell
set_option maxRecDepth 20000 in
theorem ggX4_gather_X4_join : GoodIn wsX4_gather wsX4_join := goodIn_r _ [70, 7, 8, 71, 72, 73, 74, 4, 75, 76, 17, 54, 6, 77, 29, 30, 31, 18, 19, 20, 9, 10, 11, 12, 61, 62, 55, 56, 78, 79, 80, 81, 82, 83, 84, 85, 86, 87, 88, 89, 90, 91] (by decide +kernel) (by decide +kernel)
set_option maxRecDepth 20000 in
theorem gX4_gather_X4_join : GoodIn wsX4_gather (wsV RX4 47 RX4 yX4_join wsX4_join) := goodIn_app (goodIn_of _ (by decide +kernel)) ggX4_gather_X4_join
theorem dX4_gather_0 : decode cX4_gather 0 = .ok (.aload_n 0, 1) := by decide +kernel
theorem dX4_gather_1 : decode cX4_gather 1 = .ok (.invokevirtual 55, 3) := by decide +kernel
theorem dX4_gather_4 : decode cX4_gather 4 = .ok (.bipush 7, 2) := by decide +kernel
theorem dX4_gather_6 : decode cX4_gather 6 = .ok (.istore_n 3, 1) := by decide +kernel
theorem dX4_gather_7 : decode cX4_gather 7 = .ok (.iload_n 3, 1) := by decide +kernel
theorem dX4_gather_8 : decode cX4_gather 8 = .ok (.ifCond .lt 69, 3) := by decide +kernel
theorem dX4_gather_11 : decode cX4_gather 11 = .ok (.iload_n 3, 1) := by decide +kernel
theorem dX4_gather_12 : decode cX4_gather 12 = .ok (.iconst 1, 1) := by decide +kernel
theorem dX4_gather_13 : decode cX4_gather 13 = .ok (.iadd, 1) := by decide +kernel
theorem dX4_gather_14 : decode cX4_gather 14 = .ok (.istore 4, 2) := by decide +kernel
theorem dX4_gather_16 : decode cX4_gather 16 = .ok (.iload 4, 2) := by decide +kernel
theorem dX4_gather_18 : decode cX4_gather 18 = .ok (.bipush 8, 2) := by decide +kernel
theorem dX4_gather_20 : decode cX4_gather 20 = .ok (.if_icmp .ge 51, 3) := by decide +kernel
theorem dX4_gather_23 : decode cX4_gather 23 = .ok (.aload_n 1, 1) := by decide +kernel
theorem dX4_gather_24 : decode cX4_gather 24 = .ok (.iload_n 3, 1) := by decide +kernel
theorem dX4_gather_25 : decode cX4_gather 25 = .ok (.iload 4, 2) := by decide +kernel
theorem dX4_gather_27 : decode cX4_gather 27 = .ok (.invokevirtual 65, 3) := by decide +kernel
theorem dX4_gather_30 : decode cX4_gather 30 = .ok (.ifCond .eq 35, 3) := by decide +kernel
theorem dX4_gather_33 : decode cX4_gather 33 = .ok (.aload_n 0, 1) := by decide +kernel
theorem dX4_gather_34 : decode cX4_gather 34 = .ok (.iload_n 3, 1) := by decide +kernel
theorem dX4_gather_35 : decode cX4_gather 35 = .ok (.iload 4, 2) := by decide +kernel
theorem dX4_gather_37 : decode cX4_gather 37 = .ok (.invokevirtual 65, 3) := by decide +kernel
theorem dX4_gather_40 : decode cX4_gather 40 = .ok (.ifCond .ne 25, 3) := by decide +kernel
theorem dX4_gather_43 : decode cX4_gather 43 = .ok (.aload_n 1, 1) := by decide +kernel
theorem dX4_gather_44 : decode cX4_gather 44 = .ok (.aload_n 2, 1) := by decide +kernel
theorem dX4_gather_45 : decode cX4_gather 45 = .ok (.iload_n 3, 1) := by decide +kernel
theorem dX4_gather_46 : decode cX4_gather 46 = .ok (.iload 4, 2) := by decide +kernel
theorem dX4_gather_48 : decode cX4_gather 48 = .ok (.invokevirtual 69, 3) := by decide +kernel
theorem dX4_gather_51 : decode cX4_gather 51 = .ok (.istore 5, 2) := by decide +kernel
theorem dX4_gather_53 : decode cX4_gather 53 = .ok (.iload 5, 2) := by decide +kernel
theorem dX4_gather_55 : decode cX4_gather 55 = .ok (.ifCond .eq 10, 3) := by decide +kernel
theorem dX4_gather_58 : decode cX4_gather 58 = .ok (.aload_n 0, 1) := by decide +kernel
theorem dX4_gather_59 : decode cX4_gather 59 = .ok (.iload 5, 2) := by decide +kernel
theorem dX4_gather_61 : decode cX4_gather 61 = .ok (.invokevirtual 47, 3) := by decide +kernel
theorem dX4_gather_64 : decode cX4_gather 64 = .ok (.pop, 1) := by decide +kernel
theorem dX4_gather_65 : decode cX4_gather 65 = .ok (.iinc 4 1, 3) := by decide +kernel
theorem dX4_gather_68 : decode cX4_gather 68 = .ok (.goto (-52), 3) := by decide +kernel
theorem dX4_gather_71 : decode cX4_gather 71 = .ok (.iinc 3 (-1), 3) := by decide +kernel
theorem dX4_gather_74 : decode cX4_gather 74 = .ok (.goto (-67), 3) := by decide +kernel
theorem dX4_gather_77 : decode cX4_gather 77 = .ok (.return_, 1) := by decide +kernel
set_option maxRecDepth 20000 in
theorem ggX4_holds_X4_holdsStart : GoodIn wsX4_holds wsX4_holdsStart := goodIn_r _ [5, 6, 7, 8, 9, 10, 11, 12, 4, 13, 14, 15, 16, 17, 18, 19, 20, 21, 22, 23, 24, 25, 26] (by decide +kernel) (by decide +kernel)
set_option maxRecDepth 20000 in
theorem gX4_holds_X4_holdsStart : GoodIn wsX4_holds (wsV RX4 73 RX4 yX4_holdsStart wsX4_holdsStart) := goodIn_app (goodIn_of _ (by decide +kernel)) ggX4_holds_X4_holdsStart
theorem dX4_holds_0 : decode cX4_holds 0 = .ok (.aload_n 0, 1) := by decide +kernel
theorem dX4_holds_1 : decode cX4_holds 1 = .ok (.iload_n 1, 1) := by decide +kernel
theorem dX4_holds_2 : decode cX4_holds 2 = .ok (.bipush 7, 2) := by decide +kernel
theorem dX4_holds_4 : decode cX4_holds 4 = .ok (.invokevirtual 73, 3) := by decide +kernel
theorem dX4_holds_7 : decode cX4_holds 7 = .ok (.ireturn, 1) := by decide +kernel
set_option maxRecDepth 20000 in
theorem ggX4_holdsStart_X6_image : GoodIn wsX4_holdsStart wsX6_image := goodIn_r _ [4] (by decide +kernel) (by decide +kernel)
set_option maxRecDepth 20000 in
theorem gX4_holdsStart_X6_image_n76 : GoodIn wsX4_holdsStart (wsX6_image) := ggX4_holdsStart_X6_image
set_option maxRecDepth 20000 in
theorem ggX4_holdsStart_X4_reaches : GoodIn wsX4_holdsStart wsX4_reaches := goodIn_r _ [9, 10, 16, 17, 18, 19, 20, 21, 22] (by decide +kernel) (by decide +kernel)
set_option maxRecDepth 20000 in
theorem gX4_holdsStart_X4_reaches : GoodIn wsX4_holdsStart (wsV RX4 65 RX4 yX4_reaches wsX4_reaches) := goodIn_app (goodIn_of _ (by decide +kernel)) ggX4_holdsStart_X4_reaches
set_option maxRecDepth 20000 in
theorem ggX4_holdsStart_X4_cellOf : GoodIn wsX4_holdsStart wsX4_cellOf := goodIn_r _ [13] (by decide +kernel) (by decide +kernel)
set_option maxRecDepth 20000 in
theorem gX4_holdsStart_X4_cellOf : GoodIn wsX4_holdsStart (va_wsS RX4 79 yX4_cellOf wsX4_cellOf) := goodIn_app (goodIn_of _ (by decide +kernel)) ggX4_holdsStart_X4_cellOf
set_option maxRecDepth 20000 in
theorem ggX4_holdsStart_X6_chain : GoodIn wsX4_holdsStart wsX6_chain := goodIn_r _ [15] (by decide +kernel) (by decide +kernel)
set_option maxRecDepth 20000 in
theorem gX4_holdsStart_X6_chain_n82 : GoodIn wsX4_holdsStart (wsX6_chain) := ggX4_holdsStart_X6_chain
theorem dX4_holdsStart_0 : decode cX4_holdsStart 0 = .ok (.iload_n 1, 1) := by decide +kernel
theorem dX4_holdsStart_1 : decode cX4_holdsStart 1 = .ok (.istore_n 3, 1) := by decide +kernel
theorem dX4_holdsStart_2 : decode cX4_holdsStart 2 = .ok (.iconst 0, 1) := by decide +kernel
theorem dX4_holdsStart_3 : decode cX4_holdsStart 3 = .ok (.istore 4, 2) := by decide +kernel
theorem dX4_holdsStart_5 : decode cX4_holdsStart 5 = .ok (.iload 4, 2) := by decide +kernel
theorem dX4_holdsStart_7 : decode cX4_holdsStart 7 = .ok (.iload_n 2, 1) := by decide +kernel
theorem dX4_holdsStart_8 : decode cX4_holdsStart 8 = .ok (.if_icmp .gt 61, 3) := by decide +kernel
theorem dX4_holdsStart_11 : decode cX4_holdsStart 11 = .ok (.iload 4, 2) := by decide +kernel
theorem dX4_holdsStart_13 : decode cX4_holdsStart 13 = .ok (.bipush 8, 2) := by decide +kernel
theorem dX4_holdsStart_15 : decode cX4_holdsStart 15 = .ok (.if_icmp .ge 54, 3) := by decide +kernel
theorem dX4_holdsStart_18 : decode cX4_holdsStart 18 = .ok (.iload_n 3, 1) := by decide +kernel
theorem dX4_holdsStart_19 : decode cX4_holdsStart 19 = .ok (.iload 4, 2) := by decide +kernel
theorem dX4_holdsStart_21 : decode cX4_holdsStart 21 = .ok (.invokestatic 76, 3) := by decide +kernel
theorem dX4_holdsStart_24 : decode cX4_holdsStart 24 = .ok (.istore 5, 2) := by decide +kernel
theorem dX4_holdsStart_26 : decode cX4_holdsStart 26 = .ok (.aload_n 0, 1) := by decide +kernel
theorem dX4_holdsStart_27 : decode cX4_holdsStart 27 = .ok (.iload 4, 2) := by decide +kernel
theorem dX4_holdsStart_29 : decode cX4_holdsStart 29 = .ok (.iload 5, 2) := by decide +kernel
theorem dX4_holdsStart_31 : decode cX4_holdsStart 31 = .ok (.invokevirtual 65, 3) := by decide +kernel
theorem dX4_holdsStart_34 : decode cX4_holdsStart 34 = .ok (.ifCond .ne 5, 3) := by decide +kernel
theorem dX4_holdsStart_37 : decode cX4_holdsStart 37 = .ok (.iconst 0, 1) := by decide +kernel
theorem dX4_holdsStart_38 : decode cX4_holdsStart 38 = .ok (.ireturn, 1) := by decide +kernel
theorem dX4_holdsStart_39 : decode cX4_holdsStart 39 = .ok (.iload 5, 2) := by decide +kernel
theorem dX4_holdsStart_41 : decode cX4_holdsStart 41 = .ok (.iload 4, 2) := by decide +kernel
theorem dX4_holdsStart_43 : decode cX4_holdsStart 43 = .ok (.if_icmp .eq 20, 3) := by decide +kernel
theorem dX4_holdsStart_46 : decode cX4_holdsStart 46 = .ok (.iload_n 3, 1) := by decide +kernel
theorem dX4_holdsStart_47 : decode cX4_holdsStart 47 = .ok (.aload_n 0, 1) := by decide +kernel
theorem dX4_holdsStart_48 : decode cX4_holdsStart 48 = .ok (.getfield 15, 3) := by decide +kernel
theorem dX4_holdsStart_51 : decode cX4_holdsStart 51 = .ok (.iload 4, 2) := by decide +kernel
theorem dX4_holdsStart_53 : decode cX4_holdsStart 53 = .ok (.iload 5, 2) := by decide +kernel
theorem dX4_holdsStart_55 : decode cX4_holdsStart 55 = .ok (.invokestatic 79, 3) := by decide +kernel
theorem dX4_holdsStart_58 : decode cX4_holdsStart 58 = .ok (.iaload, 1) := by decide +kernel
theorem dX4_holdsStart_59 : decode cX4_holdsStart 59 = .ok (.invokestatic 82, 3) := by decide +kernel
theorem dX4_holdsStart_62 : decode cX4_holdsStart 62 = .ok (.istore_n 3, 1) := by decide +kernel
theorem dX4_holdsStart_63 : decode cX4_holdsStart 63 = .ok (.iinc 4 1, 3) := by decide +kernel
theorem dX4_holdsStart_66 : decode cX4_holdsStart 66 = .ok (.goto (-61), 3) := by decide +kernel
theorem dX4_holdsStart_69 : decode cX4_holdsStart 69 = .ok (.iconst 1, 1) := by decide +kernel
theorem dX4_holdsStart_70 : decode cX4_holdsStart 70 = .ok (.ireturn, 1) := by decide +kernel
set_option maxRecDepth 20000 in
theorem ggX4_isWithin_X4_holds : GoodIn wsX4_isWithin wsX4_holds := goodIn_r _ [7, 8, 9, 10, 6, 11, 12, 13, 14, 15, 16, 17, 18, 19, 20, 21, 22, 23, 24, 25, 26, 27, 28, 29, 30, 31, 32] (by decide +kernel) (by decide +kernel)
set_option maxRecDepth 20000 in
theorem gX4_isWithin_X4_holds : GoodIn wsX4_isWithin (wsV RX4 85 RX4 yX4_holds wsX4_holds) := goodIn_app (goodIn_of _ (by decide +kernel)) ggX4_isWithin_X4_holds
theorem dX4_isWithin_0 : decode cX4_isWithin 0 = .ok (.iconst 0, 1) := by decide +kernel
theorem dX4_isWithin_1 : decode cX4_isWithin 1 = .ok (.istore_n 2, 1) := by decide +kernel
theorem dX4_isWithin_2 : decode cX4_isWithin 2 = .ok (.iload_n 2, 1) := by decide +kernel
theorem dX4_isWithin_3 : decode cX4_isWithin 3 = .ok (.aload_n 0, 1) := by decide +kernel
theorem dX4_isWithin_4 : decode cX4_isWithin 4 = .ok (.getfield 31, 3) := by decide +kernel
theorem dX4_isWithin_7 : decode cX4_isWithin 7 = .ok (.if_icmp .ge 24, 3) := by decide +kernel
theorem dX4_isWithin_10 : decode cX4_isWithin 10 = .ok (.aload_n 1, 1) := by decide +kernel
theorem dX4_isWithin_11 : decode cX4_isWithin 11 = .ok (.aload_n 0, 1) := by decide +kernel
theorem dX4_isWithin_12 : decode cX4_isWithin 12 = .ok (.getfield 24, 3) := by decide +kernel
theorem dX4_isWithin_15 : decode cX4_isWithin 15 = .ok (.iload_n 2, 1) := by decide +kernel
theorem dX4_isWithin_16 : decode cX4_isWithin 16 = .ok (.iaload, 1) := by decide +kernel
theorem dX4_isWithin_17 : decode cX4_isWithin 17 = .ok (.invokevirtual 85, 3) := by decide +kernel
theorem dX4_isWithin_20 : decode cX4_isWithin 20 = .ok (.ifCond .ne 5, 3) := by decide +kernel
theorem dX4_isWithin_23 : decode cX4_isWithin 23 = .ok (.iconst 0, 1) := by decide +kernel
theorem dX4_isWithin_24 : decode cX4_isWithin 24 = .ok (.ireturn, 1) := by decide +kernel
theorem dX4_isWithin_25 : decode cX4_isWithin 25 = .ok (.iinc 2 1, 3) := by decide +kernel
theorem dX4_isWithin_28 : decode cX4_isWithin 28 = .ok (.goto (-26), 3) := by decide +kernel
theorem dX4_isWithin_31 : decode cX4_isWithin 31 = .ok (.iconst 1, 1) := by decide +kernel
theorem dX4_isWithin_32 : decode cX4_isWithin 32 = .ok (.ireturn, 1) := by decide +kernel
set_option maxRecDepth 20000 in
theorem ggX4_staysUnder_X6_carried : GoodIn wsX4_staysUnder wsX6_carried := goodIn_r _ [5, 6, 7, 4, 8, 9, 10, 11] (by decide +kernel) (by decide +kernel)
set_option maxRecDepth 20000 in
theorem gX4_staysUnder_X6_carried_n51 : GoodIn wsX4_staysUnder (wsX6_carried) := ggX4_staysUnder_X6_carried
set_option maxRecDepth 20000 in
theorem ggX4_staysUnder_X4_holds : GoodIn wsX4_staysUnder wsX4_holds := goodIn_r _ [16, 17, 18, 19, 15, 20, 21, 22, 4, 23, 24, 25, 26, 27, 28, 29, 30, 31, 10, 11, 32, 33, 34, 35, 36, 37, 38] (by decide +kernel) (by decide +kernel)
set_option maxRecDepth 20000 in
theorem gX4_staysUnder_X4_holds : GoodIn wsX4_staysUnder (wsV RX4 85 RX4 yX4_holds wsX4_holds) := goodIn_app (goodIn_of _ (by decide +kernel)) ggX4_staysUnder_X4_holds
theorem dX4_staysUnder_0 : decode cX4_staysUnder 0 = .ok (.iconst 0, 1) := by decide +kernel
theorem dX4_staysUnder_1 : decode cX4_staysUnder 1 = .ok (.istore_n 2, 1) := by decide +kernel
theorem dX4_staysUnder_2 : decode cX4_staysUnder 2 = .ok (.iload_n 2, 1) := by decide +kernel
theorem dX4_staysUnder_3 : decode cX4_staysUnder 3 = .ok (.aload_n 0, 1) := by decide +kernel
theorem dX4_staysUnder_4 : decode cX4_staysUnder 4 = .ok (.getfield 31, 3) := by decide +kernel
theorem dX4_staysUnder_7 : decode cX4_staysUnder 7 = .ok (.if_icmp .ge 49, 3) := by decide +kernel
theorem dX4_staysUnder_10 : decode cX4_staysUnder 10 = .ok (.iconst 0, 1) := by decide +kernel
theorem dX4_staysUnder_11 : decode cX4_staysUnder 11 = .ok (.istore_n 3, 1) := by decide +kernel
theorem dX4_staysUnder_12 : decode cX4_staysUnder 12 = .ok (.iload_n 3, 1) := by decide +kernel
theorem dX4_staysUnder_13 : decode cX4_staysUnder 13 = .ok (.aload_n 1, 1) := by decide +kernel
theorem dX4_staysUnder_14 : decode cX4_staysUnder 14 = .ok (.getfield 31, 3) := by decide +kernel
theorem dX4_staysUnder_17 : decode cX4_staysUnder 17 = .ok (.if_icmp .ge 33, 3) := by decide +kernel
theorem dX4_staysUnder_20 : decode cX4_staysUnder 20 = .ok (.aload_n 0, 1) := by decide +kernel
theorem dX4_staysUnder_21 : decode cX4_staysUnder 21 = .ok (.aload_n 0, 1) := by decide +kernel
theorem dX4_staysUnder_22 : decode cX4_staysUnder 22 = .ok (.getfield 24, 3) := by decide +kernel
theorem dX4_staysUnder_25 : decode cX4_staysUnder 25 = .ok (.iload_n 2, 1) := by decide +kernel
theorem dX4_staysUnder_26 : decode cX4_staysUnder 26 = .ok (.iaload, 1) := by decide +kernel
theorem dX4_staysUnder_27 : decode cX4_staysUnder 27 = .ok (.aload_n 1, 1) := by decide +kernel
theorem dX4_staysUnder_28 : decode cX4_staysUnder 28 = .ok (.getfield 24, 3) := by decide +kernel
theorem dX4_staysUnder_31 : decode cX4_staysUnder 31 = .ok (.iload_n 3, 1) := by decide +kernel
theorem dX4_staysUnder_32 : decode cX4_staysUnder 32 = .ok (.iaload, 1) := by decide +kernel
theorem dX4_staysUnder_33 : decode cX4_staysUnder 33 = .ok (.invokestatic 51, 3) := by decide +kernel
theorem dX4_staysUnder_36 : decode cX4_staysUnder 36 = .ok (.invokevirtual 85, 3) := by decide +kernel
theorem dX4_staysUnder_39 : decode cX4_staysUnder 39 = .ok (.ifCond .ne 5, 3) := by decide +kernel
theorem dX4_staysUnder_42 : decode cX4_staysUnder 42 = .ok (.iconst 0, 1) := by decide +kernel
theorem dX4_staysUnder_43 : decode cX4_staysUnder 43 = .ok (.ireturn, 1) := by decide +kernel
theorem dX4_staysUnder_44 : decode cX4_staysUnder 44 = .ok (.iinc 3 1, 3) := by decide +kernel
theorem dX4_staysUnder_47 : decode cX4_staysUnder 47 = .ok (.goto (-35), 3) := by decide +kernel
theorem dX4_staysUnder_50 : decode cX4_staysUnder 50 = .ok (.iinc 2 1, 3) := by decide +kernel
theorem dX4_staysUnder_53 : decode cX4_staysUnder 53 = .ok (.goto (-51), 3) := by decide +kernel
theorem dX4_staysUnder_56 : decode cX4_staysUnder 56 = .ok (.iconst 1, 1) := by decide +kernel
theorem dX4_staysUnder_57 : decode cX4_staysUnder 57 = .ok (.ireturn, 1) := by decide +kernel
set_option maxRecDepth 20000 in
theorem ggX4_turnsFrom_J6_bitCount_0f7a4 : GoodIn wsX4_turnsFrom wsJ6_bitCount_0f7a4 := goodIn_r _ [5, 6, 7, 8] (by decide +kernel) (by decide +kernel)
set_option maxRecDepth 20000 in
theorem gX4_turnsFrom_J6_bitCount_0f7a4 : GoodIn wsX4_turnsFrom (va_wsS RX4 88 yJ6_bitCount_0f7a4 wsJ6_bitCount_0f7a4) := goodIn_app (goodIn_of _ (by decide +kernel)) ggX4_turnsFrom_J6_bitCount_0f7a4
theorem dX4_turnsFrom_0 : decode cX4_turnsFrom 0 = .ok (.iconst 1, 1) := by decide +kernel
theorem dX4_turnsFrom_1 : decode cX4_turnsFrom 1 = .ok (.istore_n 2, 1) := by decide +kernel
theorem dX4_turnsFrom_2 : decode cX4_turnsFrom 2 = .ok (.iload_n 1, 1) := by decide +kernel
theorem dX4_turnsFrom_3 : decode cX4_turnsFrom 3 = .ok (.istore_n 3, 1) := by decide +kernel
theorem dX4_turnsFrom_4 : decode cX4_turnsFrom 4 = .ok (.iload_n 3, 1) := by decide +kernel
theorem dX4_turnsFrom_5 : decode cX4_turnsFrom 5 = .ok (.bipush 8, 2) := by decide +kernel
theorem dX4_turnsFrom_7 : decode cX4_turnsFrom 7 = .ok (.if_icmp .ge 21, 3) := by decide +kernel
theorem dX4_turnsFrom_10 : decode cX4_turnsFrom 10 = .ok (.iload_n 2, 1) := by decide +kernel
theorem dX4_turnsFrom_11 : decode cX4_turnsFrom 11 = .ok (.aload_n 0, 1) := by decide +kernel
theorem dX4_turnsFrom_12 : decode cX4_turnsFrom 12 = .ok (.getfield 18, 3) := by decide +kernel
theorem dX4_turnsFrom_15 : decode cX4_turnsFrom 15 = .ok (.iload_n 3, 1) := by decide +kernel
theorem dX4_turnsFrom_16 : decode cX4_turnsFrom 16 = .ok (.iaload, 1) := by decide +kernel
theorem dX4_turnsFrom_17 : decode cX4_turnsFrom 17 = .ok (.invokestatic 88, 3) := by decide +kernel
theorem dX4_turnsFrom_20 : decode cX4_turnsFrom 20 = .ok (.imul, 1) := by decide +kernel
theorem dX4_turnsFrom_21 : decode cX4_turnsFrom 21 = .ok (.istore_n 2, 1) := by decide +kernel
theorem dX4_turnsFrom_22 : decode cX4_turnsFrom 22 = .ok (.iinc 3 1, 3) := by decide +kernel
theorem dX4_turnsFrom_25 : decode cX4_turnsFrom 25 = .ok (.goto (-21), 3) := by decide +kernel
theorem dX4_turnsFrom_28 : decode cX4_turnsFrom 28 = .ok (.iload_n 2, 1) := by decide +kernel
theorem dX4_turnsFrom_29 : decode cX4_turnsFrom 29 = .ok (.ireturn, 1) := by decide +kernel
set_option maxRecDepth 20000 in
theorem ggX4_orbitFrom_X4_levelOf : GoodIn wsX4_orbitFrom wsX4_levelOf := goodIn_r _ [7] (by decide +kernel) (by decide +kernel)
set_option maxRecDepth 20000 in
theorem gX4_orbitFrom_X4_levelOf : GoodIn wsX4_orbitFrom (va_wsS RX4 94 yX4_levelOf wsX4_levelOf) := goodIn_app (goodIn_of _ (by decide +kernel)) ggX4_orbitFrom_X4_levelOf
set_option maxRecDepth 20000 in
theorem ggX4_orbitFrom_X4_imageOfSet : GoodIn wsX4_orbitFrom wsX4_imageOfSet := goodIn_r _ [10, 11, 12, 13] (by decide +kernel) (by decide +kernel)
set_option maxRecDepth 20000 in
theorem gX4_orbitFrom_X4_imageOfSet : GoodIn wsX4_orbitFrom (va_wsS RX4 97 yX4_imageOfSet wsX4_imageOfSet) := goodIn_app (goodIn_of _ (by decide +kernel)) ggX4_orbitFrom_X4_imageOfSet
theorem dX4_orbitFrom_0 : decode cX4_orbitFrom 0 = .ok (.iconst 1, 1) := by decide +kernel
theorem dX4_orbitFrom_1 : decode cX4_orbitFrom 1 = .ok (.iload_n 2, 1) := by decide +kernel
theorem dX4_orbitFrom_2 : decode cX4_orbitFrom 2 = .ok (.ishl, 1) := by decide +kernel
theorem dX4_orbitFrom_3 : decode cX4_orbitFrom 3 = .ok (.istore_n 3, 1) := by decide +kernel
theorem dX4_orbitFrom_4 : decode cX4_orbitFrom 4 = .ok (.iconst 0, 1) := by decide +kernel
theorem dX4_orbitFrom_5 : decode cX4_orbitFrom 5 = .ok (.istore 4, 2) := by decide +kernel
theorem dX4_orbitFrom_7 : decode cX4_orbitFrom 7 = .ok (.iconst 0, 1) := by decide +kernel
theorem dX4_orbitFrom_8 : decode cX4_orbitFrom 8 = .ok (.istore 5, 2) := by decide +kernel
theorem dX4_orbitFrom_10 : decode cX4_orbitFrom 10 = .ok (.iload 5, 2) := by decide +kernel
theorem dX4_orbitFrom_12 : decode cX4_orbitFrom 12 = .ok (.bipush 8, 2) := by decide +kernel
theorem dX4_orbitFrom_14 : decode cX4_orbitFrom 14 = .ok (.if_icmp .ge 69, 3) := by decide +kernel
theorem dX4_orbitFrom_17 : decode cX4_orbitFrom 17 = .ok (.iload_n 3, 1) := by decide +kernel
theorem dX4_orbitFrom_18 : decode cX4_orbitFrom 18 = .ok (.iload 4, 2) := by decide +kernel
theorem dX4_orbitFrom_20 : decode cX4_orbitFrom 20 = .ok (.if_icmp .eq 63, 3) := by decide +kernel
theorem dX4_orbitFrom_23 : decode cX4_orbitFrom 23 = .ok (.iload_n 3, 1) := by decide +kernel
theorem dX4_orbitFrom_24 : decode cX4_orbitFrom 24 = .ok (.istore 4, 2) := by decide +kernel
theorem dX4_orbitFrom_26 : decode cX4_orbitFrom 26 = .ok (.iconst 0, 1) := by decide +kernel
theorem dX4_orbitFrom_27 : decode cX4_orbitFrom 27 = .ok (.istore 6, 2) := by decide +kernel
theorem dX4_orbitFrom_29 : decode cX4_orbitFrom 29 = .ok (.iload 6, 2) := by decide +kernel
theorem dX4_orbitFrom_31 : decode cX4_orbitFrom 31 = .ok (.aload_n 0, 1) := by decide +kernel
theorem dX4_orbitFrom_32 : decode cX4_orbitFrom 32 = .ok (.getfield 27, 3) := by decide +kernel
theorem dX4_orbitFrom_35 : decode cX4_orbitFrom 35 = .ok (.if_icmp .ge 42, 3) := by decide +kernel
theorem dX4_orbitFrom_38 : decode cX4_orbitFrom 38 = .ok (.aload_n 0, 1) := by decide +kernel
theorem dX4_orbitFrom_39 : decode cX4_orbitFrom 39 = .ok (.getfield 21, 3) := by decide +kernel
theorem dX4_orbitFrom_42 : decode cX4_orbitFrom 42 = .ok (.iload 6, 2) := by decide +kernel
theorem dX4_orbitFrom_44 : decode cX4_orbitFrom 44 = .ok (.iaload, 1) := by decide +kernel
theorem dX4_orbitFrom_45 : decode cX4_orbitFrom 45 = .ok (.invokestatic 94, 3) := by decide +kernel
theorem dX4_orbitFrom_48 : decode cX4_orbitFrom 48 = .ok (.iload_n 1, 1) := by decide +kernel
theorem dX4_orbitFrom_49 : decode cX4_orbitFrom 49 = .ok (.if_icmp .lt 22, 3) := by decide +kernel
theorem dX4_orbitFrom_52 : decode cX4_orbitFrom 52 = .ok (.iload_n 3, 1) := by decide +kernel
theorem dX4_orbitFrom_53 : decode cX4_orbitFrom 53 = .ok (.aload_n 0, 1) := by decide +kernel
theorem dX4_orbitFrom_54 : decode cX4_orbitFrom 54 = .ok (.getfield 11, 3) := by decide +kernel
theorem dX4_orbitFrom_57 : decode cX4_orbitFrom 57 = .ok (.aload_n 0, 1) := by decide +kernel
theorem dX4_orbitFrom_58 : decode cX4_orbitFrom 58 = .ok (.getfield 21, 3) := by decide +kernel
theorem dX4_orbitFrom_61 : decode cX4_orbitFrom 61 = .ok (.iload 6, 2) := by decide +kernel
theorem dX4_orbitFrom_63 : decode cX4_orbitFrom 63 = .ok (.iaload, 1) := by decide +kernel
theorem dX4_orbitFrom_64 : decode cX4_orbitFrom 64 = .ok (.iaload, 1) := by decide +kernel
theorem dX4_orbitFrom_65 : decode cX4_orbitFrom 65 = .ok (.iload_n 3, 1) := by decide +kernel
theorem dX4_orbitFrom_66 : decode cX4_orbitFrom 66 = .ok (.invokestatic 97, 3) := by decide +kernel
theorem dX4_orbitFrom_69 : decode cX4_orbitFrom 69 = .ok (.ior, 1) := by decide +kernel
theorem dX4_orbitFrom_70 : decode cX4_orbitFrom 70 = .ok (.istore_n 3, 1) := by decide +kernel
theorem dX4_orbitFrom_71 : decode cX4_orbitFrom 71 = .ok (.iinc 6 1, 3) := by decide +kernel
theorem dX4_orbitFrom_74 : decode cX4_orbitFrom 74 = .ok (.goto (-45), 3) := by decide +kernel
theorem dX4_orbitFrom_77 : decode cX4_orbitFrom 77 = .ok (.iinc 5 1, 3) := by decide +kernel
theorem dX4_orbitFrom_80 : decode cX4_orbitFrom 80 = .ok (.goto (-70), 3) := by decide +kernel
theorem dX4_orbitFrom_83 : decode cX4_orbitFrom 83 = .ok (.iload_n 3, 1) := by decide +kernel
theorem dX4_orbitFrom_84 : decode cX4_orbitFrom 84 = .ok (.ireturn, 1) := by decide +kernel
set_option maxRecDepth 20000 in
theorem ggX4_blockOf_X4_merge : GoodIn wsX4_blockOf wsX4_merge := goodIn_r _ [7, 8, 9, 10] (by decide +kernel) (by decide +kernel)
set_option maxRecDepth 20000 in
theorem gX4_blockOf_X4_merge : GoodIn wsX4_blockOf (va_wsS RX4 101 yX4_merge wsX4_merge) := goodIn_app (goodIn_of _ (by decide +kernel)) ggX4_blockOf_X4_merge
set_option maxRecDepth 20000 in
theorem ggX4_blockOf_X4_mergeImages : GoodIn wsX4_blockOf wsX4_mergeImages := goodIn_r _ [13, 8, 9, 10, 4, 5, 6, 7] (by decide +kernel) (by decide +kernel)
set_option maxRecDepth 20000 in
theorem gX4_blockOf_X4_mergeImages : GoodIn wsX4_blockOf (va_wsS RX4 105 yX4_mergeImages wsX4_mergeImages) := goodIn_app (goodIn_of _ (by decide +kernel)) ggX4_blockOf_X4_mergeImages
set_option maxRecDepth 20000 in
theorem ggX4_blockOf_X6_image : GoodIn wsX4_blockOf wsX6_image := goodIn_r _ [10] (by decide +kernel) (by decide +kernel)
set_option maxRecDepth 20000 in
theorem gX4_blockOf_X6_image_n76 : GoodIn wsX4_blockOf (wsX6_image) := ggX4_blockOf_X6_image
theorem dX4_blockOf_0 : decode cX4_blockOf 0 = .ok (.ldc 100, 2) := by decide +kernel
theorem dX4_blockOf_2 : decode cX4_blockOf 2 = .ok (.iload_n 1, 1) := by decide +kernel
theorem dX4_blockOf_3 : decode cX4_blockOf 3 = .ok (.iload_n 2, 1) := by decide +kernel
theorem dX4_blockOf_4 : decode cX4_blockOf 4 = .ok (.invokestatic 101, 3) := by decide +kernel
theorem dX4_blockOf_7 : decode cX4_blockOf 7 = .ok (.istore_n 3, 1) := by decide +kernel
theorem dX4_blockOf_8 : decode cX4_blockOf 8 = .ok (.iconst 0, 1) := by decide +kernel
theorem dX4_blockOf_9 : decode cX4_blockOf 9 = .ok (.istore 4, 2) := by decide +kernel
theorem dX4_blockOf_11 : decode cX4_blockOf 11 = .ok (.iload 4, 2) := by decide +kernel
theorem dX4_blockOf_13 : decode cX4_blockOf 13 = .ok (.bipush 8, 2) := by decide +kernel
theorem dX4_blockOf_15 : decode cX4_blockOf 15 = .ok (.if_icmp .ge 39, 3) := by decide +kernel
theorem dX4_blockOf_18 : decode cX4_blockOf 18 = .ok (.iconst 0, 1) := by decide +kernel
theorem dX4_blockOf_19 : decode cX4_blockOf 19 = .ok (.istore 5, 2) := by decide +kernel
theorem dX4_blockOf_21 : decode cX4_blockOf 21 = .ok (.iload 5, 2) := by decide +kernel
theorem dX4_blockOf_23 : decode cX4_blockOf 23 = .ok (.aload_n 0, 1) := by decide +kernel
theorem dX4_blockOf_24 : decode cX4_blockOf 24 = .ok (.getfield 31, 3) := by decide +kernel
theorem dX4_blockOf_27 : decode cX4_blockOf 27 = .ok (.if_icmp .ge 21, 3) := by decide +kernel
theorem dX4_blockOf_30 : decode cX4_blockOf 30 = .ok (.iload_n 3, 1) := by decide +kernel
theorem dX4_blockOf_31 : decode cX4_blockOf 31 = .ok (.aload_n 0, 1) := by decide +kernel
theorem dX4_blockOf_32 : decode cX4_blockOf 32 = .ok (.getfield 24, 3) := by decide +kernel
theorem dX4_blockOf_35 : decode cX4_blockOf 35 = .ok (.iload 5, 2) := by decide +kernel
theorem dX4_blockOf_37 : decode cX4_blockOf 37 = .ok (.iaload, 1) := by decide +kernel
theorem dX4_blockOf_38 : decode cX4_blockOf 38 = .ok (.invokestatic 105, 3) := by decide +kernel
theorem dX4_blockOf_41 : decode cX4_blockOf 41 = .ok (.istore_n 3, 1) := by decide +kernel
theorem dX4_blockOf_42 : decode cX4_blockOf 42 = .ok (.iinc 5 1, 3) := by decide +kernel
theorem dX4_blockOf_45 : decode cX4_blockOf 45 = .ok (.goto (-24), 3) := by decide +kernel
theorem dX4_blockOf_48 : decode cX4_blockOf 48 = .ok (.iinc 4 1, 3) := by decide +kernel
theorem dX4_blockOf_51 : decode cX4_blockOf 51 = .ok (.goto (-40), 3) := by decide +kernel
theorem dX4_blockOf_54 : decode cX4_blockOf 54 = .ok (.iconst 0, 1) := by decide +kernel
theorem dX4_blockOf_55 : decode cX4_blockOf 55 = .ok (.istore 4, 2) := by decide +kernel
theorem dX4_blockOf_57 : decode cX4_blockOf 57 = .ok (.iconst 0, 1) := by decide +kernel
theorem dX4_blockOf_58 : decode cX4_blockOf 58 = .ok (.istore 5, 2) := by decide +kernel
theorem dX4_blockOf_60 : decode cX4_blockOf 60 = .ok (.iload 5, 2) := by decide +kernel
theorem dX4_blockOf_62 : decode cX4_blockOf 62 = .ok (.bipush 8, 2) := by decide +kernel
theorem dX4_blockOf_64 : decode cX4_blockOf 64 = .ok (.if_icmp .ge 32, 3) := by decide +kernel
theorem dX4_blockOf_67 : decode cX4_blockOf 67 = .ok (.iload_n 3, 1) := by decide +kernel
theorem dX4_blockOf_68 : decode cX4_blockOf 68 = .ok (.iload 5, 2) := by decide +kernel
theorem dX4_blockOf_70 : decode cX4_blockOf 70 = .ok (.invokestatic 76, 3) := by decide +kernel
theorem dX4_blockOf_73 : decode cX4_blockOf 73 = .ok (.iload_n 3, 1) := by decide +kernel
theorem dX4_blockOf_74 : decode cX4_blockOf 74 = .ok (.iload_n 1, 1) := by decide +kernel
theorem dX4_blockOf_75 : decode cX4_blockOf 75 = .ok (.invokestatic 76, 3) := by decide +kernel
theorem dX4_blockOf_78 : decode cX4_blockOf 78 = .ok (.if_icmp .ne 12, 3) := by decide +kernel
theorem dX4_blockOf_81 : decode cX4_blockOf 81 = .ok (.iload 4, 2) := by decide +kernel
theorem dX4_blockOf_83 : decode cX4_blockOf 83 = .ok (.iconst 1, 1) := by decide +kernel
theorem dX4_blockOf_84 : decode cX4_blockOf 84 = .ok (.iload 5, 2) := by decide +kernel
theorem dX4_blockOf_86 : decode cX4_blockOf 86 = .ok (.ishl, 1) := by decide +kernel
theorem dX4_blockOf_87 : decode cX4_blockOf 87 = .ok (.ior, 1) := by decide +kernel
theorem dX4_blockOf_88 : decode cX4_blockOf 88 = .ok (.istore 4, 2) := by decide +kernel
theorem dX4_blockOf_90 : decode cX4_blockOf 90 = .ok (.iinc 5 1, 3) := by decide +kernel
theorem dX4_blockOf_93 : decode cX4_blockOf 93 = .ok (.goto (-33), 3) := by decide +kernel
theorem dX4_blockOf_96 : decode cX4_blockOf 96 = .ok (.iload 4, 2) := by decide +kernel
theorem dX4_blockOf_98 : decode cX4_blockOf 98 = .ok (.ireturn, 1) := by decide +kernel
set_option maxRecDepth 20000 in
theorem ggX4_turnsThatLeave_X4_reaches : GoodIn wsX4_turnsThatLeave wsX4_reaches := goodIn_r _ [6, 7, 43, 44, 45, 46, 47, 48, 49] (by decide +kernel) (by decide +kernel)
set_option maxRecDepth 20000 in
theorem gX4_turnsThatLeave_X4_reaches : GoodIn wsX4_turnsThatLeave (wsV RX4 65 RX4 yX4_reaches wsX4_reaches) := goodIn_app (goodIn_of _ (by decide +kernel)) ggX4_turnsThatLeave_X4_reaches
set_option maxRecDepth 20000 in
theorem ggX4_turnsThatLeave_X4_orbitFrom : GoodIn wsX4_turnsThatLeave wsX4_orbitFrom := goodIn_r _ [11, 12, 13, 1, 14, 15, 5, 16, 17, 18, 19, 20, 21, 22, 43, 44, 45, 46, 47, 48, 49] (by decide +kernel) (by decide +kernel)
set_option maxRecDepth 20000 in
theorem gX4_turnsThatLeave_X4_orbitFrom : GoodIn wsX4_turnsThatLeave (wsV RX4 108 RX4 yX4_orbitFrom wsX4_orbitFrom) := goodIn_app (goodIn_of _ (by decide +kernel)) ggX4_turnsThatLeave_X4_orbitFrom
set_option maxRecDepth 20000 in
theorem ggX4_turnsThatLeave_X4_cellOf : GoodIn wsX4_turnsThatLeave wsX4_cellOf := goodIn_r _ [25] (by decide +kernel) (by decide +kernel)
set_option maxRecDepth 20000 in
theorem gX4_turnsThatLeave_X4_cellOf : GoodIn wsX4_turnsThatLeave (va_wsS RX4 79 yX4_cellOf wsX4_cellOf) := goodIn_app (goodIn_of _ (by decide +kernel)) ggX4_turnsThatLeave_X4_cellOf
set_option maxRecDepth 20000 in
theorem ggX4_turnsThatLeave_J6_bitCount_0f7a4 : GoodIn wsX4_turnsThatLeave wsJ6_bitCount_0f7a4 := goodIn_r _ [29, 30, 31, 32] (by decide +kernel) (by decide +kernel)
set_option maxRecDepth 20000 in
theorem gX4_turnsThatLeave_J6_bitCount_0f7a4 : GoodIn wsX4_turnsThatLeave (va_wsS RX4 88 yJ6_bitCount_0f7a4 wsJ6_bitCount_0f7a4) := goodIn_app (goodIn_of _ (by decide +kernel)) ggX4_turnsThatLeave_J6_bitCount_0f7a4
set_option maxRecDepth 20000 in
theorem ggX4_turnsThatLeave_X4_countLeaving : GoodIn wsX4_turnsThatLeave wsX4_countLeaving := goodIn_r _ [36, 2, 3, 4, 5, 6, 7, 37, 38, 39, 40, 1, 23, 24, 25, 41, 21, 42, 20, 22, 33, 34, 35, 43, 44, 45, 46, 47, 48, 49] (by decide +kernel) (by decide +kernel)
set_option maxRecDepth 20000 in
theorem gX4_turnsThatLeave_X4_countLeaving : GoodIn wsX4_turnsThatLeave (wsV RX4 111 RX4 yX4_countLeaving wsX4_countLeaving) := goodIn_app (goodIn_of _ (by decide +kernel)) ggX4_turnsThatLeave_X4_countLeaving
theorem dX4_turnsThatLeave_0 : decode cX4_turnsThatLeave 0 = .ok (.iload_n 1, 1) := by decide +kernel
theorem dX4_turnsThatLeave_1 : decode cX4_turnsThatLeave 1 = .ok (.bipush 8, 2) := by decide +kernel
theorem dX4_turnsThatLeave_3 : decode cX4_turnsThatLeave 3 = .ok (.if_icmp .ne 7, 3) := by decide +kernel
theorem dX4_turnsThatLeave_6 : decode cX4_turnsThatLeave 6 = .ok (.iconst 1, 1) := by decide +kernel
theorem dX4_turnsThatLeave_7 : decode cX4_turnsThatLeave 7 = .ok (.goto 4, 3) := by decide +kernel
theorem dX4_turnsThatLeave_10 : decode cX4_turnsThatLeave 10 = .ok (.iconst 0, 1) := by decide +kernel
theorem dX4_turnsThatLeave_11 : decode cX4_turnsThatLeave 11 = .ok (.istore_n 2, 1) := by decide +kernel
theorem dX4_turnsThatLeave_12 : decode cX4_turnsThatLeave 12 = .ok (.iconst 0, 1) := by decide +kernel
theorem dX4_turnsThatLeave_13 : decode cX4_turnsThatLeave 13 = .ok (.istore_n 3, 1) := by decide +kernel
theorem dX4_turnsThatLeave_14 : decode cX4_turnsThatLeave 14 = .ok (.iload_n 3, 1) := by decide +kernel
theorem dX4_turnsThatLeave_15 : decode cX4_turnsThatLeave 15 = .ok (.bipush 8, 2) := by decide +kernel
theorem dX4_turnsThatLeave_17 : decode cX4_turnsThatLeave 17 = .ok (.if_icmp .ge 102, 3) := by decide +kernel
theorem dX4_turnsThatLeave_20 : decode cX4_turnsThatLeave 20 = .ok (.iconst 0, 1) := by decide +kernel
theorem dX4_turnsThatLeave_21 : decode cX4_turnsThatLeave 21 = .ok (.istore 4, 2) := by decide +kernel
theorem dX4_turnsThatLeave_23 : decode cX4_turnsThatLeave 23 = .ok (.iload_n 3, 1) := by decide +kernel
theorem dX4_turnsThatLeave_24 : decode cX4_turnsThatLeave 24 = .ok (.iconst 1, 1) := by decide +kernel
theorem dX4_turnsThatLeave_25 : decode cX4_turnsThatLeave 25 = .ok (.iadd, 1) := by decide +kernel
theorem dX4_turnsThatLeave_26 : decode cX4_turnsThatLeave 26 = .ok (.istore 5, 2) := by decide +kernel
theorem dX4_turnsThatLeave_28 : decode cX4_turnsThatLeave 28 = .ok (.iload 5, 2) := by decide +kernel
theorem dX4_turnsThatLeave_30 : decode cX4_turnsThatLeave 30 = .ok (.bipush 8, 2) := by decide +kernel
theorem dX4_turnsThatLeave_32 : decode cX4_turnsThatLeave 32 = .ok (.if_icmp .ge 81, 3) := by decide +kernel
theorem dX4_turnsThatLeave_35 : decode cX4_turnsThatLeave 35 = .ok (.aload_n 0, 1) := by decide +kernel
theorem dX4_turnsThatLeave_36 : decode cX4_turnsThatLeave 36 = .ok (.iload_n 3, 1) := by decide +kernel
theorem dX4_turnsThatLeave_37 : decode cX4_turnsThatLeave 37 = .ok (.iload 5, 2) := by decide +kernel
theorem dX4_turnsThatLeave_39 : decode cX4_turnsThatLeave 39 = .ok (.invokevirtual 65, 3) := by decide +kernel
theorem dX4_turnsThatLeave_42 : decode cX4_turnsThatLeave 42 = .ok (.ifCond .eq 65, 3) := by decide +kernel
theorem dX4_turnsThatLeave_45 : decode cX4_turnsThatLeave 45 = .ok (.iload 4, 2) := by decide +kernel
theorem dX4_turnsThatLeave_47 : decode cX4_turnsThatLeave 47 = .ok (.iload 5, 2) := by decide +kernel
theorem dX4_turnsThatLeave_49 : decode cX4_turnsThatLeave 49 = .ok (.ishr, 1) := by decide +kernel
theorem dX4_turnsThatLeave_50 : decode cX4_turnsThatLeave 50 = .ok (.iconst 1, 1) := by decide +kernel
theorem dX4_turnsThatLeave_51 : decode cX4_turnsThatLeave 51 = .ok (.iand, 1) := by decide +kernel
theorem dX4_turnsThatLeave_52 : decode cX4_turnsThatLeave 52 = .ok (.ifCond .ne 55, 3) := by decide +kernel
theorem dX4_turnsThatLeave_55 : decode cX4_turnsThatLeave 55 = .ok (.aload_n 0, 1) := by decide +kernel
theorem dX4_turnsThatLeave_56 : decode cX4_turnsThatLeave 56 = .ok (.iload_n 3, 1) := by decide +kernel
theorem dX4_turnsThatLeave_57 : decode cX4_turnsThatLeave 57 = .ok (.iconst 1, 1) := by decide +kernel
theorem dX4_turnsThatLeave_58 : decode cX4_turnsThatLeave 58 = .ok (.iadd, 1) := by decide +kernel
theorem dX4_turnsThatLeave_59 : decode cX4_turnsThatLeave 59 = .ok (.iload 5, 2) := by decide +kernel
theorem dX4_turnsThatLeave_61 : decode cX4_turnsThatLeave 61 = .ok (.invokevirtual 108, 3) := by decide +kernel
theorem dX4_turnsThatLeave_64 : decode cX4_turnsThatLeave 64 = .ok (.istore 6, 2) := by decide +kernel
theorem dX4_turnsThatLeave_66 : decode cX4_turnsThatLeave 66 = .ok (.aload_n 0, 1) := by decide +kernel
theorem dX4_turnsThatLeave_67 : decode cX4_turnsThatLeave 67 = .ok (.getfield 11, 3) := by decide +kernel
theorem dX4_turnsThatLeave_70 : decode cX4_turnsThatLeave 70 = .ok (.iload_n 3, 1) := by decide +kernel
theorem dX4_turnsThatLeave_71 : decode cX4_turnsThatLeave 71 = .ok (.iload 5, 2) := by decide +kernel
theorem dX4_turnsThatLeave_73 : decode cX4_turnsThatLeave 73 = .ok (.invokestatic 79, 3) := by decide +kernel
theorem dX4_turnsThatLeave_76 : decode cX4_turnsThatLeave 76 = .ok (.iaload, 1) := by decide +kernel
theorem dX4_turnsThatLeave_77 : decode cX4_turnsThatLeave 77 = .ok (.istore 7, 2) := by decide +kernel
theorem dX4_turnsThatLeave_79 : decode cX4_turnsThatLeave 79 = .ok (.iload_n 2, 1) := by decide +kernel
theorem dX4_turnsThatLeave_80 : decode cX4_turnsThatLeave 80 = .ok (.iload 6, 2) := by decide +kernel
theorem dX4_turnsThatLeave_82 : decode cX4_turnsThatLeave 82 = .ok (.invokestatic 88, 3) := by decide +kernel
theorem dX4_turnsThatLeave_85 : decode cX4_turnsThatLeave 85 = .ok (.aload_n 0, 1) := by decide +kernel
theorem dX4_turnsThatLeave_86 : decode cX4_turnsThatLeave 86 = .ok (.iload_n 1, 1) := by decide +kernel
theorem dX4_turnsThatLeave_87 : decode cX4_turnsThatLeave 87 = .ok (.iload_n 3, 1) := by decide +kernel
theorem dX4_turnsThatLeave_88 : decode cX4_turnsThatLeave 88 = .ok (.isub, 1) := by decide +kernel
theorem dX4_turnsThatLeave_89 : decode cX4_turnsThatLeave 89 = .ok (.iload_n 3, 1) := by decide +kernel
theorem dX4_turnsThatLeave_90 : decode cX4_turnsThatLeave 90 = .ok (.iconst 1, 1) := by decide +kernel
theorem dX4_turnsThatLeave_91 : decode cX4_turnsThatLeave 91 = .ok (.iadd, 1) := by decide +kernel
theorem dX4_turnsThatLeave_92 : decode cX4_turnsThatLeave 92 = .ok (.iload 7, 2) := by decide +kernel
theorem dX4_turnsThatLeave_94 : decode cX4_turnsThatLeave 94 = .ok (.invokevirtual 111, 3) := by decide +kernel
theorem dX4_turnsThatLeave_97 : decode cX4_turnsThatLeave 97 = .ok (.imul, 1) := by decide +kernel
theorem dX4_turnsThatLeave_98 : decode cX4_turnsThatLeave 98 = .ok (.iadd, 1) := by decide +kernel
theorem dX4_turnsThatLeave_99 : decode cX4_turnsThatLeave 99 = .ok (.istore_n 2, 1) := by decide +kernel
theorem dX4_turnsThatLeave_100 : decode cX4_turnsThatLeave 100 = .ok (.iload 4, 2) := by decide +kernel
theorem dX4_turnsThatLeave_102 : decode cX4_turnsThatLeave 102 = .ok (.iload 6, 2) := by decide +kernel
theorem dX4_turnsThatLeave_104 : decode cX4_turnsThatLeave 104 = .ok (.ior, 1) := by decide +kernel
theorem dX4_turnsThatLeave_105 : decode cX4_turnsThatLeave 105 = .ok (.istore 4, 2) := by decide +kernel
theorem dX4_turnsThatLeave_107 : decode cX4_turnsThatLeave 107 = .ok (.iinc 5 1, 3) := by decide +kernel
theorem dX4_turnsThatLeave_110 : decode cX4_turnsThatLeave 110 = .ok (.goto (-82), 3) := by decide +kernel
theorem dX4_turnsThatLeave_113 : decode cX4_turnsThatLeave 113 = .ok (.iinc 3 1, 3) := by decide +kernel
theorem dX4_turnsThatLeave_116 : decode cX4_turnsThatLeave 116 = .ok (.goto (-102), 3) := by decide +kernel
theorem dX4_turnsThatLeave_119 : decode cX4_turnsThatLeave 119 = .ok (.iload_n 2, 1) := by decide +kernel
theorem dX4_turnsThatLeave_120 : decode cX4_turnsThatLeave 120 = .ok (.ireturn, 1) := by decide +kernel
set_option maxRecDepth 20000 in
theorem ggX4_turnAt_X4_turnsFrom : GoodIn wsX4_turnAt wsX4_turnsFrom := goodIn_r _ [7, 2, 8, 9, 10, 11, 12, 13, 14, 37, 38, 39, 40, 41, 42, 43] (by decide +kernel) (by decide +kernel)
set_option maxRecDepth 20000 in
theorem gX4_turnAt_X4_turnsFrom : GoodIn wsX4_turnAt (wsV RX4 114 RX4 yX4_turnsFrom wsX4_turnsFrom) := goodIn_app (goodIn_of _ (by decide +kernel)) ggX4_turnAt_X4_turnsFrom
set_option maxRecDepth 20000 in
theorem ggX4_turnAt_X4_imageOfSet : GoodIn wsX4_turnAt wsX4_imageOfSet := goodIn_r _ [17, 18, 19, 20] (by decide +kernel) (by decide +kernel)
set_option maxRecDepth 20000 in
theorem gX4_turnAt_X4_imageOfSet : GoodIn wsX4_turnAt (va_wsS RX4 97 yX4_imageOfSet wsX4_imageOfSet) := goodIn_app (goodIn_of _ (by decide +kernel)) ggX4_turnAt_X4_imageOfSet
set_option maxRecDepth 20000 in
theorem ggX4_turnAt_X4_descend : GoodIn wsX4_turnAt wsX4_descend := goodIn_r _ [24, 25, 19, 26, 18, 20, 27, 28, 29, 6, 30, 31, 32, 33, 34, 35, 36, 37, 38, 39, 40, 41, 42, 43] (by decide +kernel) (by decide +kernel)
set_option maxRecDepth 20000 in
theorem gX4_turnAt_X4_descend : GoodIn wsX4_turnAt (wsV RX4 117 RX4 yX4_descend wsX4_descend) := goodIn_app (goodIn_of _ (by decide +kernel)) ggX4_turnAt_X4_descend
theorem dX4_turnAt_0 : decode cX4_turnAt 0 = .ok (.iload_n 1, 1) := by decide +kernel
theorem dX4_turnAt_1 : decode cX4_turnAt 1 = .ok (.istore_n 2, 1) := by decide +kernel
theorem dX4_turnAt_2 : decode cX4_turnAt 2 = .ok (.ldc 100, 2) := by decide +kernel
theorem dX4_turnAt_4 : decode cX4_turnAt 4 = .ok (.istore_n 3, 1) := by decide +kernel
theorem dX4_turnAt_5 : decode cX4_turnAt 5 = .ok (.iconst 0, 1) := by decide +kernel
theorem dX4_turnAt_6 : decode cX4_turnAt 6 = .ok (.istore 4, 2) := by decide +kernel
theorem dX4_turnAt_8 : decode cX4_turnAt 8 = .ok (.iload 4, 2) := by decide +kernel
theorem dX4_turnAt_10 : decode cX4_turnAt 10 = .ok (.bipush 8, 2) := by decide +kernel
theorem dX4_turnAt_12 : decode cX4_turnAt 12 = .ok (.if_icmp .ge 83, 3) := by decide +kernel
theorem dX4_turnAt_15 : decode cX4_turnAt 15 = .ok (.aload_n 0, 1) := by decide +kernel
theorem dX4_turnAt_16 : decode cX4_turnAt 16 = .ok (.iload 4, 2) := by decide +kernel
theorem dX4_turnAt_18 : decode cX4_turnAt 18 = .ok (.iconst 1, 1) := by decide +kernel
theorem dX4_turnAt_19 : decode cX4_turnAt 19 = .ok (.iadd, 1) := by decide +kernel
theorem dX4_turnAt_20 : decode cX4_turnAt 20 = .ok (.invokevirtual 114, 3) := by decide +kernel
theorem dX4_turnAt_23 : decode cX4_turnAt 23 = .ok (.istore 5, 2) := by decide +kernel
theorem dX4_turnAt_25 : decode cX4_turnAt 25 = .ok (.iload_n 3, 1) := by decide +kernel
theorem dX4_turnAt_26 : decode cX4_turnAt 26 = .ok (.aload_n 0, 1) := by decide +kernel
theorem dX4_turnAt_27 : decode cX4_turnAt 27 = .ok (.getfield 18, 3) := by decide +kernel
theorem dX4_turnAt_30 : decode cX4_turnAt 30 = .ok (.iload 4, 2) := by decide +kernel
theorem dX4_turnAt_32 : decode cX4_turnAt 32 = .ok (.iaload, 1) := by decide +kernel
theorem dX4_turnAt_33 : decode cX4_turnAt 33 = .ok (.invokestatic 97, 3) := by decide +kernel
theorem dX4_turnAt_36 : decode cX4_turnAt 36 = .ok (.istore 6, 2) := by decide +kernel
theorem dX4_turnAt_38 : decode cX4_turnAt 38 = .ok (.iconst 0, 1) := by decide +kernel
theorem dX4_turnAt_39 : decode cX4_turnAt 39 = .ok (.istore 7, 2) := by decide +kernel
theorem dX4_turnAt_41 : decode cX4_turnAt 41 = .ok (.iload 7, 2) := by decide +kernel
theorem dX4_turnAt_43 : decode cX4_turnAt 43 = .ok (.bipush 8, 2) := by decide +kernel
theorem dX4_turnAt_45 : decode cX4_turnAt 45 = .ok (.if_icmp .ge 44, 3) := by decide +kernel
theorem dX4_turnAt_48 : decode cX4_turnAt 48 = .ok (.iload 6, 2) := by decide +kernel
theorem dX4_turnAt_50 : decode cX4_turnAt 50 = .ok (.iload 7, 2) := by decide +kernel
theorem dX4_turnAt_52 : decode cX4_turnAt 52 = .ok (.ishr, 1) := by decide +kernel
theorem dX4_turnAt_53 : decode cX4_turnAt 53 = .ok (.iconst 1, 1) := by decide +kernel
theorem dX4_turnAt_54 : decode cX4_turnAt 54 = .ok (.iand, 1) := by decide +kernel
theorem dX4_turnAt_55 : decode cX4_turnAt 55 = .ok (.iconst 1, 1) := by decide +kernel
theorem dX4_turnAt_56 : decode cX4_turnAt 56 = .ok (.if_icmp .ne 27, 3) := by decide +kernel
theorem dX4_turnAt_59 : decode cX4_turnAt 59 = .ok (.iload_n 2, 1) := by decide +kernel
theorem dX4_turnAt_60 : decode cX4_turnAt 60 = .ok (.iload 5, 2) := by decide +kernel
theorem dX4_turnAt_62 : decode cX4_turnAt 62 = .ok (.if_icmp .ge 16, 3) := by decide +kernel
theorem dX4_turnAt_65 : decode cX4_turnAt 65 = .ok (.aload_n 0, 1) := by decide +kernel
theorem dX4_turnAt_66 : decode cX4_turnAt 66 = .ok (.iload 4, 2) := by decide +kernel
theorem dX4_turnAt_68 : decode cX4_turnAt 68 = .ok (.iload_n 3, 1) := by decide +kernel
theorem dX4_turnAt_69 : decode cX4_turnAt 69 = .ok (.iload 7, 2) := by decide +kernel
theorem dX4_turnAt_71 : decode cX4_turnAt 71 = .ok (.invokevirtual 117, 3) := by decide +kernel
theorem dX4_turnAt_74 : decode cX4_turnAt 74 = .ok (.istore_n 3, 1) := by decide +kernel
theorem dX4_turnAt_75 : decode cX4_turnAt 75 = .ok (.goto 14, 3) := by decide +kernel
theorem dX4_turnAt_78 : decode cX4_turnAt 78 = .ok (.iload_n 2, 1) := by decide +kernel
theorem dX4_turnAt_79 : decode cX4_turnAt 79 = .ok (.iload 5, 2) := by decide +kernel
theorem dX4_turnAt_81 : decode cX4_turnAt 81 = .ok (.isub, 1) := by decide +kernel
theorem dX4_turnAt_82 : decode cX4_turnAt 82 = .ok (.istore_n 2, 1) := by decide +kernel
theorem dX4_turnAt_83 : decode cX4_turnAt 83 = .ok (.iinc 7 1, 3) := by decide +kernel
theorem dX4_turnAt_86 : decode cX4_turnAt 86 = .ok (.goto (-45), 3) := by decide +kernel
theorem dX4_turnAt_89 : decode cX4_turnAt 89 = .ok (.iinc 4 1, 3) := by decide +kernel
theorem dX4_turnAt_92 : decode cX4_turnAt 92 = .ok (.goto (-84), 3) := by decide +kernel
theorem dX4_turnAt_95 : decode cX4_turnAt 95 = .ok (.iload_n 3, 1) := by decide +kernel
theorem dX4_turnAt_96 : decode cX4_turnAt 96 = .ok (.ireturn, 1) := by decide +kernel
set_option maxRecDepth 20000 in
theorem ggX4_turnsAheadOf_X6_image : GoodIn wsX4_turnsAheadOf wsX6_image := goodIn_r _ [5] (by decide +kernel) (by decide +kernel)
set_option maxRecDepth 20000 in
theorem gX4_turnsAheadOf_X6_image_n76 : GoodIn wsX4_turnsAheadOf (wsX6_image) := ggX4_turnsAheadOf_X6_image
set_option maxRecDepth 20000 in
theorem ggX4_turnsAheadOf_X4_imageOfSet : GoodIn wsX4_turnsAheadOf wsX4_imageOfSet := goodIn_r _ [9, 3, 4, 5] (by decide +kernel) (by decide +kernel)
set_option maxRecDepth 20000 in
theorem gX4_turnsAheadOf_X4_imageOfSet : GoodIn wsX4_turnsAheadOf (va_wsS RX4 97 yX4_imageOfSet wsX4_imageOfSet) := goodIn_app (goodIn_of _ (by decide +kernel)) ggX4_turnsAheadOf_X4_imageOfSet
set_option maxRecDepth 20000 in
theorem ggX4_turnsAheadOf_J6_bitCount_0f7a4 : GoodIn wsX4_turnsAheadOf wsJ6_bitCount_0f7a4 := goodIn_r _ [13, 14, 15, 16] (by decide +kernel) (by decide +kernel)
set_option maxRecDepth 20000 in
theorem gX4_turnsAheadOf_J6_bitCount_0f7a4 : GoodIn wsX4_turnsAheadOf (va_wsS RX4 88 yJ6_bitCount_0f7a4 wsJ6_bitCount_0f7a4) := goodIn_app (goodIn_of _ (by decide +kernel)) ggX4_turnsAheadOf_J6_bitCount_0f7a4
set_option maxRecDepth 20000 in
theorem ggX4_turnsAheadOf_X4_turnsFrom : GoodIn wsX4_turnsAheadOf wsX4_turnsFrom := goodIn_r _ [20, 2, 10, 11, 12, 13, 14, 15, 16, 37, 38, 39, 40, 41, 42, 43] (by decide +kernel) (by decide +kernel)
set_option maxRecDepth 20000 in
theorem gX4_turnsAheadOf_X4_turnsFrom : GoodIn wsX4_turnsAheadOf (wsV RX4 114 RX4 yX4_turnsFrom wsX4_turnsFrom) := goodIn_app (goodIn_of _ (by decide +kernel)) ggX4_turnsAheadOf_X4_turnsFrom
set_option maxRecDepth 20000 in
theorem ggX4_turnsAheadOf_X4_descend : GoodIn wsX4_turnsAheadOf wsX4_descend := goodIn_r _ [24, 25, 4, 26, 3, 5, 27, 28, 29, 8, 30, 31, 32, 33, 34, 35, 36, 37, 38, 39, 40, 41, 42, 43] (by decide +kernel) (by decide +kernel)
set_option maxRecDepth 20000 in
theorem gX4_turnsAheadOf_X4_descend : GoodIn wsX4_turnsAheadOf (wsV RX4 117 RX4 yX4_descend wsX4_descend) := goodIn_app (goodIn_of _ (by decide +kernel)) ggX4_turnsAheadOf_X4_descend
theorem dX4_turnsAheadOf_0 : decode cX4_turnsAheadOf 0 = .ok (.iconst 0, 1) := by decide +kernel
theorem dX4_turnsAheadOf_1 : decode cX4_turnsAheadOf 1 = .ok (.istore_n 2, 1) := by decide +kernel
theorem dX4_turnsAheadOf_2 : decode cX4_turnsAheadOf 2 = .ok (.ldc 100, 2) := by decide +kernel
theorem dX4_turnsAheadOf_4 : decode cX4_turnsAheadOf 4 = .ok (.istore_n 3, 1) := by decide +kernel
theorem dX4_turnsAheadOf_5 : decode cX4_turnsAheadOf 5 = .ok (.iconst 0, 1) := by decide +kernel
theorem dX4_turnsAheadOf_6 : decode cX4_turnsAheadOf 6 = .ok (.istore 4, 2) := by decide +kernel
theorem dX4_turnsAheadOf_8 : decode cX4_turnsAheadOf 8 = .ok (.iload 4, 2) := by decide +kernel
theorem dX4_turnsAheadOf_10 : decode cX4_turnsAheadOf 10 = .ok (.bipush 8, 2) := by decide +kernel
theorem dX4_turnsAheadOf_12 : decode cX4_turnsAheadOf 12 = .ok (.if_icmp .ge 80, 3) := by decide +kernel
theorem dX4_turnsAheadOf_15 : decode cX4_turnsAheadOf 15 = .ok (.iload_n 1, 1) := by decide +kernel
theorem dX4_turnsAheadOf_16 : decode cX4_turnsAheadOf 16 = .ok (.iload 4, 2) := by decide +kernel
theorem dX4_turnsAheadOf_18 : decode cX4_turnsAheadOf 18 = .ok (.invokestatic 76, 3) := by decide +kernel
theorem dX4_turnsAheadOf_21 : decode cX4_turnsAheadOf 21 = .ok (.istore 5, 2) := by decide +kernel
theorem dX4_turnsAheadOf_23 : decode cX4_turnsAheadOf 23 = .ok (.iload_n 3, 1) := by decide +kernel
theorem dX4_turnsAheadOf_24 : decode cX4_turnsAheadOf 24 = .ok (.aload_n 0, 1) := by decide +kernel
theorem dX4_turnsAheadOf_25 : decode cX4_turnsAheadOf 25 = .ok (.getfield 18, 3) := by decide +kernel
theorem dX4_turnsAheadOf_28 : decode cX4_turnsAheadOf 28 = .ok (.iload 4, 2) := by decide +kernel
theorem dX4_turnsAheadOf_30 : decode cX4_turnsAheadOf 30 = .ok (.iaload, 1) := by decide +kernel
theorem dX4_turnsAheadOf_31 : decode cX4_turnsAheadOf 31 = .ok (.invokestatic 97, 3) := by decide +kernel
theorem dX4_turnsAheadOf_34 : decode cX4_turnsAheadOf 34 = .ok (.istore 6, 2) := by decide +kernel
theorem dX4_turnsAheadOf_36 : decode cX4_turnsAheadOf 36 = .ok (.iload 6, 2) := by decide +kernel
theorem dX4_turnsAheadOf_38 : decode cX4_turnsAheadOf 38 = .ok (.iconst 1, 1) := by decide +kernel
theorem dX4_turnsAheadOf_39 : decode cX4_turnsAheadOf 39 = .ok (.iload 5, 2) := by decide +kernel
theorem dX4_turnsAheadOf_41 : decode cX4_turnsAheadOf 41 = .ok (.ishl, 1) := by decide +kernel
theorem dX4_turnsAheadOf_42 : decode cX4_turnsAheadOf 42 = .ok (.iconst 1, 1) := by decide +kernel
theorem dX4_turnsAheadOf_43 : decode cX4_turnsAheadOf 43 = .ok (.isub, 1) := by decide +kernel
theorem dX4_turnsAheadOf_44 : decode cX4_turnsAheadOf 44 = .ok (.iand, 1) := by decide +kernel
theorem dX4_turnsAheadOf_45 : decode cX4_turnsAheadOf 45 = .ok (.istore 7, 2) := by decide +kernel
theorem dX4_turnsAheadOf_47 : decode cX4_turnsAheadOf 47 = .ok (.iload_n 2, 1) := by decide +kernel
theorem dX4_turnsAheadOf_48 : decode cX4_turnsAheadOf 48 = .ok (.iload 7, 2) := by decide +kernel
theorem dX4_turnsAheadOf_50 : decode cX4_turnsAheadOf 50 = .ok (.invokestatic 88, 3) := by decide +kernel
theorem dX4_turnsAheadOf_53 : decode cX4_turnsAheadOf 53 = .ok (.aload_n 0, 1) := by decide +kernel
theorem dX4_turnsAheadOf_54 : decode cX4_turnsAheadOf 54 = .ok (.iload 4, 2) := by decide +kernel
theorem dX4_turnsAheadOf_56 : decode cX4_turnsAheadOf 56 = .ok (.iconst 1, 1) := by decide +kernel
theorem dX4_turnsAheadOf_57 : decode cX4_turnsAheadOf 57 = .ok (.iadd, 1) := by decide +kernel
theorem dX4_turnsAheadOf_58 : decode cX4_turnsAheadOf 58 = .ok (.invokevirtual 114, 3) := by decide +kernel
theorem dX4_turnsAheadOf_61 : decode cX4_turnsAheadOf 61 = .ok (.imul, 1) := by decide +kernel
theorem dX4_turnsAheadOf_62 : decode cX4_turnsAheadOf 62 = .ok (.iadd, 1) := by decide +kernel
theorem dX4_turnsAheadOf_63 : decode cX4_turnsAheadOf 63 = .ok (.istore_n 2, 1) := by decide +kernel
theorem dX4_turnsAheadOf_64 : decode cX4_turnsAheadOf 64 = .ok (.iload 6, 2) := by decide +kernel
theorem dX4_turnsAheadOf_66 : decode cX4_turnsAheadOf 66 = .ok (.iload 5, 2) := by decide +kernel
theorem dX4_turnsAheadOf_68 : decode cX4_turnsAheadOf 68 = .ok (.ishr, 1) := by decide +kernel
theorem dX4_turnsAheadOf_69 : decode cX4_turnsAheadOf 69 = .ok (.iconst 1, 1) := by decide +kernel
theorem dX4_turnsAheadOf_70 : decode cX4_turnsAheadOf 70 = .ok (.iand, 1) := by decide +kernel
theorem dX4_turnsAheadOf_71 : decode cX4_turnsAheadOf 71 = .ok (.ifCond .ne 5, 3) := by decide +kernel
theorem dX4_turnsAheadOf_74 : decode cX4_turnsAheadOf 74 = .ok (.iload_n 2, 1) := by decide +kernel
theorem dX4_turnsAheadOf_75 : decode cX4_turnsAheadOf 75 = .ok (.ireturn, 1) := by decide +kernel
theorem dX4_turnsAheadOf_76 : decode cX4_turnsAheadOf 76 = .ok (.aload_n 0, 1) := by decide +kernel
theorem dX4_turnsAheadOf_77 : decode cX4_turnsAheadOf 77 = .ok (.iload 4, 2) := by decide +kernel
theorem dX4_turnsAheadOf_79 : decode cX4_turnsAheadOf 79 = .ok (.iload_n 3, 1) := by decide +kernel
theorem dX4_turnsAheadOf_80 : decode cX4_turnsAheadOf 80 = .ok (.iload 5, 2) := by decide +kernel
theorem dX4_turnsAheadOf_82 : decode cX4_turnsAheadOf 82 = .ok (.invokevirtual 117, 3) := by decide +kernel
theorem dX4_turnsAheadOf_85 : decode cX4_turnsAheadOf 85 = .ok (.istore_n 3, 1) := by decide +kernel
theorem dX4_turnsAheadOf_86 : decode cX4_turnsAheadOf 86 = .ok (.iinc 4 1, 3) := by decide +kernel
theorem dX4_turnsAheadOf_89 : decode cX4_turnsAheadOf 89 = .ok (.goto (-81), 3) := by decide +kernel
theorem dX4_turnsAheadOf_92 : decode cX4_turnsAheadOf 92 = .ok (.iload_n 2, 1) := by decide +kernel
theorem dX4_turnsAheadOf_93 : decode cX4_turnsAheadOf 93 = .ok (.ireturn, 1) := by decide +kernel
set_option maxRecDepth 20000 in
theorem ggX4_firstThat_X4_search : GoodIn wsX4_firstThat wsX4_search := goodIn_r _ [6, 7, 8, 9, 10, 11, 12, 13, 14, 5, 15, 16, 17, 18, 19, 20, 21, 22, 23, 24, 25, 26, 27, 28, 29, 30, 31, 32, 33, 34, 35, 36, 37, 38, 39, 40, 41, 42, 43, 44, 45, 46, 47, 48, 49, 50, 51, 52, 53, 54, 55, 56, 57, 2, 3, 4, 58, 59, 60, 61, 62, 63, 64, 65, 66, 67, 68, 69] (by decide +kernel) (by decide +kernel)
set_option maxRecDepth 20000 in
theorem gX4_firstThat_X4_search : GoodIn wsX4_firstThat (wsV RX4 120 RX4 yX4_search wsX4_search) := goodIn_app (goodIn_of _ (by decide +kernel)) ggX4_firstThat_X4_search
theorem dX4_firstThat_0 : decode cX4_firstThat 0 = .ok (.aload_n 0, 1) := by decide +kernel
theorem dX4_firstThat_1 : decode cX4_firstThat 1 = .ok (.aload_n 1, 1) := by decide +kernel
theorem dX4_firstThat_2 : decode cX4_firstThat 2 = .ok (.iconst 0, 1) := by decide +kernel
theorem dX4_firstThat_3 : decode cX4_firstThat 3 = .ok (.ldc 100, 2) := by decide +kernel
theorem dX4_firstThat_5 : decode cX4_firstThat 5 = .ok (.invokevirtual 120, 3) := by decide +kernel
theorem dX4_firstThat_8 : decode cX4_firstThat 8 = .ok (.ireturn, 1) := by decide +kernel
theorem dX4_reaches_0 : decode cX4_reaches 0 = .ok (.aload_n 0, 1) := by decide +kernel
theorem dX4_reaches_1 : decode cX4_reaches 1 = .ok (.getfield 18, 3) := by decide +kernel
theorem dX4_reaches_4 : decode cX4_reaches 4 = .ok (.iload_n 1, 1) := by decide +kernel
theorem dX4_reaches_5 : decode cX4_reaches 5 = .ok (.iaload, 1) := by decide +kernel
theorem dX4_reaches_6 : decode cX4_reaches 6 = .ok (.iload_n 2, 1) := by decide +kernel
theorem dX4_reaches_7 : decode cX4_reaches 7 = .ok (.ishr, 1) := by decide +kernel
theorem dX4_reaches_8 : decode cX4_reaches 8 = .ok (.iconst 1, 1) := by decide +kernel
theorem dX4_reaches_9 : decode cX4_reaches 9 = .ok (.iand, 1) := by decide +kernel
theorem dX4_reaches_10 : decode cX4_reaches 10 = .ok (.iconst 1, 1) := by decide +kernel
theorem dX4_reaches_11 : decode cX4_reaches 11 = .ok (.if_icmp .ne 7, 3) := by decide +kernel
theorem dX4_reaches_14 : decode cX4_reaches 14 = .ok (.iconst 1, 1) := by decide +kernel
theorem dX4_reaches_15 : decode cX4_reaches 15 = .ok (.goto 4, 3) := by decide +kernel
theorem dX4_reaches_18 : decode cX4_reaches 18 = .ok (.iconst 0, 1) := by decide +kernel
theorem dX4_reaches_19 : decode cX4_reaches 19 = .ok (.ireturn, 1) := by decide +kernel
set_option maxRecDepth 20000 in
theorem ggX4_settle_X6_image : GoodIn wsX4_settle wsX6_image := goodIn_r _ [9] (by decide +kernel) (by decide +kernel)
set_option maxRecDepth 20000 in
theorem gX4_settle_X6_image_n76 : GoodIn wsX4_settle (wsX6_image) := ggX4_settle_X6_image
set_option maxRecDepth 20000 in
theorem ggX4_settle_X4_cellOf : GoodIn wsX4_settle wsX4_cellOf := goodIn_r _ [13] (by decide +kernel) (by decide +kernel)
set_option maxRecDepth 20000 in
theorem gX4_settle_X4_cellOf : GoodIn wsX4_settle (va_wsS RX4 79 yX4_cellOf wsX4_cellOf) := goodIn_app (goodIn_of _ (by decide +kernel)) ggX4_settle_X4_cellOf
set_option maxRecDepth 20000 in
theorem ggX4_settle_X4_reaches : GoodIn wsX4_settle wsX4_reaches := goodIn_r _ [17, 4, 22, 23, 24, 25, 26, 27, 28] (by decide +kernel) (by decide +kernel)
set_option maxRecDepth 20000 in
theorem gX4_settle_X4_reaches : GoodIn wsX4_settle (wsV RX4 65 RX4 yX4_reaches wsX4_reaches) := goodIn_app (goodIn_of _ (by decide +kernel)) ggX4_settle_X4_reaches
set_option maxRecDepth 20000 in
theorem ggX4_settle_X6_reverse : GoodIn wsX4_settle wsX6_reverse := goodIn_r _ [19] (by decide +kernel) (by decide +kernel)
set_option maxRecDepth 20000 in
theorem gX4_settle_X6_reverse_n123 : GoodIn wsX4_settle (wsX6_reverse) := ggX4_settle_X6_reverse
set_option maxRecDepth 20000 in
theorem ggX4_settle_X6_chain : GoodIn wsX4_settle wsX6_chain := goodIn_r _ [21] (by decide +kernel) (by decide +kernel)
set_option maxRecDepth 20000 in
theorem gX4_settle_X6_chain_n82 : GoodIn wsX4_settle (wsX6_chain) := ggX4_settle_X6_chain
theorem dX4_settle_0 : decode cX4_settle 0 = .ok (.iload_n 1, 1) := by decide +kernel
theorem dX4_settle_1 : decode cX4_settle 1 = .ok (.istore_n 2, 1) := by decide +kernel
theorem dX4_settle_2 : decode cX4_settle 2 = .ok (.iconst 0, 1) := by decide +kernel
theorem dX4_settle_3 : decode cX4_settle 3 = .ok (.istore_n 3, 1) := by decide +kernel
theorem dX4_settle_4 : decode cX4_settle 4 = .ok (.iload_n 3, 1) := by decide +kernel
theorem dX4_settle_5 : decode cX4_settle 5 = .ok (.bipush 8, 2) := by decide +kernel
theorem dX4_settle_7 : decode cX4_settle 7 = .ok (.if_icmp .ge 121, 3) := by decide +kernel
theorem dX4_settle_10 : decode cX4_settle 10 = .ok (.iload_n 2, 1) := by decide +kernel
theorem dX4_settle_11 : decode cX4_settle 11 = .ok (.ldc 100, 2) := by decide +kernel
theorem dX4_settle_13 : decode cX4_settle 13 = .ok (.if_icmp .eq 115, 3) := by decide +kernel
theorem dX4_settle_16 : decode cX4_settle 16 = .ok (.iload_n 2, 1) := by decide +kernel
theorem dX4_settle_17 : decode cX4_settle 17 = .ok (.iload_n 3, 1) := by decide +kernel
theorem dX4_settle_18 : decode cX4_settle 18 = .ok (.invokestatic 76, 3) := by decide +kernel
theorem dX4_settle_21 : decode cX4_settle 21 = .ok (.istore 4, 2) := by decide +kernel
theorem dX4_settle_23 : decode cX4_settle 23 = .ok (.iload_n 3, 1) := by decide +kernel
theorem dX4_settle_24 : decode cX4_settle 24 = .ok (.iload 4, 2) := by decide +kernel
theorem dX4_settle_26 : decode cX4_settle 26 = .ok (.invokestatic 79, 3) := by decide +kernel
theorem dX4_settle_29 : decode cX4_settle 29 = .ok (.istore 5, 2) := by decide +kernel
theorem dX4_settle_31 : decode cX4_settle 31 = .ok (.aload_n 0, 1) := by decide +kernel
theorem dX4_settle_32 : decode cX4_settle 32 = .ok (.iload_n 3, 1) := by decide +kernel
theorem dX4_settle_33 : decode cX4_settle 33 = .ok (.iload 4, 2) := by decide +kernel
theorem dX4_settle_35 : decode cX4_settle 35 = .ok (.invokevirtual 65, 3) := by decide +kernel
theorem dX4_settle_38 : decode cX4_settle 38 = .ok (.ifCond .ne 66, 3) := by decide +kernel
theorem dX4_settle_41 : decode cX4_settle 41 = .ok (.aload_n 0, 1) := by decide +kernel
theorem dX4_settle_42 : decode cX4_settle 42 = .ok (.getfield 11, 3) := by decide +kernel
theorem dX4_settle_45 : decode cX4_settle 45 = .ok (.iload 5, 2) := by decide +kernel
theorem dX4_settle_47 : decode cX4_settle 47 = .ok (.iload_n 2, 1) := by decide +kernel
theorem dX4_settle_48 : decode cX4_settle 48 = .ok (.iastore, 1) := by decide +kernel
theorem dX4_settle_49 : decode cX4_settle 49 = .ok (.aload_n 0, 1) := by decide +kernel
theorem dX4_settle_50 : decode cX4_settle 50 = .ok (.getfield 15, 3) := by decide +kernel
theorem dX4_settle_53 : decode cX4_settle 53 = .ok (.iload 5, 2) := by decide +kernel
theorem dX4_settle_55 : decode cX4_settle 55 = .ok (.iload_n 2, 1) := by decide +kernel
theorem dX4_settle_56 : decode cX4_settle 56 = .ok (.invokestatic 123, 3) := by decide +kernel
theorem dX4_settle_59 : decode cX4_settle 59 = .ok (.iastore, 1) := by decide +kernel
theorem dX4_settle_60 : decode cX4_settle 60 = .ok (.aload_n 0, 1) := by decide +kernel
theorem dX4_settle_61 : decode cX4_settle 61 = .ok (.getfield 18, 3) := by decide +kernel
theorem dX4_settle_64 : decode cX4_settle 64 = .ok (.iload_n 3, 1) := by decide +kernel
theorem dX4_settle_65 : decode cX4_settle 65 = .ok (.dup2, 1) := by decide +kernel
theorem dX4_settle_66 : decode cX4_settle 66 = .ok (.iaload, 1) := by decide +kernel
theorem dX4_settle_67 : decode cX4_settle 67 = .ok (.iconst 1, 1) := by decide +kernel
theorem dX4_settle_68 : decode cX4_settle 68 = .ok (.iload 4, 2) := by decide +kernel
theorem dX4_settle_70 : decode cX4_settle 70 = .ok (.ishl, 1) := by decide +kernel
theorem dX4_settle_71 : decode cX4_settle 71 = .ok (.ior, 1) := by decide +kernel
theorem dX4_settle_72 : decode cX4_settle 72 = .ok (.iastore, 1) := by decide +kernel
theorem dX4_settle_73 : decode cX4_settle 73 = .ok (.aload_n 0, 1) := by decide +kernel
theorem dX4_settle_74 : decode cX4_settle 74 = .ok (.getfield 27, 3) := by decide +kernel
theorem dX4_settle_77 : decode cX4_settle 77 = .ok (.bipush 28, 2) := by decide +kernel
theorem dX4_settle_79 : decode cX4_settle 79 = .ok (.if_icmp .ge 24, 3) := by decide +kernel
theorem dX4_settle_82 : decode cX4_settle 82 = .ok (.aload_n 0, 1) := by decide +kernel
theorem dX4_settle_83 : decode cX4_settle 83 = .ok (.getfield 21, 3) := by decide +kernel
theorem dX4_settle_86 : decode cX4_settle 86 = .ok (.aload_n 0, 1) := by decide +kernel
theorem dX4_settle_87 : decode cX4_settle 87 = .ok (.getfield 27, 3) := by decide +kernel
theorem dX4_settle_90 : decode cX4_settle 90 = .ok (.iload 5, 2) := by decide +kernel
theorem dX4_settle_92 : decode cX4_settle 92 = .ok (.iastore, 1) := by decide +kernel
theorem dX4_settle_93 : decode cX4_settle 93 = .ok (.aload_n 0, 1) := by decide +kernel
theorem dX4_settle_94 : decode cX4_settle 94 = .ok (.dup, 1) := by decide +kernel
theorem dX4_settle_95 : decode cX4_settle 95 = .ok (.getfield 27, 3) := by decide +kernel
theorem dX4_settle_98 : decode cX4_settle 98 = .ok (.iconst 1, 1) := by decide +kernel
theorem dX4_settle_99 : decode cX4_settle 99 = .ok (.iadd, 1) := by decide +kernel
theorem dX4_settle_100 : decode cX4_settle 100 = .ok (.putfield 27, 3) := by decide +kernel
theorem dX4_settle_103 : decode cX4_settle 103 = .ok (.return_, 1) := by decide +kernel
theorem dX4_settle_104 : decode cX4_settle 104 = .ok (.iload 4, 2) := by decide +kernel
theorem dX4_settle_106 : decode cX4_settle 106 = .ok (.iload_n 3, 1) := by decide +kernel
theorem dX4_settle_107 : decode cX4_settle 107 = .ok (.if_icmp .eq 15, 3) := by decide +kernel
theorem dX4_settle_110 : decode cX4_settle 110 = .ok (.iload_n 2, 1) := by decide +kernel
theorem dX4_settle_111 : decode cX4_settle 111 = .ok (.aload_n 0, 1) := by decide +kernel
theorem dX4_settle_112 : decode cX4_settle 112 = .ok (.getfield 15, 3) := by decide +kernel
theorem dX4_settle_115 : decode cX4_settle 115 = .ok (.iload 5, 2) := by decide +kernel
theorem dX4_settle_117 : decode cX4_settle 117 = .ok (.iaload, 1) := by decide +kernel
theorem dX4_settle_118 : decode cX4_settle 118 = .ok (.invokestatic 82, 3) := by decide +kernel
theorem dX4_settle_121 : decode cX4_settle 121 = .ok (.istore_n 2, 1) := by decide +kernel
theorem dX4_settle_122 : decode cX4_settle 122 = .ok (.iinc 3 1, 3) := by decide +kernel
theorem dX4_settle_125 : decode cX4_settle 125 = .ok (.goto (-121), 3) := by decide +kernel
theorem dX4_settle_128 : decode cX4_settle 128 = .ok (.return_, 1) := by decide +kernel
set_option maxRecDepth 20000 in
theorem ggX4_spreadFrom_X4_levelOf : GoodIn wsX4_spreadFrom wsX4_levelOf := goodIn_r _ [7] (by decide +kernel) (by decide +kernel)
set_option maxRecDepth 20000 in
theorem gX4_spreadFrom_X4_levelOf : GoodIn wsX4_spreadFrom (va_wsS RX4 94 yX4_levelOf wsX4_levelOf) := goodIn_app (goodIn_of _ (by decide +kernel)) ggX4_spreadFrom_X4_levelOf
set_option maxRecDepth 20000 in
theorem ggX4_spreadFrom_X6_chain : GoodIn wsX4_spreadFrom wsX6_chain := goodIn_r _ [10] (by decide +kernel) (by decide +kernel)
set_option maxRecDepth 20000 in
theorem gX4_spreadFrom_X6_chain_n82 : GoodIn wsX4_spreadFrom (wsX6_chain) := ggX4_spreadFrom_X6_chain
set_option maxRecDepth 20000 in
theorem ggX4_spreadFrom_X4_settle : GoodIn wsX4_spreadFrom wsX4_settle := goodIn_r _ [14, 15, 3, 16, 17, 1, 2, 18, 9, 19, 20, 21, 6, 22, 23, 24, 25, 26, 27, 28, 8, 10, 29, 30, 31, 32, 33, 34, 35] (by decide +kernel) (by decide +kernel)
set_option maxRecDepth 20000 in
theorem gX4_spreadFrom_X4_settle : GoodIn wsX4_spreadFrom (wsV RX4 40 RX4 yX4_settle wsX4_settle) := goodIn_app (goodIn_of _ (by decide +kernel)) ggX4_spreadFrom_X4_settle
theorem dX4_spreadFrom_0 : decode cX4_spreadFrom 0 = .ok (.iload_n 1, 1) := by decide +kernel
theorem dX4_spreadFrom_1 : decode cX4_spreadFrom 1 = .ok (.istore_n 2, 1) := by decide +kernel
theorem dX4_spreadFrom_2 : decode cX4_spreadFrom 2 = .ok (.iload_n 2, 1) := by decide +kernel
theorem dX4_spreadFrom_3 : decode cX4_spreadFrom 3 = .ok (.aload_n 0, 1) := by decide +kernel
theorem dX4_spreadFrom_4 : decode cX4_spreadFrom 4 = .ok (.getfield 27, 3) := by decide +kernel
theorem dX4_spreadFrom_7 : decode cX4_spreadFrom 7 = .ok (.if_icmp .ge 113, 3) := by decide +kernel
theorem dX4_spreadFrom_10 : decode cX4_spreadFrom 10 = .ok (.aload_n 0, 1) := by decide +kernel
theorem dX4_spreadFrom_11 : decode cX4_spreadFrom 11 = .ok (.getfield 27, 3) := by decide +kernel
theorem dX4_spreadFrom_14 : decode cX4_spreadFrom 14 = .ok (.bipush 28, 2) := by decide +kernel
theorem dX4_spreadFrom_16 : decode cX4_spreadFrom 16 = .ok (.if_icmp .ge 104, 3) := by decide +kernel
theorem dX4_spreadFrom_19 : decode cX4_spreadFrom 19 = .ok (.aload_n 0, 1) := by decide +kernel
theorem dX4_spreadFrom_20 : decode cX4_spreadFrom 20 = .ok (.getfield 21, 3) := by decide +kernel
theorem dX4_spreadFrom_23 : decode cX4_spreadFrom 23 = .ok (.iload_n 2, 1) := by decide +kernel
theorem dX4_spreadFrom_24 : decode cX4_spreadFrom 24 = .ok (.iaload, 1) := by decide +kernel
theorem dX4_spreadFrom_25 : decode cX4_spreadFrom 25 = .ok (.istore_n 3, 1) := by decide +kernel
theorem dX4_spreadFrom_26 : decode cX4_spreadFrom 26 = .ok (.iconst 0, 1) := by decide +kernel
theorem dX4_spreadFrom_27 : decode cX4_spreadFrom 27 = .ok (.istore 4, 2) := by decide +kernel
theorem dX4_spreadFrom_29 : decode cX4_spreadFrom 29 = .ok (.iload 4, 2) := by decide +kernel
theorem dX4_spreadFrom_31 : decode cX4_spreadFrom 31 = .ok (.iload_n 2, 1) := by decide +kernel
theorem dX4_spreadFrom_32 : decode cX4_spreadFrom 32 = .ok (.if_icmp .gt 82, 3) := by decide +kernel
theorem dX4_spreadFrom_35 : decode cX4_spreadFrom 35 = .ok (.aload_n 0, 1) := by decide +kernel
theorem dX4_spreadFrom_36 : decode cX4_spreadFrom 36 = .ok (.getfield 21, 3) := by decide +kernel
theorem dX4_spreadFrom_39 : decode cX4_spreadFrom 39 = .ok (.iload 4, 2) := by decide +kernel
theorem dX4_spreadFrom_41 : decode cX4_spreadFrom 41 = .ok (.iaload, 1) := by decide +kernel
theorem dX4_spreadFrom_42 : decode cX4_spreadFrom 42 = .ok (.istore 5, 2) := by decide +kernel
theorem dX4_spreadFrom_44 : decode cX4_spreadFrom 44 = .ok (.iload_n 3, 1) := by decide +kernel
theorem dX4_spreadFrom_45 : decode cX4_spreadFrom 45 = .ok (.invokestatic 94, 3) := by decide +kernel
theorem dX4_spreadFrom_48 : decode cX4_spreadFrom 48 = .ok (.iload 5, 2) := by decide +kernel
theorem dX4_spreadFrom_50 : decode cX4_spreadFrom 50 = .ok (.invokestatic 94, 3) := by decide +kernel
theorem dX4_spreadFrom_53 : decode cX4_spreadFrom 53 = .ok (.if_icmp .gt 23, 3) := by decide +kernel
theorem dX4_spreadFrom_56 : decode cX4_spreadFrom 56 = .ok (.aload_n 0, 1) := by decide +kernel
theorem dX4_spreadFrom_57 : decode cX4_spreadFrom 57 = .ok (.aload_n 0, 1) := by decide +kernel
theorem dX4_spreadFrom_58 : decode cX4_spreadFrom 58 = .ok (.getfield 11, 3) := by decide +kernel
theorem dX4_spreadFrom_61 : decode cX4_spreadFrom 61 = .ok (.iload_n 3, 1) := by decide +kernel
theorem dX4_spreadFrom_62 : decode cX4_spreadFrom 62 = .ok (.iaload, 1) := by decide +kernel
theorem dX4_spreadFrom_63 : decode cX4_spreadFrom 63 = .ok (.aload_n 0, 1) := by decide +kernel
theorem dX4_spreadFrom_64 : decode cX4_spreadFrom 64 = .ok (.getfield 11, 3) := by decide +kernel
theorem dX4_spreadFrom_67 : decode cX4_spreadFrom 67 = .ok (.iload 5, 2) := by decide +kernel
theorem dX4_spreadFrom_69 : decode cX4_spreadFrom 69 = .ok (.iaload, 1) := by decide +kernel
theorem dX4_spreadFrom_70 : decode cX4_spreadFrom 70 = .ok (.invokestatic 82, 3) := by decide +kernel
theorem dX4_spreadFrom_73 : decode cX4_spreadFrom 73 = .ok (.invokevirtual 40, 3) := by decide +kernel
theorem dX4_spreadFrom_76 : decode cX4_spreadFrom 76 = .ok (.iload 5, 2) := by decide +kernel
theorem dX4_spreadFrom_78 : decode cX4_spreadFrom 78 = .ok (.invokestatic 94, 3) := by decide +kernel
theorem dX4_spreadFrom_81 : decode cX4_spreadFrom 81 = .ok (.iload_n 3, 1) := by decide +kernel
theorem dX4_spreadFrom_82 : decode cX4_spreadFrom 82 = .ok (.invokestatic 94, 3) := by decide +kernel
theorem dX4_spreadFrom_85 : decode cX4_spreadFrom 85 = .ok (.if_icmp .gt 23, 3) := by decide +kernel
theorem dX4_spreadFrom_88 : decode cX4_spreadFrom 88 = .ok (.aload_n 0, 1) := by decide +kernel
theorem dX4_spreadFrom_89 : decode cX4_spreadFrom 89 = .ok (.aload_n 0, 1) := by decide +kernel
theorem dX4_spreadFrom_90 : decode cX4_spreadFrom 90 = .ok (.getfield 11, 3) := by decide +kernel
theorem dX4_spreadFrom_93 : decode cX4_spreadFrom 93 = .ok (.iload 5, 2) := by decide +kernel
theorem dX4_spreadFrom_95 : decode cX4_spreadFrom 95 = .ok (.iaload, 1) := by decide +kernel
theorem dX4_spreadFrom_96 : decode cX4_spreadFrom 96 = .ok (.aload_n 0, 1) := by decide +kernel
theorem dX4_spreadFrom_97 : decode cX4_spreadFrom 97 = .ok (.getfield 11, 3) := by decide +kernel
theorem dX4_spreadFrom_100 : decode cX4_spreadFrom 100 = .ok (.iload_n 3, 1) := by decide +kernel
theorem dX4_spreadFrom_101 : decode cX4_spreadFrom 101 = .ok (.iaload, 1) := by decide +kernel
theorem dX4_spreadFrom_102 : decode cX4_spreadFrom 102 = .ok (.invokestatic 82, 3) := by decide +kernel
theorem dX4_spreadFrom_105 : decode cX4_spreadFrom 105 = .ok (.invokevirtual 40, 3) := by decide +kernel
theorem dX4_spreadFrom_108 : decode cX4_spreadFrom 108 = .ok (.iinc 4 1, 3) := by decide +kernel
theorem dX4_spreadFrom_111 : decode cX4_spreadFrom 111 = .ok (.goto (-82), 3) := by decide +kernel
theorem dX4_spreadFrom_114 : decode cX4_spreadFrom 114 = .ok (.iinc 2 1, 3) := by decide +kernel
theorem dX4_spreadFrom_117 : decode cX4_spreadFrom 117 = .ok (.goto (-115), 3) := by decide +kernel
theorem dX4_spreadFrom_120 : decode cX4_spreadFrom 120 = .ok (.return_, 1) := by decide +kernel
set_option maxRecDepth 20000 in
theorem ggX4_searchCell_X4_cellOf : GoodIn wsX4_searchCell wsX4_cellOf := goodIn_r _ [5] (by decide +kernel) (by decide +kernel)
set_option maxRecDepth 20000 in
theorem gX4_searchCell_X4_cellOf : GoodIn wsX4_searchCell (va_wsS RX4 79 yX4_cellOf wsX4_cellOf) := goodIn_app (goodIn_of _ (by decide +kernel)) ggX4_searchCell_X4_cellOf
set_option maxRecDepth 20000 in
theorem ggX4_searchCell_X0_fits : GoodIn wsX4_searchCell wsX0_fits := goodIn_r _ [11, 12, 13, 14, 15, 16, 64, 65] (by decide +kernel) (by decide +kernel)
set_option maxRecDepth 20000 in
theorem gX4_searchCell_X0_fits_u126X0 : GoodIn wsX4_searchCell (va_wsU RX4 126 RX0 "TurnGroups$Wish" ⟨"TurnGroups$Wish", "fits", "(II)Z"⟩ yX0_fits wsX0_fits) := goodIn_app (goodIn_of _ (by decide +kernel)) ggX4_searchCell_X0_fits
set_option maxRecDepth 20000 in
theorem ggX4_searchCell_X1_fits : GoodIn wsX4_searchCell wsX1_fits := goodIn_r _ [20, 21, 22, 23, 19, 24, 14, 15, 16, 66, 57, 58, 59, 60, 61, 62, 63] (by decide +kernel) (by decide +kernel)
set_option maxRecDepth 20000 in
theorem gX4_searchCell_X1_fits_u126X1 : GoodIn wsX4_searchCell (va_wsU RX4 126 RX1 "TurnGroups$Wish" ⟨"TurnGroups$Wish", "fits", "(II)Z"⟩ yX1_fits wsX1_fits) := goodIn_app (goodIn_of _ (by decide +kernel)) ggX4_searchCell_X1_fits
set_option maxRecDepth 20000 in
theorem ggX4_searchCell_X2_fits : GoodIn wsX4_searchCell wsX2_fits := goodIn_r _ [28, 29, 14, 15, 16, 67] (by decide +kernel) (by decide +kernel)
set_option maxRecDepth 20000 in
theorem gX4_searchCell_X2_fits_u126X2 : GoodIn wsX4_searchCell (va_wsU RX4 126 RX2 "TurnGroups$Wish" ⟨"TurnGroups$Wish", "fits", "(II)Z"⟩ yX2_fits wsX2_fits) := goodIn_app (goodIn_of _ (by decide +kernel)) ggX4_searchCell_X2_fits
set_option maxRecDepth 20000 in
theorem ggX4_searchCell_X3_fits : GoodIn wsX4_searchCell wsX3_fits := goodIn_r _ [33, 34, 35, 36, 37, 4, 38, 39, 14, 15, 16, 40, 41, 42, 43, 44, 2, 3, 5, 45, 46, 68, 57, 58, 59, 60, 61, 62, 63] (by decide +kernel) (by decide +kernel)
set_option maxRecDepth 20000 in
theorem gX4_searchCell_X3_fits_u126X3 : GoodIn wsX4_searchCell (va_wsU RX4 126 RX3 "TurnGroups$Wish" ⟨"TurnGroups$Wish", "fits", "(II)Z"⟩ yX3_fits wsX3_fits) := goodIn_app (goodIn_of _ (by decide +kernel)) ggX4_searchCell_X3_fits
set_option maxRecDepth 20000 in
theorem ggX4_searchCell_X4_search : GoodIn wsX4_searchCell wsX4_search := goodIn_r _ [50, 51, 15, 52, 14, 16, 40, 41, 42, 4, 43, 44, 53, 54, 55, 56, 1, 2, 3, 5, 45, 46, 6, 7, 8, 9, 10, 11, 12, 13, 17, 18, 19, 20, 21, 22, 23, 24, 25, 26, 27, 28, 29, 30, 31, 32, 33, 34, 35, 36, 37, 38, 39, 47, 48, 49, 57, 58, 59, 60, 61, 62, 63, 64, 65, 66, 67, 68] (by decide +kernel) (by decide +kernel)
set_option maxRecDepth 20000 in
theorem gX4_searchCell_X4_search : GoodIn wsX4_searchCell (wsV RX4 120 RX4 yX4_search wsX4_search) := goodIn_app (goodIn_of _ (by decide +kernel)) ggX4_searchCell_X4_search
theorem dX4_searchCell_0 : decode cX4_searchCell 0 = .ok (.aload_n 0, 1) := by decide +kernel
theorem dX4_searchCell_1 : decode cX4_searchCell 1 = .ok (.getfield 11, 3) := by decide +kernel
theorem dX4_searchCell_4 : decode cX4_searchCell 4 = .ok (.iload_n 2, 1) := by decide +kernel
theorem dX4_searchCell_5 : decode cX4_searchCell 5 = .ok (.iload_n 3, 1) := by decide +kernel
theorem dX4_searchCell_6 : decode cX4_searchCell 6 = .ok (.invokestatic 79, 3) := by decide +kernel
theorem dX4_searchCell_9 : decode cX4_searchCell 9 = .ok (.iaload, 1) := by decide +kernel
theorem dX4_searchCell_10 : decode cX4_searchCell 10 = .ok (.istore 4, 2) := by decide +kernel
theorem dX4_searchCell_12 : decode cX4_searchCell 12 = .ok (.aload_n 1, 1) := by decide +kernel
theorem dX4_searchCell_13 : decode cX4_searchCell 13 = .ok (.iload 4, 2) := by decide +kernel
theorem dX4_searchCell_15 : decode cX4_searchCell 15 = .ok (.iload_n 2, 1) := by decide +kernel
theorem dX4_searchCell_16 : decode cX4_searchCell 16 = .ok (.invokevirtual 126, 3) := by decide +kernel
theorem dX4_searchCell_19 : decode cX4_searchCell 19 = .ok (.ifCond .eq 16, 3) := by decide +kernel
theorem dX4_searchCell_22 : decode cX4_searchCell 22 = .ok (.aload_n 0, 1) := by decide +kernel
theorem dX4_searchCell_23 : decode cX4_searchCell 23 = .ok (.aload_n 1, 1) := by decide +kernel
theorem dX4_searchCell_24 : decode cX4_searchCell 24 = .ok (.iload_n 2, 1) := by decide +kernel
theorem dX4_searchCell_25 : decode cX4_searchCell 25 = .ok (.iconst 1, 1) := by decide +kernel
theorem dX4_searchCell_26 : decode cX4_searchCell 26 = .ok (.iadd, 1) := by decide +kernel
theorem dX4_searchCell_27 : decode cX4_searchCell 27 = .ok (.iload 4, 2) := by decide +kernel
theorem dX4_searchCell_29 : decode cX4_searchCell 29 = .ok (.invokevirtual 120, 3) := by decide +kernel
theorem dX4_searchCell_32 : decode cX4_searchCell 32 = .ok (.goto 4, 3) := by decide +kernel
theorem dX4_searchCell_35 : decode cX4_searchCell 35 = .ok (.iconst 0, 1) := by decide +kernel
theorem dX4_searchCell_36 : decode cX4_searchCell 36 = .ok (.ireturn, 1) := by decide +kernel
set_option maxRecDepth 20000 in
theorem ggX4_search_X6_reverse : GoodIn wsX4_search wsX6_reverse := goodIn_r _ [3] (by decide +kernel) (by decide +kernel)
set_option maxRecDepth 20000 in
theorem gX4_search_X6_reverse_n123 : GoodIn wsX4_search (wsX6_reverse) := ggX4_search_X6_reverse
set_option maxRecDepth 20000 in
theorem ggX4_search_X6_image : GoodIn wsX4_search wsX6_image := goodIn_r _ [5] (by decide +kernel) (by decide +kernel)
set_option maxRecDepth 20000 in
theorem gX4_search_X6_image_n76 : GoodIn wsX4_search (wsX6_image) := ggX4_search_X6_image
set_option maxRecDepth 20000 in
theorem ggX4_search_X4_reaches : GoodIn wsX4_search wsX4_reaches := goodIn_r _ [10, 11, 56, 57, 58, 59, 60, 61, 62] (by decide +kernel) (by decide +kernel)
set_option maxRecDepth 20000 in
theorem gX4_search_X4_reaches : GoodIn wsX4_search (wsV RX4 65 RX4 yX4_reaches wsX4_reaches) := goodIn_app (goodIn_of _ (by decide +kernel)) ggX4_search_X4_reaches
set_option maxRecDepth 20000 in
theorem ggX4_search_X4_step : GoodIn wsX4_search wsX4_step := goodIn_r _ [15, 16, 17, 18, 9, 19, 20, 2, 21, 56, 57, 58, 59, 60, 61, 62] (by decide +kernel) (by decide +kernel)
set_option maxRecDepth 20000 in
theorem gX4_search_X4_step : GoodIn wsX4_search (wsV RX4 131 RX4 yX4_step wsX4_step) := goodIn_app (goodIn_of _ (by decide +kernel)) ggX4_search_X4_step
set_option maxRecDepth 20000 in
theorem ggX4_search_X0_fits : GoodIn wsX4_search wsX0_fits := goodIn_r _ [27, 28, 29, 4, 2, 5, 63, 64] (by decide +kernel) (by decide +kernel)
set_option maxRecDepth 20000 in
theorem gX4_search_X0_fits_u126X0 : GoodIn wsX4_search (va_wsU RX4 126 RX0 "TurnGroups$Wish" ⟨"TurnGroups$Wish", "fits", "(II)Z"⟩ yX0_fits wsX0_fits) := goodIn_app (goodIn_of _ (by decide +kernel)) ggX4_search_X0_fits
set_option maxRecDepth 20000 in
theorem ggX4_search_X1_fits : GoodIn wsX4_search wsX1_fits := goodIn_r _ [33, 34, 35, 36, 32, 37, 4, 2, 5, 65, 56, 57, 58, 59, 60, 61, 62] (by decide +kernel) (by decide +kernel)
set_option maxRecDepth 20000 in
theorem gX4_search_X1_fits_u126X1 : GoodIn wsX4_search (va_wsU RX4 126 RX1 "TurnGroups$Wish" ⟨"TurnGroups$Wish", "fits", "(II)Z"⟩ yX1_fits wsX1_fits) := goodIn_app (goodIn_of _ (by decide +kernel)) ggX4_search_X1_fits
set_option maxRecDepth 20000 in
theorem ggX4_search_X2_fits : GoodIn wsX4_search wsX2_fits := goodIn_r _ [41, 42, 4, 2, 5, 66] (by decide +kernel) (by decide +kernel)
set_option maxRecDepth 20000 in
theorem gX4_search_X2_fits_u126X2 : GoodIn wsX4_search (va_wsU RX4 126 RX2 "TurnGroups$Wish" ⟨"TurnGroups$Wish", "fits", "(II)Z"⟩ yX2_fits wsX2_fits) := goodIn_app (goodIn_of _ (by decide +kernel)) ggX4_search_X2_fits
set_option maxRecDepth 20000 in
theorem ggX4_search_X3_fits : GoodIn wsX4_search wsX3_fits := goodIn_r _ [46, 47, 48, 49, 50, 9, 51, 52, 4, 2, 5, 6, 7, 8, 10, 11, 17, 18, 19, 20, 21, 67, 56, 57, 58, 59, 60, 61, 62] (by decide +kernel) (by decide +kernel)
set_option maxRecDepth 20000 in
theorem gX4_search_X3_fits_u126X3 : GoodIn wsX4_search (va_wsU RX4 126 RX3 "TurnGroups$Wish" ⟨"TurnGroups$Wish", "fits", "(II)Z"⟩ yX3_fits wsX3_fits) := goodIn_app (goodIn_of _ (by decide +kernel)) ggX4_search_X3_fits
set_option maxRecDepth 20000 in
theorem ggX4_search_X4_search : GoodIn wsX4_search wsX4_search := goodIn_r _ [0, 1, 2, 3, 4, 5, 6, 7, 8, 9, 10, 11, 12, 13, 14, 15, 16, 17, 18, 19, 20, 21, 22, 23, 24, 25, 26, 27, 28, 29, 30, 31, 32, 33, 34, 35, 36, 37, 38, 39, 40, 41, 42, 43, 44, 45, 46, 47, 48, 49, 50, 51, 52, 53, 54, 55, 56, 57, 58, 59, 60, 61, 62, 63, 64, 65, 66, 67] (by decide +kernel) (by decide +kernel)
set_option maxRecDepth 20000 in
theorem gX4_search_X4_search : GoodIn wsX4_search (wsV RX4 120 RX4 yX4_search wsX4_search) := goodIn_app (goodIn_of _ (by decide +kernel)) ggX4_search_X4_search
theorem dX4_search_0 : decode cX4_search 0 = .ok (.iload_n 2, 1) := by decide +kernel
theorem dX4_search_1 : decode cX4_search 1 = .ok (.bipush 8, 2) := by decide +kernel
theorem dX4_search_3 : decode cX4_search 3 = .ok (.if_icmp .lt 5, 3) := by decide +kernel
theorem dX4_search_6 : decode cX4_search 6 = .ok (.iload_n 3, 1) := by decide +kernel
theorem dX4_search_7 : decode cX4_search 7 = .ok (.ireturn, 1) := by decide +kernel
theorem dX4_search_8 : decode cX4_search 8 = .ok (.iload_n 3, 1) := by decide +kernel
theorem dX4_search_9 : decode cX4_search 9 = .ok (.invokestatic 123, 3) := by decide +kernel
theorem dX4_search_12 : decode cX4_search 12 = .ok (.istore 4, 2) := by decide +kernel
theorem dX4_search_14 : decode cX4_search 14 = .ok (.iconst 0, 1) := by decide +kernel
theorem dX4_search_15 : decode cX4_search 15 = .ok (.istore 5, 2) := by decide +kernel
theorem dX4_search_17 : decode cX4_search 17 = .ok (.iload 5, 2) := by decide +kernel
theorem dX4_search_19 : decode cX4_search 19 = .ok (.bipush 8, 2) := by decide +kernel
theorem dX4_search_21 : decode cX4_search 21 = .ok (.if_icmp .ge 72, 3) := by decide +kernel
theorem dX4_search_24 : decode cX4_search 24 = .ok (.iload 4, 2) := by decide +kernel
theorem dX4_search_26 : decode cX4_search 26 = .ok (.iload 5, 2) := by decide +kernel
theorem dX4_search_28 : decode cX4_search 28 = .ok (.invokestatic 76, 3) := by decide +kernel
theorem dX4_search_31 : decode cX4_search 31 = .ok (.istore 6, 2) := by decide +kernel
theorem dX4_search_33 : decode cX4_search 33 = .ok (.aload_n 0, 1) := by decide +kernel
theorem dX4_search_34 : decode cX4_search 34 = .ok (.iload_n 2, 1) := by decide +kernel
theorem dX4_search_35 : decode cX4_search 35 = .ok (.iload 6, 2) := by decide +kernel
theorem dX4_search_37 : decode cX4_search 37 = .ok (.invokevirtual 65, 3) := by decide +kernel
theorem dX4_search_40 : decode cX4_search 40 = .ok (.ifCond .eq 47, 3) := by decide +kernel
theorem dX4_search_43 : decode cX4_search 43 = .ok (.aload_n 0, 1) := by decide +kernel
theorem dX4_search_44 : decode cX4_search 44 = .ok (.iload_n 2, 1) := by decide +kernel
theorem dX4_search_45 : decode cX4_search 45 = .ok (.iload_n 3, 1) := by decide +kernel
theorem dX4_search_46 : decode cX4_search 46 = .ok (.iload 6, 2) := by decide +kernel
theorem dX4_search_48 : decode cX4_search 48 = .ok (.invokevirtual 131, 3) := by decide +kernel
theorem dX4_search_51 : decode cX4_search 51 = .ok (.istore 7, 2) := by decide +kernel
theorem dX4_search_53 : decode cX4_search 53 = .ok (.aload_n 1, 1) := by decide +kernel
theorem dX4_search_54 : decode cX4_search 54 = .ok (.iload 7, 2) := by decide +kernel
theorem dX4_search_56 : decode cX4_search 56 = .ok (.iload_n 2, 1) := by decide +kernel
theorem dX4_search_57 : decode cX4_search 57 = .ok (.invokevirtual 126, 3) := by decide +kernel
theorem dX4_search_60 : decode cX4_search 60 = .ok (.ifCond .eq 16, 3) := by decide +kernel
theorem dX4_search_63 : decode cX4_search 63 = .ok (.aload_n 0, 1) := by decide +kernel
theorem dX4_search_64 : decode cX4_search 64 = .ok (.aload_n 1, 1) := by decide +kernel
theorem dX4_search_65 : decode cX4_search 65 = .ok (.iload_n 2, 1) := by decide +kernel
theorem dX4_search_66 : decode cX4_search 66 = .ok (.iconst 1, 1) := by decide +kernel
theorem dX4_search_67 : decode cX4_search 67 = .ok (.iadd, 1) := by decide +kernel
theorem dX4_search_68 : decode cX4_search 68 = .ok (.iload 7, 2) := by decide +kernel
theorem dX4_search_70 : decode cX4_search 70 = .ok (.invokevirtual 120, 3) := by decide +kernel
theorem dX4_search_73 : decode cX4_search 73 = .ok (.goto 4, 3) := by decide +kernel
theorem dX4_search_76 : decode cX4_search 76 = .ok (.iconst 0, 1) := by decide +kernel
theorem dX4_search_77 : decode cX4_search 77 = .ok (.istore 8, 2) := by decide +kernel
theorem dX4_search_79 : decode cX4_search 79 = .ok (.iload 8, 2) := by decide +kernel
theorem dX4_search_81 : decode cX4_search 81 = .ok (.ifCond .eq 6, 3) := by decide +kernel
theorem dX4_search_84 : decode cX4_search 84 = .ok (.iload 8, 2) := by decide +kernel
theorem dX4_search_86 : decode cX4_search 86 = .ok (.ireturn, 1) := by decide +kernel
theorem dX4_search_87 : decode cX4_search 87 = .ok (.iinc 5 1, 3) := by decide +kernel
theorem dX4_search_90 : decode cX4_search 90 = .ok (.goto (-73), 3) := by decide +kernel
theorem dX4_search_93 : decode cX4_search 93 = .ok (.iconst 0, 1) := by decide +kernel
theorem dX4_search_94 : decode cX4_search 94 = .ok (.ireturn, 1) := by decide +kernel
set_option maxRecDepth 20000 in
theorem ggX4_countLeaving_X4_reaches : GoodIn wsX4_countLeaving wsX4_reaches := goodIn_r _ [5, 6, 23, 24, 25, 26, 27, 28, 29] (by decide +kernel) (by decide +kernel)
set_option maxRecDepth 20000 in
theorem gX4_countLeaving_X4_reaches : GoodIn wsX4_countLeaving (wsV RX4 65 RX4 yX4_reaches wsX4_reaches) := goodIn_app (goodIn_of _ (by decide +kernel)) ggX4_countLeaving_X4_reaches
set_option maxRecDepth 20000 in
theorem ggX4_countLeaving_X4_step : GoodIn wsX4_countLeaving wsX4_step := goodIn_r _ [10, 11, 12, 13, 4, 14, 15, 16, 17, 23, 24, 25, 26, 27, 28, 29] (by decide +kernel) (by decide +kernel)
set_option maxRecDepth 20000 in
theorem gX4_countLeaving_X4_step : GoodIn wsX4_countLeaving (wsV RX4 131 RX4 yX4_step wsX4_step) := goodIn_app (goodIn_of _ (by decide +kernel)) ggX4_countLeaving_X4_step
set_option maxRecDepth 20000 in
theorem ggX4_countLeaving_X6_image : GoodIn wsX4_countLeaving wsX6_image := goodIn_r _ [19] (by decide +kernel) (by decide +kernel)
set_option maxRecDepth 20000 in
theorem gX4_countLeaving_X6_image_n76 : GoodIn wsX4_countLeaving (wsX6_image) := ggX4_countLeaving_X6_image
set_option maxRecDepth 20000 in
theorem ggX4_countLeaving_X4_countLeaving : GoodIn wsX4_countLeaving wsX4_countLeaving := goodIn_r _ [0, 1, 2, 3, 4, 5, 6, 7, 8, 9, 10, 11, 12, 13, 14, 15, 16, 17, 18, 19, 20, 21, 22, 23, 24, 25, 26, 27, 28, 29] (by decide +kernel) (by decide +kernel)
set_option maxRecDepth 20000 in
theorem gX4_countLeaving_X4_countLeaving : GoodIn wsX4_countLeaving (wsV RX4 111 RX4 yX4_countLeaving wsX4_countLeaving) := goodIn_app (goodIn_of _ (by decide +kernel)) ggX4_countLeaving_X4_countLeaving
theorem dX4_countLeaving_0 : decode cX4_countLeaving 0 = .ok (.iload_n 1, 1) := by decide +kernel
theorem dX4_countLeaving_1 : decode cX4_countLeaving 1 = .ok (.ifCond .lt 11, 3) := by decide +kernel
theorem dX4_countLeaving_4 : decode cX4_countLeaving 4 = .ok (.iload_n 1, 1) := by decide +kernel
theorem dX4_countLeaving_5 : decode cX4_countLeaving 5 = .ok (.bipush 8, 2) := by decide +kernel
theorem dX4_countLeaving_7 : decode cX4_countLeaving 7 = .ok (.iload_n 2, 1) := by decide +kernel
theorem dX4_countLeaving_8 : decode cX4_countLeaving 8 = .ok (.isub, 1) := by decide +kernel
theorem dX4_countLeaving_9 : decode cX4_countLeaving 9 = .ok (.if_icmp .le 5, 3) := by decide +kernel
theorem dX4_countLeaving_12 : decode cX4_countLeaving 12 = .ok (.iconst 0, 1) := by decide +kernel
theorem dX4_countLeaving_13 : decode cX4_countLeaving 13 = .ok (.ireturn, 1) := by decide +kernel
theorem dX4_countLeaving_14 : decode cX4_countLeaving 14 = .ok (.iload_n 2, 1) := by decide +kernel
theorem dX4_countLeaving_15 : decode cX4_countLeaving 15 = .ok (.bipush 8, 2) := by decide +kernel
theorem dX4_countLeaving_17 : decode cX4_countLeaving 17 = .ok (.if_icmp .lt 5, 3) := by decide +kernel
theorem dX4_countLeaving_20 : decode cX4_countLeaving 20 = .ok (.iconst 1, 1) := by decide +kernel
theorem dX4_countLeaving_21 : decode cX4_countLeaving 21 = .ok (.ireturn, 1) := by decide +kernel
theorem dX4_countLeaving_22 : decode cX4_countLeaving 22 = .ok (.iconst 0, 1) := by decide +kernel
theorem dX4_countLeaving_23 : decode cX4_countLeaving 23 = .ok (.istore 4, 2) := by decide +kernel
theorem dX4_countLeaving_25 : decode cX4_countLeaving 25 = .ok (.iload_n 2, 1) := by decide +kernel
theorem dX4_countLeaving_26 : decode cX4_countLeaving 26 = .ok (.istore 5, 2) := by decide +kernel
theorem dX4_countLeaving_28 : decode cX4_countLeaving 28 = .ok (.iload 5, 2) := by decide +kernel
theorem dX4_countLeaving_30 : decode cX4_countLeaving 30 = .ok (.bipush 8, 2) := by decide +kernel
theorem dX4_countLeaving_32 : decode cX4_countLeaving 32 = .ok (.if_icmp .ge 64, 3) := by decide +kernel
theorem dX4_countLeaving_35 : decode cX4_countLeaving 35 = .ok (.aload_n 0, 1) := by decide +kernel
theorem dX4_countLeaving_36 : decode cX4_countLeaving 36 = .ok (.iload_n 2, 1) := by decide +kernel
theorem dX4_countLeaving_37 : decode cX4_countLeaving 37 = .ok (.iload 5, 2) := by decide +kernel
theorem dX4_countLeaving_39 : decode cX4_countLeaving 39 = .ok (.invokevirtual 65, 3) := by decide +kernel
theorem dX4_countLeaving_42 : decode cX4_countLeaving 42 = .ok (.ifCond .eq 48, 3) := by decide +kernel
theorem dX4_countLeaving_45 : decode cX4_countLeaving 45 = .ok (.aload_n 0, 1) := by decide +kernel
theorem dX4_countLeaving_46 : decode cX4_countLeaving 46 = .ok (.iload_n 2, 1) := by decide +kernel
theorem dX4_countLeaving_47 : decode cX4_countLeaving 47 = .ok (.iload_n 3, 1) := by decide +kernel
theorem dX4_countLeaving_48 : decode cX4_countLeaving 48 = .ok (.iload 5, 2) := by decide +kernel
theorem dX4_countLeaving_50 : decode cX4_countLeaving 50 = .ok (.invokevirtual 131, 3) := by decide +kernel
theorem dX4_countLeaving_53 : decode cX4_countLeaving 53 = .ok (.istore 6, 2) := by decide +kernel
theorem dX4_countLeaving_55 : decode cX4_countLeaving 55 = .ok (.iload 6, 2) := by decide +kernel
theorem dX4_countLeaving_57 : decode cX4_countLeaving 57 = .ok (.iload_n 2, 1) := by decide +kernel
theorem dX4_countLeaving_58 : decode cX4_countLeaving 58 = .ok (.invokestatic 76, 3) := by decide +kernel
theorem dX4_countLeaving_61 : decode cX4_countLeaving 61 = .ok (.iload_n 2, 1) := by decide +kernel
theorem dX4_countLeaving_62 : decode cX4_countLeaving 62 = .ok (.if_icmp .ne 7, 3) := by decide +kernel
theorem dX4_countLeaving_65 : decode cX4_countLeaving 65 = .ok (.iconst 1, 1) := by decide +kernel
theorem dX4_countLeaving_66 : decode cX4_countLeaving 66 = .ok (.goto 4, 3) := by decide +kernel
theorem dX4_countLeaving_69 : decode cX4_countLeaving 69 = .ok (.iconst 0, 1) := by decide +kernel
theorem dX4_countLeaving_70 : decode cX4_countLeaving 70 = .ok (.istore 7, 2) := by decide +kernel
theorem dX4_countLeaving_72 : decode cX4_countLeaving 72 = .ok (.iload 4, 2) := by decide +kernel
theorem dX4_countLeaving_74 : decode cX4_countLeaving 74 = .ok (.aload_n 0, 1) := by decide +kernel
theorem dX4_countLeaving_75 : decode cX4_countLeaving 75 = .ok (.iload_n 1, 1) := by decide +kernel
theorem dX4_countLeaving_76 : decode cX4_countLeaving 76 = .ok (.iload 7, 2) := by decide +kernel
theorem dX4_countLeaving_78 : decode cX4_countLeaving 78 = .ok (.isub, 1) := by decide +kernel
theorem dX4_countLeaving_79 : decode cX4_countLeaving 79 = .ok (.iload_n 2, 1) := by decide +kernel
theorem dX4_countLeaving_80 : decode cX4_countLeaving 80 = .ok (.iconst 1, 1) := by decide +kernel
theorem dX4_countLeaving_81 : decode cX4_countLeaving 81 = .ok (.iadd, 1) := by decide +kernel
theorem dX4_countLeaving_82 : decode cX4_countLeaving 82 = .ok (.iload 6, 2) := by decide +kernel
theorem dX4_countLeaving_84 : decode cX4_countLeaving 84 = .ok (.invokevirtual 111, 3) := by decide +kernel
theorem dX4_countLeaving_87 : decode cX4_countLeaving 87 = .ok (.iadd, 1) := by decide +kernel
theorem dX4_countLeaving_88 : decode cX4_countLeaving 88 = .ok (.istore 4, 2) := by decide +kernel
theorem dX4_countLeaving_90 : decode cX4_countLeaving 90 = .ok (.iinc 5 1, 3) := by decide +kernel
theorem dX4_countLeaving_93 : decode cX4_countLeaving 93 = .ok (.goto (-65), 3) := by decide +kernel
theorem dX4_countLeaving_96 : decode cX4_countLeaving 96 = .ok (.iload 4, 2) := by decide +kernel
theorem dX4_countLeaving_98 : decode cX4_countLeaving 98 = .ok (.ireturn, 1) := by decide +kernel
set_option maxRecDepth 20000 in
theorem ggX4_step_X4_cellOf : GoodIn wsX4_step wsX4_cellOf := goodIn_r _ [5] (by decide +kernel) (by decide +kernel)
set_option maxRecDepth 20000 in
theorem gX4_step_X4_cellOf : GoodIn wsX4_step (va_wsS RX4 79 yX4_cellOf wsX4_cellOf) := goodIn_app (goodIn_of _ (by decide +kernel)) ggX4_step_X4_cellOf
set_option maxRecDepth 20000 in
theorem ggX4_step_X6_chain : GoodIn wsX4_step wsX6_chain := goodIn_r _ [8] (by decide +kernel) (by decide +kernel)
set_option maxRecDepth 20000 in
theorem gX4_step_X6_chain_n82 : GoodIn wsX4_step (wsX6_chain) := ggX4_step_X6_chain
theorem dX4_step_0 : decode cX4_step 0 = .ok (.iload_n 3, 1) := by decide +kernel
theorem dX4_step_1 : decode cX4_step 1 = .ok (.iload_n 1, 1) := by decide +kernel
theorem dX4_step_2 : decode cX4_step 2 = .ok (.if_icmp .ne 7, 3) := by decide +kernel
theorem dX4_step_5 : decode cX4_step 5 = .ok (.iload_n 2, 1) := by decide +kernel
theorem dX4_step_6 : decode cX4_step 6 = .ok (.goto 17, 3) := by decide +kernel
theorem dX4_step_9 : decode cX4_step 9 = .ok (.aload_n 0, 1) := by decide +kernel
theorem dX4_step_10 : decode cX4_step 10 = .ok (.getfield 11, 3) := by decide +kernel
theorem dX4_step_13 : decode cX4_step 13 = .ok (.iload_n 1, 1) := by decide +kernel
theorem dX4_step_14 : decode cX4_step 14 = .ok (.iload_n 3, 1) := by decide +kernel
theorem dX4_step_15 : decode cX4_step 15 = .ok (.invokestatic 79, 3) := by decide +kernel
theorem dX4_step_18 : decode cX4_step 18 = .ok (.iaload, 1) := by decide +kernel
theorem dX4_step_19 : decode cX4_step 19 = .ok (.iload_n 2, 1) := by decide +kernel
theorem dX4_step_20 : decode cX4_step 20 = .ok (.invokestatic 82, 3) := by decide +kernel
theorem dX4_step_23 : decode cX4_step 23 = .ok (.ireturn, 1) := by decide +kernel
set_option maxRecDepth 20000 in
theorem ggX4_descend_X6_reverse : GoodIn wsX4_descend wsX6_reverse := goodIn_r _ [3] (by decide +kernel) (by decide +kernel)
set_option maxRecDepth 20000 in
theorem gX4_descend_X6_reverse_n123 : GoodIn wsX4_descend (wsX6_reverse) := ggX4_descend_X6_reverse
set_option maxRecDepth 20000 in
theorem ggX4_descend_X6_image : GoodIn wsX4_descend wsX6_image := goodIn_r _ [5] (by decide +kernel) (by decide +kernel)
set_option maxRecDepth 20000 in
theorem gX4_descend_X6_image_n76 : GoodIn wsX4_descend (wsX6_image) := ggX4_descend_X6_image
set_option maxRecDepth 20000 in
theorem ggX4_descend_X4_step : GoodIn wsX4_descend wsX4_step := goodIn_r _ [10, 11, 12, 13, 9, 14, 15, 2, 16, 17, 18, 19, 20, 21, 22, 23] (by decide +kernel) (by decide +kernel)
set_option maxRecDepth 20000 in
theorem gX4_descend_X4_step : GoodIn wsX4_descend (wsV RX4 131 RX4 yX4_step wsX4_step) := goodIn_app (goodIn_of _ (by decide +kernel)) ggX4_descend_X4_step
theorem dX4_descend_0 : decode cX4_descend 0 = .ok (.aload_n 0, 1) := by decide +kernel
theorem dX4_descend_1 : decode cX4_descend 1 = .ok (.iload_n 1, 1) := by decide +kernel
theorem dX4_descend_2 : decode cX4_descend 2 = .ok (.iload_n 2, 1) := by decide +kernel
theorem dX4_descend_3 : decode cX4_descend 3 = .ok (.iload_n 2, 1) := by decide +kernel
theorem dX4_descend_4 : decode cX4_descend 4 = .ok (.invokestatic 123, 3) := by decide +kernel
theorem dX4_descend_7 : decode cX4_descend 7 = .ok (.iload_n 3, 1) := by decide +kernel
theorem dX4_descend_8 : decode cX4_descend 8 = .ok (.invokestatic 76, 3) := by decide +kernel
theorem dX4_descend_11 : decode cX4_descend 11 = .ok (.invokevirtual 131, 3) := by decide +kernel
theorem dX4_descend_14 : decode cX4_descend 14 = .ok (.ireturn, 1) := by decide +kernel
theorem dX4_cellOf_0 : decode cX4_cellOf 0 = .ok (.iload_n 0, 1) := by decide +kernel
theorem dX4_cellOf_1 : decode cX4_cellOf 1 = .ok (.bipush 8, 2) := by decide +kernel
theorem dX4_cellOf_3 : decode cX4_cellOf 3 = .ok (.imul, 1) := by decide +kernel
theorem dX4_cellOf_4 : decode cX4_cellOf 4 = .ok (.iload_n 1, 1) := by decide +kernel
theorem dX4_cellOf_5 : decode cX4_cellOf 5 = .ok (.iadd, 1) := by decide +kernel
theorem dX4_cellOf_6 : decode cX4_cellOf 6 = .ok (.ireturn, 1) := by decide +kernel
theorem dX4_levelOf_0 : decode cX4_levelOf 0 = .ok (.iload_n 0, 1) := by decide +kernel
theorem dX4_levelOf_1 : decode cX4_levelOf 1 = .ok (.bipush 8, 2) := by decide +kernel
theorem dX4_levelOf_3 : decode cX4_levelOf 3 = .ok (.idiv, 1) := by decide +kernel
theorem dX4_levelOf_4 : decode cX4_levelOf 4 = .ok (.ireturn, 1) := by decide +kernel
set_option maxRecDepth 20000 in
theorem ggX4_imageOfSet_X6_image : GoodIn wsX4_imageOfSet wsX6_image := goodIn_r _ [3] (by decide +kernel) (by decide +kernel)
set_option maxRecDepth 20000 in
theorem gX4_imageOfSet_X6_image_n76 : GoodIn wsX4_imageOfSet (wsX6_image) := ggX4_imageOfSet_X6_image
theorem dX4_imageOfSet_0 : decode cX4_imageOfSet 0 = .ok (.iconst 0, 1) := by decide +kernel
theorem dX4_imageOfSet_1 : decode cX4_imageOfSet 1 = .ok (.istore_n 2, 1) := by decide +kernel
theorem dX4_imageOfSet_2 : decode cX4_imageOfSet 2 = .ok (.iconst 0, 1) := by decide +kernel
theorem dX4_imageOfSet_3 : decode cX4_imageOfSet 3 = .ok (.istore_n 3, 1) := by decide +kernel
theorem dX4_imageOfSet_4 : decode cX4_imageOfSet 4 = .ok (.iload_n 3, 1) := by decide +kernel
theorem dX4_imageOfSet_5 : decode cX4_imageOfSet 5 = .ok (.bipush 8, 2) := by decide +kernel
theorem dX4_imageOfSet_7 : decode cX4_imageOfSet 7 = .ok (.if_icmp .ge 28, 3) := by decide +kernel
theorem dX4_imageOfSet_10 : decode cX4_imageOfSet 10 = .ok (.iload_n 1, 1) := by decide +kernel
theorem dX4_imageOfSet_11 : decode cX4_imageOfSet 11 = .ok (.iload_n 3, 1) := by decide +kernel
theorem dX4_imageOfSet_12 : decode cX4_imageOfSet 12 = .ok (.ishr, 1) := by decide +kernel
theorem dX4_imageOfSet_13 : decode cX4_imageOfSet 13 = .ok (.iconst 1, 1) := by decide +kernel
theorem dX4_imageOfSet_14 : decode cX4_imageOfSet 14 = .ok (.iand, 1) := by decide +kernel
theorem dX4_imageOfSet_15 : decode cX4_imageOfSet 15 = .ok (.iconst 1, 1) := by decide +kernel
theorem dX4_imageOfSet_16 : decode cX4_imageOfSet 16 = .ok (.if_icmp .ne 13, 3) := by decide +kernel
theorem dX4_imageOfSet_19 : decode cX4_imageOfSet 19 = .ok (.iload_n 2, 1) := by decide +kernel
theorem dX4_imageOfSet_20 : decode cX4_imageOfSet 20 = .ok (.iconst 1, 1) := by decide +kernel
theorem dX4_imageOfSet_21 : decode cX4_imageOfSet 21 = .ok (.iload_n 0, 1) := by decide +kernel
theorem dX4_imageOfSet_22 : decode cX4_imageOfSet 22 = .ok (.iload_n 3, 1) := by decide +kernel
theorem dX4_imageOfSet_23 : decode cX4_imageOfSet 23 = .ok (.invokestatic 76, 3) := by decide +kernel
theorem dX4_imageOfSet_26 : decode cX4_imageOfSet 26 = .ok (.ishl, 1) := by decide +kernel
theorem dX4_imageOfSet_27 : decode cX4_imageOfSet 27 = .ok (.ior, 1) := by decide +kernel
theorem dX4_imageOfSet_28 : decode cX4_imageOfSet 28 = .ok (.istore_n 2, 1) := by decide +kernel
theorem dX4_imageOfSet_29 : decode cX4_imageOfSet 29 = .ok (.iinc 3 1, 3) := by decide +kernel
theorem dX4_imageOfSet_32 : decode cX4_imageOfSet 32 = .ok (.goto (-28), 3) := by decide +kernel
theorem dX4_imageOfSet_35 : decode cX4_imageOfSet 35 = .ok (.iload_n 2, 1) := by decide +kernel
theorem dX4_imageOfSet_36 : decode cX4_imageOfSet 36 = .ok (.ireturn, 1) := by decide +kernel
set_option maxRecDepth 20000 in
theorem ggX4_mergeImages_X6_image : GoodIn wsX4_mergeImages wsX6_image := goodIn_r _ [3] (by decide +kernel) (by decide +kernel)
set_option maxRecDepth 20000 in
theorem gX4_mergeImages_X6_image_n76 : GoodIn wsX4_mergeImages (wsX6_image) := ggX4_mergeImages_X6_image
set_option maxRecDepth 20000 in
theorem ggX4_mergeImages_X4_merge : GoodIn wsX4_mergeImages wsX4_merge := goodIn_r _ [7, 1, 2, 3] (by decide +kernel) (by decide +kernel)
set_option maxRecDepth 20000 in
theorem gX4_mergeImages_X4_merge : GoodIn wsX4_mergeImages (va_wsS RX4 101 yX4_merge wsX4_merge) := goodIn_app (goodIn_of _ (by decide +kernel)) ggX4_mergeImages_X4_merge
theorem dX4_mergeImages_0 : decode cX4_mergeImages 0 = .ok (.iload_n 0, 1) := by decide +kernel
theorem dX4_mergeImages_1 : decode cX4_mergeImages 1 = .ok (.istore_n 2, 1) := by decide +kernel
theorem dX4_mergeImages_2 : decode cX4_mergeImages 2 = .ok (.iconst 0, 1) := by decide +kernel
theorem dX4_mergeImages_3 : decode cX4_mergeImages 3 = .ok (.istore_n 3, 1) := by decide +kernel
theorem dX4_mergeImages_4 : decode cX4_mergeImages 4 = .ok (.iload_n 3, 1) := by decide +kernel
theorem dX4_mergeImages_5 : decode cX4_mergeImages 5 = .ok (.bipush 8, 2) := by decide +kernel
theorem dX4_mergeImages_7 : decode cX4_mergeImages 7 = .ok (.if_icmp .ge 28, 3) := by decide +kernel
theorem dX4_mergeImages_10 : decode cX4_mergeImages 10 = .ok (.iload_n 2, 1) := by decide +kernel
theorem dX4_mergeImages_11 : decode cX4_mergeImages 11 = .ok (.iload_n 1, 1) := by decide +kernel
theorem dX4_mergeImages_12 : decode cX4_mergeImages 12 = .ok (.iload_n 3, 1) := by decide +kernel
theorem dX4_mergeImages_13 : decode cX4_mergeImages 13 = .ok (.invokestatic 76, 3) := by decide +kernel
theorem dX4_mergeImages_16 : decode cX4_mergeImages 16 = .ok (.iload_n 1, 1) := by decide +kernel
theorem dX4_mergeImages_17 : decode cX4_mergeImages 17 = .ok (.iload_n 2, 1) := by decide +kernel
theorem dX4_mergeImages_18 : decode cX4_mergeImages 18 = .ok (.iload_n 3, 1) := by decide +kernel
theorem dX4_mergeImages_19 : decode cX4_mergeImages 19 = .ok (.invokestatic 76, 3) := by decide +kernel
theorem dX4_mergeImages_22 : decode cX4_mergeImages 22 = .ok (.invokestatic 76, 3) := by decide +kernel
theorem dX4_mergeImages_25 : decode cX4_mergeImages 25 = .ok (.invokestatic 101, 3) := by decide +kernel
theorem dX4_mergeImages_28 : decode cX4_mergeImages 28 = .ok (.istore_n 2, 1) := by decide +kernel
theorem dX4_mergeImages_29 : decode cX4_mergeImages 29 = .ok (.iinc 3 1, 3) := by decide +kernel
theorem dX4_mergeImages_32 : decode cX4_mergeImages 32 = .ok (.goto (-28), 3) := by decide +kernel
theorem dX4_mergeImages_35 : decode cX4_mergeImages 35 = .ok (.iload_n 2, 1) := by decide +kernel
theorem dX4_mergeImages_36 : decode cX4_mergeImages 36 = .ok (.ireturn, 1) := by decide +kernel
set_option maxRecDepth 20000 in
theorem ggX4_merge_X6_image : GoodIn wsX4_merge wsX6_image := goodIn_r _ [3] (by decide +kernel) (by decide +kernel)
set_option maxRecDepth 20000 in
theorem gX4_merge_X6_image_n76 : GoodIn wsX4_merge (wsX6_image) := ggX4_merge_X6_image
theorem dX4_merge_0 : decode cX4_merge 0 = .ok (.iload_n 0, 1) := by decide +kernel
theorem dX4_merge_1 : decode cX4_merge 1 = .ok (.iload_n 1, 1) := by decide +kernel
theorem dX4_merge_2 : decode cX4_merge 2 = .ok (.invokestatic 76, 3) := by decide +kernel
theorem dX4_merge_5 : decode cX4_merge 5 = .ok (.istore_n 3, 1) := by decide +kernel
theorem dX4_merge_6 : decode cX4_merge 6 = .ok (.iload_n 0, 1) := by decide +kernel
theorem dX4_merge_7 : decode cX4_merge 7 = .ok (.iload_n 2, 1) := by decide +kernel
theorem dX4_merge_8 : decode cX4_merge 8 = .ok (.invokestatic 76, 3) := by decide +kernel
theorem dX4_merge_11 : decode cX4_merge 11 = .ok (.istore 4, 2) := by decide +kernel
theorem dX4_merge_13 : decode cX4_merge 13 = .ok (.iload_n 0, 1) := by decide +kernel
theorem dX4_merge_14 : decode cX4_merge 14 = .ok (.istore 5, 2) := by decide +kernel
theorem dX4_merge_16 : decode cX4_merge 16 = .ok (.iconst 0, 1) := by decide +kernel
theorem dX4_merge_17 : decode cX4_merge 17 = .ok (.istore 6, 2) := by decide +kernel
theorem dX4_merge_19 : decode cX4_merge 19 = .ok (.iload 6, 2) := by decide +kernel
theorem dX4_merge_21 : decode cX4_merge 21 = .ok (.bipush 8, 2) := by decide +kernel
theorem dX4_merge_23 : decode cX4_merge 23 = .ok (.if_icmp .ge 39, 3) := by decide +kernel
theorem dX4_merge_26 : decode cX4_merge 26 = .ok (.iload_n 3, 1) := by decide +kernel
theorem dX4_merge_27 : decode cX4_merge 27 = .ok (.iload 4, 2) := by decide +kernel
theorem dX4_merge_29 : decode cX4_merge 29 = .ok (.if_icmp .eq 33, 3) := by decide +kernel
theorem dX4_merge_32 : decode cX4_merge 32 = .ok (.iload_n 0, 1) := by decide +kernel
theorem dX4_merge_33 : decode cX4_merge 33 = .ok (.iload 6, 2) := by decide +kernel
theorem dX4_merge_35 : decode cX4_merge 35 = .ok (.invokestatic 76, 3) := by decide +kernel
theorem dX4_merge_38 : decode cX4_merge 38 = .ok (.iload_n 3, 1) := by decide +kernel
theorem dX4_merge_39 : decode cX4_merge 39 = .ok (.if_icmp .ne 17, 3) := by decide +kernel
theorem dX4_merge_42 : decode cX4_merge 42 = .ok (.iload 5, 2) := by decide +kernel
theorem dX4_merge_44 : decode cX4_merge 44 = .ok (.iload_n 3, 1) := by decide +kernel
theorem dX4_merge_45 : decode cX4_merge 45 = .ok (.iload 4, 2) := by decide +kernel
theorem dX4_merge_47 : decode cX4_merge 47 = .ok (.ixor, 1) := by decide +kernel
theorem dX4_merge_48 : decode cX4_merge 48 = .ok (.iconst 4, 1) := by decide +kernel
theorem dX4_merge_49 : decode cX4_merge 49 = .ok (.iload 6, 2) := by decide +kernel
theorem dX4_merge_51 : decode cX4_merge 51 = .ok (.imul, 1) := by decide +kernel
theorem dX4_merge_52 : decode cX4_merge 52 = .ok (.ishl, 1) := by decide +kernel
theorem dX4_merge_53 : decode cX4_merge 53 = .ok (.ixor, 1) := by decide +kernel
theorem dX4_merge_54 : decode cX4_merge 54 = .ok (.istore 5, 2) := by decide +kernel
theorem dX4_merge_56 : decode cX4_merge 56 = .ok (.iinc 6 1, 3) := by decide +kernel
theorem dX4_merge_59 : decode cX4_merge 59 = .ok (.goto (-40), 3) := by decide +kernel
theorem dX4_merge_62 : decode cX4_merge 62 = .ok (.iload 5, 2) := by decide +kernel
theorem dX4_merge_64 : decode cX4_merge 64 = .ok (.ireturn, 1) := by decide +kernel
end
section
set_option maxRecDepth 20000 in
theorem ggX6_init_X4_init : GoodIn wsX6_init wsX4_init := goodIn_r _ [12, 13, 2, 3, 4, 14, 15, 16, 17, 18, 38, 39, 40, 41, 42, 43, 44] (by decide +kernel) (by decide +kernel)
set_option maxRecDepth 20000 in
theorem gX6_init_X4_init_n22 : GoodIn wsX6_init (wsX4_init) := ggX6_init_X4_init
set_option maxRecDepth 20000 in
theorem ggX6_init_X6_beginWith : GoodIn wsX6_init wsX6_beginWith := goodIn_r _ [23, 24, 25, 26, 27, 5, 28, 29, 30, 31, 32, 33, 34, 35, 36, 37] (by decide +kernel) (by decide +kernel)
set_option maxRecDepth 20000 in
theorem gX6_init_X6_beginWith : GoodIn wsX6_init (wsV RX6 23 RX6 yX6_beginWith wsX6_beginWith) := goodIn_app (goodIn_of _ (by decide +kernel)) ggX6_init_X6_beginWith
theorem dX6_init_0 : decode cX6_init 0 = .ok (.aload_n 0, 1) := by decide +kernel
theorem dX6_init_1 : decode cX6_init 1 = .ok (.invokespecial 1, 3) := by decide +kernel
theorem dX6_init_4 : decode cX6_init 4 = .ok (.aload_n 0, 1) := by decide +kernel
theorem dX6_init_5 : decode cX6_init 5 = .ok (.bipush 8, 2) := by decide +kernel
theorem dX6_init_7 : decode cX6_init 7 = .ok (.newarray .int, 2) := by decide +kernel
theorem dX6_init_9 : decode cX6_init 9 = .ok (.putfield 9, 3) := by decide +kernel
theorem dX6_init_12 : decode cX6_init 12 = .ok (.aload_n 0, 1) := by decide +kernel
theorem dX6_init_13 : decode cX6_init 13 = .ok (.bipush 10, 2) := by decide +kernel
theorem dX6_init_15 : decode cX6_init 15 = .ok (.anewarray 13, 3) := by decide +kernel
theorem dX6_init_18 : decode cX6_init 18 = .ok (.putfield 15, 3) := by decide +kernel
theorem dX6_init_21 : decode cX6_init 21 = .ok (.aload_n 0, 1) := by decide +kernel
theorem dX6_init_22 : decode cX6_init 22 = .ok (.iconst 2, 1) := by decide +kernel
theorem dX6_init_23 : decode cX6_init 23 = .ok (.anewarray 13, 3) := by decide +kernel
theorem dX6_init_26 : decode cX6_init 26 = .ok (.putfield 19, 3) := by decide +kernel
theorem dX6_init_29 : decode cX6_init 29 = .ok (.iconst 0, 1) := by decide +kernel
theorem dX6_init_30 : decode cX6_init 30 = .ok (.istore_n 1, 1) := by decide +kernel
theorem dX6_init_31 : decode cX6_init 31 = .ok (.iload_n 1, 1) := by decide +kernel
theorem dX6_init_32 : decode cX6_init 32 = .ok (.bipush 10, 2) := by decide +kernel
theorem dX6_init_34 : decode cX6_init 34 = .ok (.if_icmp .ge 22, 3) := by decide +kernel
theorem dX6_init_37 : decode cX6_init 37 = .ok (.aload_n 0, 1) := by decide +kernel
theorem dX6_init_38 : decode cX6_init 38 = .ok (.getfield 15, 3) := by decide +kernel
theorem dX6_init_41 : decode cX6_init 41 = .ok (.iload_n 1, 1) := by decide +kernel
theorem dX6_init_42 : decode cX6_init 42 = .ok (.new 13, 3) := by decide +kernel
theorem dX6_init_45 : decode cX6_init 45 = .ok (.dup, 1) := by decide +kernel
theorem dX6_init_46 : decode cX6_init 46 = .ok (.invokespecial 22, 3) := by decide +kernel
theorem dX6_init_49 : decode cX6_init 49 = .ok (.aastore, 1) := by decide +kernel
theorem dX6_init_50 : decode cX6_init 50 = .ok (.iinc 1 1, 3) := by decide +kernel
theorem dX6_init_53 : decode cX6_init 53 = .ok (.goto (-22), 3) := by decide +kernel
theorem dX6_init_56 : decode cX6_init 56 = .ok (.iconst 0, 1) := by decide +kernel
theorem dX6_init_57 : decode cX6_init 57 = .ok (.istore_n 1, 1) := by decide +kernel
theorem dX6_init_58 : decode cX6_init 58 = .ok (.iload_n 1, 1) := by decide +kernel
theorem dX6_init_59 : decode cX6_init 59 = .ok (.aload_n 0, 1) := by decide +kernel
theorem dX6_init_60 : decode cX6_init 60 = .ok (.getfield 19, 3) := by decide +kernel
theorem dX6_init_63 : decode cX6_init 63 = .ok (.arraylength, 1) := by decide +kernel
theorem dX6_init_64 : decode cX6_init 64 = .ok (.if_icmp .ge 22, 3) := by decide +kernel
theorem dX6_init_67 : decode cX6_init 67 = .ok (.aload_n 0, 1) := by decide +kernel
theorem dX6_init_68 : decode cX6_init 68 = .ok (.getfield 19, 3) := by decide +kernel
theorem dX6_init_71 : decode cX6_init 71 = .ok (.iload_n 1, 1) := by decide +kernel
theorem dX6_init_72 : decode cX6_init 72 = .ok (.new 13, 3) := by decide +kernel
theorem dX6_init_75 : decode cX6_init 75 = .ok (.dup, 1) := by decide +kernel
theorem dX6_init_76 : decode cX6_init 76 = .ok (.invokespecial 22, 3) := by decide +kernel
theorem dX6_init_79 : decode cX6_init 79 = .ok (.aastore, 1) := by decide +kernel
theorem dX6_init_80 : decode cX6_init 80 = .ok (.iinc 1 1, 3) := by decide +kernel
theorem dX6_init_83 : decode cX6_init 83 = .ok (.goto (-25), 3) := by decide +kernel
theorem dX6_init_86 : decode cX6_init 86 = .ok (.aload_n 0, 1) := by decide +kernel
theorem dX6_init_87 : decode cX6_init 87 = .ok (.iconst 4, 1) := by decide +kernel
theorem dX6_init_88 : decode cX6_init 88 = .ok (.invokevirtual 23, 3) := by decide +kernel
theorem dX6_init_91 : decode cX6_init 91 = .ok (.return_, 1) := by decide +kernel
set_option maxRecDepth 20000 in
theorem ggX6_points_X6_beginWith : GoodIn wsX6_points wsX6_beginWith := goodIn_r _ [6, 7, 1, 8, 9, 10, 11, 12, 13, 14, 15, 16, 17, 18, 19, 20] (by decide +kernel) (by decide +kernel)
set_option maxRecDepth 20000 in
theorem gX6_points_X6_beginWith : GoodIn wsX6_points (wsV RX6 23 RX6 yX6_beginWith wsX6_beginWith) := goodIn_app (goodIn_of _ (by decide +kernel)) ggX6_points_X6_beginWith
theorem dX6_points_0 : decode cX6_points 0 = .ok (.iload_n 1, 1) := by decide +kernel
theorem dX6_points_1 : decode cX6_points 1 = .ok (.iconst 2, 1) := by decide +kernel
theorem dX6_points_2 : decode cX6_points 2 = .ok (.if_icmp .lt 9, 3) := by decide +kernel
theorem dX6_points_5 : decode cX6_points 5 = .ok (.iload_n 1, 1) := by decide +kernel
theorem dX6_points_6 : decode cX6_points 6 = .ok (.bipush 8, 2) := by decide +kernel
theorem dX6_points_8 : decode cX6_points 8 = .ok (.if_icmp .le 6, 3) := by decide +kernel
theorem dX6_points_11 : decode cX6_points 11 = .ok (.bipush (-2), 2) := by decide +kernel
theorem dX6_points_13 : decode cX6_points 13 = .ok (.ireturn, 1) := by decide +kernel
theorem dX6_points_14 : decode cX6_points 14 = .ok (.aload_n 0, 1) := by decide +kernel
theorem dX6_points_15 : decode cX6_points 15 = .ok (.getfield 27, 3) := by decide +kernel
theorem dX6_points_18 : decode cX6_points 18 = .ok (.istore_n 2, 1) := by decide +kernel
theorem dX6_points_19 : decode cX6_points 19 = .ok (.aload_n 0, 1) := by decide +kernel
theorem dX6_points_20 : decode cX6_points 20 = .ok (.iload_n 1, 1) := by decide +kernel
theorem dX6_points_21 : decode cX6_points 21 = .ok (.invokevirtual 23, 3) := by decide +kernel
theorem dX6_points_24 : decode cX6_points 24 = .ok (.iload_n 2, 1) := by decide +kernel
theorem dX6_points_25 : decode cX6_points 25 = .ok (.ireturn, 1) := by decide +kernel
set_option maxRecDepth 20000 in
theorem ggX6_turn_X6_tellsTurn : GoodIn wsX6_turn wsX6_tellsTurn := goodIn_r _ [8, 2, 9, 10, 11, 12, 7, 13, 14, 15, 16, 17, 18, 19, 20, 21, 22, 23, 24, 25, 26] (by decide +kernel) (by decide +kernel)
set_option maxRecDepth 20000 in
theorem gX6_turn_X6_tellsTurn : GoodIn wsX6_turn (wsV RX6 31 RX6 yX6_tellsTurn wsX6_tellsTurn) := goodIn_app (goodIn_of _ (by decide +kernel)) ggX6_turn_X6_tellsTurn
set_option maxRecDepth 20000 in
theorem ggX6_turn_X6_ownBits : GoodIn wsX6_turn wsX6_ownBits := goodIn_r _ [13, 9, 21, 22, 23, 24, 25, 26] (by decide +kernel) (by decide +kernel)
set_option maxRecDepth 20000 in
theorem gX6_turn_X6_ownBits : GoodIn wsX6_turn (wsV RX6 37 RX6 yX6_ownBits wsX6_ownBits) := goodIn_app (goodIn_of _ (by decide +kernel)) ggX6_turn_X6_ownBits
theorem dX6_turn_0 : decode cX6_turn 0 = .ok (.aload_n 0, 1) := by decide +kernel
theorem dX6_turn_1 : decode cX6_turn 1 = .ok (.lload_n 1, 1) := by decide +kernel
theorem dX6_turn_2 : decode cX6_turn 2 = .ok (.invokevirtual 31, 3) := by decide +kernel
theorem dX6_turn_5 : decode cX6_turn 5 = .ok (.ifCond .ne 6, 3) := by decide +kernel
theorem dX6_turn_8 : decode cX6_turn 8 = .ok (.bipush (-2), 2) := by decide +kernel
theorem dX6_turn_10 : decode cX6_turn 10 = .ok (.ireturn, 1) := by decide +kernel
theorem dX6_turn_11 : decode cX6_turn 11 = .ok (.ldc2_w 35, 3) := by decide +kernel
theorem dX6_turn_14 : decode cX6_turn 14 = .ok (.aload_n 0, 1) := by decide +kernel
theorem dX6_turn_15 : decode cX6_turn 15 = .ok (.invokevirtual 37, 3) := by decide +kernel
theorem dX6_turn_18 : decode cX6_turn 18 = .ok (.ldc2_w 41, 3) := by decide +kernel
theorem dX6_turn_21 : decode cX6_turn 21 = .ok (.lxor, 1) := by decide +kernel
theorem dX6_turn_22 : decode cX6_turn 22 = .ok (.land, 1) := by decide +kernel
theorem dX6_turn_23 : decode cX6_turn 23 = .ok (.lstore_n 3, 1) := by decide +kernel
theorem dX6_turn_24 : decode cX6_turn 24 = .ok (.aload_n 0, 1) := by decide +kernel
theorem dX6_turn_25 : decode cX6_turn 25 = .ok (.lload_n 1, 1) := by decide +kernel
theorem dX6_turn_26 : decode cX6_turn 26 = .ok (.lload_n 3, 1) := by decide +kernel
theorem dX6_turn_27 : decode cX6_turn 27 = .ok (.lor, 1) := by decide +kernel
theorem dX6_turn_28 : decode cX6_turn 28 = .ok (.l2i, 1) := by decide +kernel
theorem dX6_turn_29 : decode cX6_turn 29 = .ok (.putfield 43, 3) := by decide +kernel
theorem dX6_turn_32 : decode cX6_turn 32 = .ok (.iconst 1, 1) := by decide +kernel
theorem dX6_turn_33 : decode cX6_turn 33 = .ok (.ireturn, 1) := by decide +kernel
set_option maxRecDepth 20000 in
theorem ggX6_told_X6_ownBits : GoodIn wsX6_told wsX6_ownBits := goodIn_r _ [6, 7, 8, 9, 10, 11, 12, 13] (by decide +kernel) (by decide +kernel)
set_option maxRecDepth 20000 in
theorem gX6_told_X6_ownBits : GoodIn wsX6_told (wsV RX6 37 RX6 yX6_ownBits wsX6_ownBits) := goodIn_app (goodIn_of _ (by decide +kernel)) ggX6_told_X6_ownBits
theorem dX6_told_0 : decode cX6_told 0 = .ok (.aload_n 0, 1) := by decide +kernel
theorem dX6_told_1 : decode cX6_told 1 = .ok (.getfield 43, 3) := by decide +kernel
theorem dX6_told_4 : decode cX6_told 4 = .ok (.i2l, 1) := by decide +kernel
theorem dX6_told_5 : decode cX6_told 5 = .ok (.aload_n 0, 1) := by decide +kernel
theorem dX6_told_6 : decode cX6_told 6 = .ok (.invokevirtual 37, 3) := by decide +kernel
theorem dX6_told_9 : decode cX6_told 9 = .ok (.land, 1) := by decide +kernel
theorem dX6_told_10 : decode cX6_told 10 = .ok (.lreturn, 1) := by decide +kernel
set_option maxRecDepth 20000 in
theorem ggX6_to_X6_isPoint : GoodIn wsX6_to wsX6_isPoint := goodIn_r _ [6, 7, 11, 12, 13, 14, 15, 16] (by decide +kernel) (by decide +kernel)
set_option maxRecDepth 20000 in
theorem gX6_to_X6_isPoint : GoodIn wsX6_to (wsV RX6 46 RX6 yX6_isPoint wsX6_isPoint) := goodIn_app (goodIn_of _ (by decide +kernel)) ggX6_to_X6_isPoint
set_option maxRecDepth 20000 in
theorem ggX6_to_X6_image : GoodIn wsX6_to wsX6_image := goodIn_r _ [10] (by decide +kernel) (by decide +kernel)
set_option maxRecDepth 20000 in
theorem gX6_to_X6_image : GoodIn wsX6_to (va_wsS RX6 50 yX6_image wsX6_image) := goodIn_app (goodIn_of _ (by decide +kernel)) ggX6_to_X6_image
theorem dX6_to_0 : decode cX6_to 0 = .ok (.aload_n 0, 1) := by decide +kernel
theorem dX6_to_1 : decode cX6_to 1 = .ok (.iload_n 1, 1) := by decide +kernel
theorem dX6_to_2 : decode cX6_to 2 = .ok (.invokevirtual 46, 3) := by decide +kernel
theorem dX6_to_5 : decode cX6_to 5 = .ok (.ifCond .eq 14, 3) := by decide +kernel
theorem dX6_to_8 : decode cX6_to 8 = .ok (.aload_n 0, 1) := by decide +kernel
theorem dX6_to_9 : decode cX6_to 9 = .ok (.getfield 43, 3) := by decide +kernel
theorem dX6_to_12 : decode cX6_to 12 = .ok (.iload_n 1, 1) := by decide +kernel
theorem dX6_to_13 : decode cX6_to 13 = .ok (.invokestatic 50, 3) := by decide +kernel
theorem dX6_to_16 : decode cX6_to 16 = .ok (.goto 5, 3) := by decide +kernel
theorem dX6_to_19 : decode cX6_to 19 = .ok (.bipush (-2), 2) := by decide +kernel
theorem dX6_to_21 : decode cX6_to 21 = .ok (.ireturn, 1) := by decide +kernel
set_option maxRecDepth 20000 in
theorem ggX6_lay_X6_isShelfPlace : GoodIn wsX6_lay wsX6_isShelfPlace := goodIn_r _ [6] (by decide +kernel) (by decide +kernel)
set_option maxRecDepth 20000 in
theorem gX6_lay_X6_isShelfPlace : GoodIn wsX6_lay (va_wsS RX6 54 yX6_isShelfPlace wsX6_isShelfPlace) := goodIn_app (goodIn_of _ (by decide +kernel)) ggX6_lay_X6_isShelfPlace
theorem dX6_lay_0 : decode cX6_lay 0 = .ok (.iload_n 1, 1) := by decide +kernel
theorem dX6_lay_1 : decode cX6_lay 1 = .ok (.invokestatic 54, 3) := by decide +kernel
theorem dX6_lay_4 : decode cX6_lay 4 = .ok (.ifCond .ne 6, 3) := by decide +kernel
theorem dX6_lay_7 : decode cX6_lay 7 = .ok (.bipush (-2), 2) := by decide +kernel
theorem dX6_lay_9 : decode cX6_lay 9 = .ok (.ireturn, 1) := by decide +kernel
theorem dX6_lay_10 : decode cX6_lay 10 = .ok (.aload_n 0, 1) := by decide +kernel
theorem dX6_lay_11 : decode cX6_lay 11 = .ok (.getfield 9, 3) := by decide +kernel
theorem dX6_lay_14 : decode cX6_lay 14 = .ok (.iload_n 1, 1) := by decide +kernel
theorem dX6_lay_15 : decode cX6_lay 15 = .ok (.aload_n 0, 1) := by decide +kernel
theorem dX6_lay_16 : decode cX6_lay 16 = .ok (.getfield 43, 3) := by decide +kernel
theorem dX6_lay_19 : decode cX6_lay 19 = .ok (.iastore, 1) := by decide +kernel
theorem dX6_lay_20 : decode cX6_lay 20 = .ok (.iconst 1, 1) := by decide +kernel
theorem dX6_lay_21 : decode cX6_lay 21 = .ok (.ireturn, 1) := by decide +kernel
set_option maxRecDepth 20000 in
theorem ggX6_take_X6_isShelfPlace : GoodIn wsX6_take wsX6_isShelfPlace := goodIn_r _ [6] (by decide +kernel) (by decide +kernel)
set_option maxRecDepth 20000 in
theorem gX6_take_X6_isShelfPlace : GoodIn wsX6_take (va_wsS RX6 54 yX6_isShelfPlace wsX6_isShelfPlace) := goodIn_app (goodIn_of _ (by decide +kernel)) ggX6_take_X6_isShelfPlace
theorem dX6_take_0 : decode cX6_take 0 = .ok (.iload_n 1, 1) := by decide +kernel
theorem dX6_take_1 : decode cX6_take 1 = .ok (.invokestatic 54, 3) := by decide +kernel
theorem dX6_take_4 : decode cX6_take 4 = .ok (.ifCond .ne 6, 3) := by decide +kernel
theorem dX6_take_7 : decode cX6_take 7 = .ok (.bipush (-2), 2) := by decide +kernel
theorem dX6_take_9 : decode cX6_take 9 = .ok (.ireturn, 1) := by decide +kernel
theorem dX6_take_10 : decode cX6_take 10 = .ok (.aload_n 0, 1) := by decide +kernel
theorem dX6_take_11 : decode cX6_take 11 = .ok (.aload_n 0, 1) := by decide +kernel
theorem dX6_take_12 : decode cX6_take 12 = .ok (.getfield 9, 3) := by decide +kernel
theorem dX6_take_15 : decode cX6_take 15 = .ok (.iload_n 1, 1) := by decide +kernel
theorem dX6_take_16 : decode cX6_take 16 = .ok (.iaload, 1) := by decide +kernel
theorem dX6_take_17 : decode cX6_take 17 = .ok (.putfield 43, 3) := by decide +kernel
theorem dX6_take_20 : decode cX6_take 20 = .ok (.iconst 1, 1) := by decide +kernel
theorem dX6_take_21 : decode cX6_take 21 = .ok (.ireturn, 1) := by decide +kernel
set_option maxRecDepth 20000 in
theorem ggX6_then_X6_isShelfPlace : GoodIn wsX6_then wsX6_isShelfPlace := goodIn_r _ [6] (by decide +kernel) (by decide +kernel)
set_option maxRecDepth 20000 in
theorem gX6_then_X6_isShelfPlace : GoodIn wsX6_then (va_wsS RX6 54 yX6_isShelfPlace wsX6_isShelfPlace) := goodIn_app (goodIn_of _ (by decide +kernel)) ggX6_then_X6_isShelfPlace
set_option maxRecDepth 20000 in
theorem ggX6_then_X6_chain : GoodIn wsX6_then wsX6_chain := goodIn_r _ [9] (by decide +kernel) (by decide +kernel)
set_option maxRecDepth 20000 in
theorem gX6_then_X6_chain : GoodIn wsX6_then (va_wsS RX6 57 yX6_chain wsX6_chain) := goodIn_app (goodIn_of _ (by decide +kernel)) ggX6_then_X6_chain
theorem dX6_then_0 : decode cX6_then 0 = .ok (.iload_n 1, 1) := by decide +kernel
theorem dX6_then_1 : decode cX6_then 1 = .ok (.invokestatic 54, 3) := by decide +kernel
theorem dX6_then_4 : decode cX6_then 4 = .ok (.ifCond .ne 6, 3) := by decide +kernel
theorem dX6_then_7 : decode cX6_then 7 = .ok (.bipush (-2), 2) := by decide +kernel
theorem dX6_then_9 : decode cX6_then 9 = .ok (.ireturn, 1) := by decide +kernel
theorem dX6_then_10 : decode cX6_then 10 = .ok (.aload_n 0, 1) := by decide +kernel
theorem dX6_then_11 : decode cX6_then 11 = .ok (.aload_n 0, 1) := by decide +kernel
theorem dX6_then_12 : decode cX6_then 12 = .ok (.getfield 43, 3) := by decide +kernel
theorem dX6_then_15 : decode cX6_then 15 = .ok (.aload_n 0, 1) := by decide +kernel
theorem dX6_then_16 : decode cX6_then 16 = .ok (.getfield 9, 3) := by decide +kernel
theorem dX6_then_19 : decode cX6_then 19 = .ok (.iload_n 1, 1) := by decide +kernel
theorem dX6_then_20 : decode cX6_then 20 = .ok (.iaload, 1) := by decide +kernel
theorem dX6_then_21 : decode cX6_then 21 = .ok (.invokestatic 57, 3) := by decide +kernel
theorem dX6_then_24 : decode cX6_then 24 = .ok (.putfield 43, 3) := by decide +kernel
theorem dX6_then_27 : decode cX6_then 27 = .ok (.iconst 1, 1) := by decide +kernel
theorem dX6_then_28 : decode cX6_then 28 = .ok (.ireturn, 1) := by decide +kernel
set_option maxRecDepth 20000 in
theorem ggX6_back_X6_timesToOne : GoodIn wsX6_back wsX6_timesToOne := goodIn_r _ [5, 6, 7, 8, 4, 9] (by decide +kernel) (by decide +kernel)
set_option maxRecDepth 20000 in
theorem gX6_back_X6_timesToOne : GoodIn wsX6_back (va_wsS RX6 60 yX6_timesToOne wsX6_timesToOne) := goodIn_app (goodIn_of _ (by decide +kernel)) ggX6_back_X6_timesToOne
set_option maxRecDepth 20000 in
theorem ggX6_back_X6_reverse : GoodIn wsX6_back wsX6_reverse := goodIn_r _ [12] (by decide +kernel) (by decide +kernel)
set_option maxRecDepth 20000 in
theorem gX6_back_X6_reverse : GoodIn wsX6_back (va_wsS RX6 64 yX6_reverse wsX6_reverse) := goodIn_app (goodIn_of _ (by decide +kernel)) ggX6_back_X6_reverse
theorem dX6_back_0 : decode cX6_back 0 = .ok (.aload_n 0, 1) := by decide +kernel
theorem dX6_back_1 : decode cX6_back 1 = .ok (.getfield 43, 3) := by decide +kernel
theorem dX6_back_4 : decode cX6_back 4 = .ok (.invokestatic 60, 3) := by decide +kernel
theorem dX6_back_7 : decode cX6_back 7 = .ok (.istore_n 1, 1) := by decide +kernel
theorem dX6_back_8 : decode cX6_back 8 = .ok (.aload_n 0, 1) := by decide +kernel
theorem dX6_back_9 : decode cX6_back 9 = .ok (.aload_n 0, 1) := by decide +kernel
theorem dX6_back_10 : decode cX6_back 10 = .ok (.getfield 43, 3) := by decide +kernel
theorem dX6_back_13 : decode cX6_back 13 = .ok (.invokestatic 64, 3) := by decide +kernel
theorem dX6_back_16 : decode cX6_back 16 = .ok (.putfield 43, 3) := by decide +kernel
theorem dX6_back_19 : decode cX6_back 19 = .ok (.iload_n 1, 1) := by decide +kernel
theorem dX6_back_20 : decode cX6_back 20 = .ok (.ireturn, 1) := by decide +kernel
set_option maxRecDepth 20000 in
theorem ggX6_power_X6_reverse : GoodIn wsX6_power wsX6_reverse := goodIn_r _ [10] (by decide +kernel) (by decide +kernel)
set_option maxRecDepth 20000 in
theorem gX6_power_X6_reverse : GoodIn wsX6_power (va_wsS RX6 64 yX6_reverse wsX6_reverse) := goodIn_app (goodIn_of _ (by decide +kernel)) ggX6_power_X6_reverse
set_option maxRecDepth 20000 in
theorem ggX6_power_X6_chain : GoodIn wsX6_power wsX6_chain := goodIn_r _ [13] (by decide +kernel) (by decide +kernel)
set_option maxRecDepth 20000 in
theorem gX6_power_X6_chain : GoodIn wsX6_power (va_wsS RX6 57 yX6_chain wsX6_chain) := goodIn_app (goodIn_of _ (by decide +kernel)) ggX6_power_X6_chain
set_option maxRecDepth 20000 in
theorem ggX6_power_X6_truth : GoodIn wsX6_power wsX6_truth := goodIn_r _ [16] (by decide +kernel) (by decide +kernel)
set_option maxRecDepth 20000 in
theorem gX6_power_X6_truth : GoodIn wsX6_power (va_wsS RX6 74 yX6_truth wsX6_truth) := goodIn_app (goodIn_of _ (by decide +kernel)) ggX6_power_X6_truth
theorem dX6_power_0 : decode cX6_power 0 = .ok (.iload_n 1, 1) := by decide +kernel
theorem dX6_power_1 : decode cX6_power 1 = .ok (.i2l, 1) := by decide +kernel
theorem dX6_power_2 : decode cX6_power 2 = .ok (.invokestatic 67, 3) := by decide +kernel
theorem dX6_power_5 : decode cX6_power 5 = .ok (.lstore_n 2, 1) := by decide +kernel
theorem dX6_power_6 : decode cX6_power 6 = .ok (.iload_n 1, 1) := by decide +kernel
theorem dX6_power_7 : decode cX6_power 7 = .ok (.ifCond .ge 13, 3) := by decide +kernel
theorem dX6_power_10 : decode cX6_power 10 = .ok (.aload_n 0, 1) := by decide +kernel
theorem dX6_power_11 : decode cX6_power 11 = .ok (.getfield 43, 3) := by decide +kernel
theorem dX6_power_14 : decode cX6_power 14 = .ok (.invokestatic 64, 3) := by decide +kernel
theorem dX6_power_17 : decode cX6_power 17 = .ok (.goto 7, 3) := by decide +kernel
theorem dX6_power_20 : decode cX6_power 20 = .ok (.aload_n 0, 1) := by decide +kernel
theorem dX6_power_21 : decode cX6_power 21 = .ok (.getfield 43, 3) := by decide +kernel
theorem dX6_power_24 : decode cX6_power 24 = .ok (.istore 4, 2) := by decide +kernel
theorem dX6_power_26 : decode cX6_power 26 = .ok (.ldc 73, 2) := by decide +kernel
theorem dX6_power_28 : decode cX6_power 28 = .ok (.istore 5, 2) := by decide +kernel
theorem dX6_power_30 : decode cX6_power 30 = .ok (.lload_n 2, 1) := by decide +kernel
theorem dX6_power_31 : decode cX6_power 31 = .ok (.lstore 6, 2) := by decide +kernel
theorem dX6_power_33 : decode cX6_power 33 = .ok (.lload 6, 2) := by decide +kernel
theorem dX6_power_35 : decode cX6_power 35 = .ok (.lconst 0, 1) := by decide +kernel
theorem dX6_power_36 : decode cX6_power 36 = .ok (.lcmp, 1) := by decide +kernel
theorem dX6_power_37 : decode cX6_power 37 = .ok (.ifCond .le 39, 3) := by decide +kernel
theorem dX6_power_40 : decode cX6_power 40 = .ok (.lload 6, 2) := by decide +kernel
theorem dX6_power_42 : decode cX6_power 42 = .ok (.lconst 1, 1) := by decide +kernel
theorem dX6_power_43 : decode cX6_power 43 = .ok (.land, 1) := by decide +kernel
theorem dX6_power_44 : decode cX6_power 44 = .ok (.lconst 1, 1) := by decide +kernel
theorem dX6_power_45 : decode cX6_power 45 = .ok (.lcmp, 1) := by decide +kernel
theorem dX6_power_46 : decode cX6_power 46 = .ok (.ifCond .ne 12, 3) := by decide +kernel
theorem dX6_power_49 : decode cX6_power 49 = .ok (.iload 5, 2) := by decide +kernel
theorem dX6_power_51 : decode cX6_power 51 = .ok (.iload 4, 2) := by decide +kernel
theorem dX6_power_53 : decode cX6_power 53 = .ok (.invokestatic 57, 3) := by decide +kernel
theorem dX6_power_56 : decode cX6_power 56 = .ok (.istore 5, 2) := by decide +kernel
theorem dX6_power_58 : decode cX6_power 58 = .ok (.iload 4, 2) := by decide +kernel
theorem dX6_power_60 : decode cX6_power 60 = .ok (.iload 4, 2) := by decide +kernel
theorem dX6_power_62 : decode cX6_power 62 = .ok (.invokestatic 57, 3) := by decide +kernel
theorem dX6_power_65 : decode cX6_power 65 = .ok (.istore 4, 2) := by decide +kernel
theorem dX6_power_67 : decode cX6_power 67 = .ok (.lload 6, 2) := by decide +kernel
theorem dX6_power_69 : decode cX6_power 69 = .ok (.iconst 1, 1) := by decide +kernel
theorem dX6_power_70 : decode cX6_power 70 = .ok (.lshr, 1) := by decide +kernel
theorem dX6_power_71 : decode cX6_power 71 = .ok (.lstore 6, 2) := by decide +kernel
theorem dX6_power_73 : decode cX6_power 73 = .ok (.goto (-40), 3) := by decide +kernel
theorem dX6_power_76 : decode cX6_power 76 = .ok (.aload_n 0, 1) := by decide +kernel
theorem dX6_power_77 : decode cX6_power 77 = .ok (.iload 5, 2) := by decide +kernel
theorem dX6_power_79 : decode cX6_power 79 = .ok (.putfield 43, 3) := by decide +kernel
theorem dX6_power_82 : decode cX6_power 82 = .ok (.iload 5, 2) := by decide +kernel
theorem dX6_power_84 : decode cX6_power 84 = .ok (.ldc 73, 2) := by decide +kernel
theorem dX6_power_86 : decode cX6_power 86 = .ok (.if_icmp .ne 7, 3) := by decide +kernel
theorem dX6_power_89 : decode cX6_power 89 = .ok (.iconst 1, 1) := by decide +kernel
theorem dX6_power_90 : decode cX6_power 90 = .ok (.goto 4, 3) := by decide +kernel
theorem dX6_power_93 : decode cX6_power 93 = .ok (.iconst 0, 1) := by decide +kernel
theorem dX6_power_94 : decode cX6_power 94 = .ok (.invokestatic 74, 3) := by decide +kernel
theorem dX6_power_97 : decode cX6_power 97 = .ok (.ireturn, 1) := by decide +kernel
set_option maxRecDepth 20000 in
theorem ggX6_group_X6_isFull : GoodIn wsX6_group wsX6_isFull := goodIn_r _ [7, 2, 63, 64, 65, 66, 67, 68] (by decide +kernel) (by decide +kernel)
set_option maxRecDepth 20000 in
theorem gX6_group_X6_isFull : GoodIn wsX6_group (wsV RX6 78 RX6 yX6_isFull wsX6_isFull) := goodIn_app (goodIn_of _ (by decide +kernel)) ggX6_group_X6_isFull
set_option maxRecDepth 20000 in
theorem ggX6_group_X4_clear : GoodIn wsX6_group wsX4_clear := goodIn_r _ [12, 13, 14, 15, 69, 70, 71, 72, 73, 74, 75] (by decide +kernel) (by decide +kernel)
set_option maxRecDepth 20000 in
theorem gX6_group_X4_clear : GoodIn wsX6_group (wsV RX6 82 RX4 yX4_clear wsX4_clear) := goodIn_app (goodIn_of _ (by decide +kernel)) ggX6_group_X4_clear
set_option maxRecDepth 20000 in
theorem ggX6_group_X6_joinSwaps : GoodIn wsX6_group wsX6_joinSwaps := goodIn_r _ [19, 20, 21, 22, 6, 23, 24, 25, 26, 27, 11, 28, 14, 15, 29, 30, 31, 32, 33, 34, 35, 36, 13, 37, 38, 39, 40, 41, 42, 43, 44, 45, 46, 47, 48, 49, 50, 51, 52, 53, 54, 55, 56, 57, 63, 64, 65, 66, 67, 68, 69, 70, 71, 72, 73, 74, 75] (by decide +kernel) (by decide +kernel)
set_option maxRecDepth 20000 in
theorem gX6_group_X6_joinSwaps : GoodIn wsX6_group (wsV RX6 85 RX6 yX6_joinSwaps wsX6_joinSwaps) := goodIn_app (goodIn_of _ (by decide +kernel)) ggX6_group_X6_joinSwaps
set_option maxRecDepth 20000 in
theorem ggX6_group_X6_joinThreeCycles : GoodIn wsX6_group wsX6_joinThreeCycles := goodIn_r _ [61, 20, 21, 22, 6, 23, 24, 62, 49, 50, 25, 26, 27, 11, 28, 14, 15, 29, 30, 31, 32, 33, 34, 35, 36, 13, 37, 38, 39, 40, 41, 42, 43, 44, 45, 46, 47, 48, 51, 52, 53, 54, 55, 56, 57, 63, 64, 65, 66, 67, 68, 69, 70, 71, 72, 73, 74, 75] (by decide +kernel) (by decide +kernel)
set_option maxRecDepth 20000 in
theorem gX6_group_X6_joinThreeCycles : GoodIn wsX6_group (wsV RX6 89 RX6 yX6_joinThreeCycles wsX6_joinThreeCycles) := goodIn_app (goodIn_of _ (by decide +kernel)) ggX6_group_X6_joinThreeCycles
theorem dX6_group_0 : decode cX6_group 0 = .ok (.iload_n 1, 1) := by decide +kernel
theorem dX6_group_1 : decode cX6_group 1 = .ok (.ifCond .lt 8, 3) := by decide +kernel
theorem dX6_group_4 : decode cX6_group 4 = .ok (.iload_n 1, 1) := by decide +kernel
theorem dX6_group_5 : decode cX6_group 5 = .ok (.iconst 2, 1) := by decide +kernel
theorem dX6_group_6 : decode cX6_group 6 = .ok (.if_icmp .le 6, 3) := by decide +kernel
theorem dX6_group_9 : decode cX6_group 9 = .ok (.bipush (-2), 2) := by decide +kernel
theorem dX6_group_11 : decode cX6_group 11 = .ok (.ireturn, 1) := by decide +kernel
theorem dX6_group_12 : decode cX6_group 12 = .ok (.aload_n 0, 1) := by decide +kernel
theorem dX6_group_13 : decode cX6_group 13 = .ok (.invokevirtual 78, 3) := by decide +kernel
theorem dX6_group_16 : decode cX6_group 16 = .ok (.ifCond .eq 6, 3) := by decide +kernel
theorem dX6_group_19 : decode cX6_group 19 = .ok (.bipush (-3), 2) := by decide +kernel
theorem dX6_group_21 : decode cX6_group 21 = .ok (.ireturn, 1) := by decide +kernel
theorem dX6_group_22 : decode cX6_group 22 = .ok (.aload_n 0, 1) := by decide +kernel
theorem dX6_group_23 : decode cX6_group 23 = .ok (.getfield 15, 3) := by decide +kernel
theorem dX6_group_26 : decode cX6_group 26 = .ok (.aload_n 0, 1) := by decide +kernel
theorem dX6_group_27 : decode cX6_group 27 = .ok (.getfield 27, 3) := by decide +kernel
theorem dX6_group_30 : decode cX6_group 30 = .ok (.aaload, 1) := by decide +kernel
theorem dX6_group_31 : decode cX6_group 31 = .ok (.astore_n 2, 1) := by decide +kernel
theorem dX6_group_32 : decode cX6_group 32 = .ok (.aload_n 2, 1) := by decide +kernel
theorem dX6_group_33 : decode cX6_group 33 = .ok (.invokevirtual 82, 3) := by decide +kernel
theorem dX6_group_36 : decode cX6_group 36 = .ok (.iload_n 1, 1) := by decide +kernel
theorem dX6_group_37 : decode cX6_group 37 = .ok (.iconst 1, 1) := by decide +kernel
theorem dX6_group_38 : decode cX6_group 38 = .ok (.if_icmp .ne 11, 3) := by decide +kernel
theorem dX6_group_41 : decode cX6_group 41 = .ok (.aload_n 0, 1) := by decide +kernel
theorem dX6_group_42 : decode cX6_group 42 = .ok (.aload_n 2, 1) := by decide +kernel
theorem dX6_group_43 : decode cX6_group 43 = .ok (.invokevirtual 85, 3) := by decide +kernel
theorem dX6_group_46 : decode cX6_group 46 = .ok (.goto 13, 3) := by decide +kernel
theorem dX6_group_49 : decode cX6_group 49 = .ok (.iload_n 1, 1) := by decide +kernel
theorem dX6_group_50 : decode cX6_group 50 = .ok (.iconst 2, 1) := by decide +kernel
theorem dX6_group_51 : decode cX6_group 51 = .ok (.if_icmp .ne 8, 3) := by decide +kernel
theorem dX6_group_54 : decode cX6_group 54 = .ok (.aload_n 0, 1) := by decide +kernel
theorem dX6_group_55 : decode cX6_group 55 = .ok (.aload_n 2, 1) := by decide +kernel
theorem dX6_group_56 : decode cX6_group 56 = .ok (.invokevirtual 89, 3) := by decide +kernel
theorem dX6_group_59 : decode cX6_group 59 = .ok (.aload_n 0, 1) := by decide +kernel
theorem dX6_group_60 : decode cX6_group 60 = .ok (.dup, 1) := by decide +kernel
theorem dX6_group_61 : decode cX6_group 61 = .ok (.getfield 27, 3) := by decide +kernel
theorem dX6_group_64 : decode cX6_group 64 = .ok (.dup_x1, 1) := by decide +kernel
theorem dX6_group_65 : decode cX6_group 65 = .ok (.iconst 1, 1) := by decide +kernel
theorem dX6_group_66 : decode cX6_group 66 = .ok (.iadd, 1) := by decide +kernel
theorem dX6_group_67 : decode cX6_group 67 = .ok (.putfield 27, 3) := by decide +kernel
theorem dX6_group_70 : decode cX6_group 70 = .ok (.ireturn, 1) := by decide +kernel
set_option maxRecDepth 20000 in
theorem ggX6_add_X6_isGroup : GoodIn wsX6_add wsX6_isGroup := goodIn_r _ [7, 8, 49, 50, 51, 52, 53, 54] (by decide +kernel) (by decide +kernel)
set_option maxRecDepth 20000 in
theorem gX6_add_X6_isGroup : GoodIn wsX6_add (wsV RX6 92 RX6 yX6_isGroup wsX6_isGroup) := goodIn_app (goodIn_of _ (by decide +kernel)) ggX6_add_X6_isGroup
set_option maxRecDepth 20000 in
theorem ggX6_add_X4_join : GoodIn wsX6_add wsX4_join := goodIn_r _ [13, 14, 15, 16, 17, 18, 19, 12, 20, 21, 22, 23, 24, 25, 26, 6, 27, 28, 29, 30, 31, 32, 33, 34, 35, 36, 37, 38, 39, 40, 41, 42, 43, 44, 45, 55, 56, 57, 58, 59, 60, 61] (by decide +kernel) (by decide +kernel)
set_option maxRecDepth 20000 in
theorem gX6_add_X4_join : GoodIn wsX6_add (wsV RX6 95 RX4 yX4_join wsX4_join) := goodIn_app (goodIn_of _ (by decide +kernel)) ggX6_add_X4_join
set_option maxRecDepth 20000 in
theorem ggX6_add_X6_truth : GoodIn wsX6_add wsX6_truth := goodIn_r _ [48] (by decide +kernel) (by decide +kernel)
set_option maxRecDepth 20000 in
theorem gX6_add_X6_truth : GoodIn wsX6_add (va_wsS RX6 74 yX6_truth wsX6_truth) := goodIn_app (goodIn_of _ (by decide +kernel)) ggX6_add_X6_truth
theorem dX6_add_0 : decode cX6_add 0 = .ok (.aload_n 0, 1) := by decide +kernel
theorem dX6_add_1 : decode cX6_add 1 = .ok (.iload_n 1, 1) := by decide +kernel
theorem dX6_add_2 : decode cX6_add 2 = .ok (.invokevirtual 92, 3) := by decide +kernel
theorem dX6_add_5 : decode cX6_add 5 = .ok (.ifCond .ne 6, 3) := by decide +kernel
theorem dX6_add_8 : decode cX6_add 8 = .ok (.bipush (-2), 2) := by decide +kernel
theorem dX6_add_10 : decode cX6_add 10 = .ok (.ireturn, 1) := by decide +kernel
theorem dX6_add_11 : decode cX6_add 11 = .ok (.aload_n 0, 1) := by decide +kernel
theorem dX6_add_12 : decode cX6_add 12 = .ok (.getfield 15, 3) := by decide +kernel
theorem dX6_add_15 : decode cX6_add 15 = .ok (.iload_n 1, 1) := by decide +kernel
theorem dX6_add_16 : decode cX6_add 16 = .ok (.aaload, 1) := by decide +kernel
theorem dX6_add_17 : decode cX6_add 17 = .ok (.aload_n 0, 1) := by decide +kernel
theorem dX6_add_18 : decode cX6_add 18 = .ok (.getfield 43, 3) := by decide +kernel
theorem dX6_add_21 : decode cX6_add 21 = .ok (.invokevirtual 95, 3) := by decide +kernel
theorem dX6_add_24 : decode cX6_add 24 = .ok (.ifCond .ne 7, 3) := by decide +kernel
theorem dX6_add_27 : decode cX6_add 27 = .ok (.iconst 1, 1) := by decide +kernel
theorem dX6_add_28 : decode cX6_add 28 = .ok (.goto 4, 3) := by decide +kernel
theorem dX6_add_31 : decode cX6_add 31 = .ok (.iconst 0, 1) := by decide +kernel
theorem dX6_add_32 : decode cX6_add 32 = .ok (.invokestatic 74, 3) := by decide +kernel
theorem dX6_add_35 : decode cX6_add 35 = .ok (.ireturn, 1) := by decide +kernel
set_option maxRecDepth 20000 in
theorem ggX6_of_X6_isGroup : GoodIn wsX6_of wsX6_isGroup := goodIn_r _ [10, 2, 130, 131, 132, 133, 134, 135] (by decide +kernel) (by decide +kernel)
set_option maxRecDepth 20000 in
theorem gX6_of_X6_isGroup : GoodIn wsX6_of (wsV RX6 92 RX6 yX6_isGroup wsX6_isGroup) := goodIn_app (goodIn_of _ (by decide +kernel)) ggX6_of_X6_isGroup
set_option maxRecDepth 20000 in
theorem ggX6_of_X6_isFull : GoodIn wsX6_of wsX6_isFull := goodIn_r _ [14, 2, 130, 131, 132, 133, 134, 135] (by decide +kernel) (by decide +kernel)
set_option maxRecDepth 20000 in
theorem gX6_of_X6_isFull : GoodIn wsX6_of (wsV RX6 78 RX6 yX6_isFull wsX6_isFull) := goodIn_app (goodIn_of _ (by decide +kernel)) ggX6_of_X6_isFull
set_option maxRecDepth 20000 in
theorem ggX6_of_X3_init : GoodIn wsX6_of wsX3_init := goodIn_r _ [17, 18, 19, 20, 21, 22, 23, 24, 136] (by decide +kernel) (by decide +kernel)
set_option maxRecDepth 20000 in
theorem gX6_of_X3_init : GoodIn wsX6_of (wsX3_init) := ggX6_of_X3_init
set_option maxRecDepth 20000 in
theorem ggX6_of_X4_gather : GoodIn wsX6_of wsX4_gather := goodIn_r _ [29, 30, 31, 32, 28, 33, 34, 35, 36, 37, 38, 39, 40, 41, 42, 43, 44, 45, 46, 47, 48, 49, 50, 51, 52, 53, 54, 55, 56, 57, 9, 58, 59, 60, 61, 62, 63, 64, 65, 66, 67, 68, 69, 70, 71, 72, 73, 5, 74, 18, 75, 76, 77, 78, 79, 80, 81, 82, 83, 84, 85, 86, 87, 88, 89, 90, 91, 92, 93, 94, 95, 96, 97, 98, 99, 100, 101, 102, 103, 104, 105, 106, 107, 108, 109, 137, 138, 139, 140, 141, 142, 143, 144, 145, 146, 147, 136] (by decide +kernel) (by decide +kernel)
set_option maxRecDepth 20000 in
theorem gX6_of_X4_gather : GoodIn wsX6_of (wsV RX6 102 RX4 yX4_gather wsX4_gather) := goodIn_app (goodIn_of _ (by decide +kernel)) ggX6_of_X4_gather
set_option maxRecDepth 20000 in
theorem ggX6_of_X4_copyFrom : GoodIn wsX6_of wsX4_copyFrom := goodIn_r _ [113, 45, 114, 115, 116, 117, 79, 34, 102, 96, 35, 36, 137, 138, 139, 140, 141, 142, 143] (by decide +kernel) (by decide +kernel)
set_option maxRecDepth 20000 in
theorem gX6_of_X4_copyFrom : GoodIn wsX6_of (wsV RX6 106 RX4 yX4_copyFrom wsX4_copyFrom) := goodIn_app (goodIn_of _ (by decide +kernel)) ggX6_of_X4_copyFrom
set_option maxRecDepth 20000 in
theorem ggX6_of_X4_joinAll : GoodIn wsX6_of wsX4_joinAll := goodIn_r _ [121, 36, 96, 92, 93, 94, 28, 95, 35, 97, 98, 99, 100, 101, 45, 79, 34, 102, 57, 9, 58, 46, 47, 48, 37, 38, 39, 40, 86, 87, 80, 81, 103, 104, 105, 106, 107, 108, 109, 137, 138, 139, 140, 141, 142, 143] (by decide +kernel) (by decide +kernel)
set_option maxRecDepth 20000 in
theorem gX6_of_X4_joinAll : GoodIn wsX6_of (wsV RX6 109 RX4 yX4_joinAll wsX4_joinAll) := goodIn_app (goodIn_of _ (by decide +kernel)) ggX6_of_X4_joinAll
set_option maxRecDepth 20000 in
theorem ggX6_of_X4_closeUnder : GoodIn wsX6_of wsX4_closeUnder := goodIn_r _ [125, 36, 96, 126, 9, 127, 128, 86, 87, 129, 80, 81, 92, 93, 94, 28, 95, 35, 97, 98, 99, 100, 101, 45, 79, 34, 102, 57, 58, 46, 47, 48, 37, 38, 39, 40, 103, 104, 105, 106, 107, 108, 109, 137, 138, 139, 140, 141, 142, 143] (by decide +kernel) (by decide +kernel)
set_option maxRecDepth 20000 in
theorem gX6_of_X4_closeUnder : GoodIn wsX6_of (wsV RX6 112 RX4 yX4_closeUnder wsX4_closeUnder) := goodIn_app (goodIn_of _ (by decide +kernel)) ggX6_of_X4_closeUnder
theorem dX6_of_0 : decode cX6_of 0 = .ok (.iload_n 1, 1) := by decide +kernel
theorem dX6_of_1 : decode cX6_of 1 = .ok (.ifCond .lt 24, 3) := by decide +kernel
theorem dX6_of_4 : decode cX6_of 4 = .ok (.iload_n 1, 1) := by decide +kernel
theorem dX6_of_5 : decode cX6_of 5 = .ok (.iconst 2, 1) := by decide +kernel
theorem dX6_of_6 : decode cX6_of 6 = .ok (.if_icmp .gt 19, 3) := by decide +kernel
theorem dX6_of_9 : decode cX6_of 9 = .ok (.aload_n 0, 1) := by decide +kernel
theorem dX6_of_10 : decode cX6_of 10 = .ok (.iload_n 2, 1) := by decide +kernel
theorem dX6_of_11 : decode cX6_of 11 = .ok (.invokevirtual 92, 3) := by decide +kernel
theorem dX6_of_14 : decode cX6_of 14 = .ok (.ifCond .eq 11, 3) := by decide +kernel
theorem dX6_of_17 : decode cX6_of 17 = .ok (.aload_n 0, 1) := by decide +kernel
theorem dX6_of_18 : decode cX6_of 18 = .ok (.iload_n 3, 1) := by decide +kernel
theorem dX6_of_19 : decode cX6_of 19 = .ok (.invokevirtual 92, 3) := by decide +kernel
theorem dX6_of_22 : decode cX6_of 22 = .ok (.ifCond .ne 6, 3) := by decide +kernel
theorem dX6_of_25 : decode cX6_of 25 = .ok (.bipush (-2), 2) := by decide +kernel
theorem dX6_of_27 : decode cX6_of 27 = .ok (.ireturn, 1) := by decide +kernel
theorem dX6_of_28 : decode cX6_of 28 = .ok (.aload_n 0, 1) := by decide +kernel
theorem dX6_of_29 : decode cX6_of 29 = .ok (.invokevirtual 78, 3) := by decide +kernel
theorem dX6_of_32 : decode cX6_of 32 = .ok (.ifCond .eq 6, 3) := by decide +kernel
theorem dX6_of_35 : decode cX6_of 35 = .ok (.bipush (-3), 2) := by decide +kernel
theorem dX6_of_37 : decode cX6_of 37 = .ok (.ireturn, 1) := by decide +kernel
theorem dX6_of_38 : decode cX6_of 38 = .ok (.aload_n 0, 1) := by decide +kernel
theorem dX6_of_39 : decode cX6_of 39 = .ok (.getfield 15, 3) := by decide +kernel
theorem dX6_of_42 : decode cX6_of 42 = .ok (.aload_n 0, 1) := by decide +kernel
theorem dX6_of_43 : decode cX6_of 43 = .ok (.getfield 27, 3) := by decide +kernel
theorem dX6_of_46 : decode cX6_of 46 = .ok (.aaload, 1) := by decide +kernel
theorem dX6_of_47 : decode cX6_of 47 = .ok (.astore 4, 2) := by decide +kernel
theorem dX6_of_49 : decode cX6_of 49 = .ok (.iload_n 1, 1) := by decide +kernel
theorem dX6_of_50 : decode cX6_of 50 = .ok (.iconst 1, 1) := by decide +kernel
theorem dX6_of_51 : decode cX6_of 51 = .ok (.if_icmp .ne 30, 3) := by decide +kernel
theorem dX6_of_54 : decode cX6_of 54 = .ok (.aload 4, 2) := by decide +kernel
theorem dX6_of_56 : decode cX6_of 56 = .ok (.aload_n 0, 1) := by decide +kernel
theorem dX6_of_57 : decode cX6_of 57 = .ok (.getfield 15, 3) := by decide +kernel
theorem dX6_of_60 : decode cX6_of 60 = .ok (.iload_n 2, 1) := by decide +kernel
theorem dX6_of_61 : decode cX6_of 61 = .ok (.aaload, 1) := by decide +kernel
theorem dX6_of_62 : decode cX6_of 62 = .ok (.new 98, 3) := by decide +kernel
theorem dX6_of_65 : decode cX6_of 65 = .ok (.dup, 1) := by decide +kernel
theorem dX6_of_66 : decode cX6_of 66 = .ok (.aload_n 0, 1) := by decide +kernel
theorem dX6_of_67 : decode cX6_of 67 = .ok (.getfield 15, 3) := by decide +kernel
theorem dX6_of_70 : decode cX6_of 70 = .ok (.iload_n 3, 1) := by decide +kernel
theorem dX6_of_71 : decode cX6_of 71 = .ok (.aaload, 1) := by decide +kernel
theorem dX6_of_72 : decode cX6_of 72 = .ok (.invokespecial 100, 3) := by decide +kernel
theorem dX6_of_75 : decode cX6_of 75 = .ok (.invokevirtual 102, 3) := by decide +kernel
theorem dX6_of_78 : decode cX6_of 78 = .ok (.goto 43, 3) := by decide +kernel
theorem dX6_of_81 : decode cX6_of 81 = .ok (.aload 4, 2) := by decide +kernel
theorem dX6_of_83 : decode cX6_of 83 = .ok (.aload_n 0, 1) := by decide +kernel
theorem dX6_of_84 : decode cX6_of 84 = .ok (.getfield 15, 3) := by decide +kernel
theorem dX6_of_87 : decode cX6_of 87 = .ok (.iload_n 2, 1) := by decide +kernel
theorem dX6_of_88 : decode cX6_of 88 = .ok (.aaload, 1) := by decide +kernel
theorem dX6_of_89 : decode cX6_of 89 = .ok (.invokevirtual 106, 3) := by decide +kernel
theorem dX6_of_92 : decode cX6_of 92 = .ok (.iload_n 1, 1) := by decide +kernel
theorem dX6_of_93 : decode cX6_of 93 = .ok (.ifCond .ne 17, 3) := by decide +kernel
theorem dX6_of_96 : decode cX6_of 96 = .ok (.aload 4, 2) := by decide +kernel
theorem dX6_of_98 : decode cX6_of 98 = .ok (.aload_n 0, 1) := by decide +kernel
theorem dX6_of_99 : decode cX6_of 99 = .ok (.getfield 15, 3) := by decide +kernel
theorem dX6_of_102 : decode cX6_of 102 = .ok (.iload_n 3, 1) := by decide +kernel
theorem dX6_of_103 : decode cX6_of 103 = .ok (.aaload, 1) := by decide +kernel
theorem dX6_of_104 : decode cX6_of 104 = .ok (.invokevirtual 109, 3) := by decide +kernel
theorem dX6_of_107 : decode cX6_of 107 = .ok (.goto 14, 3) := by decide +kernel
theorem dX6_of_110 : decode cX6_of 110 = .ok (.aload 4, 2) := by decide +kernel
theorem dX6_of_112 : decode cX6_of 112 = .ok (.aload_n 0, 1) := by decide +kernel
theorem dX6_of_113 : decode cX6_of 113 = .ok (.getfield 15, 3) := by decide +kernel
theorem dX6_of_116 : decode cX6_of 116 = .ok (.iload_n 3, 1) := by decide +kernel
theorem dX6_of_117 : decode cX6_of 117 = .ok (.aaload, 1) := by decide +kernel
theorem dX6_of_118 : decode cX6_of 118 = .ok (.invokevirtual 112, 3) := by decide +kernel
theorem dX6_of_121 : decode cX6_of 121 = .ok (.aload_n 0, 1) := by decide +kernel
theorem dX6_of_122 : decode cX6_of 122 = .ok (.dup, 1) := by decide +kernel
theorem dX6_of_123 : decode cX6_of 123 = .ok (.getfield 27, 3) := by decide +kernel
theorem dX6_of_126 : decode cX6_of 126 = .ok (.dup_x1, 1) := by decide +kernel
theorem dX6_of_127 : decode cX6_of 127 = .ok (.iconst 1, 1) := by decide +kernel
theorem dX6_of_128 : decode cX6_of 128 = .ok (.iadd, 1) := by decide +kernel
theorem dX6_of_129 : decode cX6_of 129 = .ok (.putfield 27, 3) := by decide +kernel
theorem dX6_of_132 : decode cX6_of 132 = .ok (.ireturn, 1) := by decide +kernel
set_option maxRecDepth 20000 in
theorem ggX6_by_X6_isGroup : GoodIn wsX6_by wsX6_isGroup := goodIn_r _ [13, 8, 123, 124, 125, 126, 127, 128] (by decide +kernel) (by decide +kernel)
set_option maxRecDepth 20000 in
theorem gX6_by_X6_isGroup : GoodIn wsX6_by (wsV RX6 92 RX6 yX6_isGroup wsX6_isGroup) := goodIn_app (goodIn_of _ (by decide +kernel)) ggX6_by_X6_isGroup
set_option maxRecDepth 20000 in
theorem ggX6_by_X6_isSet : GoodIn wsX6_by wsX6_isSet := goodIn_r _ [17, 18, 123, 124, 125, 126, 127, 128] (by decide +kernel) (by decide +kernel)
set_option maxRecDepth 20000 in
theorem gX6_by_X6_isSet : GoodIn wsX6_by (wsV RX6 115 RX6 yX6_isSet wsX6_isSet) := goodIn_app (goodIn_of _ (by decide +kernel)) ggX6_by_X6_isSet
set_option maxRecDepth 20000 in
theorem ggX6_by_X6_isFull : GoodIn wsX6_by wsX6_isFull := goodIn_r _ [22, 8, 123, 124, 125, 126, 127, 128] (by decide +kernel) (by decide +kernel)
set_option maxRecDepth 20000 in
theorem gX6_by_X6_isFull : GoodIn wsX6_by (wsV RX6 78 RX6 yX6_isFull wsX6_isFull) := goodIn_app (goodIn_of _ (by decide +kernel)) ggX6_by_X6_isFull
set_option maxRecDepth 20000 in
theorem ggX6_by_X2_init : GoodIn wsX6_by wsX2_init := goodIn_r _ [25, 26, 27, 28, 29, 30, 31, 32, 120] (by decide +kernel) (by decide +kernel)
set_option maxRecDepth 20000 in
theorem gX6_by_X2_init : GoodIn wsX6_by (wsX2_init) := ggX6_by_X2_init
set_option maxRecDepth 20000 in
theorem ggX6_by_X0_init : GoodIn wsX6_by wsX0_init := goodIn_r _ [35, 36, 37, 27, 28, 29, 30, 31, 32, 121, 122] (by decide +kernel) (by decide +kernel)
set_option maxRecDepth 20000 in
theorem gX6_by_X0_init : GoodIn wsX6_by (wsX0_init) := ggX6_by_X0_init
set_option maxRecDepth 20000 in
theorem ggX6_by_X4_gather : GoodIn wsX6_by wsX4_gather := goodIn_r _ [42, 43, 44, 45, 41, 46, 47, 48, 49, 50, 51, 52, 53, 54, 55, 56, 57, 58, 59, 60, 61, 62, 63, 64, 65, 6, 66, 36, 37, 67, 12, 68, 69, 70, 71, 72, 73, 74, 75, 76, 77, 78, 3, 79, 26, 80, 81, 82, 83, 84, 85, 86, 87, 88, 89, 90, 91, 92, 93, 94, 95, 96, 97, 98, 99, 100, 101, 102, 103, 104, 105, 106, 107, 108, 109, 110, 111, 112, 113, 114, 115, 116, 117, 118, 119, 129, 130, 131, 132, 133, 134, 135, 121, 122, 136, 120, 137] (by decide +kernel) (by decide +kernel)
set_option maxRecDepth 20000 in
theorem gX6_by_X4_gather : GoodIn wsX6_by (wsV RX6 102 RX4 yX4_gather wsX4_gather) := goodIn_app (goodIn_of _ (by decide +kernel)) ggX6_by_X4_gather
theorem dX6_by_0 : decode cX6_by 0 = .ok (.iload_n 1, 1) := by decide +kernel
theorem dX6_by_1 : decode cX6_by 1 = .ok (.ifCond .lt 24, 3) := by decide +kernel
theorem dX6_by_4 : decode cX6_by 4 = .ok (.iload_n 1, 1) := by decide +kernel
theorem dX6_by_5 : decode cX6_by 5 = .ok (.iconst 1, 1) := by decide +kernel
theorem dX6_by_6 : decode cX6_by 6 = .ok (.if_icmp .gt 19, 3) := by decide +kernel
theorem dX6_by_9 : decode cX6_by 9 = .ok (.aload_n 0, 1) := by decide +kernel
theorem dX6_by_10 : decode cX6_by 10 = .ok (.iload_n 2, 1) := by decide +kernel
theorem dX6_by_11 : decode cX6_by 11 = .ok (.invokevirtual 92, 3) := by decide +kernel
theorem dX6_by_14 : decode cX6_by 14 = .ok (.ifCond .eq 11, 3) := by decide +kernel
theorem dX6_by_17 : decode cX6_by 17 = .ok (.aload_n 0, 1) := by decide +kernel
theorem dX6_by_18 : decode cX6_by 18 = .ok (.iload_n 3, 1) := by decide +kernel
theorem dX6_by_19 : decode cX6_by 19 = .ok (.invokevirtual 115, 3) := by decide +kernel
theorem dX6_by_22 : decode cX6_by 22 = .ok (.ifCond .ne 6, 3) := by decide +kernel
theorem dX6_by_25 : decode cX6_by 25 = .ok (.bipush (-2), 2) := by decide +kernel
theorem dX6_by_27 : decode cX6_by 27 = .ok (.ireturn, 1) := by decide +kernel
theorem dX6_by_28 : decode cX6_by 28 = .ok (.aload_n 0, 1) := by decide +kernel
theorem dX6_by_29 : decode cX6_by 29 = .ok (.invokevirtual 78, 3) := by decide +kernel
theorem dX6_by_32 : decode cX6_by 32 = .ok (.ifCond .eq 6, 3) := by decide +kernel
theorem dX6_by_35 : decode cX6_by 35 = .ok (.bipush (-3), 2) := by decide +kernel
theorem dX6_by_37 : decode cX6_by 37 = .ok (.ireturn, 1) := by decide +kernel
theorem dX6_by_38 : decode cX6_by 38 = .ok (.iload_n 1, 1) := by decide +kernel
theorem dX6_by_39 : decode cX6_by 39 = .ok (.ifCond .ne 14, 3) := by decide +kernel
theorem dX6_by_42 : decode cX6_by 42 = .ok (.new 118, 3) := by decide +kernel
theorem dX6_by_45 : decode cX6_by 45 = .ok (.dup, 1) := by decide +kernel
theorem dX6_by_46 : decode cX6_by 46 = .ok (.iload_n 3, 1) := by decide +kernel
theorem dX6_by_47 : decode cX6_by 47 = .ok (.invokespecial 120, 3) := by decide +kernel
theorem dX6_by_50 : decode cX6_by 50 = .ok (.goto 12, 3) := by decide +kernel
theorem dX6_by_53 : decode cX6_by 53 = .ok (.new 122, 3) := by decide +kernel
theorem dX6_by_56 : decode cX6_by 56 = .ok (.dup, 1) := by decide +kernel
theorem dX6_by_57 : decode cX6_by 57 = .ok (.iload_n 3, 1) := by decide +kernel
theorem dX6_by_58 : decode cX6_by 58 = .ok (.iload_n 3, 1) := by decide +kernel
theorem dX6_by_59 : decode cX6_by 59 = .ok (.invokespecial 124, 3) := by decide +kernel
theorem dX6_by_62 : decode cX6_by 62 = .ok (.astore 4, 2) := by decide +kernel
theorem dX6_by_64 : decode cX6_by 64 = .ok (.aload_n 0, 1) := by decide +kernel
theorem dX6_by_65 : decode cX6_by 65 = .ok (.getfield 15, 3) := by decide +kernel
theorem dX6_by_68 : decode cX6_by 68 = .ok (.aload_n 0, 1) := by decide +kernel
theorem dX6_by_69 : decode cX6_by 69 = .ok (.getfield 27, 3) := by decide +kernel
theorem dX6_by_72 : decode cX6_by 72 = .ok (.aaload, 1) := by decide +kernel
theorem dX6_by_73 : decode cX6_by 73 = .ok (.aload_n 0, 1) := by decide +kernel
theorem dX6_by_74 : decode cX6_by 74 = .ok (.getfield 15, 3) := by decide +kernel
theorem dX6_by_77 : decode cX6_by 77 = .ok (.iload_n 2, 1) := by decide +kernel
theorem dX6_by_78 : decode cX6_by 78 = .ok (.aaload, 1) := by decide +kernel
theorem dX6_by_79 : decode cX6_by 79 = .ok (.aload 4, 2) := by decide +kernel
theorem dX6_by_81 : decode cX6_by 81 = .ok (.invokevirtual 102, 3) := by decide +kernel
theorem dX6_by_84 : decode cX6_by 84 = .ok (.aload_n 0, 1) := by decide +kernel
theorem dX6_by_85 : decode cX6_by 85 = .ok (.dup, 1) := by decide +kernel
theorem dX6_by_86 : decode cX6_by 86 = .ok (.getfield 27, 3) := by decide +kernel
theorem dX6_by_89 : decode cX6_by 89 = .ok (.dup_x1, 1) := by decide +kernel
theorem dX6_by_90 : decode cX6_by 90 = .ok (.iconst 1, 1) := by decide +kernel
theorem dX6_by_91 : decode cX6_by 91 = .ok (.iadd, 1) := by decide +kernel
theorem dX6_by_92 : decode cX6_by 92 = .ok (.putfield 27, 3) := by decide +kernel
theorem dX6_by_95 : decode cX6_by 95 = .ok (.ireturn, 1) := by decide +kernel
set_option maxRecDepth 20000 in
theorem ggX6_made_X6_isGroup : GoodIn wsX6_made wsX6_isGroup := goodIn_r _ [12, 2, 132, 133, 134, 135, 136, 137] (by decide +kernel) (by decide +kernel)
set_option maxRecDepth 20000 in
theorem gX6_made_X6_isGroup : GoodIn wsX6_made (wsV RX6 92 RX6 yX6_isGroup wsX6_isGroup) := goodIn_app (goodIn_of _ (by decide +kernel)) ggX6_made_X6_isGroup
set_option maxRecDepth 20000 in
theorem ggX6_made_X6_isFull : GoodIn wsX6_made wsX6_isFull := goodIn_r _ [16, 2, 132, 133, 134, 135, 136, 137] (by decide +kernel) (by decide +kernel)
set_option maxRecDepth 20000 in
theorem gX6_made_X6_isFull : GoodIn wsX6_made (wsV RX6 78 RX6 yX6_isFull wsX6_isFull) := goodIn_app (goodIn_of _ (by decide +kernel)) ggX6_made_X6_isFull
set_option maxRecDepth 20000 in
theorem ggX6_made_X4_clear : GoodIn wsX6_made wsX4_clear := goodIn_r _ [21, 22, 23, 24, 139, 140, 141, 142, 143, 144, 145] (by decide +kernel) (by decide +kernel)
set_option maxRecDepth 20000 in
theorem gX6_made_X4_clear : GoodIn wsX6_made (wsV RX6 82 RX4 yX4_clear wsX4_clear) := goodIn_app (goodIn_of _ (by decide +kernel)) ggX6_made_X4_clear
set_option maxRecDepth 20000 in
theorem ggX6_made_X4_join : GoodIn wsX6_made wsX4_join := goodIn_r _ [28, 23, 24, 29, 30, 31, 32, 20, 33, 34, 35, 36, 22, 37, 38, 11, 39, 40, 41, 42, 43, 44, 45, 46, 47, 48, 49, 50, 51, 52, 53, 54, 55, 56, 57, 139, 140, 141, 142, 143, 144, 145] (by decide +kernel) (by decide +kernel)
set_option maxRecDepth 20000 in
theorem gX6_made_X4_join : GoodIn wsX6_made (wsV RX6 95 RX4 yX4_join wsX4_join) := goodIn_app (goodIn_of _ (by decide +kernel)) ggX6_made_X4_join
set_option maxRecDepth 20000 in
theorem ggX6_made_X1_init : GoodIn wsX6_made wsX1_init := goodIn_r _ [60, 61, 62, 63, 64, 65, 66, 67, 138] (by decide +kernel) (by decide +kernel)
set_option maxRecDepth 20000 in
theorem gX6_made_X1_init : GoodIn wsX6_made (wsX1_init) := ggX6_made_X1_init
set_option maxRecDepth 20000 in
theorem ggX6_made_X4_gather : GoodIn wsX6_made wsX4_gather := goodIn_r _ [71, 72, 18, 19, 20, 21, 22, 23, 24, 43, 44, 45, 46, 73, 74, 75, 76, 35, 40, 41, 42, 77, 78, 79, 80, 81, 82, 83, 84, 38, 11, 39, 85, 86, 7, 87, 61, 88, 89, 90, 91, 92, 93, 94, 95, 96, 97, 98, 99, 100, 101, 102, 103, 104, 36, 49, 50, 105, 106, 107, 108, 47, 48, 109, 110, 111, 112, 113, 26, 27, 28, 29, 30, 31, 32, 33, 34, 37, 51, 52, 53, 54, 55, 56, 57, 139, 140, 141, 142, 143, 144, 145, 146, 147, 138, 148, 149] (by decide +kernel) (by decide +kernel)
set_option maxRecDepth 20000 in
theorem gX6_made_X4_gather : GoodIn wsX6_made (wsV RX6 102 RX4 yX4_gather wsX4_gather) := goodIn_app (goodIn_of _ (by decide +kernel)) ggX6_made_X4_gather
set_option maxRecDepth 20000 in
theorem ggX6_made_X4_becomeCarried : GoodIn wsX6_made wsX4_becomeCarried := goodIn_r _ [117, 24, 29, 72, 18, 19, 20, 21, 22, 23, 118, 11, 119, 120, 47, 48, 121, 49, 50, 113, 26, 27, 28, 30, 31, 32, 33, 34, 35, 36, 37, 38, 39, 40, 41, 42, 43, 44, 45, 46, 51, 52, 53, 54, 55, 56, 57, 139, 140, 141, 142, 143, 144, 145] (by decide +kernel) (by decide +kernel)
set_option maxRecDepth 20000 in
theorem gX6_made_X4_becomeCarried : GoodIn wsX6_made (wsV RX6 130 RX4 yX4_becomeCarried wsX4_becomeCarried) := goodIn_app (goodIn_of _ (by decide +kernel)) ggX6_made_X4_becomeCarried
set_option maxRecDepth 20000 in
theorem ggX6_made_X4_becomeDown : GoodIn wsX6_made wsX4_becomeDown := goodIn_r _ [125, 24, 29, 72, 18, 19, 20, 21, 22, 23, 126, 11, 127, 120, 47, 48, 121, 49, 50, 113, 26, 27, 28, 30, 31, 32, 33, 34, 35, 36, 37, 38, 39, 40, 41, 42, 43, 44, 45, 46, 51, 52, 53, 54, 55, 56, 57, 128, 129, 130, 131, 118, 119, 139, 140, 141, 142, 143, 144, 145] (by decide +kernel) (by decide +kernel)
set_option maxRecDepth 20000 in
theorem gX6_made_X4_becomeDown : GoodIn wsX6_made (wsV RX6 134 RX4 yX4_becomeDown wsX4_becomeDown) := goodIn_app (goodIn_of _ (by decide +kernel)) ggX6_made_X4_becomeDown
theorem dX6_made_0 : decode cX6_made 0 = .ok (.iload_n 1, 1) := by decide +kernel
theorem dX6_made_1 : decode cX6_made 1 = .ok (.ifCond .lt 16, 3) := by decide +kernel
theorem dX6_made_4 : decode cX6_made 4 = .ok (.iload_n 1, 1) := by decide +kernel
theorem dX6_made_5 : decode cX6_made 5 = .ok (.iconst 3, 1) := by decide +kernel
theorem dX6_made_6 : decode cX6_made 6 = .ok (.if_icmp .gt 11, 3) := by decide +kernel
theorem dX6_made_9 : decode cX6_made 9 = .ok (.aload_n 0, 1) := by decide +kernel
theorem dX6_made_10 : decode cX6_made 10 = .ok (.iload_n 2, 1) := by decide +kernel
theorem dX6_made_11 : decode cX6_made 11 = .ok (.invokevirtual 92, 3) := by decide +kernel
theorem dX6_made_14 : decode cX6_made 14 = .ok (.ifCond .ne 6, 3) := by decide +kernel
theorem dX6_made_17 : decode cX6_made 17 = .ok (.bipush (-2), 2) := by decide +kernel
theorem dX6_made_19 : decode cX6_made 19 = .ok (.ireturn, 1) := by decide +kernel
theorem dX6_made_20 : decode cX6_made 20 = .ok (.aload_n 0, 1) := by decide +kernel
theorem dX6_made_21 : decode cX6_made 21 = .ok (.invokevirtual 78, 3) := by decide +kernel
theorem dX6_made_24 : decode cX6_made 24 = .ok (.ifCond .eq 6, 3) := by decide +kernel
theorem dX6_made_27 : decode cX6_made 27 = .ok (.bipush (-3), 2) := by decide +kernel
theorem dX6_made_29 : decode cX6_made 29 = .ok (.ireturn, 1) := by decide +kernel
theorem dX6_made_30 : decode cX6_made 30 = .ok (.aload_n 0, 1) := by decide +kernel
theorem dX6_made_31 : decode cX6_made 31 = .ok (.getfield 15, 3) := by decide +kernel
theorem dX6_made_34 : decode cX6_made 34 = .ok (.aload_n 0, 1) := by decide +kernel
theorem dX6_made_35 : decode cX6_made 35 = .ok (.getfield 27, 3) := by decide +kernel
theorem dX6_made_38 : decode cX6_made 38 = .ok (.aaload, 1) := by decide +kernel
theorem dX6_made_39 : decode cX6_made 39 = .ok (.astore_n 3, 1) := by decide +kernel
theorem dX6_made_40 : decode cX6_made 40 = .ok (.iload_n 1, 1) := by decide +kernel
theorem dX6_made_41 : decode cX6_made 41 = .ok (.ifCond .ne 52, 3) := by decide +kernel
theorem dX6_made_44 : decode cX6_made 44 = .ok (.aload_n 0, 1) := by decide +kernel
theorem dX6_made_45 : decode cX6_made 45 = .ok (.getfield 19, 3) := by decide +kernel
theorem dX6_made_48 : decode cX6_made 48 = .ok (.iconst 0, 1) := by decide +kernel
theorem dX6_made_49 : decode cX6_made 49 = .ok (.aaload, 1) := by decide +kernel
theorem dX6_made_50 : decode cX6_made 50 = .ok (.invokevirtual 82, 3) := by decide +kernel
theorem dX6_made_53 : decode cX6_made 53 = .ok (.aload_n 0, 1) := by decide +kernel
theorem dX6_made_54 : decode cX6_made 54 = .ok (.getfield 19, 3) := by decide +kernel
theorem dX6_made_57 : decode cX6_made 57 = .ok (.iconst 0, 1) := by decide +kernel
theorem dX6_made_58 : decode cX6_made 58 = .ok (.aaload, 1) := by decide +kernel
theorem dX6_made_59 : decode cX6_made 59 = .ok (.aload_n 0, 1) := by decide +kernel
theorem dX6_made_60 : decode cX6_made 60 = .ok (.getfield 43, 3) := by decide +kernel
theorem dX6_made_63 : decode cX6_made 63 = .ok (.invokevirtual 95, 3) := by decide +kernel
theorem dX6_made_66 : decode cX6_made 66 = .ok (.pop, 1) := by decide +kernel
theorem dX6_made_67 : decode cX6_made 67 = .ok (.aload_n 3, 1) := by decide +kernel
theorem dX6_made_68 : decode cX6_made 68 = .ok (.aload_n 0, 1) := by decide +kernel
theorem dX6_made_69 : decode cX6_made 69 = .ok (.getfield 15, 3) := by decide +kernel
theorem dX6_made_72 : decode cX6_made 72 = .ok (.iload_n 2, 1) := by decide +kernel
theorem dX6_made_73 : decode cX6_made 73 = .ok (.aaload, 1) := by decide +kernel
theorem dX6_made_74 : decode cX6_made 74 = .ok (.new 127, 3) := by decide +kernel
theorem dX6_made_77 : decode cX6_made 77 = .ok (.dup, 1) := by decide +kernel
theorem dX6_made_78 : decode cX6_made 78 = .ok (.aload_n 0, 1) := by decide +kernel
theorem dX6_made_79 : decode cX6_made 79 = .ok (.getfield 19, 3) := by decide +kernel
theorem dX6_made_82 : decode cX6_made 82 = .ok (.iconst 0, 1) := by decide +kernel
theorem dX6_made_83 : decode cX6_made 83 = .ok (.aaload, 1) := by decide +kernel
theorem dX6_made_84 : decode cX6_made 84 = .ok (.invokespecial 129, 3) := by decide +kernel
theorem dX6_made_87 : decode cX6_made 87 = .ok (.invokevirtual 102, 3) := by decide +kernel
theorem dX6_made_90 : decode cX6_made 90 = .ok (.goto 66, 3) := by decide +kernel
theorem dX6_made_93 : decode cX6_made 93 = .ok (.iload_n 1, 1) := by decide +kernel
theorem dX6_made_94 : decode cX6_made 94 = .ok (.iconst 1, 1) := by decide +kernel
theorem dX6_made_95 : decode cX6_made 95 = .ok (.if_icmp .ne 29, 3) := by decide +kernel
theorem dX6_made_98 : decode cX6_made 98 = .ok (.aload_n 3, 1) := by decide +kernel
theorem dX6_made_99 : decode cX6_made 99 = .ok (.aload_n 0, 1) := by decide +kernel
theorem dX6_made_100 : decode cX6_made 100 = .ok (.getfield 15, 3) := by decide +kernel
theorem dX6_made_103 : decode cX6_made 103 = .ok (.iload_n 2, 1) := by decide +kernel
theorem dX6_made_104 : decode cX6_made 104 = .ok (.aaload, 1) := by decide +kernel
theorem dX6_made_105 : decode cX6_made 105 = .ok (.new 127, 3) := by decide +kernel
theorem dX6_made_108 : decode cX6_made 108 = .ok (.dup, 1) := by decide +kernel
theorem dX6_made_109 : decode cX6_made 109 = .ok (.aload_n 0, 1) := by decide +kernel
theorem dX6_made_110 : decode cX6_made 110 = .ok (.getfield 15, 3) := by decide +kernel
theorem dX6_made_113 : decode cX6_made 113 = .ok (.iload_n 2, 1) := by decide +kernel
theorem dX6_made_114 : decode cX6_made 114 = .ok (.aaload, 1) := by decide +kernel
theorem dX6_made_115 : decode cX6_made 115 = .ok (.invokespecial 129, 3) := by decide +kernel
theorem dX6_made_118 : decode cX6_made 118 = .ok (.invokevirtual 102, 3) := by decide +kernel
theorem dX6_made_121 : decode cX6_made 121 = .ok (.goto 35, 3) := by decide +kernel
theorem dX6_made_124 : decode cX6_made 124 = .ok (.iload_n 1, 1) := by decide +kernel
theorem dX6_made_125 : decode cX6_made 125 = .ok (.iconst 2, 1) := by decide +kernel
theorem dX6_made_126 : decode cX6_made 126 = .ok (.if_icmp .ne 20, 3) := by decide +kernel
theorem dX6_made_129 : decode cX6_made 129 = .ok (.aload_n 3, 1) := by decide +kernel
theorem dX6_made_130 : decode cX6_made 130 = .ok (.aload_n 0, 1) := by decide +kernel
theorem dX6_made_131 : decode cX6_made 131 = .ok (.getfield 15, 3) := by decide +kernel
theorem dX6_made_134 : decode cX6_made 134 = .ok (.iload_n 2, 1) := by decide +kernel
theorem dX6_made_135 : decode cX6_made 135 = .ok (.aaload, 1) := by decide +kernel
theorem dX6_made_136 : decode cX6_made 136 = .ok (.aload_n 0, 1) := by decide +kernel
theorem dX6_made_137 : decode cX6_made 137 = .ok (.getfield 43, 3) := by decide +kernel
theorem dX6_made_140 : decode cX6_made 140 = .ok (.invokevirtual 130, 3) := by decide +kernel
theorem dX6_made_143 : decode cX6_made 143 = .ok (.goto 13, 3) := by decide +kernel
theorem dX6_made_146 : decode cX6_made 146 = .ok (.aload_n 3, 1) := by decide +kernel
theorem dX6_made_147 : decode cX6_made 147 = .ok (.aload_n 0, 1) := by decide +kernel
theorem dX6_made_148 : decode cX6_made 148 = .ok (.getfield 15, 3) := by decide +kernel
theorem dX6_made_151 : decode cX6_made 151 = .ok (.iload_n 2, 1) := by decide +kernel
theorem dX6_made_152 : decode cX6_made 152 = .ok (.aaload, 1) := by decide +kernel
theorem dX6_made_153 : decode cX6_made 153 = .ok (.invokevirtual 134, 3) := by decide +kernel
theorem dX6_made_156 : decode cX6_made 156 = .ok (.aload_n 0, 1) := by decide +kernel
theorem dX6_made_157 : decode cX6_made 157 = .ok (.dup, 1) := by decide +kernel
theorem dX6_made_158 : decode cX6_made 158 = .ok (.getfield 27, 3) := by decide +kernel
theorem dX6_made_161 : decode cX6_made 161 = .ok (.dup_x1, 1) := by decide +kernel
theorem dX6_made_162 : decode cX6_made 162 = .ok (.iconst 1, 1) := by decide +kernel
theorem dX6_made_163 : decode cX6_made 163 = .ok (.iadd, 1) := by decide +kernel
theorem dX6_made_164 : decode cX6_made 164 = .ok (.putfield 27, 3) := by decide +kernel
theorem dX6_made_167 : decode cX6_made 167 = .ok (.ireturn, 1) := by decide +kernel
theorem dX6_undo_0 : decode cX6_undo 0 = .ok (.aload_n 0, 1) := by decide +kernel
theorem dX6_undo_1 : decode cX6_undo 1 = .ok (.getfield 27, 3) := by decide +kernel
theorem dX6_undo_4 : decode cX6_undo 4 = .ok (.ifCond .ne 5, 3) := by decide +kernel
theorem dX6_undo_7 : decode cX6_undo 7 = .ok (.iconst (-1), 1) := by decide +kernel
theorem dX6_undo_8 : decode cX6_undo 8 = .ok (.ireturn, 1) := by decide +kernel
theorem dX6_undo_9 : decode cX6_undo 9 = .ok (.aload_n 0, 1) := by decide +kernel
theorem dX6_undo_10 : decode cX6_undo 10 = .ok (.dup, 1) := by decide +kernel
theorem dX6_undo_11 : decode cX6_undo 11 = .ok (.getfield 27, 3) := by decide +kernel
theorem dX6_undo_14 : decode cX6_undo 14 = .ok (.iconst 1, 1) := by decide +kernel
theorem dX6_undo_15 : decode cX6_undo 15 = .ok (.isub, 1) := by decide +kernel
theorem dX6_undo_16 : decode cX6_undo 16 = .ok (.putfield 27, 3) := by decide +kernel
theorem dX6_undo_19 : decode cX6_undo 19 = .ok (.aload_n 0, 1) := by decide +kernel
theorem dX6_undo_20 : decode cX6_undo 20 = .ok (.getfield 27, 3) := by decide +kernel
theorem dX6_undo_23 : decode cX6_undo 23 = .ok (.ireturn, 1) := by decide +kernel
set_option maxRecDepth 20000 in
theorem ggX6_size_X6_isGroup : GoodIn wsX6_size wsX6_isGroup := goodIn_r _ [6, 7, 21, 22, 23, 24, 25, 26] (by decide +kernel) (by decide +kernel)
set_option maxRecDepth 20000 in
theorem gX6_size_X6_isGroup : GoodIn wsX6_size (wsV RX6 92 RX6 yX6_isGroup wsX6_isGroup) := goodIn_app (goodIn_of _ (by decide +kernel)) ggX6_size_X6_isGroup
set_option maxRecDepth 20000 in
theorem ggX6_size_X4_turnsFrom : GoodIn wsX6_size wsX4_turnsFrom := goodIn_r _ [12, 13, 14, 15, 16, 17, 18, 19, 20, 27, 28, 29, 30, 31, 32, 33] (by decide +kernel) (by decide +kernel)
set_option maxRecDepth 20000 in
theorem gX6_size_X4_turnsFrom : GoodIn wsX6_size (wsV RX6 137 RX4 yX4_turnsFrom wsX4_turnsFrom) := goodIn_app (goodIn_of _ (by decide +kernel)) ggX6_size_X4_turnsFrom
theorem dX6_size_0 : decode cX6_size 0 = .ok (.aload_n 0, 1) := by decide +kernel
theorem dX6_size_1 : decode cX6_size 1 = .ok (.iload_n 1, 1) := by decide +kernel
theorem dX6_size_2 : decode cX6_size 2 = .ok (.invokevirtual 92, 3) := by decide +kernel
theorem dX6_size_5 : decode cX6_size 5 = .ok (.ifCond .eq 16, 3) := by decide +kernel
theorem dX6_size_8 : decode cX6_size 8 = .ok (.aload_n 0, 1) := by decide +kernel
theorem dX6_size_9 : decode cX6_size 9 = .ok (.getfield 15, 3) := by decide +kernel
theorem dX6_size_12 : decode cX6_size 12 = .ok (.iload_n 1, 1) := by decide +kernel
theorem dX6_size_13 : decode cX6_size 13 = .ok (.aaload, 1) := by decide +kernel
theorem dX6_size_14 : decode cX6_size 14 = .ok (.iconst 0, 1) := by decide +kernel
theorem dX6_size_15 : decode cX6_size 15 = .ok (.invokevirtual 137, 3) := by decide +kernel
theorem dX6_size_18 : decode cX6_size 18 = .ok (.goto 5, 3) := by decide +kernel
theorem dX6_size_21 : decode cX6_size 21 = .ok (.bipush (-2), 2) := by decide +kernel
theorem dX6_size_23 : decode cX6_size 23 = .ok (.ireturn, 1) := by decide +kernel
set_option maxRecDepth 20000 in
theorem ggX6_has_X6_isGroup : GoodIn wsX6_has wsX6_isGroup := goodIn_r _ [7, 8, 34, 35, 36, 37, 38, 39] (by decide +kernel) (by decide +kernel)
set_option maxRecDepth 20000 in
theorem gX6_has_X6_isGroup : GoodIn wsX6_has (wsV RX6 92 RX6 yX6_isGroup wsX6_isGroup) := goodIn_app (goodIn_of _ (by decide +kernel)) ggX6_has_X6_isGroup
set_option maxRecDepth 20000 in
theorem ggX6_has_X4_holds : GoodIn wsX6_has wsX4_holds := goodIn_r _ [13, 14, 15, 16, 12, 17, 18, 19, 6, 20, 21, 22, 23, 24, 25, 26, 27, 28, 29, 30, 40, 41, 42, 43, 44, 45, 46] (by decide +kernel) (by decide +kernel)
set_option maxRecDepth 20000 in
theorem gX6_has_X4_holds : GoodIn wsX6_has (wsV RX6 140 RX4 yX4_holds wsX4_holds) := goodIn_app (goodIn_of _ (by decide +kernel)) ggX6_has_X4_holds
set_option maxRecDepth 20000 in
theorem ggX6_has_X6_truth : GoodIn wsX6_has wsX6_truth := goodIn_r _ [33] (by decide +kernel) (by decide +kernel)
set_option maxRecDepth 20000 in
theorem gX6_has_X6_truth : GoodIn wsX6_has (va_wsS RX6 74 yX6_truth wsX6_truth) := goodIn_app (goodIn_of _ (by decide +kernel)) ggX6_has_X6_truth
theorem dX6_has_0 : decode cX6_has 0 = .ok (.aload_n 0, 1) := by decide +kernel
theorem dX6_has_1 : decode cX6_has 1 = .ok (.iload_n 1, 1) := by decide +kernel
theorem dX6_has_2 : decode cX6_has 2 = .ok (.invokevirtual 92, 3) := by decide +kernel
theorem dX6_has_5 : decode cX6_has 5 = .ok (.ifCond .eq 22, 3) := by decide +kernel
theorem dX6_has_8 : decode cX6_has 8 = .ok (.aload_n 0, 1) := by decide +kernel
theorem dX6_has_9 : decode cX6_has 9 = .ok (.getfield 15, 3) := by decide +kernel
theorem dX6_has_12 : decode cX6_has 12 = .ok (.iload_n 1, 1) := by decide +kernel
theorem dX6_has_13 : decode cX6_has 13 = .ok (.aaload, 1) := by decide +kernel
theorem dX6_has_14 : decode cX6_has 14 = .ok (.aload_n 0, 1) := by decide +kernel
theorem dX6_has_15 : decode cX6_has 15 = .ok (.getfield 43, 3) := by decide +kernel
theorem dX6_has_18 : decode cX6_has 18 = .ok (.invokevirtual 140, 3) := by decide +kernel
theorem dX6_has_21 : decode cX6_has 21 = .ok (.invokestatic 74, 3) := by decide +kernel
theorem dX6_has_24 : decode cX6_has 24 = .ok (.goto 5, 3) := by decide +kernel
theorem dX6_has_27 : decode cX6_has 27 = .ok (.bipush (-2), 2) := by decide +kernel
theorem dX6_has_29 : decode cX6_has 29 = .ok (.ireturn, 1) := by decide +kernel
set_option maxRecDepth 20000 in
theorem ggX6_is_X6_isGroup : GoodIn wsX6_is wsX6_isGroup := goodIn_r _ [6, 7, 60, 61, 62, 63, 64, 65] (by decide +kernel) (by decide +kernel)
set_option maxRecDepth 20000 in
theorem gX6_is_X6_isGroup : GoodIn wsX6_is (wsV RX6 92 RX6 yX6_isGroup wsX6_isGroup) := goodIn_app (goodIn_of _ (by decide +kernel)) ggX6_is_X6_isGroup
set_option maxRecDepth 20000 in
theorem ggX6_is_X4_isWithin : GoodIn wsX6_is wsX4_isWithin := goodIn_r _ [12, 13, 14, 15, 16, 17, 11, 18, 19, 20, 21, 22, 23, 24, 5, 25, 26, 27, 28, 29, 30, 31, 32, 33, 34, 35, 66, 67, 68, 69, 70, 71, 72] (by decide +kernel) (by decide +kernel)
set_option maxRecDepth 20000 in
theorem gX6_is_X4_isWithin : GoodIn wsX6_is (wsV RX6 143 RX4 yX4_isWithin wsX4_isWithin) := goodIn_app (goodIn_of _ (by decide +kernel)) ggX6_is_X4_isWithin
set_option maxRecDepth 20000 in
theorem ggX6_is_X4_staysUnder : GoodIn wsX6_is wsX4_staysUnder := goodIn_r _ [39, 13, 14, 40, 5, 41, 42, 43, 44, 45, 34, 35, 15, 16, 17, 11, 18, 19, 20, 21, 22, 23, 24, 25, 26, 27, 28, 29, 30, 31, 32, 33, 66, 67, 68, 69, 70, 71, 72] (by decide +kernel) (by decide +kernel)
set_option maxRecDepth 20000 in
theorem gX6_is_X4_staysUnder : GoodIn wsX6_is (wsV RX6 147 RX4 yX4_staysUnder wsX4_staysUnder) := goodIn_app (goodIn_of _ (by decide +kernel)) ggX6_is_X4_staysUnder
set_option maxRecDepth 20000 in
theorem ggX6_is_X6_truth : GoodIn wsX6_is wsX6_truth := goodIn_r _ [48] (by decide +kernel) (by decide +kernel)
set_option maxRecDepth 20000 in
theorem gX6_is_X6_truth : GoodIn wsX6_is (va_wsS RX6 74 yX6_truth wsX6_truth) := goodIn_app (goodIn_of _ (by decide +kernel)) ggX6_is_X6_truth
set_option maxRecDepth 20000 in
theorem ggX6_is_X4_turnsFrom : GoodIn wsX6_is wsX4_turnsFrom := goodIn_r _ [52, 30, 53, 54, 55, 56, 57, 58, 59, 66, 67, 68, 69, 70, 71, 72] (by decide +kernel) (by decide +kernel)
set_option maxRecDepth 20000 in
theorem gX6_is_X4_turnsFrom : GoodIn wsX6_is (wsV RX6 137 RX4 yX4_turnsFrom wsX4_turnsFrom) := goodIn_app (goodIn_of _ (by decide +kernel)) ggX6_is_X4_turnsFrom
theorem dX6_is_0 : decode cX6_is 0 = .ok (.iload_n 1, 1) := by decide +kernel
theorem dX6_is_1 : decode cX6_is 1 = .ok (.ifCond .lt 24, 3) := by decide +kernel
theorem dX6_is_4 : decode cX6_is 4 = .ok (.iload_n 1, 1) := by decide +kernel
theorem dX6_is_5 : decode cX6_is 5 = .ok (.iconst 2, 1) := by decide +kernel
theorem dX6_is_6 : decode cX6_is 6 = .ok (.if_icmp .gt 19, 3) := by decide +kernel
theorem dX6_is_9 : decode cX6_is 9 = .ok (.aload_n 0, 1) := by decide +kernel
theorem dX6_is_10 : decode cX6_is 10 = .ok (.iload_n 2, 1) := by decide +kernel
theorem dX6_is_11 : decode cX6_is 11 = .ok (.invokevirtual 92, 3) := by decide +kernel
theorem dX6_is_14 : decode cX6_is 14 = .ok (.ifCond .eq 11, 3) := by decide +kernel
theorem dX6_is_17 : decode cX6_is 17 = .ok (.aload_n 0, 1) := by decide +kernel
theorem dX6_is_18 : decode cX6_is 18 = .ok (.iload_n 3, 1) := by decide +kernel
theorem dX6_is_19 : decode cX6_is 19 = .ok (.invokevirtual 92, 3) := by decide +kernel
theorem dX6_is_22 : decode cX6_is 22 = .ok (.ifCond .ne 6, 3) := by decide +kernel
theorem dX6_is_25 : decode cX6_is 25 = .ok (.bipush (-2), 2) := by decide +kernel
theorem dX6_is_27 : decode cX6_is 27 = .ok (.ireturn, 1) := by decide +kernel
theorem dX6_is_28 : decode cX6_is 28 = .ok (.aload_n 0, 1) := by decide +kernel
theorem dX6_is_29 : decode cX6_is 29 = .ok (.getfield 15, 3) := by decide +kernel
theorem dX6_is_32 : decode cX6_is 32 = .ok (.iload_n 2, 1) := by decide +kernel
theorem dX6_is_33 : decode cX6_is 33 = .ok (.aaload, 1) := by decide +kernel
theorem dX6_is_34 : decode cX6_is 34 = .ok (.aload_n 0, 1) := by decide +kernel
theorem dX6_is_35 : decode cX6_is 35 = .ok (.getfield 15, 3) := by decide +kernel
theorem dX6_is_38 : decode cX6_is 38 = .ok (.iload_n 3, 1) := by decide +kernel
theorem dX6_is_39 : decode cX6_is 39 = .ok (.aaload, 1) := by decide +kernel
theorem dX6_is_40 : decode cX6_is 40 = .ok (.invokevirtual 143, 3) := by decide +kernel
theorem dX6_is_43 : decode cX6_is 43 = .ok (.ifCond .ne 5, 3) := by decide +kernel
theorem dX6_is_46 : decode cX6_is 46 = .ok (.iconst 0, 1) := by decide +kernel
theorem dX6_is_47 : decode cX6_is 47 = .ok (.ireturn, 1) := by decide +kernel
theorem dX6_is_48 : decode cX6_is 48 = .ok (.iload_n 1, 1) := by decide +kernel
theorem dX6_is_49 : decode cX6_is 49 = .ok (.iconst 1, 1) := by decide +kernel
theorem dX6_is_50 : decode cX6_is 50 = .ok (.if_icmp .ne 22, 3) := by decide +kernel
theorem dX6_is_53 : decode cX6_is 53 = .ok (.aload_n 0, 1) := by decide +kernel
theorem dX6_is_54 : decode cX6_is 54 = .ok (.getfield 15, 3) := by decide +kernel
theorem dX6_is_57 : decode cX6_is 57 = .ok (.iload_n 2, 1) := by decide +kernel
theorem dX6_is_58 : decode cX6_is 58 = .ok (.aaload, 1) := by decide +kernel
theorem dX6_is_59 : decode cX6_is 59 = .ok (.aload_n 0, 1) := by decide +kernel
theorem dX6_is_60 : decode cX6_is 60 = .ok (.getfield 15, 3) := by decide +kernel
theorem dX6_is_63 : decode cX6_is 63 = .ok (.iload_n 3, 1) := by decide +kernel
theorem dX6_is_64 : decode cX6_is 64 = .ok (.aaload, 1) := by decide +kernel
theorem dX6_is_65 : decode cX6_is 65 = .ok (.invokevirtual 147, 3) := by decide +kernel
theorem dX6_is_68 : decode cX6_is 68 = .ok (.invokestatic 74, 3) := by decide +kernel
theorem dX6_is_71 : decode cX6_is 71 = .ok (.ireturn, 1) := by decide +kernel
theorem dX6_is_72 : decode cX6_is 72 = .ok (.iload_n 1, 1) := by decide +kernel
theorem dX6_is_73 : decode cX6_is 73 = .ok (.ifCond .eq 26, 3) := by decide +kernel
theorem dX6_is_76 : decode cX6_is 76 = .ok (.aload_n 0, 1) := by decide +kernel
theorem dX6_is_77 : decode cX6_is 77 = .ok (.getfield 15, 3) := by decide +kernel
theorem dX6_is_80 : decode cX6_is 80 = .ok (.iload_n 2, 1) := by decide +kernel
theorem dX6_is_81 : decode cX6_is 81 = .ok (.aaload, 1) := by decide +kernel
theorem dX6_is_82 : decode cX6_is 82 = .ok (.iconst 0, 1) := by decide +kernel
theorem dX6_is_83 : decode cX6_is 83 = .ok (.invokevirtual 137, 3) := by decide +kernel
theorem dX6_is_86 : decode cX6_is 86 = .ok (.aload_n 0, 1) := by decide +kernel
theorem dX6_is_87 : decode cX6_is 87 = .ok (.getfield 15, 3) := by decide +kernel
theorem dX6_is_90 : decode cX6_is 90 = .ok (.iload_n 3, 1) := by decide +kernel
theorem dX6_is_91 : decode cX6_is 91 = .ok (.aaload, 1) := by decide +kernel
theorem dX6_is_92 : decode cX6_is 92 = .ok (.iconst 0, 1) := by decide +kernel
theorem dX6_is_93 : decode cX6_is 93 = .ok (.invokevirtual 137, 3) := by decide +kernel
theorem dX6_is_96 : decode cX6_is 96 = .ok (.if_icmp .ne 7, 3) := by decide +kernel
theorem dX6_is_99 : decode cX6_is 99 = .ok (.iconst 1, 1) := by decide +kernel
theorem dX6_is_100 : decode cX6_is 100 = .ok (.goto 4, 3) := by decide +kernel
theorem dX6_is_103 : decode cX6_is 103 = .ok (.iconst 0, 1) := by decide +kernel
theorem dX6_is_104 : decode cX6_is 104 = .ok (.invokestatic 74, 3) := by decide +kernel
theorem dX6_is_107 : decode cX6_is 107 = .ok (.ireturn, 1) := by decide +kernel
set_option maxRecDepth 20000 in
theorem ggX6_orbit_X6_isGroup : GoodIn wsX6_orbit wsX6_isGroup := goodIn_r _ [6, 7, 29, 30, 31, 32, 33, 34] (by decide +kernel) (by decide +kernel)
set_option maxRecDepth 20000 in
theorem gX6_orbit_X6_isGroup : GoodIn wsX6_orbit (wsV RX6 92 RX6 yX6_isGroup wsX6_isGroup) := goodIn_app (goodIn_of _ (by decide +kernel)) ggX6_orbit_X6_isGroup
set_option maxRecDepth 20000 in
theorem ggX6_orbit_X6_isPoint : GoodIn wsX6_orbit wsX6_isPoint := goodIn_r _ [11, 12, 29, 30, 31, 32, 33, 34] (by decide +kernel) (by decide +kernel)
set_option maxRecDepth 20000 in
theorem gX6_orbit_X6_isPoint : GoodIn wsX6_orbit (wsV RX6 46 RX6 yX6_isPoint wsX6_isPoint) := goodIn_app (goodIn_of _ (by decide +kernel)) ggX6_orbit_X6_isPoint
set_option maxRecDepth 20000 in
theorem ggX6_orbit_X4_orbitFrom : GoodIn wsX6_orbit wsX4_orbitFrom := goodIn_r _ [17, 18, 19, 20, 21, 22, 16, 23, 24, 25, 26, 27, 5, 28, 35, 36, 37, 38, 39, 40, 41] (by decide +kernel) (by decide +kernel)
set_option maxRecDepth 20000 in
theorem gX6_orbit_X4_orbitFrom : GoodIn wsX6_orbit (wsV RX6 150 RX4 yX4_orbitFrom wsX4_orbitFrom) := goodIn_app (goodIn_of _ (by decide +kernel)) ggX6_orbit_X4_orbitFrom
theorem dX6_orbit_0 : decode cX6_orbit 0 = .ok (.aload_n 0, 1) := by decide +kernel
theorem dX6_orbit_1 : decode cX6_orbit 1 = .ok (.iload_n 1, 1) := by decide +kernel
theorem dX6_orbit_2 : decode cX6_orbit 2 = .ok (.invokevirtual 92, 3) := by decide +kernel
theorem dX6_orbit_5 : decode cX6_orbit 5 = .ok (.ifCond .eq 25, 3) := by decide +kernel
theorem dX6_orbit_8 : decode cX6_orbit 8 = .ok (.aload_n 0, 1) := by decide +kernel
theorem dX6_orbit_9 : decode cX6_orbit 9 = .ok (.iload_n 2, 1) := by decide +kernel
theorem dX6_orbit_10 : decode cX6_orbit 10 = .ok (.invokevirtual 46, 3) := by decide +kernel
theorem dX6_orbit_13 : decode cX6_orbit 13 = .ok (.ifCond .eq 17, 3) := by decide +kernel
theorem dX6_orbit_16 : decode cX6_orbit 16 = .ok (.aload_n 0, 1) := by decide +kernel
theorem dX6_orbit_17 : decode cX6_orbit 17 = .ok (.getfield 15, 3) := by decide +kernel
theorem dX6_orbit_20 : decode cX6_orbit 20 = .ok (.iload_n 1, 1) := by decide +kernel
theorem dX6_orbit_21 : decode cX6_orbit 21 = .ok (.aaload, 1) := by decide +kernel
theorem dX6_orbit_22 : decode cX6_orbit 22 = .ok (.iconst 0, 1) := by decide +kernel
theorem dX6_orbit_23 : decode cX6_orbit 23 = .ok (.iload_n 2, 1) := by decide +kernel
theorem dX6_orbit_24 : decode cX6_orbit 24 = .ok (.invokevirtual 150, 3) := by decide +kernel
theorem dX6_orbit_27 : decode cX6_orbit 27 = .ok (.goto 5, 3) := by decide +kernel
theorem dX6_orbit_30 : decode cX6_orbit 30 = .ok (.bipush (-2), 2) := by decide +kernel
theorem dX6_orbit_32 : decode cX6_orbit 32 = .ok (.ireturn, 1) := by decide +kernel
set_option maxRecDepth 20000 in
theorem ggX6_block_X6_isGroup : GoodIn wsX6_block wsX6_isGroup := goodIn_r _ [6, 7, 29, 30, 31, 32, 33, 34] (by decide +kernel) (by decide +kernel)
set_option maxRecDepth 20000 in
theorem gX6_block_X6_isGroup : GoodIn wsX6_block (wsV RX6 92 RX6 yX6_isGroup wsX6_isGroup) := goodIn_app (goodIn_of _ (by decide +kernel)) ggX6_block_X6_isGroup
set_option maxRecDepth 20000 in
theorem ggX6_block_X6_isPoint : GoodIn wsX6_block wsX6_isPoint := goodIn_r _ [11, 12, 29, 30, 31, 32, 33, 34] (by decide +kernel) (by decide +kernel)
set_option maxRecDepth 20000 in
theorem gX6_block_X6_isPoint : GoodIn wsX6_block (wsV RX6 46 RX6 yX6_isPoint wsX6_isPoint) := goodIn_app (goodIn_of _ (by decide +kernel)) ggX6_block_X6_isPoint
set_option maxRecDepth 20000 in
theorem ggX6_block_X4_blockOf : GoodIn wsX6_block wsX4_blockOf := goodIn_r _ [17, 18, 19, 20, 21, 22, 16, 23, 24, 5, 25, 26, 27, 28, 35, 36, 37, 38, 39, 40, 41] (by decide +kernel) (by decide +kernel)
set_option maxRecDepth 20000 in
theorem gX6_block_X4_blockOf : GoodIn wsX6_block (wsV RX6 153 RX4 yX4_blockOf wsX4_blockOf) := goodIn_app (goodIn_of _ (by decide +kernel)) ggX6_block_X4_blockOf
theorem dX6_block_0 : decode cX6_block 0 = .ok (.aload_n 0, 1) := by decide +kernel
theorem dX6_block_1 : decode cX6_block 1 = .ok (.iload_n 1, 1) := by decide +kernel
theorem dX6_block_2 : decode cX6_block 2 = .ok (.invokevirtual 92, 3) := by decide +kernel
theorem dX6_block_5 : decode cX6_block 5 = .ok (.ifCond .eq 33, 3) := by decide +kernel
theorem dX6_block_8 : decode cX6_block 8 = .ok (.aload_n 0, 1) := by decide +kernel
theorem dX6_block_9 : decode cX6_block 9 = .ok (.iload_n 2, 1) := by decide +kernel
theorem dX6_block_10 : decode cX6_block 10 = .ok (.invokevirtual 46, 3) := by decide +kernel
theorem dX6_block_13 : decode cX6_block 13 = .ok (.ifCond .eq 25, 3) := by decide +kernel
theorem dX6_block_16 : decode cX6_block 16 = .ok (.aload_n 0, 1) := by decide +kernel
theorem dX6_block_17 : decode cX6_block 17 = .ok (.iload_n 3, 1) := by decide +kernel
theorem dX6_block_18 : decode cX6_block 18 = .ok (.invokevirtual 46, 3) := by decide +kernel
theorem dX6_block_21 : decode cX6_block 21 = .ok (.ifCond .eq 17, 3) := by decide +kernel
theorem dX6_block_24 : decode cX6_block 24 = .ok (.aload_n 0, 1) := by decide +kernel
theorem dX6_block_25 : decode cX6_block 25 = .ok (.getfield 15, 3) := by decide +kernel
theorem dX6_block_28 : decode cX6_block 28 = .ok (.iload_n 1, 1) := by decide +kernel
theorem dX6_block_29 : decode cX6_block 29 = .ok (.aaload, 1) := by decide +kernel
theorem dX6_block_30 : decode cX6_block 30 = .ok (.iload_n 2, 1) := by decide +kernel
theorem dX6_block_31 : decode cX6_block 31 = .ok (.iload_n 3, 1) := by decide +kernel
theorem dX6_block_32 : decode cX6_block 32 = .ok (.invokevirtual 153, 3) := by decide +kernel
theorem dX6_block_35 : decode cX6_block 35 = .ok (.goto 5, 3) := by decide +kernel
theorem dX6_block_38 : decode cX6_block 38 = .ok (.bipush (-2), 2) := by decide +kernel
theorem dX6_block_40 : decode cX6_block 40 = .ok (.ireturn, 1) := by decide +kernel
set_option maxRecDepth 20000 in
theorem ggX6_steps_X6_isGroup : GoodIn wsX6_steps wsX6_isGroup := goodIn_r _ [7, 8, 75, 76, 77, 78, 79, 80] (by decide +kernel) (by decide +kernel)
set_option maxRecDepth 20000 in
theorem gX6_steps_X6_isGroup : GoodIn wsX6_steps (wsV RX6 92 RX6 yX6_isGroup wsX6_isGroup) := goodIn_app (goodIn_of _ (by decide +kernel)) ggX6_steps_X6_isGroup
set_option maxRecDepth 20000 in
theorem ggX6_steps_X4_turnsFrom : GoodIn wsX6_steps wsX4_turnsFrom := goodIn_r _ [13, 14, 15, 16, 17, 18, 19, 20, 21, 81, 82, 83, 84, 85, 86, 87] (by decide +kernel) (by decide +kernel)
set_option maxRecDepth 20000 in
theorem gX6_steps_X4_turnsFrom : GoodIn wsX6_steps (wsV RX6 137 RX4 yX4_turnsFrom wsX4_turnsFrom) := goodIn_app (goodIn_of _ (by decide +kernel)) ggX6_steps_X4_turnsFrom
set_option maxRecDepth 20000 in
theorem ggX6_steps_X4_becomeDown : GoodIn wsX6_steps wsX4_becomeDown := goodIn_r _ [25, 26, 27, 28, 29, 30, 12, 31, 14, 32, 33, 6, 34, 35, 36, 37, 38, 39, 40, 41, 42, 43, 44, 45, 46, 47, 48, 49, 50, 51, 52, 53, 54, 55, 56, 57, 58, 59, 60, 61, 62, 63, 64, 65, 66, 67, 68, 69, 70, 71, 72, 73, 74, 81, 82, 83, 84, 85, 86, 87] (by decide +kernel) (by decide +kernel)
set_option maxRecDepth 20000 in
theorem gX6_steps_X4_becomeDown : GoodIn wsX6_steps (wsV RX6 134 RX4 yX4_becomeDown wsX4_becomeDown) := goodIn_app (goodIn_of _ (by decide +kernel)) ggX6_steps_X4_becomeDown
theorem dX6_steps_0 : decode cX6_steps 0 = .ok (.aload_n 0, 1) := by decide +kernel
theorem dX6_steps_1 : decode cX6_steps 1 = .ok (.iload_n 1, 1) := by decide +kernel
theorem dX6_steps_2 : decode cX6_steps 2 = .ok (.invokevirtual 92, 3) := by decide +kernel
theorem dX6_steps_5 : decode cX6_steps 5 = .ok (.ifCond .ne 6, 3) := by decide +kernel
theorem dX6_steps_8 : decode cX6_steps 8 = .ok (.bipush (-2), 2) := by decide +kernel
theorem dX6_steps_10 : decode cX6_steps 10 = .ok (.ireturn, 1) := by decide +kernel
theorem dX6_steps_11 : decode cX6_steps 11 = .ok (.aload_n 0, 1) := by decide +kernel
theorem dX6_steps_12 : decode cX6_steps 12 = .ok (.getfield 15, 3) := by decide +kernel
theorem dX6_steps_15 : decode cX6_steps 15 = .ok (.iload_n 1, 1) := by decide +kernel
theorem dX6_steps_16 : decode cX6_steps 16 = .ok (.aaload, 1) := by decide +kernel
theorem dX6_steps_17 : decode cX6_steps 17 = .ok (.astore_n 2, 1) := by decide +kernel
theorem dX6_steps_18 : decode cX6_steps 18 = .ok (.iconst 0, 1) := by decide +kernel
theorem dX6_steps_19 : decode cX6_steps 19 = .ok (.istore_n 3, 1) := by decide +kernel
theorem dX6_steps_20 : decode cX6_steps 20 = .ok (.iload_n 3, 1) := by decide +kernel
theorem dX6_steps_21 : decode cX6_steps 21 = .ok (.bipush 16, 2) := by decide +kernel
theorem dX6_steps_23 : decode cX6_steps 23 = .ok (.if_icmp .ge 56, 3) := by decide +kernel
theorem dX6_steps_26 : decode cX6_steps 26 = .ok (.aload_n 2, 1) := by decide +kernel
theorem dX6_steps_27 : decode cX6_steps 27 = .ok (.iconst 0, 1) := by decide +kernel
theorem dX6_steps_28 : decode cX6_steps 28 = .ok (.invokevirtual 137, 3) := by decide +kernel
theorem dX6_steps_31 : decode cX6_steps 31 = .ok (.istore 4, 2) := by decide +kernel
theorem dX6_steps_33 : decode cX6_steps 33 = .ok (.iload 4, 2) := by decide +kernel
theorem dX6_steps_35 : decode cX6_steps 35 = .ok (.iconst 1, 1) := by decide +kernel
theorem dX6_steps_36 : decode cX6_steps 36 = .ok (.if_icmp .ne 5, 3) := by decide +kernel
theorem dX6_steps_39 : decode cX6_steps 39 = .ok (.iload_n 3, 1) := by decide +kernel
theorem dX6_steps_40 : decode cX6_steps 40 = .ok (.ireturn, 1) := by decide +kernel
theorem dX6_steps_41 : decode cX6_steps 41 = .ok (.aload_n 0, 1) := by decide +kernel
theorem dX6_steps_42 : decode cX6_steps 42 = .ok (.getfield 19, 3) := by decide +kernel
theorem dX6_steps_45 : decode cX6_steps 45 = .ok (.iload_n 3, 1) := by decide +kernel
theorem dX6_steps_46 : decode cX6_steps 46 = .ok (.iconst 1, 1) := by decide +kernel
theorem dX6_steps_47 : decode cX6_steps 47 = .ok (.iand, 1) := by decide +kernel
theorem dX6_steps_48 : decode cX6_steps 48 = .ok (.aaload, 1) := by decide +kernel
theorem dX6_steps_49 : decode cX6_steps 49 = .ok (.astore 5, 2) := by decide +kernel
theorem dX6_steps_51 : decode cX6_steps 51 = .ok (.aload 5, 2) := by decide +kernel
theorem dX6_steps_53 : decode cX6_steps 53 = .ok (.aload_n 2, 1) := by decide +kernel
theorem dX6_steps_54 : decode cX6_steps 54 = .ok (.invokevirtual 134, 3) := by decide +kernel
theorem dX6_steps_57 : decode cX6_steps 57 = .ok (.aload 5, 2) := by decide +kernel
theorem dX6_steps_59 : decode cX6_steps 59 = .ok (.iconst 0, 1) := by decide +kernel
theorem dX6_steps_60 : decode cX6_steps 60 = .ok (.invokevirtual 137, 3) := by decide +kernel
theorem dX6_steps_63 : decode cX6_steps 63 = .ok (.iload 4, 2) := by decide +kernel
theorem dX6_steps_65 : decode cX6_steps 65 = .ok (.if_icmp .ne 5, 3) := by decide +kernel
theorem dX6_steps_68 : decode cX6_steps 68 = .ok (.iconst (-1), 1) := by decide +kernel
theorem dX6_steps_69 : decode cX6_steps 69 = .ok (.ireturn, 1) := by decide +kernel
theorem dX6_steps_70 : decode cX6_steps 70 = .ok (.aload 5, 2) := by decide +kernel
theorem dX6_steps_72 : decode cX6_steps 72 = .ok (.astore_n 2, 1) := by decide +kernel
theorem dX6_steps_73 : decode cX6_steps 73 = .ok (.iinc 3 1, 3) := by decide +kernel
theorem dX6_steps_76 : decode cX6_steps 76 = .ok (.goto (-56), 3) := by decide +kernel
theorem dX6_steps_79 : decode cX6_steps 79 = .ok (.iconst (-1), 1) := by decide +kernel
theorem dX6_steps_80 : decode cX6_steps 80 = .ok (.ireturn, 1) := by decide +kernel
set_option maxRecDepth 20000 in
theorem ggX6_still_X6_isGroup : GoodIn wsX6_still wsX6_isGroup := goodIn_r _ [7, 8, 54, 55, 56, 57, 58, 59] (by decide +kernel) (by decide +kernel)
set_option maxRecDepth 20000 in
theorem gX6_still_X6_isGroup : GoodIn wsX6_still (wsV RX6 92 RX6 yX6_isGroup wsX6_isGroup) := goodIn_app (goodIn_of _ (by decide +kernel)) ggX6_still_X6_isGroup
set_option maxRecDepth 20000 in
theorem ggX6_still_X4_turnsThatLeave : GoodIn wsX6_still wsX4_turnsThatLeave := goodIn_r _ [13, 14, 15, 16, 17, 12, 18, 19, 20, 21, 22, 23, 24, 25, 26, 27, 28, 29, 30, 31, 32, 6, 33, 34, 35, 36, 37, 38, 39, 40, 41, 42, 43, 44, 45, 46, 47, 48, 49, 50, 51, 52, 53, 60, 61, 62, 63, 64, 65, 66] (by decide +kernel) (by decide +kernel)
set_option maxRecDepth 20000 in
theorem gX6_still_X4_turnsThatLeave : GoodIn wsX6_still (wsV RX6 159 RX4 yX4_turnsThatLeave wsX4_turnsThatLeave) := goodIn_app (goodIn_of _ (by decide +kernel)) ggX6_still_X4_turnsThatLeave
theorem dX6_still_0 : decode cX6_still 0 = .ok (.aload_n 0, 1) := by decide +kernel
theorem dX6_still_1 : decode cX6_still 1 = .ok (.iload_n 1, 1) := by decide +kernel
theorem dX6_still_2 : decode cX6_still 2 = .ok (.invokevirtual 92, 3) := by decide +kernel
theorem dX6_still_5 : decode cX6_still 5 = .ok (.ifCond .eq 15, 3) := by decide +kernel
theorem dX6_still_8 : decode cX6_still 8 = .ok (.iload_n 2, 1) := by decide +kernel
theorem dX6_still_9 : decode cX6_still 9 = .ok (.ifCond .lt 11, 3) := by decide +kernel
theorem dX6_still_12 : decode cX6_still 12 = .ok (.iload_n 2, 1) := by decide +kernel
theorem dX6_still_13 : decode cX6_still 13 = .ok (.aload_n 0, 1) := by decide +kernel
theorem dX6_still_14 : decode cX6_still 14 = .ok (.getfield 156, 3) := by decide +kernel
theorem dX6_still_17 : decode cX6_still 17 = .ok (.if_icmp .le 6, 3) := by decide +kernel
theorem dX6_still_20 : decode cX6_still 20 = .ok (.bipush (-2), 2) := by decide +kernel
theorem dX6_still_22 : decode cX6_still 22 = .ok (.ireturn, 1) := by decide +kernel
theorem dX6_still_23 : decode cX6_still 23 = .ok (.aload_n 0, 1) := by decide +kernel
theorem dX6_still_24 : decode cX6_still 24 = .ok (.getfield 15, 3) := by decide +kernel
theorem dX6_still_27 : decode cX6_still 27 = .ok (.iload_n 1, 1) := by decide +kernel
theorem dX6_still_28 : decode cX6_still 28 = .ok (.aaload, 1) := by decide +kernel
theorem dX6_still_29 : decode cX6_still 29 = .ok (.iload_n 2, 1) := by decide +kernel
theorem dX6_still_30 : decode cX6_still 30 = .ok (.bipush 8, 2) := by decide +kernel
theorem dX6_still_32 : decode cX6_still 32 = .ok (.iadd, 1) := by decide +kernel
theorem dX6_still_33 : decode cX6_still 33 = .ok (.aload_n 0, 1) := by decide +kernel
theorem dX6_still_34 : decode cX6_still 34 = .ok (.getfield 156, 3) := by decide +kernel
theorem dX6_still_37 : decode cX6_still 37 = .ok (.isub, 1) := by decide +kernel
theorem dX6_still_38 : decode cX6_still 38 = .ok (.invokevirtual 159, 3) := by decide +kernel
theorem dX6_still_41 : decode cX6_still 41 = .ok (.ireturn, 1) := by decide +kernel
set_option maxRecDepth 20000 in
theorem ggX6_element_X6_isGroup : GoodIn wsX6_element wsX6_isGroup := goodIn_r _ [7, 8, 49, 50, 51, 52, 53, 54] (by decide +kernel) (by decide +kernel)
set_option maxRecDepth 20000 in
theorem gX6_element_X6_isGroup : GoodIn wsX6_element (wsV RX6 92 RX6 yX6_isGroup wsX6_isGroup) := goodIn_app (goodIn_of _ (by decide +kernel)) ggX6_element_X6_isGroup
set_option maxRecDepth 20000 in
theorem ggX6_element_X4_turnsFrom : GoodIn wsX6_element wsX4_turnsFrom := goodIn_r _ [13, 14, 15, 16, 17, 18, 19, 20, 21, 55, 56, 57, 58, 59, 60, 61] (by decide +kernel) (by decide +kernel)
set_option maxRecDepth 20000 in
theorem gX6_element_X4_turnsFrom : GoodIn wsX6_element (wsV RX6 137 RX4 yX4_turnsFrom wsX4_turnsFrom) := goodIn_app (goodIn_of _ (by decide +kernel)) ggX6_element_X4_turnsFrom
set_option maxRecDepth 20000 in
theorem ggX6_element_X4_turnAt : GoodIn wsX6_element wsX4_turnAt := goodIn_r _ [25, 26, 14, 27, 10, 11, 12, 13, 15, 16, 17, 18, 19, 20, 21, 28, 29, 30, 31, 6, 32, 33, 34, 35, 36, 37, 38, 39, 40, 41, 42, 43, 44, 45, 46, 47, 48, 55, 56, 57, 58, 59, 60, 61] (by decide +kernel) (by decide +kernel)
set_option maxRecDepth 20000 in
theorem gX6_element_X4_turnAt : GoodIn wsX6_element (wsV RX6 162 RX4 yX4_turnAt wsX4_turnAt) := goodIn_app (goodIn_of _ (by decide +kernel)) ggX6_element_X4_turnAt
theorem dX6_element_0 : decode cX6_element 0 = .ok (.aload_n 0, 1) := by decide +kernel
theorem dX6_element_1 : decode cX6_element 1 = .ok (.iload_n 1, 1) := by decide +kernel
theorem dX6_element_2 : decode cX6_element 2 = .ok (.invokevirtual 92, 3) := by decide +kernel
theorem dX6_element_5 : decode cX6_element 5 = .ok (.ifCond .eq 21, 3) := by decide +kernel
theorem dX6_element_8 : decode cX6_element 8 = .ok (.iload_n 2, 1) := by decide +kernel
theorem dX6_element_9 : decode cX6_element 9 = .ok (.ifCond .lt 17, 3) := by decide +kernel
theorem dX6_element_12 : decode cX6_element 12 = .ok (.iload_n 2, 1) := by decide +kernel
theorem dX6_element_13 : decode cX6_element 13 = .ok (.aload_n 0, 1) := by decide +kernel
theorem dX6_element_14 : decode cX6_element 14 = .ok (.getfield 15, 3) := by decide +kernel
theorem dX6_element_17 : decode cX6_element 17 = .ok (.iload_n 1, 1) := by decide +kernel
theorem dX6_element_18 : decode cX6_element 18 = .ok (.aaload, 1) := by decide +kernel
theorem dX6_element_19 : decode cX6_element 19 = .ok (.iconst 0, 1) := by decide +kernel
theorem dX6_element_20 : decode cX6_element 20 = .ok (.invokevirtual 137, 3) := by decide +kernel
theorem dX6_element_23 : decode cX6_element 23 = .ok (.if_icmp .lt 6, 3) := by decide +kernel
theorem dX6_element_26 : decode cX6_element 26 = .ok (.bipush (-2), 2) := by decide +kernel
theorem dX6_element_28 : decode cX6_element 28 = .ok (.ireturn, 1) := by decide +kernel
theorem dX6_element_29 : decode cX6_element 29 = .ok (.aload_n 0, 1) := by decide +kernel
theorem dX6_element_30 : decode cX6_element 30 = .ok (.aload_n 0, 1) := by decide +kernel
theorem dX6_element_31 : decode cX6_element 31 = .ok (.getfield 15, 3) := by decide +kernel
theorem dX6_element_34 : decode cX6_element 34 = .ok (.iload_n 1, 1) := by decide +kernel
theorem dX6_element_35 : decode cX6_element 35 = .ok (.aaload, 1) := by decide +kernel
theorem dX6_element_36 : decode cX6_element 36 = .ok (.iload_n 2, 1) := by decide +kernel
theorem dX6_element_37 : decode cX6_element 37 = .ok (.invokevirtual 162, 3) := by decide +kernel
theorem dX6_element_40 : decode cX6_element 40 = .ok (.putfield 43, 3) := by decide +kernel
theorem dX6_element_43 : decode cX6_element 43 = .ok (.iconst 1, 1) := by decide +kernel
theorem dX6_element_44 : decode cX6_element 44 = .ok (.ireturn, 1) := by decide +kernel
set_option maxRecDepth 20000 in
theorem ggX6_place_X6_isGroup : GoodIn wsX6_place wsX6_isGroup := goodIn_r _ [7, 8, 48, 49, 50, 51, 52, 53] (by decide +kernel) (by decide +kernel)
set_option maxRecDepth 20000 in
theorem gX6_place_X6_isGroup : GoodIn wsX6_place (wsV RX6 92 RX6 yX6_isGroup wsX6_isGroup) := goodIn_app (goodIn_of _ (by decide +kernel)) ggX6_place_X6_isGroup
set_option maxRecDepth 20000 in
theorem ggX6_place_X4_turnsAheadOf : GoodIn wsX6_place wsX4_turnsAheadOf := goodIn_r _ [13, 14, 15, 16, 6, 17, 18, 19, 12, 20, 21, 22, 23, 24, 25, 26, 27, 28, 29, 30, 31, 32, 33, 34, 35, 36, 37, 38, 39, 40, 41, 42, 43, 44, 45, 46, 47, 54, 55, 56, 57, 58, 59, 60] (by decide +kernel) (by decide +kernel)
set_option maxRecDepth 20000 in
theorem gX6_place_X4_turnsAheadOf : GoodIn wsX6_place (wsV RX6 165 RX4 yX4_turnsAheadOf wsX4_turnsAheadOf) := goodIn_app (goodIn_of _ (by decide +kernel)) ggX6_place_X4_turnsAheadOf
theorem dX6_place_0 : decode cX6_place 0 = .ok (.aload_n 0, 1) := by decide +kernel
theorem dX6_place_1 : decode cX6_place 1 = .ok (.iload_n 1, 1) := by decide +kernel
theorem dX6_place_2 : decode cX6_place 2 = .ok (.invokevirtual 92, 3) := by decide +kernel
theorem dX6_place_5 : decode cX6_place 5 = .ok (.ifCond .eq 19, 3) := by decide +kernel
theorem dX6_place_8 : decode cX6_place 8 = .ok (.aload_n 0, 1) := by decide +kernel
theorem dX6_place_9 : decode cX6_place 9 = .ok (.getfield 15, 3) := by decide +kernel
theorem dX6_place_12 : decode cX6_place 12 = .ok (.iload_n 1, 1) := by decide +kernel
theorem dX6_place_13 : decode cX6_place 13 = .ok (.aaload, 1) := by decide +kernel
theorem dX6_place_14 : decode cX6_place 14 = .ok (.aload_n 0, 1) := by decide +kernel
theorem dX6_place_15 : decode cX6_place 15 = .ok (.getfield 43, 3) := by decide +kernel
theorem dX6_place_18 : decode cX6_place 18 = .ok (.invokevirtual 165, 3) := by decide +kernel
theorem dX6_place_21 : decode cX6_place 21 = .ok (.goto 5, 3) := by decide +kernel
theorem dX6_place_24 : decode cX6_place 24 = .ok (.bipush (-2), 2) := by decide +kernel
theorem dX6_place_26 : decode cX6_place 26 = .ok (.ireturn, 1) := by decide +kernel
set_option maxRecDepth 20000 in
theorem ggX6_carry_X6_isGroup : GoodIn wsX6_carry wsX6_isGroup := goodIn_r _ [10, 11, 92, 93, 94, 95, 96, 97] (by decide +kernel) (by decide +kernel)
set_option maxRecDepth 20000 in
theorem gX6_carry_X6_isGroup : GoodIn wsX6_carry (wsV RX6 92 RX6 yX6_isGroup wsX6_isGroup) := goodIn_app (goodIn_of _ (by decide +kernel)) ggX6_carry_X6_isGroup
set_option maxRecDepth 20000 in
theorem ggX6_carry_X6_isSet : GoodIn wsX6_carry wsX6_isSet := goodIn_r _ [15, 16, 92, 93, 94, 95, 96, 97] (by decide +kernel) (by decide +kernel)
set_option maxRecDepth 20000 in
theorem gX6_carry_X6_isSet : GoodIn wsX6_carry (wsV RX6 115 RX6 yX6_isSet wsX6_isSet) := goodIn_app (goodIn_of _ (by decide +kernel)) ggX6_carry_X6_isSet
set_option maxRecDepth 20000 in
theorem ggX6_carry_J6_bitCount_0f7a4 : GoodIn wsX6_carry wsJ6_bitCount_0f7a4 := goodIn_r _ [20, 21, 22, 23] (by decide +kernel) (by decide +kernel)
set_option maxRecDepth 20000 in
theorem gX6_carry_J6_bitCount_0f7a4 : GoodIn wsX6_carry (va_wsS RX6 168 yJ6_bitCount_0f7a4 wsJ6_bitCount_0f7a4) := goodIn_app (goodIn_of _ (by decide +kernel)) ggX6_carry_J6_bitCount_0f7a4
set_option maxRecDepth 20000 in
theorem ggX6_carry_X0_init : GoodIn wsX6_carry wsX0_init := goodIn_r _ [26, 27, 28, 29, 30, 31, 32, 33, 34, 98, 99] (by decide +kernel) (by decide +kernel)
set_option maxRecDepth 20000 in
theorem gX6_carry_X0_init : GoodIn wsX6_carry (wsX0_init) := ggX6_carry_X0_init
set_option maxRecDepth 20000 in
theorem ggX6_carry_X4_firstThat : GoodIn wsX6_carry wsX4_firstThat := goodIn_r _ [39, 40, 41, 42, 43, 38, 44, 45, 9, 46, 47, 48, 49, 50, 51, 52, 53, 54, 55, 56, 57, 58, 59, 60, 61, 62, 63, 64, 65, 66, 67, 4, 68, 27, 28, 69, 70, 71, 72, 73, 74, 75, 76, 77, 78, 79, 80, 81, 82, 83, 84, 85, 86, 87, 88, 89, 90, 91, 100, 101, 102, 103, 104, 105, 106, 98, 99, 107, 108, 109] (by decide +kernel) (by decide +kernel)
set_option maxRecDepth 20000 in
theorem gX6_carry_X4_firstThat : GoodIn wsX6_carry (wsV RX6 173 RX4 yX4_firstThat wsX4_firstThat) := goodIn_app (goodIn_of _ (by decide +kernel)) ggX6_carry_X4_firstThat
theorem dX6_carry_0 : decode cX6_carry 0 = .ok (.aload_n 0, 1) := by decide +kernel
theorem dX6_carry_1 : decode cX6_carry 1 = .ok (.iload_n 1, 1) := by decide +kernel
theorem dX6_carry_2 : decode cX6_carry 2 = .ok (.invokevirtual 92, 3) := by decide +kernel
theorem dX6_carry_5 : decode cX6_carry 5 = .ok (.ifCond .eq 19, 3) := by decide +kernel
theorem dX6_carry_8 : decode cX6_carry 8 = .ok (.aload_n 0, 1) := by decide +kernel
theorem dX6_carry_9 : decode cX6_carry 9 = .ok (.iload_n 2, 1) := by decide +kernel
theorem dX6_carry_10 : decode cX6_carry 10 = .ok (.invokevirtual 115, 3) := by decide +kernel
theorem dX6_carry_13 : decode cX6_carry 13 = .ok (.ifCond .eq 11, 3) := by decide +kernel
theorem dX6_carry_16 : decode cX6_carry 16 = .ok (.aload_n 0, 1) := by decide +kernel
theorem dX6_carry_17 : decode cX6_carry 17 = .ok (.iload_n 3, 1) := by decide +kernel
theorem dX6_carry_18 : decode cX6_carry 18 = .ok (.invokevirtual 115, 3) := by decide +kernel
theorem dX6_carry_21 : decode cX6_carry 21 = .ok (.ifCond .ne 6, 3) := by decide +kernel
theorem dX6_carry_24 : decode cX6_carry 24 = .ok (.bipush (-2), 2) := by decide +kernel
theorem dX6_carry_26 : decode cX6_carry 26 = .ok (.ireturn, 1) := by decide +kernel
theorem dX6_carry_27 : decode cX6_carry 27 = .ok (.iload_n 2, 1) := by decide +kernel
theorem dX6_carry_28 : decode cX6_carry 28 = .ok (.invokestatic 168, 3) := by decide +kernel
theorem dX6_carry_31 : decode cX6_carry 31 = .ok (.iload_n 3, 1) := by decide +kernel
theorem dX6_carry_32 : decode cX6_carry 32 = .ok (.invokestatic 168, 3) := by decide +kernel
theorem dX6_carry_35 : decode cX6_carry 35 = .ok (.if_icmp .eq 5, 3) := by decide +kernel
theorem dX6_carry_38 : decode cX6_carry 38 = .ok (.iconst (-1), 1) := by decide +kernel
theorem dX6_carry_39 : decode cX6_carry 39 = .ok (.ireturn, 1) := by decide +kernel
theorem dX6_carry_40 : decode cX6_carry 40 = .ok (.aload_n 0, 1) := by decide +kernel
theorem dX6_carry_41 : decode cX6_carry 41 = .ok (.getfield 15, 3) := by decide +kernel
theorem dX6_carry_44 : decode cX6_carry 44 = .ok (.iload_n 1, 1) := by decide +kernel
theorem dX6_carry_45 : decode cX6_carry 45 = .ok (.aaload, 1) := by decide +kernel
theorem dX6_carry_46 : decode cX6_carry 46 = .ok (.new 122, 3) := by decide +kernel
theorem dX6_carry_49 : decode cX6_carry 49 = .ok (.dup, 1) := by decide +kernel
theorem dX6_carry_50 : decode cX6_carry 50 = .ok (.iload_n 2, 1) := by decide +kernel
theorem dX6_carry_51 : decode cX6_carry 51 = .ok (.iload_n 3, 1) := by decide +kernel
theorem dX6_carry_52 : decode cX6_carry 52 = .ok (.invokespecial 124, 3) := by decide +kernel
theorem dX6_carry_55 : decode cX6_carry 55 = .ok (.invokevirtual 173, 3) := by decide +kernel
theorem dX6_carry_58 : decode cX6_carry 58 = .ok (.istore 4, 2) := by decide +kernel
theorem dX6_carry_60 : decode cX6_carry 60 = .ok (.iload 4, 2) := by decide +kernel
theorem dX6_carry_62 : decode cX6_carry 62 = .ok (.ifCond .ne 5, 3) := by decide +kernel
theorem dX6_carry_65 : decode cX6_carry 65 = .ok (.iconst (-1), 1) := by decide +kernel
theorem dX6_carry_66 : decode cX6_carry 66 = .ok (.ireturn, 1) := by decide +kernel
theorem dX6_carry_67 : decode cX6_carry 67 = .ok (.aload_n 0, 1) := by decide +kernel
theorem dX6_carry_68 : decode cX6_carry 68 = .ok (.iload 4, 2) := by decide +kernel
theorem dX6_carry_70 : decode cX6_carry 70 = .ok (.putfield 43, 3) := by decide +kernel
theorem dX6_carry_73 : decode cX6_carry 73 = .ok (.iconst 1, 1) := by decide +kernel
theorem dX6_carry_74 : decode cX6_carry 74 = .ok (.ireturn, 1) := by decide +kernel
set_option maxRecDepth 20000 in
theorem ggX6_count_X6_pointsLeft : GoodIn wsX6_count wsX6_pointsLeft := goodIn_r _ [7, 8, 9, 6, 10] (by decide +kernel) (by decide +kernel)
set_option maxRecDepth 20000 in
theorem gX6_count_X6_pointsLeft : GoodIn wsX6_count (va_wsS RX6 177 yX6_pointsLeft wsX6_pointsLeft) := goodIn_app (goodIn_of _ (by decide +kernel)) ggX6_count_X6_pointsLeft
set_option maxRecDepth 20000 in
theorem ggX6_count_X6_isEven : GoodIn wsX6_count wsX6_isEven := goodIn_r _ [13, 8, 9, 6, 10] (by decide +kernel) (by decide +kernel)
set_option maxRecDepth 20000 in
theorem gX6_count_X6_isEven : GoodIn wsX6_count (va_wsS RX6 180 yX6_isEven wsX6_isEven) := goodIn_app (goodIn_of _ (by decide +kernel)) ggX6_count_X6_isEven
set_option maxRecDepth 20000 in
theorem ggX6_count_X6_truth : GoodIn wsX6_count wsX6_truth := goodIn_r _ [16] (by decide +kernel) (by decide +kernel)
set_option maxRecDepth 20000 in
theorem gX6_count_X6_truth : GoodIn wsX6_count (va_wsS RX6 74 yX6_truth wsX6_truth) := goodIn_app (goodIn_of _ (by decide +kernel)) ggX6_count_X6_truth
theorem dX6_count_0 : decode cX6_count 0 = .ok (.iload_n 1, 1) := by decide +kernel
theorem dX6_count_1 : decode cX6_count 1 = .ok (.tableswitch 68 0 3 #[31, 36, 41, 57], 31) := by decide +kernel
theorem dX6_count_32 : decode cX6_count 32 = .ok (.aload_n 0, 1) := by decide +kernel
theorem dX6_count_33 : decode cX6_count 33 = .ok (.getfield 156, 3) := by decide +kernel
theorem dX6_count_36 : decode cX6_count 36 = .ok (.ireturn, 1) := by decide +kernel
theorem dX6_count_37 : decode cX6_count 37 = .ok (.aload_n 0, 1) := by decide +kernel
theorem dX6_count_38 : decode cX6_count 38 = .ok (.getfield 27, 3) := by decide +kernel
theorem dX6_count_41 : decode cX6_count 41 = .ok (.ireturn, 1) := by decide +kernel
theorem dX6_count_42 : decode cX6_count 42 = .ok (.aload_n 0, 1) := by decide +kernel
theorem dX6_count_43 : decode cX6_count 43 = .ok (.getfield 43, 3) := by decide +kernel
theorem dX6_count_46 : decode cX6_count 46 = .ok (.invokestatic 177, 3) := by decide +kernel
theorem dX6_count_49 : decode cX6_count 49 = .ok (.bipush 8, 2) := by decide +kernel
theorem dX6_count_51 : decode cX6_count 51 = .ok (.aload_n 0, 1) := by decide +kernel
theorem dX6_count_52 : decode cX6_count 52 = .ok (.getfield 156, 3) := by decide +kernel
theorem dX6_count_55 : decode cX6_count 55 = .ok (.isub, 1) := by decide +kernel
theorem dX6_count_56 : decode cX6_count 56 = .ok (.isub, 1) := by decide +kernel
theorem dX6_count_57 : decode cX6_count 57 = .ok (.ireturn, 1) := by decide +kernel
theorem dX6_count_58 : decode cX6_count 58 = .ok (.aload_n 0, 1) := by decide +kernel
theorem dX6_count_59 : decode cX6_count 59 = .ok (.getfield 43, 3) := by decide +kernel
theorem dX6_count_62 : decode cX6_count 62 = .ok (.invokestatic 180, 3) := by decide +kernel
theorem dX6_count_65 : decode cX6_count 65 = .ok (.invokestatic 74, 3) := by decide +kernel
theorem dX6_count_68 : decode cX6_count 68 = .ok (.ireturn, 1) := by decide +kernel
theorem dX6_count_69 : decode cX6_count 69 = .ok (.bipush (-2), 2) := by decide +kernel
theorem dX6_count_71 : decode cX6_count 71 = .ok (.ireturn, 1) := by decide +kernel
set_option maxRecDepth 20000 in
theorem ggX6_beginWith_J7_fill_53178 : GoodIn wsX6_beginWith wsJ7_fill_53178 := goodIn_r _ [9] (by decide +kernel) (by decide +kernel)
set_option maxRecDepth 20000 in
theorem gX6_beginWith_J7_fill_53178 : GoodIn wsX6_beginWith (va_wsS RX6 183 yJ7_fill_53178 wsJ7_fill_53178) := goodIn_app (goodIn_of _ (by decide +kernel)) ggX6_beginWith_J7_fill_53178
theorem dX6_beginWith_0 : decode cX6_beginWith 0 = .ok (.aload_n 0, 1) := by decide +kernel
theorem dX6_beginWith_1 : decode cX6_beginWith 1 = .ok (.iload_n 1, 1) := by decide +kernel
theorem dX6_beginWith_2 : decode cX6_beginWith 2 = .ok (.putfield 156, 3) := by decide +kernel
theorem dX6_beginWith_5 : decode cX6_beginWith 5 = .ok (.aload_n 0, 1) := by decide +kernel
theorem dX6_beginWith_6 : decode cX6_beginWith 6 = .ok (.iconst 0, 1) := by decide +kernel
theorem dX6_beginWith_7 : decode cX6_beginWith 7 = .ok (.putfield 27, 3) := by decide +kernel
theorem dX6_beginWith_10 : decode cX6_beginWith 10 = .ok (.aload_n 0, 1) := by decide +kernel
theorem dX6_beginWith_11 : decode cX6_beginWith 11 = .ok (.ldc 73, 2) := by decide +kernel
theorem dX6_beginWith_13 : decode cX6_beginWith 13 = .ok (.putfield 43, 3) := by decide +kernel
theorem dX6_beginWith_16 : decode cX6_beginWith 16 = .ok (.aload_n 0, 1) := by decide +kernel
theorem dX6_beginWith_17 : decode cX6_beginWith 17 = .ok (.getfield 9, 3) := by decide +kernel
theorem dX6_beginWith_20 : decode cX6_beginWith 20 = .ok (.ldc 73, 2) := by decide +kernel
theorem dX6_beginWith_22 : decode cX6_beginWith 22 = .ok (.invokestatic 183, 3) := by decide +kernel
theorem dX6_beginWith_25 : decode cX6_beginWith 25 = .ok (.return_, 1) := by decide +kernel
theorem dX6_isPoint_0 : decode cX6_isPoint 0 = .ok (.iload_n 1, 1) := by decide +kernel
theorem dX6_isPoint_1 : decode cX6_isPoint 1 = .ok (.ifCond .lt 15, 3) := by decide +kernel
theorem dX6_isPoint_4 : decode cX6_isPoint 4 = .ok (.iload_n 1, 1) := by decide +kernel
theorem dX6_isPoint_5 : decode cX6_isPoint 5 = .ok (.aload_n 0, 1) := by decide +kernel
theorem dX6_isPoint_6 : decode cX6_isPoint 6 = .ok (.getfield 156, 3) := by decide +kernel
theorem dX6_isPoint_9 : decode cX6_isPoint 9 = .ok (.if_icmp .ge 7, 3) := by decide +kernel
theorem dX6_isPoint_12 : decode cX6_isPoint 12 = .ok (.iconst 1, 1) := by decide +kernel
theorem dX6_isPoint_13 : decode cX6_isPoint 13 = .ok (.goto 4, 3) := by decide +kernel
theorem dX6_isPoint_16 : decode cX6_isPoint 16 = .ok (.iconst 0, 1) := by decide +kernel
theorem dX6_isPoint_17 : decode cX6_isPoint 17 = .ok (.ireturn, 1) := by decide +kernel
theorem dX6_isSet_0 : decode cX6_isSet 0 = .ok (.iload_n 1, 1) := by decide +kernel
theorem dX6_isSet_1 : decode cX6_isSet 1 = .ok (.ifCond .lt 17, 3) := by decide +kernel
theorem dX6_isSet_4 : decode cX6_isSet 4 = .ok (.iload_n 1, 1) := by decide +kernel
theorem dX6_isSet_5 : decode cX6_isSet 5 = .ok (.iconst 1, 1) := by decide +kernel
theorem dX6_isSet_6 : decode cX6_isSet 6 = .ok (.aload_n 0, 1) := by decide +kernel
theorem dX6_isSet_7 : decode cX6_isSet 7 = .ok (.getfield 156, 3) := by decide +kernel
theorem dX6_isSet_10 : decode cX6_isSet 10 = .ok (.ishl, 1) := by decide +kernel
theorem dX6_isSet_11 : decode cX6_isSet 11 = .ok (.if_icmp .ge 7, 3) := by decide +kernel
theorem dX6_isSet_14 : decode cX6_isSet 14 = .ok (.iconst 1, 1) := by decide +kernel
theorem dX6_isSet_15 : decode cX6_isSet 15 = .ok (.goto 4, 3) := by decide +kernel
theorem dX6_isSet_18 : decode cX6_isSet 18 = .ok (.iconst 0, 1) := by decide +kernel
theorem dX6_isSet_19 : decode cX6_isSet 19 = .ok (.ireturn, 1) := by decide +kernel
theorem dX6_isGroup_0 : decode cX6_isGroup 0 = .ok (.iload_n 1, 1) := by decide +kernel
theorem dX6_isGroup_1 : decode cX6_isGroup 1 = .ok (.ifCond .lt 15, 3) := by decide +kernel
theorem dX6_isGroup_4 : decode cX6_isGroup 4 = .ok (.iload_n 1, 1) := by decide +kernel
theorem dX6_isGroup_5 : decode cX6_isGroup 5 = .ok (.aload_n 0, 1) := by decide +kernel
theorem dX6_isGroup_6 : decode cX6_isGroup 6 = .ok (.getfield 27, 3) := by decide +kernel
theorem dX6_isGroup_9 : decode cX6_isGroup 9 = .ok (.if_icmp .ge 7, 3) := by decide +kernel
theorem dX6_isGroup_12 : decode cX6_isGroup 12 = .ok (.iconst 1, 1) := by decide +kernel
theorem dX6_isGroup_13 : decode cX6_isGroup 13 = .ok (.goto 4, 3) := by decide +kernel
theorem dX6_isGroup_16 : decode cX6_isGroup 16 = .ok (.iconst 0, 1) := by decide +kernel
theorem dX6_isGroup_17 : decode cX6_isGroup 17 = .ok (.ireturn, 1) := by decide +kernel
theorem dX6_isFull_0 : decode cX6_isFull 0 = .ok (.aload_n 0, 1) := by decide +kernel
theorem dX6_isFull_1 : decode cX6_isFull 1 = .ok (.getfield 27, 3) := by decide +kernel
theorem dX6_isFull_4 : decode cX6_isFull 4 = .ok (.bipush 10, 2) := by decide +kernel
theorem dX6_isFull_6 : decode cX6_isFull 6 = .ok (.if_icmp .lt 7, 3) := by decide +kernel
theorem dX6_isFull_9 : decode cX6_isFull 9 = .ok (.iconst 1, 1) := by decide +kernel
theorem dX6_isFull_10 : decode cX6_isFull 10 = .ok (.goto 4, 3) := by decide +kernel
theorem dX6_isFull_13 : decode cX6_isFull 13 = .ok (.iconst 0, 1) := by decide +kernel
theorem dX6_isFull_14 : decode cX6_isFull 14 = .ok (.ireturn, 1) := by decide +kernel
theorem dX6_ownBits_0 : decode cX6_ownBits 0 = .ok (.lconst 1, 1) := by decide +kernel
theorem dX6_ownBits_1 : decode cX6_ownBits 1 = .ok (.iconst 4, 1) := by decide +kernel
theorem dX6_ownBits_2 : decode cX6_ownBits 2 = .ok (.aload_n 0, 1) := by decide +kernel
theorem dX6_ownBits_3 : decode cX6_ownBits 3 = .ok (.getfield 156, 3) := by decide +kernel
theorem dX6_ownBits_6 : decode cX6_ownBits 6 = .ok (.imul, 1) := by decide +kernel
theorem dX6_ownBits_7 : decode cX6_ownBits 7 = .ok (.lshl, 1) := by decide +kernel
theorem dX6_ownBits_8 : decode cX6_ownBits 8 = .ok (.lconst 1, 1) := by decide +kernel
theorem dX6_ownBits_9 : decode cX6_ownBits 9 = .ok (.lsub, 1) := by decide +kernel
theorem dX6_ownBits_10 : decode cX6_ownBits 10 = .ok (.lreturn, 1) := by decide +kernel
set_option maxRecDepth 20000 in
theorem ggX6_tellsTurn_X6_ownBits : GoodIn wsX6_tellsTurn wsX6_ownBits := goodIn_r _ [7, 2, 15, 16, 17, 18, 19, 20] (by decide +kernel) (by decide +kernel)
set_option maxRecDepth 20000 in
theorem gX6_tellsTurn_X6_ownBits : GoodIn wsX6_tellsTurn (wsV RX6 37 RX6 yX6_ownBits wsX6_ownBits) := goodIn_app (goodIn_of _ (by decide +kernel)) ggX6_tellsTurn_X6_ownBits
set_option maxRecDepth 20000 in
theorem ggX6_tellsTurn_J6_bitCount_0f7a4 : GoodIn wsX6_tellsTurn wsJ6_bitCount_0f7a4 := goodIn_r _ [11, 12, 13, 14] (by decide +kernel) (by decide +kernel)
set_option maxRecDepth 20000 in
theorem gX6_tellsTurn_J6_bitCount_0f7a4 : GoodIn wsX6_tellsTurn (va_wsS RX6 168 yJ6_bitCount_0f7a4 wsJ6_bitCount_0f7a4) := goodIn_app (goodIn_of _ (by decide +kernel)) ggX6_tellsTurn_J6_bitCount_0f7a4
theorem dX6_tellsTurn_0 : decode cX6_tellsTurn 0 = .ok (.lload_n 1, 1) := by decide +kernel
theorem dX6_tellsTurn_1 : decode cX6_tellsTurn 1 = .ok (.aload_n 0, 1) := by decide +kernel
theorem dX6_tellsTurn_2 : decode cX6_tellsTurn 2 = .ok (.invokevirtual 37, 3) := by decide +kernel
theorem dX6_tellsTurn_5 : decode cX6_tellsTurn 5 = .ok (.ldc2_w 41, 3) := by decide +kernel
theorem dX6_tellsTurn_8 : decode cX6_tellsTurn 8 = .ok (.lxor, 1) := by decide +kernel
theorem dX6_tellsTurn_9 : decode cX6_tellsTurn 9 = .ok (.land, 1) := by decide +kernel
theorem dX6_tellsTurn_10 : decode cX6_tellsTurn 10 = .ok (.lconst 0, 1) := by decide +kernel
theorem dX6_tellsTurn_11 : decode cX6_tellsTurn 11 = .ok (.lcmp, 1) := by decide +kernel
theorem dX6_tellsTurn_12 : decode cX6_tellsTurn 12 = .ok (.ifCond .eq 5, 3) := by decide +kernel
theorem dX6_tellsTurn_15 : decode cX6_tellsTurn 15 = .ok (.iconst 0, 1) := by decide +kernel
theorem dX6_tellsTurn_16 : decode cX6_tellsTurn 16 = .ok (.ireturn, 1) := by decide +kernel
theorem dX6_tellsTurn_17 : decode cX6_tellsTurn 17 = .ok (.iconst 0, 1) := by decide +kernel
theorem dX6_tellsTurn_18 : decode cX6_tellsTurn 18 = .ok (.istore_n 3, 1) := by decide +kernel
theorem dX6_tellsTurn_19 : decode cX6_tellsTurn 19 = .ok (.iconst 0, 1) := by decide +kernel
theorem dX6_tellsTurn_20 : decode cX6_tellsTurn 20 = .ok (.istore 4, 2) := by decide +kernel
theorem dX6_tellsTurn_22 : decode cX6_tellsTurn 22 = .ok (.iload 4, 2) := by decide +kernel
theorem dX6_tellsTurn_24 : decode cX6_tellsTurn 24 = .ok (.aload_n 0, 1) := by decide +kernel
theorem dX6_tellsTurn_25 : decode cX6_tellsTurn 25 = .ok (.getfield 156, 3) := by decide +kernel
theorem dX6_tellsTurn_28 : decode cX6_tellsTurn 28 = .ok (.if_icmp .ge 39, 3) := by decide +kernel
theorem dX6_tellsTurn_31 : decode cX6_tellsTurn 31 = .ok (.lload_n 1, 1) := by decide +kernel
theorem dX6_tellsTurn_32 : decode cX6_tellsTurn 32 = .ok (.iconst 4, 1) := by decide +kernel
theorem dX6_tellsTurn_33 : decode cX6_tellsTurn 33 = .ok (.iload 4, 2) := by decide +kernel
theorem dX6_tellsTurn_35 : decode cX6_tellsTurn 35 = .ok (.imul, 1) := by decide +kernel
theorem dX6_tellsTurn_36 : decode cX6_tellsTurn 36 = .ok (.lshr, 1) := by decide +kernel
theorem dX6_tellsTurn_37 : decode cX6_tellsTurn 37 = .ok (.l2i, 1) := by decide +kernel
theorem dX6_tellsTurn_38 : decode cX6_tellsTurn 38 = .ok (.bipush 15, 2) := by decide +kernel
theorem dX6_tellsTurn_40 : decode cX6_tellsTurn 40 = .ok (.iand, 1) := by decide +kernel
theorem dX6_tellsTurn_41 : decode cX6_tellsTurn 41 = .ok (.istore 5, 2) := by decide +kernel
theorem dX6_tellsTurn_43 : decode cX6_tellsTurn 43 = .ok (.iload 5, 2) := by decide +kernel
theorem dX6_tellsTurn_45 : decode cX6_tellsTurn 45 = .ok (.aload_n 0, 1) := by decide +kernel
theorem dX6_tellsTurn_46 : decode cX6_tellsTurn 46 = .ok (.getfield 156, 3) := by decide +kernel
theorem dX6_tellsTurn_49 : decode cX6_tellsTurn 49 = .ok (.if_icmp .lt 5, 3) := by decide +kernel
theorem dX6_tellsTurn_52 : decode cX6_tellsTurn 52 = .ok (.iconst 0, 1) := by decide +kernel
theorem dX6_tellsTurn_53 : decode cX6_tellsTurn 53 = .ok (.ireturn, 1) := by decide +kernel
theorem dX6_tellsTurn_54 : decode cX6_tellsTurn 54 = .ok (.iload_n 3, 1) := by decide +kernel
theorem dX6_tellsTurn_55 : decode cX6_tellsTurn 55 = .ok (.iconst 1, 1) := by decide +kernel
theorem dX6_tellsTurn_56 : decode cX6_tellsTurn 56 = .ok (.iload 5, 2) := by decide +kernel
theorem dX6_tellsTurn_58 : decode cX6_tellsTurn 58 = .ok (.ishl, 1) := by decide +kernel
theorem dX6_tellsTurn_59 : decode cX6_tellsTurn 59 = .ok (.ior, 1) := by decide +kernel
theorem dX6_tellsTurn_60 : decode cX6_tellsTurn 60 = .ok (.istore_n 3, 1) := by decide +kernel
theorem dX6_tellsTurn_61 : decode cX6_tellsTurn 61 = .ok (.iinc 4 1, 3) := by decide +kernel
theorem dX6_tellsTurn_64 : decode cX6_tellsTurn 64 = .ok (.goto (-42), 3) := by decide +kernel
theorem dX6_tellsTurn_67 : decode cX6_tellsTurn 67 = .ok (.iload_n 3, 1) := by decide +kernel
theorem dX6_tellsTurn_68 : decode cX6_tellsTurn 68 = .ok (.invokestatic 168, 3) := by decide +kernel
theorem dX6_tellsTurn_71 : decode cX6_tellsTurn 71 = .ok (.aload_n 0, 1) := by decide +kernel
theorem dX6_tellsTurn_72 : decode cX6_tellsTurn 72 = .ok (.getfield 156, 3) := by decide +kernel
theorem dX6_tellsTurn_75 : decode cX6_tellsTurn 75 = .ok (.if_icmp .ne 7, 3) := by decide +kernel
theorem dX6_tellsTurn_78 : decode cX6_tellsTurn 78 = .ok (.iconst 1, 1) := by decide +kernel
theorem dX6_tellsTurn_79 : decode cX6_tellsTurn 79 = .ok (.goto 4, 3) := by decide +kernel
theorem dX6_tellsTurn_82 : decode cX6_tellsTurn 82 = .ok (.iconst 0, 1) := by decide +kernel
theorem dX6_tellsTurn_83 : decode cX6_tellsTurn 83 = .ok (.ireturn, 1) := by decide +kernel
set_option maxRecDepth 20000 in
theorem ggX6_joinSwaps_X6_swap : GoodIn wsX6_joinSwaps wsX6_swap := goodIn_r _ [5, 6] (by decide +kernel) (by decide +kernel)
set_option maxRecDepth 20000 in
theorem gX6_joinSwaps_X6_swap : GoodIn wsX6_joinSwaps (va_wsS RX6 189 yX6_swap wsX6_swap) := goodIn_app (goodIn_of _ (by decide +kernel)) ggX6_joinSwaps_X6_swap
set_option maxRecDepth 20000 in
theorem ggX6_joinSwaps_X4_join : GoodIn wsX6_joinSwaps wsX4_join := goodIn_r _ [11, 12, 13, 14, 15, 16, 17, 10, 18, 19, 20, 21, 22, 23, 24, 4, 25, 26, 27, 28, 29, 30, 31, 32, 33, 34, 35, 36, 37, 38, 39, 40, 41, 42, 43, 50, 51, 52, 53, 54, 55, 56] (by decide +kernel) (by decide +kernel)
set_option maxRecDepth 20000 in
theorem gX6_joinSwaps_X4_join : GoodIn wsX6_joinSwaps (wsV RX6 95 RX4 yX4_join wsX4_join) := goodIn_app (goodIn_of _ (by decide +kernel)) ggX6_joinSwaps_X4_join
theorem dX6_joinSwaps_0 : decode cX6_joinSwaps 0 = .ok (.iconst 0, 1) := by decide +kernel
theorem dX6_joinSwaps_1 : decode cX6_joinSwaps 1 = .ok (.istore_n 2, 1) := by decide +kernel
theorem dX6_joinSwaps_2 : decode cX6_joinSwaps 2 = .ok (.iload_n 2, 1) := by decide +kernel
theorem dX6_joinSwaps_3 : decode cX6_joinSwaps 3 = .ok (.iconst 1, 1) := by decide +kernel
theorem dX6_joinSwaps_4 : decode cX6_joinSwaps 4 = .ok (.iadd, 1) := by decide +kernel
theorem dX6_joinSwaps_5 : decode cX6_joinSwaps 5 = .ok (.aload_n 0, 1) := by decide +kernel
theorem dX6_joinSwaps_6 : decode cX6_joinSwaps 6 = .ok (.getfield 156, 3) := by decide +kernel
theorem dX6_joinSwaps_9 : decode cX6_joinSwaps 9 = .ok (.if_icmp .ge 21, 3) := by decide +kernel
theorem dX6_joinSwaps_12 : decode cX6_joinSwaps 12 = .ok (.aload_n 1, 1) := by decide +kernel
theorem dX6_joinSwaps_13 : decode cX6_joinSwaps 13 = .ok (.iload_n 2, 1) := by decide +kernel
theorem dX6_joinSwaps_14 : decode cX6_joinSwaps 14 = .ok (.iload_n 2, 1) := by decide +kernel
theorem dX6_joinSwaps_15 : decode cX6_joinSwaps 15 = .ok (.iconst 1, 1) := by decide +kernel
theorem dX6_joinSwaps_16 : decode cX6_joinSwaps 16 = .ok (.iadd, 1) := by decide +kernel
theorem dX6_joinSwaps_17 : decode cX6_joinSwaps 17 = .ok (.invokestatic 189, 3) := by decide +kernel
theorem dX6_joinSwaps_20 : decode cX6_joinSwaps 20 = .ok (.invokevirtual 95, 3) := by decide +kernel
theorem dX6_joinSwaps_23 : decode cX6_joinSwaps 23 = .ok (.pop, 1) := by decide +kernel
theorem dX6_joinSwaps_24 : decode cX6_joinSwaps 24 = .ok (.iinc 2 1, 3) := by decide +kernel
theorem dX6_joinSwaps_27 : decode cX6_joinSwaps 27 = .ok (.goto (-25), 3) := by decide +kernel
theorem dX6_joinSwaps_30 : decode cX6_joinSwaps 30 = .ok (.return_, 1) := by decide +kernel
set_option maxRecDepth 20000 in
theorem ggX6_joinThreeCycles_X6_swap : GoodIn wsX6_joinThreeCycles wsX6_swap := goodIn_r _ [5, 6] (by decide +kernel) (by decide +kernel)
set_option maxRecDepth 20000 in
theorem gX6_joinThreeCycles_X6_swap : GoodIn wsX6_joinThreeCycles (va_wsS RX6 189 yX6_swap wsX6_swap) := goodIn_app (goodIn_of _ (by decide +kernel)) ggX6_joinThreeCycles_X6_swap
set_option maxRecDepth 20000 in
theorem ggX6_joinThreeCycles_X6_chain : GoodIn wsX6_joinThreeCycles wsX6_chain := goodIn_r _ [9] (by decide +kernel) (by decide +kernel)
set_option maxRecDepth 20000 in
theorem gX6_joinThreeCycles_X6_chain : GoodIn wsX6_joinThreeCycles (va_wsS RX6 57 yX6_chain wsX6_chain) := goodIn_app (goodIn_of _ (by decide +kernel)) ggX6_joinThreeCycles_X6_chain
set_option maxRecDepth 20000 in
theorem ggX6_joinThreeCycles_X4_join : GoodIn wsX6_joinThreeCycles wsX4_join := goodIn_r _ [14, 15, 16, 17, 18, 19, 20, 13, 21, 22, 23, 24, 25, 26, 27, 4, 28, 29, 30, 31, 32, 33, 34, 35, 36, 37, 8, 9, 38, 39, 40, 41, 42, 43, 44, 51, 52, 53, 54, 55, 56, 57] (by decide +kernel) (by decide +kernel)
set_option maxRecDepth 20000 in
theorem gX6_joinThreeCycles_X4_join : GoodIn wsX6_joinThreeCycles (wsV RX6 95 RX4 yX4_join wsX4_join) := goodIn_app (goodIn_of _ (by decide +kernel)) ggX6_joinThreeCycles_X4_join
theorem dX6_joinThreeCycles_0 : decode cX6_joinThreeCycles 0 = .ok (.iconst 0, 1) := by decide +kernel
theorem dX6_joinThreeCycles_1 : decode cX6_joinThreeCycles 1 = .ok (.istore_n 2, 1) := by decide +kernel
theorem dX6_joinThreeCycles_2 : decode cX6_joinThreeCycles 2 = .ok (.iload_n 2, 1) := by decide +kernel
theorem dX6_joinThreeCycles_3 : decode cX6_joinThreeCycles 3 = .ok (.iconst 2, 1) := by decide +kernel
theorem dX6_joinThreeCycles_4 : decode cX6_joinThreeCycles 4 = .ok (.iadd, 1) := by decide +kernel
theorem dX6_joinThreeCycles_5 : decode cX6_joinThreeCycles 5 = .ok (.aload_n 0, 1) := by decide +kernel
theorem dX6_joinThreeCycles_6 : decode cX6_joinThreeCycles 6 = .ok (.getfield 156, 3) := by decide +kernel
theorem dX6_joinThreeCycles_9 : decode cX6_joinThreeCycles 9 = .ok (.if_icmp .ge 33, 3) := by decide +kernel
theorem dX6_joinThreeCycles_12 : decode cX6_joinThreeCycles 12 = .ok (.aload_n 1, 1) := by decide +kernel
theorem dX6_joinThreeCycles_13 : decode cX6_joinThreeCycles 13 = .ok (.iload_n 2, 1) := by decide +kernel
theorem dX6_joinThreeCycles_14 : decode cX6_joinThreeCycles 14 = .ok (.iload_n 2, 1) := by decide +kernel
theorem dX6_joinThreeCycles_15 : decode cX6_joinThreeCycles 15 = .ok (.iconst 1, 1) := by decide +kernel
theorem dX6_joinThreeCycles_16 : decode cX6_joinThreeCycles 16 = .ok (.iadd, 1) := by decide +kernel
theorem dX6_joinThreeCycles_17 : decode cX6_joinThreeCycles 17 = .ok (.invokestatic 189, 3) := by decide +kernel
theorem dX6_joinThreeCycles_20 : decode cX6_joinThreeCycles 20 = .ok (.iload_n 2, 1) := by decide +kernel
theorem dX6_joinThreeCycles_21 : decode cX6_joinThreeCycles 21 = .ok (.iconst 1, 1) := by decide +kernel
theorem dX6_joinThreeCycles_22 : decode cX6_joinThreeCycles 22 = .ok (.iadd, 1) := by decide +kernel
theorem dX6_joinThreeCycles_23 : decode cX6_joinThreeCycles 23 = .ok (.iload_n 2, 1) := by decide +kernel
theorem dX6_joinThreeCycles_24 : decode cX6_joinThreeCycles 24 = .ok (.iconst 2, 1) := by decide +kernel
theorem dX6_joinThreeCycles_25 : decode cX6_joinThreeCycles 25 = .ok (.iadd, 1) := by decide +kernel
theorem dX6_joinThreeCycles_26 : decode cX6_joinThreeCycles 26 = .ok (.invokestatic 189, 3) := by decide +kernel
theorem dX6_joinThreeCycles_29 : decode cX6_joinThreeCycles 29 = .ok (.invokestatic 57, 3) := by decide +kernel
theorem dX6_joinThreeCycles_32 : decode cX6_joinThreeCycles 32 = .ok (.invokevirtual 95, 3) := by decide +kernel
theorem dX6_joinThreeCycles_35 : decode cX6_joinThreeCycles 35 = .ok (.pop, 1) := by decide +kernel
theorem dX6_joinThreeCycles_36 : decode cX6_joinThreeCycles 36 = .ok (.iinc 2 1, 3) := by decide +kernel
theorem dX6_joinThreeCycles_39 : decode cX6_joinThreeCycles 39 = .ok (.goto (-37), 3) := by decide +kernel
theorem dX6_joinThreeCycles_42 : decode cX6_joinThreeCycles 42 = .ok (.return_, 1) := by decide +kernel
theorem dX6_isShelfPlace_0 : decode cX6_isShelfPlace 0 = .ok (.iload_n 0, 1) := by decide +kernel
theorem dX6_isShelfPlace_1 : decode cX6_isShelfPlace 1 = .ok (.ifCond .lt 13, 3) := by decide +kernel
theorem dX6_isShelfPlace_4 : decode cX6_isShelfPlace 4 = .ok (.iload_n 0, 1) := by decide +kernel
theorem dX6_isShelfPlace_5 : decode cX6_isShelfPlace 5 = .ok (.bipush 8, 2) := by decide +kernel
theorem dX6_isShelfPlace_7 : decode cX6_isShelfPlace 7 = .ok (.if_icmp .ge 7, 3) := by decide +kernel
theorem dX6_isShelfPlace_10 : decode cX6_isShelfPlace 10 = .ok (.iconst 1, 1) := by decide +kernel
theorem dX6_isShelfPlace_11 : decode cX6_isShelfPlace 11 = .ok (.goto 4, 3) := by decide +kernel
theorem dX6_isShelfPlace_14 : decode cX6_isShelfPlace 14 = .ok (.iconst 0, 1) := by decide +kernel
theorem dX6_isShelfPlace_15 : decode cX6_isShelfPlace 15 = .ok (.ireturn, 1) := by decide +kernel
theorem dX6_truth_0 : decode cX6_truth 0 = .ok (.iload_n 0, 1) := by decide +kernel
theorem dX6_truth_1 : decode cX6_truth 1 = .ok (.ifCond .eq 7, 3) := by decide +kernel
theorem dX6_truth_4 : decode cX6_truth 4 = .ok (.iconst 1, 1) := by decide +kernel
theorem dX6_truth_5 : decode cX6_truth 5 = .ok (.goto 4, 3) := by decide +kernel
theorem dX6_truth_8 : decode cX6_truth 8 = .ok (.iconst 0, 1) := by decide +kernel
theorem dX6_truth_9 : decode cX6_truth 9 = .ok (.ireturn, 1) := by decide +kernel
theorem dX6_image_0 : decode cX6_image 0 = .ok (.iload_n 0, 1) := by decide +kernel
theorem dX6_image_1 : decode cX6_image 1 = .ok (.iconst 4, 1) := by decide +kernel
theorem dX6_image_2 : decode cX6_image 2 = .ok (.iload_n 1, 1) := by decide +kernel
theorem dX6_image_3 : decode cX6_image 3 = .ok (.imul, 1) := by decide +kernel
theorem dX6_image_4 : decode cX6_image 4 = .ok (.ishr, 1) := by decide +kernel
theorem dX6_image_5 : decode cX6_image 5 = .ok (.bipush 7, 2) := by decide +kernel
theorem dX6_image_7 : decode cX6_image 7 = .ok (.iand, 1) := by decide +kernel
theorem dX6_image_8 : decode cX6_image 8 = .ok (.ireturn, 1) := by decide +kernel
theorem dX6_chain_0 : decode cX6_chain 0 = .ok (.iconst 0, 1) := by decide +kernel
theorem dX6_chain_1 : decode cX6_chain 1 = .ok (.istore_n 2, 1) := by decide +kernel
theorem dX6_chain_2 : decode cX6_chain 2 = .ok (.iconst 0, 1) := by decide +kernel
theorem dX6_chain_3 : decode cX6_chain 3 = .ok (.istore_n 3, 1) := by decide +kernel
theorem dX6_chain_4 : decode cX6_chain 4 = .ok (.iload_n 3, 1) := by decide +kernel
theorem dX6_chain_5 : decode cX6_chain 5 = .ok (.bipush 32, 2) := by decide +kernel
theorem dX6_chain_7 : decode cX6_chain 7 = .ok (.if_icmp .ge 31, 3) := by decide +kernel
theorem dX6_chain_10 : decode cX6_chain 10 = .ok (.iload_n 0, 1) := by decide +kernel
theorem dX6_chain_11 : decode cX6_chain 11 = .ok (.iload_n 3, 1) := by decide +kernel
theorem dX6_chain_12 : decode cX6_chain 12 = .ok (.ishr, 1) := by decide +kernel
theorem dX6_chain_13 : decode cX6_chain 13 = .ok (.bipush 7, 2) := by decide +kernel
theorem dX6_chain_15 : decode cX6_chain 15 = .ok (.iand, 1) := by decide +kernel
theorem dX6_chain_16 : decode cX6_chain 16 = .ok (.istore 4, 2) := by decide +kernel
theorem dX6_chain_18 : decode cX6_chain 18 = .ok (.iload_n 2, 1) := by decide +kernel
theorem dX6_chain_19 : decode cX6_chain 19 = .ok (.iload_n 1, 1) := by decide +kernel
theorem dX6_chain_20 : decode cX6_chain 20 = .ok (.iconst 4, 1) := by decide +kernel
theorem dX6_chain_21 : decode cX6_chain 21 = .ok (.iload 4, 2) := by decide +kernel
theorem dX6_chain_23 : decode cX6_chain 23 = .ok (.imul, 1) := by decide +kernel
theorem dX6_chain_24 : decode cX6_chain 24 = .ok (.ishr, 1) := by decide +kernel
theorem dX6_chain_25 : decode cX6_chain 25 = .ok (.bipush 7, 2) := by decide +kernel
theorem dX6_chain_27 : decode cX6_chain 27 = .ok (.iand, 1) := by decide +kernel
theorem dX6_chain_28 : decode cX6_chain 28 = .ok (.iload_n 3, 1) := by decide +kernel
theorem dX6_chain_29 : decode cX6_chain 29 = .ok (.ishl, 1) := by decide +kernel
theorem dX6_chain_30 : decode cX6_chain 30 = .ok (.ior, 1) := by decide +kernel
theorem dX6_chain_31 : decode cX6_chain 31 = .ok (.istore_n 2, 1) := by decide +kernel
theorem dX6_chain_32 : decode cX6_chain 32 = .ok (.iinc 3 4, 3) := by decide +kernel
theorem dX6_chain_35 : decode cX6_chain 35 = .ok (.goto (-31), 3) := by decide +kernel
theorem dX6_chain_38 : decode cX6_chain 38 = .ok (.iload_n 2, 1) := by decide +kernel
theorem dX6_chain_39 : decode cX6_chain 39 = .ok (.ireturn, 1) := by decide +kernel
theorem dX6_reverse_0 : decode cX6_reverse 0 = .ok (.iconst 0, 1) := by decide +kernel
theorem dX6_reverse_1 : decode cX6_reverse 1 = .ok (.istore_n 1, 1) := by decide +kernel
theorem dX6_reverse_2 : decode cX6_reverse 2 = .ok (.iconst 0, 1) := by decide +kernel
theorem dX6_reverse_3 : decode cX6_reverse 3 = .ok (.istore_n 2, 1) := by decide +kernel
theorem dX6_reverse_4 : decode cX6_reverse 4 = .ok (.iload_n 2, 1) := by decide +kernel
theorem dX6_reverse_5 : decode cX6_reverse 5 = .ok (.bipush 8, 2) := by decide +kernel
theorem dX6_reverse_7 : decode cX6_reverse 7 = .ok (.if_icmp .ge 26, 3) := by decide +kernel
theorem dX6_reverse_10 : decode cX6_reverse 10 = .ok (.iload_n 0, 1) := by decide +kernel
theorem dX6_reverse_11 : decode cX6_reverse 11 = .ok (.iconst 4, 1) := by decide +kernel
theorem dX6_reverse_12 : decode cX6_reverse 12 = .ok (.iload_n 2, 1) := by decide +kernel
theorem dX6_reverse_13 : decode cX6_reverse 13 = .ok (.imul, 1) := by decide +kernel
theorem dX6_reverse_14 : decode cX6_reverse 14 = .ok (.ishr, 1) := by decide +kernel
theorem dX6_reverse_15 : decode cX6_reverse 15 = .ok (.bipush 7, 2) := by decide +kernel
theorem dX6_reverse_17 : decode cX6_reverse 17 = .ok (.iand, 1) := by decide +kernel
theorem dX6_reverse_18 : decode cX6_reverse 18 = .ok (.istore_n 3, 1) := by decide +kernel
theorem dX6_reverse_19 : decode cX6_reverse 19 = .ok (.iload_n 1, 1) := by decide +kernel
theorem dX6_reverse_20 : decode cX6_reverse 20 = .ok (.iload_n 2, 1) := by decide +kernel
theorem dX6_reverse_21 : decode cX6_reverse 21 = .ok (.iconst 4, 1) := by decide +kernel
theorem dX6_reverse_22 : decode cX6_reverse 22 = .ok (.iload_n 3, 1) := by decide +kernel
theorem dX6_reverse_23 : decode cX6_reverse 23 = .ok (.imul, 1) := by decide +kernel
theorem dX6_reverse_24 : decode cX6_reverse 24 = .ok (.ishl, 1) := by decide +kernel
theorem dX6_reverse_25 : decode cX6_reverse 25 = .ok (.ior, 1) := by decide +kernel
theorem dX6_reverse_26 : decode cX6_reverse 26 = .ok (.istore_n 1, 1) := by decide +kernel
theorem dX6_reverse_27 : decode cX6_reverse 27 = .ok (.iinc 2 1, 3) := by decide +kernel
theorem dX6_reverse_30 : decode cX6_reverse 30 = .ok (.goto (-26), 3) := by decide +kernel
theorem dX6_reverse_33 : decode cX6_reverse 33 = .ok (.iload_n 1, 1) := by decide +kernel
theorem dX6_reverse_34 : decode cX6_reverse 34 = .ok (.ireturn, 1) := by decide +kernel
theorem dX6_swap_0 : decode cX6_swap 0 = .ok (.iload_n 0, 1) := by decide +kernel
theorem dX6_swap_1 : decode cX6_swap 1 = .ok (.iload_n 1, 1) := by decide +kernel
theorem dX6_swap_2 : decode cX6_swap 2 = .ok (.ixor, 1) := by decide +kernel
theorem dX6_swap_3 : decode cX6_swap 3 = .ok (.istore_n 2, 1) := by decide +kernel
theorem dX6_swap_4 : decode cX6_swap 4 = .ok (.ldc 73, 2) := by decide +kernel
theorem dX6_swap_6 : decode cX6_swap 6 = .ok (.iload_n 2, 1) := by decide +kernel
theorem dX6_swap_7 : decode cX6_swap 7 = .ok (.iconst 4, 1) := by decide +kernel
theorem dX6_swap_8 : decode cX6_swap 8 = .ok (.iload_n 0, 1) := by decide +kernel
theorem dX6_swap_9 : decode cX6_swap 9 = .ok (.imul, 1) := by decide +kernel
theorem dX6_swap_10 : decode cX6_swap 10 = .ok (.ishl, 1) := by decide +kernel
theorem dX6_swap_11 : decode cX6_swap 11 = .ok (.ixor, 1) := by decide +kernel
theorem dX6_swap_12 : decode cX6_swap 12 = .ok (.iload_n 2, 1) := by decide +kernel
theorem dX6_swap_13 : decode cX6_swap 13 = .ok (.iconst 4, 1) := by decide +kernel
theorem dX6_swap_14 : decode cX6_swap 14 = .ok (.iload_n 1, 1) := by decide +kernel
theorem dX6_swap_15 : decode cX6_swap 15 = .ok (.imul, 1) := by decide +kernel
theorem dX6_swap_16 : decode cX6_swap 16 = .ok (.ishl, 1) := by decide +kernel
theorem dX6_swap_17 : decode cX6_swap 17 = .ok (.ixor, 1) := by decide +kernel
theorem dX6_swap_18 : decode cX6_swap 18 = .ok (.ireturn, 1) := by decide +kernel
set_option maxRecDepth 20000 in
theorem ggX6_carried_X6_reverse : GoodIn wsX6_carried wsX6_reverse := goodIn_r _ [4] (by decide +kernel) (by decide +kernel)
set_option maxRecDepth 20000 in
theorem gX6_carried_X6_reverse : GoodIn wsX6_carried (va_wsS RX6 64 yX6_reverse wsX6_reverse) := goodIn_app (goodIn_of _ (by decide +kernel)) ggX6_carried_X6_reverse
set_option maxRecDepth 20000 in
theorem ggX6_carried_X6_chain : GoodIn wsX6_carried wsX6_chain := goodIn_r _ [7] (by decide +kernel) (by decide +kernel)
set_option maxRecDepth 20000 in
theorem gX6_carried_X6_chain : GoodIn wsX6_carried (va_wsS RX6 57 yX6_chain wsX6_chain) := goodIn_app (goodIn_of _ (by decide +kernel)) ggX6_carried_X6_chain
theorem dX6_carried_0 : decode cX6_carried 0 = .ok (.iload_n 1, 1) := by decide +kernel
theorem dX6_carried_1 : decode cX6_carried 1 = .ok (.invokestatic 64, 3) := by decide +kernel
theorem dX6_carried_4 : decode cX6_carried 4 = .ok (.iload_n 0, 1) := by decide +kernel
theorem dX6_carried_5 : decode cX6_carried 5 = .ok (.invokestatic 57, 3) := by decide +kernel
theorem dX6_carried_8 : decode cX6_carried 8 = .ok (.iload_n 1, 1) := by decide +kernel
theorem dX6_carried_9 : decode cX6_carried 9 = .ok (.invokestatic 57, 3) := by decide +kernel
theorem dX6_carried_12 : decode cX6_carried 12 = .ok (.ireturn, 1) := by decide +kernel
set_option maxRecDepth 20000 in
theorem ggX6_commutator_X6_reverse : GoodIn wsX6_commutator wsX6_reverse := goodIn_r _ [4] (by decide +kernel) (by decide +kernel)
set_option maxRecDepth 20000 in
theorem gX6_commutator_X6_reverse : GoodIn wsX6_commutator (va_wsS RX6 64 yX6_reverse wsX6_reverse) := goodIn_app (goodIn_of _ (by decide +kernel)) ggX6_commutator_X6_reverse
set_option maxRecDepth 20000 in
theorem ggX6_commutator_X6_chain : GoodIn wsX6_commutator wsX6_chain := goodIn_r _ [7] (by decide +kernel) (by decide +kernel)
set_option maxRecDepth 20000 in
theorem gX6_commutator_X6_chain : GoodIn wsX6_commutator (va_wsS RX6 57 yX6_chain wsX6_chain) := goodIn_app (goodIn_of _ (by decide +kernel)) ggX6_commutator_X6_chain
theorem dX6_commutator_0 : decode cX6_commutator 0 = .ok (.iload_n 0, 1) := by decide +kernel
theorem dX6_commutator_1 : decode cX6_commutator 1 = .ok (.invokestatic 64, 3) := by decide +kernel
theorem dX6_commutator_4 : decode cX6_commutator 4 = .ok (.iload_n 1, 1) := by decide +kernel
theorem dX6_commutator_5 : decode cX6_commutator 5 = .ok (.invokestatic 64, 3) := by decide +kernel
theorem dX6_commutator_8 : decode cX6_commutator 8 = .ok (.invokestatic 57, 3) := by decide +kernel
theorem dX6_commutator_11 : decode cX6_commutator 11 = .ok (.iload_n 0, 1) := by decide +kernel
theorem dX6_commutator_12 : decode cX6_commutator 12 = .ok (.iload_n 1, 1) := by decide +kernel
theorem dX6_commutator_13 : decode cX6_commutator 13 = .ok (.invokestatic 57, 3) := by decide +kernel
theorem dX6_commutator_16 : decode cX6_commutator 16 = .ok (.invokestatic 57, 3) := by decide +kernel
theorem dX6_commutator_19 : decode cX6_commutator 19 = .ok (.ireturn, 1) := by decide +kernel
set_option maxRecDepth 20000 in
theorem ggX6_timesToOne_X6_chain : GoodIn wsX6_timesToOne wsX6_chain := goodIn_r _ [5] (by decide +kernel) (by decide +kernel)
set_option maxRecDepth 20000 in
theorem gX6_timesToOne_X6_chain : GoodIn wsX6_timesToOne (va_wsS RX6 57 yX6_chain wsX6_chain) := goodIn_app (goodIn_of _ (by decide +kernel)) ggX6_timesToOne_X6_chain
theorem dX6_timesToOne_0 : decode cX6_timesToOne 0 = .ok (.iload_n 0, 1) := by decide +kernel
theorem dX6_timesToOne_1 : decode cX6_timesToOne 1 = .ok (.istore_n 1, 1) := by decide +kernel
theorem dX6_timesToOne_2 : decode cX6_timesToOne 2 = .ok (.iconst 1, 1) := by decide +kernel
theorem dX6_timesToOne_3 : decode cX6_timesToOne 3 = .ok (.istore_n 2, 1) := by decide +kernel
theorem dX6_timesToOne_4 : decode cX6_timesToOne 4 = .ok (.iload_n 1, 1) := by decide +kernel
theorem dX6_timesToOne_5 : decode cX6_timesToOne 5 = .ok (.ldc 73, 2) := by decide +kernel
theorem dX6_timesToOne_7 : decode cX6_timesToOne 7 = .ok (.if_icmp .eq 22, 3) := by decide +kernel
theorem dX6_timesToOne_10 : decode cX6_timesToOne 10 = .ok (.iload_n 2, 1) := by decide +kernel
theorem dX6_timesToOne_11 : decode cX6_timesToOne 11 = .ok (.sipush 1000, 3) := by decide +kernel
theorem dX6_timesToOne_14 : decode cX6_timesToOne 14 = .ok (.if_icmp .ge 15, 3) := by decide +kernel
theorem dX6_timesToOne_17 : decode cX6_timesToOne 17 = .ok (.iload_n 1, 1) := by decide +kernel
theorem dX6_timesToOne_18 : decode cX6_timesToOne 18 = .ok (.iload_n 0, 1) := by decide +kernel
theorem dX6_timesToOne_19 : decode cX6_timesToOne 19 = .ok (.invokestatic 57, 3) := by decide +kernel
theorem dX6_timesToOne_22 : decode cX6_timesToOne 22 = .ok (.istore_n 1, 1) := by decide +kernel
theorem dX6_timesToOne_23 : decode cX6_timesToOne 23 = .ok (.iinc 2 1, 3) := by decide +kernel
theorem dX6_timesToOne_26 : decode cX6_timesToOne 26 = .ok (.goto (-22), 3) := by decide +kernel
theorem dX6_timesToOne_29 : decode cX6_timesToOne 29 = .ok (.iload_n 2, 1) := by decide +kernel
theorem dX6_timesToOne_30 : decode cX6_timesToOne 30 = .ok (.ireturn, 1) := by decide +kernel
set_option maxRecDepth 20000 in
theorem ggX6_pointsLeft_X6_image : GoodIn wsX6_pointsLeft wsX6_image := goodIn_r _ [4] (by decide +kernel) (by decide +kernel)
set_option maxRecDepth 20000 in
theorem gX6_pointsLeft_X6_image : GoodIn wsX6_pointsLeft (va_wsS RX6 50 yX6_image wsX6_image) := goodIn_app (goodIn_of _ (by decide +kernel)) ggX6_pointsLeft_X6_image
theorem dX6_pointsLeft_0 : decode cX6_pointsLeft 0 = .ok (.iconst 0, 1) := by decide +kernel
theorem dX6_pointsLeft_1 : decode cX6_pointsLeft 1 = .ok (.istore_n 1, 1) := by decide +kernel
theorem dX6_pointsLeft_2 : decode cX6_pointsLeft 2 = .ok (.iconst 0, 1) := by decide +kernel
theorem dX6_pointsLeft_3 : decode cX6_pointsLeft 3 = .ok (.istore_n 2, 1) := by decide +kernel
theorem dX6_pointsLeft_4 : decode cX6_pointsLeft 4 = .ok (.iload_n 2, 1) := by decide +kernel
theorem dX6_pointsLeft_5 : decode cX6_pointsLeft 5 = .ok (.bipush 8, 2) := by decide +kernel
theorem dX6_pointsLeft_7 : decode cX6_pointsLeft 7 = .ok (.if_icmp .ge 21, 3) := by decide +kernel
theorem dX6_pointsLeft_10 : decode cX6_pointsLeft 10 = .ok (.iload_n 0, 1) := by decide +kernel
theorem dX6_pointsLeft_11 : decode cX6_pointsLeft 11 = .ok (.iload_n 2, 1) := by decide +kernel
theorem dX6_pointsLeft_12 : decode cX6_pointsLeft 12 = .ok (.invokestatic 50, 3) := by decide +kernel
theorem dX6_pointsLeft_15 : decode cX6_pointsLeft 15 = .ok (.iload_n 2, 1) := by decide +kernel
theorem dX6_pointsLeft_16 : decode cX6_pointsLeft 16 = .ok (.if_icmp .ne 6, 3) := by decide +kernel
theorem dX6_pointsLeft_19 : decode cX6_pointsLeft 19 = .ok (.iinc 1 1, 3) := by decide +kernel
theorem dX6_pointsLeft_22 : decode cX6_pointsLeft 22 = .ok (.iinc 2 1, 3) := by decide +kernel
theorem dX6_pointsLeft_25 : decode cX6_pointsLeft 25 = .ok (.goto (-21), 3) := by decide +kernel
theorem dX6_pointsLeft_28 : decode cX6_pointsLeft 28 = .ok (.iload_n 1, 1) := by decide +kernel
theorem dX6_pointsLeft_29 : decode cX6_pointsLeft 29 = .ok (.ireturn, 1) := by decide +kernel
set_option maxRecDepth 20000 in
theorem ggX6_isEven_X6_image : GoodIn wsX6_isEven wsX6_image := goodIn_r _ [4] (by decide +kernel) (by decide +kernel)
set_option maxRecDepth 20000 in
theorem gX6_isEven_X6_image : GoodIn wsX6_isEven (va_wsS RX6 50 yX6_image wsX6_image) := goodIn_app (goodIn_of _ (by decide +kernel)) ggX6_isEven_X6_image
theorem dX6_isEven_0 : decode cX6_isEven 0 = .ok (.iconst 0, 1) := by decide +kernel
theorem dX6_isEven_1 : decode cX6_isEven 1 = .ok (.istore_n 1, 1) := by decide +kernel
theorem dX6_isEven_2 : decode cX6_isEven 2 = .ok (.iconst 0, 1) := by decide +kernel
theorem dX6_isEven_3 : decode cX6_isEven 3 = .ok (.istore_n 2, 1) := by decide +kernel
theorem dX6_isEven_4 : decode cX6_isEven 4 = .ok (.iload_n 2, 1) := by decide +kernel
theorem dX6_isEven_5 : decode cX6_isEven 5 = .ok (.bipush 8, 2) := by decide +kernel
theorem dX6_isEven_7 : decode cX6_isEven 7 = .ok (.if_icmp .ge 41, 3) := by decide +kernel
theorem dX6_isEven_10 : decode cX6_isEven 10 = .ok (.iload_n 2, 1) := by decide +kernel
theorem dX6_isEven_11 : decode cX6_isEven 11 = .ok (.iconst 1, 1) := by decide +kernel
theorem dX6_isEven_12 : decode cX6_isEven 12 = .ok (.iadd, 1) := by decide +kernel
theorem dX6_isEven_13 : decode cX6_isEven 13 = .ok (.istore_n 3, 1) := by decide +kernel
theorem dX6_isEven_14 : decode cX6_isEven 14 = .ok (.iload_n 3, 1) := by decide +kernel
theorem dX6_isEven_15 : decode cX6_isEven 15 = .ok (.bipush 8, 2) := by decide +kernel
theorem dX6_isEven_17 : decode cX6_isEven 17 = .ok (.if_icmp .ge 25, 3) := by decide +kernel
theorem dX6_isEven_20 : decode cX6_isEven 20 = .ok (.iload_n 0, 1) := by decide +kernel
theorem dX6_isEven_21 : decode cX6_isEven 21 = .ok (.iload_n 2, 1) := by decide +kernel
theorem dX6_isEven_22 : decode cX6_isEven 22 = .ok (.invokestatic 50, 3) := by decide +kernel
theorem dX6_isEven_25 : decode cX6_isEven 25 = .ok (.iload_n 0, 1) := by decide +kernel
theorem dX6_isEven_26 : decode cX6_isEven 26 = .ok (.iload_n 3, 1) := by decide +kernel
theorem dX6_isEven_27 : decode cX6_isEven 27 = .ok (.invokestatic 50, 3) := by decide +kernel
theorem dX6_isEven_30 : decode cX6_isEven 30 = .ok (.if_icmp .le 6, 3) := by decide +kernel
theorem dX6_isEven_33 : decode cX6_isEven 33 = .ok (.iinc 1 1, 3) := by decide +kernel
theorem dX6_isEven_36 : decode cX6_isEven 36 = .ok (.iinc 3 1, 3) := by decide +kernel
theorem dX6_isEven_39 : decode cX6_isEven 39 = .ok (.goto (-25), 3) := by decide +kernel
theorem dX6_isEven_42 : decode cX6_isEven 42 = .ok (.iinc 2 1, 3) := by decide +kernel
theorem dX6_isEven_45 : decode cX6_isEven 45 = .ok (.goto (-41), 3) := by decide +kernel
theorem dX6_isEven_48 : decode cX6_isEven 48 = .ok (.iload_n 1, 1) := by decide +kernel
theorem dX6_isEven_49 : decode cX6_isEven 49 = .ok (.iconst 1, 1) := by decide +kernel
theorem dX6_isEven_50 : decode cX6_isEven 50 = .ok (.iand, 1) := by decide +kernel
theorem dX6_isEven_51 : decode cX6_isEven 51 = .ok (.ifCond .ne 7, 3) := by decide +kernel
theorem dX6_isEven_54 : decode cX6_isEven 54 = .ok (.iconst 1, 1) := by decide +kernel
theorem dX6_isEven_55 : decode cX6_isEven 55 = .ok (.goto 4, 3) := by decide +kernel
theorem dX6_isEven_58 : decode cX6_isEven 58 = .ok (.iconst 0, 1) := by decide +kernel
theorem dX6_isEven_59 : decode cX6_isEven 59 = .ok (.ireturn, 1) := by decide +kernel
end
section
set_option maxRecDepth 20000 in
theorem ggX7_init_X7_layAll : GoodIn wsX7_init wsX7_layAll := goodIn_r _ [21, 4, 22, 7, 23, 24, 20, 25, 26, 27, 28, 29, 30, 31, 32, 33, 34, 35, 36] (by decide +kernel) (by decide +kernel)
set_option maxRecDepth 20000 in
theorem gX7_init_X7_layAll : GoodIn wsX7_init (wsV RX7 39 RX7 yX7_layAll wsX7_layAll) := goodIn_app (goodIn_of _ (by decide +kernel)) ggX7_init_X7_layAll
theorem dX7_init_0 : decode cX7_init 0 = .ok (.aload_n 0, 1) := by decide +kernel
theorem dX7_init_1 : decode cX7_init 1 = .ok (.invokespecial 1, 3) := by decide +kernel
theorem dX7_init_4 : decode cX7_init 4 = .ok (.aload_n 0, 1) := by decide +kernel
theorem dX7_init_5 : decode cX7_init 5 = .ok (.iconst 4, 1) := by decide +kernel
theorem dX7_init_6 : decode cX7_init 6 = .ok (.putfield 7, 3) := by decide +kernel
theorem dX7_init_9 : decode cX7_init 9 = .ok (.aload_n 0, 1) := by decide +kernel
theorem dX7_init_10 : decode cX7_init 10 = .ok (.ldc 13, 2) := by decide +kernel
theorem dX7_init_12 : decode cX7_init 12 = .ok (.newarray .int, 2) := by decide +kernel
theorem dX7_init_14 : decode cX7_init 14 = .ok (.putfield 14, 3) := by decide +kernel
theorem dX7_init_17 : decode cX7_init 17 = .ok (.aload_n 0, 1) := by decide +kernel
theorem dX7_init_18 : decode cX7_init 18 = .ok (.bipush 8, 2) := by decide +kernel
theorem dX7_init_20 : decode cX7_init 20 = .ok (.newarray .int, 2) := by decide +kernel
theorem dX7_init_22 : decode cX7_init 22 = .ok (.putfield 18, 3) := by decide +kernel
theorem dX7_init_25 : decode cX7_init 25 = .ok (.aload_n 0, 1) := by decide +kernel
theorem dX7_init_26 : decode cX7_init 26 = .ok (.ldc 21, 2) := by decide +kernel
theorem dX7_init_28 : decode cX7_init 28 = .ok (.newarray .boolean, 2) := by decide +kernel
theorem dX7_init_30 : decode cX7_init 30 = .ok (.putfield 22, 3) := by decide +kernel
theorem dX7_init_33 : decode cX7_init 33 = .ok (.aload_n 0, 1) := by decide +kernel
theorem dX7_init_34 : decode cX7_init 34 = .ok (.bipush 8, 2) := by decide +kernel
theorem dX7_init_36 : decode cX7_init 36 = .ok (.newarray .int, 2) := by decide +kernel
theorem dX7_init_38 : decode cX7_init 38 = .ok (.putfield 26, 3) := by decide +kernel
theorem dX7_init_41 : decode cX7_init 41 = .ok (.aload_n 0, 1) := by decide +kernel
theorem dX7_init_42 : decode cX7_init 42 = .ok (.sipush 416, 3) := by decide +kernel
theorem dX7_init_45 : decode cX7_init 45 = .ok (.newarray .int, 2) := by decide +kernel
theorem dX7_init_47 : decode cX7_init 47 = .ok (.putfield 29, 3) := by decide +kernel
theorem dX7_init_50 : decode cX7_init 50 = .ok (.aload_n 0, 1) := by decide +kernel
theorem dX7_init_51 : decode cX7_init 51 = .ok (.bipush 13, 2) := by decide +kernel
theorem dX7_init_53 : decode cX7_init 53 = .ok (.newarray .int, 2) := by decide +kernel
theorem dX7_init_55 : decode cX7_init 55 = .ok (.putfield 32, 3) := by decide +kernel
theorem dX7_init_58 : decode cX7_init 58 = .ok (.aload_n 0, 1) := by decide +kernel
theorem dX7_init_59 : decode cX7_init 59 = .ok (.ldc 35, 2) := by decide +kernel
theorem dX7_init_61 : decode cX7_init 61 = .ok (.newarray .int, 2) := by decide +kernel
theorem dX7_init_63 : decode cX7_init 63 = .ok (.putfield 36, 3) := by decide +kernel
theorem dX7_init_66 : decode cX7_init 66 = .ok (.aload_n 0, 1) := by decide +kernel
theorem dX7_init_67 : decode cX7_init 67 = .ok (.invokevirtual 39, 3) := by decide +kernel
theorem dX7_init_70 : decode cX7_init 70 = .ok (.return_, 1) := by decide +kernel
theorem dX7_isIn_0 : decode cX7_isIn 0 = .ok (.iload_n 0, 1) := by decide +kernel
theorem dX7_isIn_1 : decode cX7_isIn 1 = .ok (.iload_n 1, 1) := by decide +kernel
theorem dX7_isIn_2 : decode cX7_isIn 2 = .ok (.if_icmp .lt 12, 3) := by decide +kernel
theorem dX7_isIn_5 : decode cX7_isIn 5 = .ok (.iload_n 0, 1) := by decide +kernel
theorem dX7_isIn_6 : decode cX7_isIn 6 = .ok (.iload_n 2, 1) := by decide +kernel
theorem dX7_isIn_7 : decode cX7_isIn 7 = .ok (.if_icmp .gt 7, 3) := by decide +kernel
theorem dX7_isIn_10 : decode cX7_isIn 10 = .ok (.iconst 1, 1) := by decide +kernel
theorem dX7_isIn_11 : decode cX7_isIn 11 = .ok (.goto 4, 3) := by decide +kernel
theorem dX7_isIn_14 : decode cX7_isIn 14 = .ok (.iconst 0, 1) := by decide +kernel
theorem dX7_isIn_15 : decode cX7_isIn 15 = .ok (.ireturn, 1) := by decide +kernel
theorem dX7_product_0 : decode cX7_product 0 = .ok (.iconst 1, 1) := by decide +kernel
theorem dX7_product_1 : decode cX7_product 1 = .ok (.istore_n 1, 1) := by decide +kernel
theorem dX7_product_2 : decode cX7_product 2 = .ok (.iconst 2, 1) := by decide +kernel
theorem dX7_product_3 : decode cX7_product 3 = .ok (.istore_n 2, 1) := by decide +kernel
theorem dX7_product_4 : decode cX7_product 4 = .ok (.iload_n 2, 1) := by decide +kernel
theorem dX7_product_5 : decode cX7_product 5 = .ok (.iload_n 0, 1) := by decide +kernel
theorem dX7_product_6 : decode cX7_product 6 = .ok (.if_icmp .gt 13, 3) := by decide +kernel
theorem dX7_product_9 : decode cX7_product 9 = .ok (.iload_n 1, 1) := by decide +kernel
theorem dX7_product_10 : decode cX7_product 10 = .ok (.iload_n 2, 1) := by decide +kernel
theorem dX7_product_11 : decode cX7_product 11 = .ok (.imul, 1) := by decide +kernel
theorem dX7_product_12 : decode cX7_product 12 = .ok (.istore_n 1, 1) := by decide +kernel
theorem dX7_product_13 : decode cX7_product 13 = .ok (.iinc 2 1, 3) := by decide +kernel
theorem dX7_product_16 : decode cX7_product 16 = .ok (.goto (-12), 3) := by decide +kernel
theorem dX7_product_19 : decode cX7_product 19 = .ok (.iload_n 1, 1) := by decide +kernel
theorem dX7_product_20 : decode cX7_product 20 = .ok (.ireturn, 1) := by decide +kernel
set_option maxRecDepth 20000 in
theorem ggX7_layAll_X7_product : GoodIn wsX7_layAll wsX7_product := goodIn_r _ [7] (by decide +kernel) (by decide +kernel)
set_option maxRecDepth 20000 in
theorem gX7_layAll_X7_product : GoodIn wsX7_layAll (va_wsS RX7 42 yX7_product wsX7_product) := goodIn_app (goodIn_of _ (by decide +kernel)) ggX7_layAll_X7_product
theorem dX7_layAll_0 : decode cX7_layAll 0 = .ok (.aload_n 0, 1) := by decide +kernel
theorem dX7_layAll_1 : decode cX7_layAll 1 = .ok (.aload_n 0, 1) := by decide +kernel
theorem dX7_layAll_2 : decode cX7_layAll 2 = .ok (.getfield 7, 3) := by decide +kernel
theorem dX7_layAll_5 : decode cX7_layAll 5 = .ok (.invokestatic 42, 3) := by decide +kernel
theorem dX7_layAll_8 : decode cX7_layAll 8 = .ok (.putfield 46, 3) := by decide +kernel
theorem dX7_layAll_11 : decode cX7_layAll 11 = .ok (.iconst 0, 1) := by decide +kernel
theorem dX7_layAll_12 : decode cX7_layAll 12 = .ok (.istore_n 1, 1) := by decide +kernel
theorem dX7_layAll_13 : decode cX7_layAll 13 = .ok (.iload_n 1, 1) := by decide +kernel
theorem dX7_layAll_14 : decode cX7_layAll 14 = .ok (.aload_n 0, 1) := by decide +kernel
theorem dX7_layAll_15 : decode cX7_layAll 15 = .ok (.getfield 46, 3) := by decide +kernel
theorem dX7_layAll_18 : decode cX7_layAll 18 = .ok (.if_icmp .ge 120, 3) := by decide +kernel
theorem dX7_layAll_21 : decode cX7_layAll 21 = .ok (.iload_n 1, 1) := by decide +kernel
theorem dX7_layAll_22 : decode cX7_layAll 22 = .ok (.istore_n 2, 1) := by decide +kernel
theorem dX7_layAll_23 : decode cX7_layAll 23 = .ok (.iconst 0, 1) := by decide +kernel
theorem dX7_layAll_24 : decode cX7_layAll 24 = .ok (.istore_n 3, 1) := by decide +kernel
theorem dX7_layAll_25 : decode cX7_layAll 25 = .ok (.iconst 0, 1) := by decide +kernel
theorem dX7_layAll_26 : decode cX7_layAll 26 = .ok (.istore 4, 2) := by decide +kernel
theorem dX7_layAll_28 : decode cX7_layAll 28 = .ok (.iload 4, 2) := by decide +kernel
theorem dX7_layAll_30 : decode cX7_layAll 30 = .ok (.aload_n 0, 1) := by decide +kernel
theorem dX7_layAll_31 : decode cX7_layAll 31 = .ok (.getfield 7, 3) := by decide +kernel
theorem dX7_layAll_34 : decode cX7_layAll 34 = .ok (.if_icmp .ge 98, 3) := by decide +kernel
theorem dX7_layAll_37 : decode cX7_layAll 37 = .ok (.aload_n 0, 1) := by decide +kernel
theorem dX7_layAll_38 : decode cX7_layAll 38 = .ok (.getfield 7, 3) := by decide +kernel
theorem dX7_layAll_41 : decode cX7_layAll 41 = .ok (.iconst 1, 1) := by decide +kernel
theorem dX7_layAll_42 : decode cX7_layAll 42 = .ok (.isub, 1) := by decide +kernel
theorem dX7_layAll_43 : decode cX7_layAll 43 = .ok (.iload 4, 2) := by decide +kernel
theorem dX7_layAll_45 : decode cX7_layAll 45 = .ok (.isub, 1) := by decide +kernel
theorem dX7_layAll_46 : decode cX7_layAll 46 = .ok (.invokestatic 42, 3) := by decide +kernel
theorem dX7_layAll_49 : decode cX7_layAll 49 = .ok (.istore 5, 2) := by decide +kernel
theorem dX7_layAll_51 : decode cX7_layAll 51 = .ok (.iload_n 2, 1) := by decide +kernel
theorem dX7_layAll_52 : decode cX7_layAll 52 = .ok (.iload 5, 2) := by decide +kernel
theorem dX7_layAll_54 : decode cX7_layAll 54 = .ok (.idiv, 1) := by decide +kernel
theorem dX7_layAll_55 : decode cX7_layAll 55 = .ok (.istore 6, 2) := by decide +kernel
theorem dX7_layAll_57 : decode cX7_layAll 57 = .ok (.iload_n 2, 1) := by decide +kernel
theorem dX7_layAll_58 : decode cX7_layAll 58 = .ok (.iload 5, 2) := by decide +kernel
theorem dX7_layAll_60 : decode cX7_layAll 60 = .ok (.irem, 1) := by decide +kernel
theorem dX7_layAll_61 : decode cX7_layAll 61 = .ok (.istore_n 2, 1) := by decide +kernel
theorem dX7_layAll_62 : decode cX7_layAll 62 = .ok (.iconst 0, 1) := by decide +kernel
theorem dX7_layAll_63 : decode cX7_layAll 63 = .ok (.istore 7, 2) := by decide +kernel
theorem dX7_layAll_65 : decode cX7_layAll 65 = .ok (.iload_n 3, 1) := by decide +kernel
theorem dX7_layAll_66 : decode cX7_layAll 66 = .ok (.iload 7, 2) := by decide +kernel
theorem dX7_layAll_68 : decode cX7_layAll 68 = .ok (.ishr, 1) := by decide +kernel
theorem dX7_layAll_69 : decode cX7_layAll 69 = .ok (.iconst 1, 1) := by decide +kernel
theorem dX7_layAll_70 : decode cX7_layAll 70 = .ok (.iand, 1) := by decide +kernel
theorem dX7_layAll_71 : decode cX7_layAll 71 = .ok (.iconst 1, 1) := by decide +kernel
theorem dX7_layAll_72 : decode cX7_layAll 72 = .ok (.if_icmp .eq 8, 3) := by decide +kernel
theorem dX7_layAll_75 : decode cX7_layAll 75 = .ok (.iload 6, 2) := by decide +kernel
theorem dX7_layAll_77 : decode cX7_layAll 77 = .ok (.ifCond .le 28, 3) := by decide +kernel
theorem dX7_layAll_80 : decode cX7_layAll 80 = .ok (.iload 6, 2) := by decide +kernel
theorem dX7_layAll_82 : decode cX7_layAll 82 = .ok (.iload_n 3, 1) := by decide +kernel
theorem dX7_layAll_83 : decode cX7_layAll 83 = .ok (.iload 7, 2) := by decide +kernel
theorem dX7_layAll_85 : decode cX7_layAll 85 = .ok (.ishr, 1) := by decide +kernel
theorem dX7_layAll_86 : decode cX7_layAll 86 = .ok (.iconst 1, 1) := by decide +kernel
theorem dX7_layAll_87 : decode cX7_layAll 87 = .ok (.iand, 1) := by decide +kernel
theorem dX7_layAll_88 : decode cX7_layAll 88 = .ok (.ifCond .ne 7, 3) := by decide +kernel
theorem dX7_layAll_91 : decode cX7_layAll 91 = .ok (.iconst 1, 1) := by decide +kernel
theorem dX7_layAll_92 : decode cX7_layAll 92 = .ok (.goto 4, 3) := by decide +kernel
theorem dX7_layAll_95 : decode cX7_layAll 95 = .ok (.iconst 0, 1) := by decide +kernel
theorem dX7_layAll_96 : decode cX7_layAll 96 = .ok (.isub, 1) := by decide +kernel
theorem dX7_layAll_97 : decode cX7_layAll 97 = .ok (.istore 6, 2) := by decide +kernel
theorem dX7_layAll_99 : decode cX7_layAll 99 = .ok (.iinc 7 1, 3) := by decide +kernel
theorem dX7_layAll_102 : decode cX7_layAll 102 = .ok (.goto (-37), 3) := by decide +kernel
theorem dX7_layAll_105 : decode cX7_layAll 105 = .ok (.iload_n 3, 1) := by decide +kernel
theorem dX7_layAll_106 : decode cX7_layAll 106 = .ok (.iconst 1, 1) := by decide +kernel
theorem dX7_layAll_107 : decode cX7_layAll 107 = .ok (.iload 7, 2) := by decide +kernel
theorem dX7_layAll_109 : decode cX7_layAll 109 = .ok (.ishl, 1) := by decide +kernel
theorem dX7_layAll_110 : decode cX7_layAll 110 = .ok (.ior, 1) := by decide +kernel
theorem dX7_layAll_111 : decode cX7_layAll 111 = .ok (.istore_n 3, 1) := by decide +kernel
theorem dX7_layAll_112 : decode cX7_layAll 112 = .ok (.aload_n 0, 1) := by decide +kernel
theorem dX7_layAll_113 : decode cX7_layAll 113 = .ok (.getfield 14, 3) := by decide +kernel
theorem dX7_layAll_116 : decode cX7_layAll 116 = .ok (.bipush 8, 2) := by decide +kernel
theorem dX7_layAll_118 : decode cX7_layAll 118 = .ok (.iload_n 1, 1) := by decide +kernel
theorem dX7_layAll_119 : decode cX7_layAll 119 = .ok (.imul, 1) := by decide +kernel
theorem dX7_layAll_120 : decode cX7_layAll 120 = .ok (.iload 4, 2) := by decide +kernel
theorem dX7_layAll_122 : decode cX7_layAll 122 = .ok (.iadd, 1) := by decide +kernel
theorem dX7_layAll_123 : decode cX7_layAll 123 = .ok (.iload 7, 2) := by decide +kernel
theorem dX7_layAll_125 : decode cX7_layAll 125 = .ok (.iastore, 1) := by decide +kernel
theorem dX7_layAll_126 : decode cX7_layAll 126 = .ok (.iinc 4 1, 3) := by decide +kernel
theorem dX7_layAll_129 : decode cX7_layAll 129 = .ok (.goto (-101), 3) := by decide +kernel
theorem dX7_layAll_132 : decode cX7_layAll 132 = .ok (.iinc 1 1, 3) := by decide +kernel
theorem dX7_layAll_135 : decode cX7_layAll 135 = .ok (.goto (-122), 3) := by decide +kernel
theorem dX7_layAll_138 : decode cX7_layAll 138 = .ok (.return_, 1) := by decide +kernel
theorem dX7_placeNow_0 : decode cX7_placeNow 0 = .ok (.iconst 0, 1) := by decide +kernel
theorem dX7_placeNow_1 : decode cX7_placeNow 1 = .ok (.istore_n 1, 1) := by decide +kernel
theorem dX7_placeNow_2 : decode cX7_placeNow 2 = .ok (.iconst 0, 1) := by decide +kernel
theorem dX7_placeNow_3 : decode cX7_placeNow 3 = .ok (.istore_n 2, 1) := by decide +kernel
theorem dX7_placeNow_4 : decode cX7_placeNow 4 = .ok (.iload_n 2, 1) := by decide +kernel
theorem dX7_placeNow_5 : decode cX7_placeNow 5 = .ok (.aload_n 0, 1) := by decide +kernel
theorem dX7_placeNow_6 : decode cX7_placeNow 6 = .ok (.getfield 7, 3) := by decide +kernel
theorem dX7_placeNow_9 : decode cX7_placeNow 9 = .ok (.if_icmp .ge 66, 3) := by decide +kernel
theorem dX7_placeNow_12 : decode cX7_placeNow 12 = .ok (.iconst 0, 1) := by decide +kernel
theorem dX7_placeNow_13 : decode cX7_placeNow 13 = .ok (.istore_n 3, 1) := by decide +kernel
theorem dX7_placeNow_14 : decode cX7_placeNow 14 = .ok (.iload_n 2, 1) := by decide +kernel
theorem dX7_placeNow_15 : decode cX7_placeNow 15 = .ok (.iconst 1, 1) := by decide +kernel
theorem dX7_placeNow_16 : decode cX7_placeNow 16 = .ok (.iadd, 1) := by decide +kernel
theorem dX7_placeNow_17 : decode cX7_placeNow 17 = .ok (.istore 4, 2) := by decide +kernel
theorem dX7_placeNow_19 : decode cX7_placeNow 19 = .ok (.iload 4, 2) := by decide +kernel
theorem dX7_placeNow_21 : decode cX7_placeNow 21 = .ok (.aload_n 0, 1) := by decide +kernel
theorem dX7_placeNow_22 : decode cX7_placeNow 22 = .ok (.getfield 7, 3) := by decide +kernel
theorem dX7_placeNow_25 : decode cX7_placeNow 25 = .ok (.if_icmp .ge 33, 3) := by decide +kernel
theorem dX7_placeNow_28 : decode cX7_placeNow 28 = .ok (.iload_n 3, 1) := by decide +kernel
theorem dX7_placeNow_29 : decode cX7_placeNow 29 = .ok (.aload_n 0, 1) := by decide +kernel
theorem dX7_placeNow_30 : decode cX7_placeNow 30 = .ok (.getfield 26, 3) := by decide +kernel
theorem dX7_placeNow_33 : decode cX7_placeNow 33 = .ok (.iload 4, 2) := by decide +kernel
theorem dX7_placeNow_35 : decode cX7_placeNow 35 = .ok (.iaload, 1) := by decide +kernel
theorem dX7_placeNow_36 : decode cX7_placeNow 36 = .ok (.aload_n 0, 1) := by decide +kernel
theorem dX7_placeNow_37 : decode cX7_placeNow 37 = .ok (.getfield 26, 3) := by decide +kernel
theorem dX7_placeNow_40 : decode cX7_placeNow 40 = .ok (.iload_n 2, 1) := by decide +kernel
theorem dX7_placeNow_41 : decode cX7_placeNow 41 = .ok (.iaload, 1) := by decide +kernel
theorem dX7_placeNow_42 : decode cX7_placeNow 42 = .ok (.if_icmp .ge 7, 3) := by decide +kernel
theorem dX7_placeNow_45 : decode cX7_placeNow 45 = .ok (.iconst 1, 1) := by decide +kernel
theorem dX7_placeNow_46 : decode cX7_placeNow 46 = .ok (.goto 4, 3) := by decide +kernel
theorem dX7_placeNow_49 : decode cX7_placeNow 49 = .ok (.iconst 0, 1) := by decide +kernel
theorem dX7_placeNow_50 : decode cX7_placeNow 50 = .ok (.iadd, 1) := by decide +kernel
theorem dX7_placeNow_51 : decode cX7_placeNow 51 = .ok (.istore_n 3, 1) := by decide +kernel
theorem dX7_placeNow_52 : decode cX7_placeNow 52 = .ok (.iinc 4 1, 3) := by decide +kernel
theorem dX7_placeNow_55 : decode cX7_placeNow 55 = .ok (.goto (-36), 3) := by decide +kernel
theorem dX7_placeNow_58 : decode cX7_placeNow 58 = .ok (.iload_n 1, 1) := by decide +kernel
theorem dX7_placeNow_59 : decode cX7_placeNow 59 = .ok (.aload_n 0, 1) := by decide +kernel
theorem dX7_placeNow_60 : decode cX7_placeNow 60 = .ok (.getfield 7, 3) := by decide +kernel
theorem dX7_placeNow_63 : decode cX7_placeNow 63 = .ok (.iload_n 2, 1) := by decide +kernel
theorem dX7_placeNow_64 : decode cX7_placeNow 64 = .ok (.isub, 1) := by decide +kernel
theorem dX7_placeNow_65 : decode cX7_placeNow 65 = .ok (.imul, 1) := by decide +kernel
theorem dX7_placeNow_66 : decode cX7_placeNow 66 = .ok (.iload_n 3, 1) := by decide +kernel
theorem dX7_placeNow_67 : decode cX7_placeNow 67 = .ok (.iadd, 1) := by decide +kernel
theorem dX7_placeNow_68 : decode cX7_placeNow 68 = .ok (.istore_n 1, 1) := by decide +kernel
theorem dX7_placeNow_69 : decode cX7_placeNow 69 = .ok (.iinc 2 1, 3) := by decide +kernel
theorem dX7_placeNow_72 : decode cX7_placeNow 72 = .ok (.goto (-68), 3) := by decide +kernel
theorem dX7_placeNow_75 : decode cX7_placeNow 75 = .ok (.iload_n 1, 1) := by decide +kernel
theorem dX7_placeNow_76 : decode cX7_placeNow 76 = .ok (.ireturn, 1) := by decide +kernel
set_option maxRecDepth 20000 in
theorem ggX7_oneThen_X7_placeNow : GoodIn wsX7_oneThen wsX7_placeNow := goodIn_r _ [8, 1, 2, 9, 10, 11, 12, 13, 14, 15, 16, 17, 18, 19] (by decide +kernel) (by decide +kernel)
set_option maxRecDepth 20000 in
theorem gX7_oneThen_X7_placeNow : GoodIn wsX7_oneThen (wsV RX7 49 RX7 yX7_placeNow wsX7_placeNow) := goodIn_app (goodIn_of _ (by decide +kernel)) ggX7_oneThen_X7_placeNow
theorem dX7_oneThen_0 : decode cX7_oneThen 0 = .ok (.iconst 0, 1) := by decide +kernel
theorem dX7_oneThen_1 : decode cX7_oneThen 1 = .ok (.istore_n 3, 1) := by decide +kernel
theorem dX7_oneThen_2 : decode cX7_oneThen 2 = .ok (.iload_n 3, 1) := by decide +kernel
theorem dX7_oneThen_3 : decode cX7_oneThen 3 = .ok (.aload_n 0, 1) := by decide +kernel
theorem dX7_oneThen_4 : decode cX7_oneThen 4 = .ok (.getfield 7, 3) := by decide +kernel
theorem dX7_oneThen_7 : decode cX7_oneThen 7 = .ok (.if_icmp .ge 36, 3) := by decide +kernel
theorem dX7_oneThen_10 : decode cX7_oneThen 10 = .ok (.aload_n 0, 1) := by decide +kernel
theorem dX7_oneThen_11 : decode cX7_oneThen 11 = .ok (.getfield 26, 3) := by decide +kernel
theorem dX7_oneThen_14 : decode cX7_oneThen 14 = .ok (.iload_n 3, 1) := by decide +kernel
theorem dX7_oneThen_15 : decode cX7_oneThen 15 = .ok (.aload_n 0, 1) := by decide +kernel
theorem dX7_oneThen_16 : decode cX7_oneThen 16 = .ok (.getfield 14, 3) := by decide +kernel
theorem dX7_oneThen_19 : decode cX7_oneThen 19 = .ok (.bipush 8, 2) := by decide +kernel
theorem dX7_oneThen_21 : decode cX7_oneThen 21 = .ok (.iload_n 2, 1) := by decide +kernel
theorem dX7_oneThen_22 : decode cX7_oneThen 22 = .ok (.imul, 1) := by decide +kernel
theorem dX7_oneThen_23 : decode cX7_oneThen 23 = .ok (.aload_n 0, 1) := by decide +kernel
theorem dX7_oneThen_24 : decode cX7_oneThen 24 = .ok (.getfield 14, 3) := by decide +kernel
theorem dX7_oneThen_27 : decode cX7_oneThen 27 = .ok (.bipush 8, 2) := by decide +kernel
theorem dX7_oneThen_29 : decode cX7_oneThen 29 = .ok (.iload_n 1, 1) := by decide +kernel
theorem dX7_oneThen_30 : decode cX7_oneThen 30 = .ok (.imul, 1) := by decide +kernel
theorem dX7_oneThen_31 : decode cX7_oneThen 31 = .ok (.iload_n 3, 1) := by decide +kernel
theorem dX7_oneThen_32 : decode cX7_oneThen 32 = .ok (.iadd, 1) := by decide +kernel
theorem dX7_oneThen_33 : decode cX7_oneThen 33 = .ok (.iaload, 1) := by decide +kernel
theorem dX7_oneThen_34 : decode cX7_oneThen 34 = .ok (.iadd, 1) := by decide +kernel
theorem dX7_oneThen_35 : decode cX7_oneThen 35 = .ok (.iaload, 1) := by decide +kernel
theorem dX7_oneThen_36 : decode cX7_oneThen 36 = .ok (.iastore, 1) := by decide +kernel
theorem dX7_oneThen_37 : decode cX7_oneThen 37 = .ok (.iinc 3 1, 3) := by decide +kernel
theorem dX7_oneThen_40 : decode cX7_oneThen 40 = .ok (.goto (-38), 3) := by decide +kernel
theorem dX7_oneThen_43 : decode cX7_oneThen 43 = .ok (.aload_n 0, 1) := by decide +kernel
theorem dX7_oneThen_44 : decode cX7_oneThen 44 = .ok (.invokevirtual 49, 3) := by decide +kernel
theorem dX7_oneThen_47 : decode cX7_oneThen 47 = .ok (.ireturn, 1) := by decide +kernel
set_option maxRecDepth 20000 in
theorem ggX7_backOf_X7_placeNow : GoodIn wsX7_backOf wsX7_placeNow := goodIn_r _ [8, 1, 2, 9, 10, 11, 12, 13, 14, 15, 16, 17, 18, 19] (by decide +kernel) (by decide +kernel)
set_option maxRecDepth 20000 in
theorem gX7_backOf_X7_placeNow : GoodIn wsX7_backOf (wsV RX7 49 RX7 yX7_placeNow wsX7_placeNow) := goodIn_app (goodIn_of _ (by decide +kernel)) ggX7_backOf_X7_placeNow
theorem dX7_backOf_0 : decode cX7_backOf 0 = .ok (.iconst 0, 1) := by decide +kernel
theorem dX7_backOf_1 : decode cX7_backOf 1 = .ok (.istore_n 2, 1) := by decide +kernel
theorem dX7_backOf_2 : decode cX7_backOf 2 = .ok (.iload_n 2, 1) := by decide +kernel
theorem dX7_backOf_3 : decode cX7_backOf 3 = .ok (.aload_n 0, 1) := by decide +kernel
theorem dX7_backOf_4 : decode cX7_backOf 4 = .ok (.getfield 7, 3) := by decide +kernel
theorem dX7_backOf_7 : decode cX7_backOf 7 = .ok (.if_icmp .ge 26, 3) := by decide +kernel
theorem dX7_backOf_10 : decode cX7_backOf 10 = .ok (.aload_n 0, 1) := by decide +kernel
theorem dX7_backOf_11 : decode cX7_backOf 11 = .ok (.getfield 26, 3) := by decide +kernel
theorem dX7_backOf_14 : decode cX7_backOf 14 = .ok (.aload_n 0, 1) := by decide +kernel
theorem dX7_backOf_15 : decode cX7_backOf 15 = .ok (.getfield 14, 3) := by decide +kernel
theorem dX7_backOf_18 : decode cX7_backOf 18 = .ok (.bipush 8, 2) := by decide +kernel
theorem dX7_backOf_20 : decode cX7_backOf 20 = .ok (.iload_n 1, 1) := by decide +kernel
theorem dX7_backOf_21 : decode cX7_backOf 21 = .ok (.imul, 1) := by decide +kernel
theorem dX7_backOf_22 : decode cX7_backOf 22 = .ok (.iload_n 2, 1) := by decide +kernel
theorem dX7_backOf_23 : decode cX7_backOf 23 = .ok (.iadd, 1) := by decide +kernel
theorem dX7_backOf_24 : decode cX7_backOf 24 = .ok (.iaload, 1) := by decide +kernel
theorem dX7_backOf_25 : decode cX7_backOf 25 = .ok (.iload_n 2, 1) := by decide +kernel
theorem dX7_backOf_26 : decode cX7_backOf 26 = .ok (.iastore, 1) := by decide +kernel
theorem dX7_backOf_27 : decode cX7_backOf 27 = .ok (.iinc 2 1, 3) := by decide +kernel
theorem dX7_backOf_30 : decode cX7_backOf 30 = .ok (.goto (-28), 3) := by decide +kernel
theorem dX7_backOf_33 : decode cX7_backOf 33 = .ok (.aload_n 0, 1) := by decide +kernel
theorem dX7_backOf_34 : decode cX7_backOf 34 = .ok (.invokevirtual 49, 3) := by decide +kernel
theorem dX7_backOf_37 : decode cX7_backOf 37 = .ok (.ireturn, 1) := by decide +kernel
set_option maxRecDepth 20000 in
theorem ggX7_carried_X7_placeNow : GoodIn wsX7_carried wsX7_placeNow := goodIn_r _ [8, 1, 2, 9, 10, 11, 12, 13, 14, 15, 16, 17, 18, 19] (by decide +kernel) (by decide +kernel)
set_option maxRecDepth 20000 in
theorem gX7_carried_X7_placeNow : GoodIn wsX7_carried (wsV RX7 49 RX7 yX7_placeNow wsX7_placeNow) := goodIn_app (goodIn_of _ (by decide +kernel)) ggX7_carried_X7_placeNow
theorem dX7_carried_0 : decode cX7_carried 0 = .ok (.iconst 0, 1) := by decide +kernel
theorem dX7_carried_1 : decode cX7_carried 1 = .ok (.istore_n 3, 1) := by decide +kernel
theorem dX7_carried_2 : decode cX7_carried 2 = .ok (.iload_n 3, 1) := by decide +kernel
theorem dX7_carried_3 : decode cX7_carried 3 = .ok (.aload_n 0, 1) := by decide +kernel
theorem dX7_carried_4 : decode cX7_carried 4 = .ok (.getfield 7, 3) := by decide +kernel
theorem dX7_carried_7 : decode cX7_carried 7 = .ok (.if_icmp .ge 46, 3) := by decide +kernel
theorem dX7_carried_10 : decode cX7_carried 10 = .ok (.aload_n 0, 1) := by decide +kernel
theorem dX7_carried_11 : decode cX7_carried 11 = .ok (.getfield 26, 3) := by decide +kernel
theorem dX7_carried_14 : decode cX7_carried 14 = .ok (.aload_n 0, 1) := by decide +kernel
theorem dX7_carried_15 : decode cX7_carried 15 = .ok (.getfield 14, 3) := by decide +kernel
theorem dX7_carried_18 : decode cX7_carried 18 = .ok (.bipush 8, 2) := by decide +kernel
theorem dX7_carried_20 : decode cX7_carried 20 = .ok (.iload_n 2, 1) := by decide +kernel
theorem dX7_carried_21 : decode cX7_carried 21 = .ok (.imul, 1) := by decide +kernel
theorem dX7_carried_22 : decode cX7_carried 22 = .ok (.iload_n 3, 1) := by decide +kernel
theorem dX7_carried_23 : decode cX7_carried 23 = .ok (.iadd, 1) := by decide +kernel
theorem dX7_carried_24 : decode cX7_carried 24 = .ok (.iaload, 1) := by decide +kernel
theorem dX7_carried_25 : decode cX7_carried 25 = .ok (.aload_n 0, 1) := by decide +kernel
theorem dX7_carried_26 : decode cX7_carried 26 = .ok (.getfield 14, 3) := by decide +kernel
theorem dX7_carried_29 : decode cX7_carried 29 = .ok (.bipush 8, 2) := by decide +kernel
theorem dX7_carried_31 : decode cX7_carried 31 = .ok (.iload_n 2, 1) := by decide +kernel
theorem dX7_carried_32 : decode cX7_carried 32 = .ok (.imul, 1) := by decide +kernel
theorem dX7_carried_33 : decode cX7_carried 33 = .ok (.aload_n 0, 1) := by decide +kernel
theorem dX7_carried_34 : decode cX7_carried 34 = .ok (.getfield 14, 3) := by decide +kernel
theorem dX7_carried_37 : decode cX7_carried 37 = .ok (.bipush 8, 2) := by decide +kernel
theorem dX7_carried_39 : decode cX7_carried 39 = .ok (.iload_n 1, 1) := by decide +kernel
theorem dX7_carried_40 : decode cX7_carried 40 = .ok (.imul, 1) := by decide +kernel
theorem dX7_carried_41 : decode cX7_carried 41 = .ok (.iload_n 3, 1) := by decide +kernel
theorem dX7_carried_42 : decode cX7_carried 42 = .ok (.iadd, 1) := by decide +kernel
theorem dX7_carried_43 : decode cX7_carried 43 = .ok (.iaload, 1) := by decide +kernel
theorem dX7_carried_44 : decode cX7_carried 44 = .ok (.iadd, 1) := by decide +kernel
theorem dX7_carried_45 : decode cX7_carried 45 = .ok (.iaload, 1) := by decide +kernel
theorem dX7_carried_46 : decode cX7_carried 46 = .ok (.iastore, 1) := by decide +kernel
theorem dX7_carried_47 : decode cX7_carried 47 = .ok (.iinc 3 1, 3) := by decide +kernel
theorem dX7_carried_50 : decode cX7_carried 50 = .ok (.goto (-48), 3) := by decide +kernel
theorem dX7_carried_53 : decode cX7_carried 53 = .ok (.aload_n 0, 1) := by decide +kernel
theorem dX7_carried_54 : decode cX7_carried 54 = .ok (.invokevirtual 49, 3) := by decide +kernel
theorem dX7_carried_57 : decode cX7_carried 57 = .ok (.ireturn, 1) := by decide +kernel
set_option maxRecDepth 20000 in
theorem ggX7_orderOf_X7_oneThen : GoodIn wsX7_orderOf wsX7_oneThen := goodIn_r _ [5, 6, 7, 8, 9, 10, 11, 4, 12, 13, 14, 15, 16, 17, 18, 19, 20, 21, 22, 23] (by decide +kernel) (by decide +kernel)
set_option maxRecDepth 20000 in
theorem gX7_orderOf_X7_oneThen : GoodIn wsX7_orderOf (wsV RX7 53 RX7 yX7_oneThen wsX7_oneThen) := goodIn_app (goodIn_of _ (by decide +kernel)) ggX7_orderOf_X7_oneThen
theorem dX7_orderOf_0 : decode cX7_orderOf 0 = .ok (.iconst 1, 1) := by decide +kernel
theorem dX7_orderOf_1 : decode cX7_orderOf 1 = .ok (.istore_n 2, 1) := by decide +kernel
theorem dX7_orderOf_2 : decode cX7_orderOf 2 = .ok (.iload_n 1, 1) := by decide +kernel
theorem dX7_orderOf_3 : decode cX7_orderOf 3 = .ok (.istore_n 3, 1) := by decide +kernel
theorem dX7_orderOf_4 : decode cX7_orderOf 4 = .ok (.iload_n 3, 1) := by decide +kernel
theorem dX7_orderOf_5 : decode cX7_orderOf 5 = .ok (.ifCond .eq 16, 3) := by decide +kernel
theorem dX7_orderOf_8 : decode cX7_orderOf 8 = .ok (.aload_n 0, 1) := by decide +kernel
theorem dX7_orderOf_9 : decode cX7_orderOf 9 = .ok (.iload_n 3, 1) := by decide +kernel
theorem dX7_orderOf_10 : decode cX7_orderOf 10 = .ok (.iload_n 1, 1) := by decide +kernel
theorem dX7_orderOf_11 : decode cX7_orderOf 11 = .ok (.invokevirtual 53, 3) := by decide +kernel
theorem dX7_orderOf_14 : decode cX7_orderOf 14 = .ok (.istore_n 3, 1) := by decide +kernel
theorem dX7_orderOf_15 : decode cX7_orderOf 15 = .ok (.iinc 2 1, 3) := by decide +kernel
theorem dX7_orderOf_18 : decode cX7_orderOf 18 = .ok (.goto (-14), 3) := by decide +kernel
theorem dX7_orderOf_21 : decode cX7_orderOf 21 = .ok (.iload_n 2, 1) := by decide +kernel
theorem dX7_orderOf_22 : decode cX7_orderOf 22 = .ok (.ireturn, 1) := by decide +kernel
theorem dX7_setOf_0 : decode cX7_setOf 0 = .ok (.iconst 0, 1) := by decide +kernel
theorem dX7_setOf_1 : decode cX7_setOf 1 = .ok (.istore_n 3, 1) := by decide +kernel
theorem dX7_setOf_2 : decode cX7_setOf 2 = .ok (.iconst 0, 1) := by decide +kernel
theorem dX7_setOf_3 : decode cX7_setOf 3 = .ok (.istore 4, 2) := by decide +kernel
theorem dX7_setOf_5 : decode cX7_setOf 5 = .ok (.iload 4, 2) := by decide +kernel
theorem dX7_setOf_7 : decode cX7_setOf 7 = .ok (.aload_n 0, 1) := by decide +kernel
theorem dX7_setOf_8 : decode cX7_setOf 8 = .ok (.getfield 7, 3) := by decide +kernel
theorem dX7_setOf_11 : decode cX7_setOf 11 = .ok (.if_icmp .ge 40, 3) := by decide +kernel
theorem dX7_setOf_14 : decode cX7_setOf 14 = .ok (.iload_n 3, 1) := by decide +kernel
theorem dX7_setOf_15 : decode cX7_setOf 15 = .ok (.iload_n 2, 1) := by decide +kernel
theorem dX7_setOf_16 : decode cX7_setOf 16 = .ok (.iload 4, 2) := by decide +kernel
theorem dX7_setOf_18 : decode cX7_setOf 18 = .ok (.ishr, 1) := by decide +kernel
theorem dX7_setOf_19 : decode cX7_setOf 19 = .ok (.iconst 1, 1) := by decide +kernel
theorem dX7_setOf_20 : decode cX7_setOf 20 = .ok (.iand, 1) := by decide +kernel
theorem dX7_setOf_21 : decode cX7_setOf 21 = .ok (.iconst 1, 1) := by decide +kernel
theorem dX7_setOf_22 : decode cX7_setOf 22 = .ok (.if_icmp .ne 20, 3) := by decide +kernel
theorem dX7_setOf_25 : decode cX7_setOf 25 = .ok (.iconst 1, 1) := by decide +kernel
theorem dX7_setOf_26 : decode cX7_setOf 26 = .ok (.aload_n 0, 1) := by decide +kernel
theorem dX7_setOf_27 : decode cX7_setOf 27 = .ok (.getfield 14, 3) := by decide +kernel
theorem dX7_setOf_30 : decode cX7_setOf 30 = .ok (.bipush 8, 2) := by decide +kernel
theorem dX7_setOf_32 : decode cX7_setOf 32 = .ok (.iload_n 1, 1) := by decide +kernel
theorem dX7_setOf_33 : decode cX7_setOf 33 = .ok (.imul, 1) := by decide +kernel
theorem dX7_setOf_34 : decode cX7_setOf 34 = .ok (.iload 4, 2) := by decide +kernel
theorem dX7_setOf_36 : decode cX7_setOf 36 = .ok (.iadd, 1) := by decide +kernel
theorem dX7_setOf_37 : decode cX7_setOf 37 = .ok (.iaload, 1) := by decide +kernel
theorem dX7_setOf_38 : decode cX7_setOf 38 = .ok (.ishl, 1) := by decide +kernel
theorem dX7_setOf_39 : decode cX7_setOf 39 = .ok (.goto 4, 3) := by decide +kernel
theorem dX7_setOf_42 : decode cX7_setOf 42 = .ok (.iconst 0, 1) := by decide +kernel
theorem dX7_setOf_43 : decode cX7_setOf 43 = .ok (.ior, 1) := by decide +kernel
theorem dX7_setOf_44 : decode cX7_setOf 44 = .ok (.istore_n 3, 1) := by decide +kernel
theorem dX7_setOf_45 : decode cX7_setOf 45 = .ok (.iinc 4 1, 3) := by decide +kernel
theorem dX7_setOf_48 : decode cX7_setOf 48 = .ok (.goto (-43), 3) := by decide +kernel
theorem dX7_setOf_51 : decode cX7_setOf 51 = .ok (.iload_n 3, 1) := by decide +kernel
theorem dX7_setOf_52 : decode cX7_setOf 52 = .ok (.ireturn, 1) := by decide +kernel
set_option maxRecDepth 20000 in
theorem ggX7_points_X7_isIn : GoodIn wsX7_points wsX7_isIn := goodIn_r _ [8] (by decide +kernel) (by decide +kernel)
set_option maxRecDepth 20000 in
theorem gX7_points_X7_isIn : GoodIn wsX7_points (va_wsS RX7 57 yX7_isIn wsX7_isIn) := goodIn_app (goodIn_of _ (by decide +kernel)) ggX7_points_X7_isIn
set_option maxRecDepth 20000 in
theorem ggX7_points_X7_layAll : GoodIn wsX7_points wsX7_layAll := goodIn_r _ [12, 2, 13, 14, 15, 16, 7, 17, 18, 19, 20, 21, 22, 23, 24, 25, 26, 27, 28] (by decide +kernel) (by decide +kernel)
set_option maxRecDepth 20000 in
theorem gX7_points_X7_layAll : GoodIn wsX7_points (wsV RX7 39 RX7 yX7_layAll wsX7_layAll) := goodIn_app (goodIn_of _ (by decide +kernel)) ggX7_points_X7_layAll
theorem dX7_points_0 : decode cX7_points 0 = .ok (.iload_n 1, 1) := by decide +kernel
theorem dX7_points_1 : decode cX7_points 1 = .ok (.iconst 2, 1) := by decide +kernel
theorem dX7_points_2 : decode cX7_points 2 = .ok (.bipush 8, 2) := by decide +kernel
theorem dX7_points_4 : decode cX7_points 4 = .ok (.invokestatic 57, 3) := by decide +kernel
theorem dX7_points_7 : decode cX7_points 7 = .ok (.ifCond .ne 6, 3) := by decide +kernel
theorem dX7_points_10 : decode cX7_points 10 = .ok (.bipush (-2), 2) := by decide +kernel
theorem dX7_points_12 : decode cX7_points 12 = .ok (.ireturn, 1) := by decide +kernel
theorem dX7_points_13 : decode cX7_points 13 = .ok (.aload_n 0, 1) := by decide +kernel
theorem dX7_points_14 : decode cX7_points 14 = .ok (.getfield 61, 3) := by decide +kernel
theorem dX7_points_17 : decode cX7_points 17 = .ok (.istore_n 2, 1) := by decide +kernel
theorem dX7_points_18 : decode cX7_points 18 = .ok (.aload_n 0, 1) := by decide +kernel
theorem dX7_points_19 : decode cX7_points 19 = .ok (.iload_n 1, 1) := by decide +kernel
theorem dX7_points_20 : decode cX7_points 20 = .ok (.putfield 7, 3) := by decide +kernel
theorem dX7_points_23 : decode cX7_points 23 = .ok (.aload_n 0, 1) := by decide +kernel
theorem dX7_points_24 : decode cX7_points 24 = .ok (.iconst 0, 1) := by decide +kernel
theorem dX7_points_25 : decode cX7_points 25 = .ok (.putfield 61, 3) := by decide +kernel
theorem dX7_points_28 : decode cX7_points 28 = .ok (.aload_n 0, 1) := by decide +kernel
theorem dX7_points_29 : decode cX7_points 29 = .ok (.iconst 0, 1) := by decide +kernel
theorem dX7_points_30 : decode cX7_points 30 = .ok (.putfield 64, 3) := by decide +kernel
theorem dX7_points_33 : decode cX7_points 33 = .ok (.iconst 0, 1) := by decide +kernel
theorem dX7_points_34 : decode cX7_points 34 = .ok (.istore_n 3, 1) := by decide +kernel
theorem dX7_points_35 : decode cX7_points 35 = .ok (.iload_n 3, 1) := by decide +kernel
theorem dX7_points_36 : decode cX7_points 36 = .ok (.bipush 8, 2) := by decide +kernel
theorem dX7_points_38 : decode cX7_points 38 = .ok (.if_icmp .ge 16, 3) := by decide +kernel
theorem dX7_points_41 : decode cX7_points 41 = .ok (.aload_n 0, 1) := by decide +kernel
theorem dX7_points_42 : decode cX7_points 42 = .ok (.getfield 18, 3) := by decide +kernel
theorem dX7_points_45 : decode cX7_points 45 = .ok (.iload_n 3, 1) := by decide +kernel
theorem dX7_points_46 : decode cX7_points 46 = .ok (.iconst 0, 1) := by decide +kernel
theorem dX7_points_47 : decode cX7_points 47 = .ok (.iastore, 1) := by decide +kernel
theorem dX7_points_48 : decode cX7_points 48 = .ok (.iinc 3 1, 3) := by decide +kernel
theorem dX7_points_51 : decode cX7_points 51 = .ok (.goto (-16), 3) := by decide +kernel
theorem dX7_points_54 : decode cX7_points 54 = .ok (.aload_n 0, 1) := by decide +kernel
theorem dX7_points_55 : decode cX7_points 55 = .ok (.invokevirtual 39, 3) := by decide +kernel
theorem dX7_points_58 : decode cX7_points 58 = .ok (.iload_n 2, 1) := by decide +kernel
theorem dX7_points_59 : decode cX7_points 59 = .ok (.ireturn, 1) := by decide +kernel
set_option maxRecDepth 20000 in
theorem ggX7_turn_X7_placeNow : GoodIn wsX7_turn wsX7_placeNow := goodIn_r _ [9, 1, 2, 10, 11, 12, 13, 14, 15, 16, 17, 18, 19, 20] (by decide +kernel) (by decide +kernel)
set_option maxRecDepth 20000 in
theorem gX7_turn_X7_placeNow : GoodIn wsX7_turn (wsV RX7 49 RX7 yX7_placeNow wsX7_placeNow) := goodIn_app (goodIn_of _ (by decide +kernel)) ggX7_turn_X7_placeNow
theorem dX7_turn_0 : decode cX7_turn 0 = .ok (.iconst 0, 1) := by decide +kernel
theorem dX7_turn_1 : decode cX7_turn 1 = .ok (.istore_n 3, 1) := by decide +kernel
theorem dX7_turn_2 : decode cX7_turn 2 = .ok (.iconst 0, 1) := by decide +kernel
theorem dX7_turn_3 : decode cX7_turn 3 = .ok (.istore 4, 2) := by decide +kernel
theorem dX7_turn_5 : decode cX7_turn 5 = .ok (.iload 4, 2) := by decide +kernel
theorem dX7_turn_7 : decode cX7_turn 7 = .ok (.aload_n 0, 1) := by decide +kernel
theorem dX7_turn_8 : decode cX7_turn 8 = .ok (.getfield 7, 3) := by decide +kernel
theorem dX7_turn_11 : decode cX7_turn 11 = .ok (.if_icmp .ge 39, 3) := by decide +kernel
theorem dX7_turn_14 : decode cX7_turn 14 = .ok (.aload_n 0, 1) := by decide +kernel
theorem dX7_turn_15 : decode cX7_turn 15 = .ok (.getfield 26, 3) := by decide +kernel
theorem dX7_turn_18 : decode cX7_turn 18 = .ok (.iload 4, 2) := by decide +kernel
theorem dX7_turn_20 : decode cX7_turn 20 = .ok (.lload_n 1, 1) := by decide +kernel
theorem dX7_turn_21 : decode cX7_turn 21 = .ok (.iconst 4, 1) := by decide +kernel
theorem dX7_turn_22 : decode cX7_turn 22 = .ok (.iload 4, 2) := by decide +kernel
theorem dX7_turn_24 : decode cX7_turn 24 = .ok (.imul, 1) := by decide +kernel
theorem dX7_turn_25 : decode cX7_turn 25 = .ok (.lshr, 1) := by decide +kernel
theorem dX7_turn_26 : decode cX7_turn 26 = .ok (.ldc2_w 67, 3) := by decide +kernel
theorem dX7_turn_29 : decode cX7_turn 29 = .ok (.land, 1) := by decide +kernel
theorem dX7_turn_30 : decode cX7_turn 30 = .ok (.l2i, 1) := by decide +kernel
theorem dX7_turn_31 : decode cX7_turn 31 = .ok (.iastore, 1) := by decide +kernel
theorem dX7_turn_32 : decode cX7_turn 32 = .ok (.iload_n 3, 1) := by decide +kernel
theorem dX7_turn_33 : decode cX7_turn 33 = .ok (.iconst 1, 1) := by decide +kernel
theorem dX7_turn_34 : decode cX7_turn 34 = .ok (.aload_n 0, 1) := by decide +kernel
theorem dX7_turn_35 : decode cX7_turn 35 = .ok (.getfield 26, 3) := by decide +kernel
theorem dX7_turn_38 : decode cX7_turn 38 = .ok (.iload 4, 2) := by decide +kernel
theorem dX7_turn_40 : decode cX7_turn 40 = .ok (.iaload, 1) := by decide +kernel
theorem dX7_turn_41 : decode cX7_turn 41 = .ok (.ishl, 1) := by decide +kernel
theorem dX7_turn_42 : decode cX7_turn 42 = .ok (.ior, 1) := by decide +kernel
theorem dX7_turn_43 : decode cX7_turn 43 = .ok (.istore_n 3, 1) := by decide +kernel
theorem dX7_turn_44 : decode cX7_turn 44 = .ok (.iinc 4 1, 3) := by decide +kernel
theorem dX7_turn_47 : decode cX7_turn 47 = .ok (.goto (-42), 3) := by decide +kernel
theorem dX7_turn_50 : decode cX7_turn 50 = .ok (.iload_n 3, 1) := by decide +kernel
theorem dX7_turn_51 : decode cX7_turn 51 = .ok (.iconst 1, 1) := by decide +kernel
theorem dX7_turn_52 : decode cX7_turn 52 = .ok (.aload_n 0, 1) := by decide +kernel
theorem dX7_turn_53 : decode cX7_turn 53 = .ok (.getfield 7, 3) := by decide +kernel
theorem dX7_turn_56 : decode cX7_turn 56 = .ok (.ishl, 1) := by decide +kernel
theorem dX7_turn_57 : decode cX7_turn 57 = .ok (.iconst 1, 1) := by decide +kernel
theorem dX7_turn_58 : decode cX7_turn 58 = .ok (.isub, 1) := by decide +kernel
theorem dX7_turn_59 : decode cX7_turn 59 = .ok (.if_icmp .ne 26, 3) := by decide +kernel
theorem dX7_turn_62 : decode cX7_turn 62 = .ok (.lload_n 1, 1) := by decide +kernel
theorem dX7_turn_63 : decode cX7_turn 63 = .ok (.lconst 0, 1) := by decide +kernel
theorem dX7_turn_64 : decode cX7_turn 64 = .ok (.lcmp, 1) := by decide +kernel
theorem dX7_turn_65 : decode cX7_turn 65 = .ok (.ifCond .lt 20, 3) := by decide +kernel
theorem dX7_turn_68 : decode cX7_turn 68 = .ok (.lload_n 1, 1) := by decide +kernel
theorem dX7_turn_69 : decode cX7_turn 69 = .ok (.iconst 4, 1) := by decide +kernel
theorem dX7_turn_70 : decode cX7_turn 70 = .ok (.aload_n 0, 1) := by decide +kernel
theorem dX7_turn_71 : decode cX7_turn 71 = .ok (.getfield 7, 3) := by decide +kernel
theorem dX7_turn_74 : decode cX7_turn 74 = .ok (.imul, 1) := by decide +kernel
theorem dX7_turn_75 : decode cX7_turn 75 = .ok (.iconst 1, 1) := by decide +kernel
theorem dX7_turn_76 : decode cX7_turn 76 = .ok (.isub, 1) := by decide +kernel
theorem dX7_turn_77 : decode cX7_turn 77 = .ok (.lshr, 1) := by decide +kernel
theorem dX7_turn_78 : decode cX7_turn 78 = .ok (.iconst 1, 1) := by decide +kernel
theorem dX7_turn_79 : decode cX7_turn 79 = .ok (.lshr, 1) := by decide +kernel
theorem dX7_turn_80 : decode cX7_turn 80 = .ok (.lconst 0, 1) := by decide +kernel
theorem dX7_turn_81 : decode cX7_turn 81 = .ok (.lcmp, 1) := by decide +kernel
theorem dX7_turn_82 : decode cX7_turn 82 = .ok (.ifCond .eq 6, 3) := by decide +kernel
theorem dX7_turn_85 : decode cX7_turn 85 = .ok (.bipush (-2), 2) := by decide +kernel
theorem dX7_turn_87 : decode cX7_turn 87 = .ok (.ireturn, 1) := by decide +kernel
theorem dX7_turn_88 : decode cX7_turn 88 = .ok (.aload_n 0, 1) := by decide +kernel
theorem dX7_turn_89 : decode cX7_turn 89 = .ok (.aload_n 0, 1) := by decide +kernel
theorem dX7_turn_90 : decode cX7_turn 90 = .ok (.invokevirtual 49, 3) := by decide +kernel
theorem dX7_turn_93 : decode cX7_turn 93 = .ok (.putfield 64, 3) := by decide +kernel
theorem dX7_turn_96 : decode cX7_turn 96 = .ok (.iconst 1, 1) := by decide +kernel
theorem dX7_turn_97 : decode cX7_turn 97 = .ok (.ireturn, 1) := by decide +kernel
theorem dX7_told_0 : decode cX7_told 0 = .ok (.lconst 0, 1) := by decide +kernel
theorem dX7_told_1 : decode cX7_told 1 = .ok (.lstore_n 1, 1) := by decide +kernel
theorem dX7_told_2 : decode cX7_told 2 = .ok (.iconst 0, 1) := by decide +kernel
theorem dX7_told_3 : decode cX7_told 3 = .ok (.istore_n 3, 1) := by decide +kernel
theorem dX7_told_4 : decode cX7_told 4 = .ok (.iload_n 3, 1) := by decide +kernel
theorem dX7_told_5 : decode cX7_told 5 = .ok (.aload_n 0, 1) := by decide +kernel
theorem dX7_told_6 : decode cX7_told 6 = .ok (.getfield 7, 3) := by decide +kernel
theorem dX7_told_9 : decode cX7_told 9 = .ok (.if_icmp .ge 31, 3) := by decide +kernel
theorem dX7_told_12 : decode cX7_told 12 = .ok (.lload_n 1, 1) := by decide +kernel
theorem dX7_told_13 : decode cX7_told 13 = .ok (.aload_n 0, 1) := by decide +kernel
theorem dX7_told_14 : decode cX7_told 14 = .ok (.getfield 14, 3) := by decide +kernel
theorem dX7_told_17 : decode cX7_told 17 = .ok (.bipush 8, 2) := by decide +kernel
theorem dX7_told_19 : decode cX7_told 19 = .ok (.aload_n 0, 1) := by decide +kernel
theorem dX7_told_20 : decode cX7_told 20 = .ok (.getfield 64, 3) := by decide +kernel
theorem dX7_told_23 : decode cX7_told 23 = .ok (.imul, 1) := by decide +kernel
theorem dX7_told_24 : decode cX7_told 24 = .ok (.iload_n 3, 1) := by decide +kernel
theorem dX7_told_25 : decode cX7_told 25 = .ok (.iadd, 1) := by decide +kernel
theorem dX7_told_26 : decode cX7_told 26 = .ok (.iaload, 1) := by decide +kernel
theorem dX7_told_27 : decode cX7_told 27 = .ok (.i2l, 1) := by decide +kernel
theorem dX7_told_28 : decode cX7_told 28 = .ok (.iconst 4, 1) := by decide +kernel
theorem dX7_told_29 : decode cX7_told 29 = .ok (.iload_n 3, 1) := by decide +kernel
theorem dX7_told_30 : decode cX7_told 30 = .ok (.imul, 1) := by decide +kernel
theorem dX7_told_31 : decode cX7_told 31 = .ok (.lshl, 1) := by decide +kernel
theorem dX7_told_32 : decode cX7_told 32 = .ok (.lor, 1) := by decide +kernel
theorem dX7_told_33 : decode cX7_told 33 = .ok (.lstore_n 1, 1) := by decide +kernel
theorem dX7_told_34 : decode cX7_told 34 = .ok (.iinc 3 1, 3) := by decide +kernel
theorem dX7_told_37 : decode cX7_told 37 = .ok (.goto (-33), 3) := by decide +kernel
theorem dX7_told_40 : decode cX7_told 40 = .ok (.lload_n 1, 1) := by decide +kernel
theorem dX7_told_41 : decode cX7_told 41 = .ok (.lreturn, 1) := by decide +kernel
set_option maxRecDepth 20000 in
theorem ggX7_to_X7_isIn : GoodIn wsX7_to wsX7_isIn := goodIn_r _ [7] (by decide +kernel) (by decide +kernel)
set_option maxRecDepth 20000 in
theorem gX7_to_X7_isIn : GoodIn wsX7_to (va_wsS RX7 57 yX7_isIn wsX7_isIn) := goodIn_app (goodIn_of _ (by decide +kernel)) ggX7_to_X7_isIn
theorem dX7_to_0 : decode cX7_to 0 = .ok (.iload_n 1, 1) := by decide +kernel
theorem dX7_to_1 : decode cX7_to 1 = .ok (.iconst 0, 1) := by decide +kernel
theorem dX7_to_2 : decode cX7_to 2 = .ok (.aload_n 0, 1) := by decide +kernel
theorem dX7_to_3 : decode cX7_to 3 = .ok (.getfield 7, 3) := by decide +kernel
theorem dX7_to_6 : decode cX7_to 6 = .ok (.iconst 1, 1) := by decide +kernel
theorem dX7_to_7 : decode cX7_to 7 = .ok (.isub, 1) := by decide +kernel
theorem dX7_to_8 : decode cX7_to 8 = .ok (.invokestatic 57, 3) := by decide +kernel
theorem dX7_to_11 : decode cX7_to 11 = .ok (.ifCond .eq 20, 3) := by decide +kernel
theorem dX7_to_14 : decode cX7_to 14 = .ok (.aload_n 0, 1) := by decide +kernel
theorem dX7_to_15 : decode cX7_to 15 = .ok (.getfield 14, 3) := by decide +kernel
theorem dX7_to_18 : decode cX7_to 18 = .ok (.bipush 8, 2) := by decide +kernel
theorem dX7_to_20 : decode cX7_to 20 = .ok (.aload_n 0, 1) := by decide +kernel
theorem dX7_to_21 : decode cX7_to 21 = .ok (.getfield 64, 3) := by decide +kernel
theorem dX7_to_24 : decode cX7_to 24 = .ok (.imul, 1) := by decide +kernel
theorem dX7_to_25 : decode cX7_to 25 = .ok (.iload_n 1, 1) := by decide +kernel
theorem dX7_to_26 : decode cX7_to 26 = .ok (.iadd, 1) := by decide +kernel
theorem dX7_to_27 : decode cX7_to 27 = .ok (.iaload, 1) := by decide +kernel
theorem dX7_to_28 : decode cX7_to 28 = .ok (.goto 5, 3) := by decide +kernel
theorem dX7_to_31 : decode cX7_to 31 = .ok (.bipush (-2), 2) := by decide +kernel
theorem dX7_to_33 : decode cX7_to 33 = .ok (.ireturn, 1) := by decide +kernel
set_option maxRecDepth 20000 in
theorem ggX7_lay_X7_isIn : GoodIn wsX7_lay wsX7_isIn := goodIn_r _ [6] (by decide +kernel) (by decide +kernel)
set_option maxRecDepth 20000 in
theorem gX7_lay_X7_isIn : GoodIn wsX7_lay (va_wsS RX7 57 yX7_isIn wsX7_isIn) := goodIn_app (goodIn_of _ (by decide +kernel)) ggX7_lay_X7_isIn
theorem dX7_lay_0 : decode cX7_lay 0 = .ok (.iload_n 1, 1) := by decide +kernel
theorem dX7_lay_1 : decode cX7_lay 1 = .ok (.iconst 0, 1) := by decide +kernel
theorem dX7_lay_2 : decode cX7_lay 2 = .ok (.bipush 7, 2) := by decide +kernel
theorem dX7_lay_4 : decode cX7_lay 4 = .ok (.invokestatic 57, 3) := by decide +kernel
theorem dX7_lay_7 : decode cX7_lay 7 = .ok (.ifCond .ne 6, 3) := by decide +kernel
theorem dX7_lay_10 : decode cX7_lay 10 = .ok (.bipush (-2), 2) := by decide +kernel
theorem dX7_lay_12 : decode cX7_lay 12 = .ok (.ireturn, 1) := by decide +kernel
theorem dX7_lay_13 : decode cX7_lay 13 = .ok (.aload_n 0, 1) := by decide +kernel
theorem dX7_lay_14 : decode cX7_lay 14 = .ok (.getfield 18, 3) := by decide +kernel
theorem dX7_lay_17 : decode cX7_lay 17 = .ok (.iload_n 1, 1) := by decide +kernel
theorem dX7_lay_18 : decode cX7_lay 18 = .ok (.aload_n 0, 1) := by decide +kernel
theorem dX7_lay_19 : decode cX7_lay 19 = .ok (.getfield 64, 3) := by decide +kernel
theorem dX7_lay_22 : decode cX7_lay 22 = .ok (.iastore, 1) := by decide +kernel
theorem dX7_lay_23 : decode cX7_lay 23 = .ok (.iconst 1, 1) := by decide +kernel
theorem dX7_lay_24 : decode cX7_lay 24 = .ok (.ireturn, 1) := by decide +kernel
set_option maxRecDepth 20000 in
theorem ggX7_take_X7_isIn : GoodIn wsX7_take wsX7_isIn := goodIn_r _ [6] (by decide +kernel) (by decide +kernel)
set_option maxRecDepth 20000 in
theorem gX7_take_X7_isIn : GoodIn wsX7_take (va_wsS RX7 57 yX7_isIn wsX7_isIn) := goodIn_app (goodIn_of _ (by decide +kernel)) ggX7_take_X7_isIn
theorem dX7_take_0 : decode cX7_take 0 = .ok (.iload_n 1, 1) := by decide +kernel
theorem dX7_take_1 : decode cX7_take 1 = .ok (.iconst 0, 1) := by decide +kernel
theorem dX7_take_2 : decode cX7_take 2 = .ok (.bipush 7, 2) := by decide +kernel
theorem dX7_take_4 : decode cX7_take 4 = .ok (.invokestatic 57, 3) := by decide +kernel
theorem dX7_take_7 : decode cX7_take 7 = .ok (.ifCond .ne 6, 3) := by decide +kernel
theorem dX7_take_10 : decode cX7_take 10 = .ok (.bipush (-2), 2) := by decide +kernel
theorem dX7_take_12 : decode cX7_take 12 = .ok (.ireturn, 1) := by decide +kernel
theorem dX7_take_13 : decode cX7_take 13 = .ok (.aload_n 0, 1) := by decide +kernel
theorem dX7_take_14 : decode cX7_take 14 = .ok (.aload_n 0, 1) := by decide +kernel
theorem dX7_take_15 : decode cX7_take 15 = .ok (.getfield 18, 3) := by decide +kernel
theorem dX7_take_18 : decode cX7_take 18 = .ok (.iload_n 1, 1) := by decide +kernel
theorem dX7_take_19 : decode cX7_take 19 = .ok (.iaload, 1) := by decide +kernel
theorem dX7_take_20 : decode cX7_take 20 = .ok (.putfield 64, 3) := by decide +kernel
theorem dX7_take_23 : decode cX7_take 23 = .ok (.iconst 1, 1) := by decide +kernel
theorem dX7_take_24 : decode cX7_take 24 = .ok (.ireturn, 1) := by decide +kernel
set_option maxRecDepth 20000 in
theorem ggX7_then_X7_isIn : GoodIn wsX7_then wsX7_isIn := goodIn_r _ [6] (by decide +kernel) (by decide +kernel)
set_option maxRecDepth 20000 in
theorem gX7_then_X7_isIn : GoodIn wsX7_then (va_wsS RX7 57 yX7_isIn wsX7_isIn) := goodIn_app (goodIn_of _ (by decide +kernel)) ggX7_then_X7_isIn
set_option maxRecDepth 20000 in
theorem ggX7_then_X7_oneThen : GoodIn wsX7_then wsX7_oneThen := goodIn_r _ [10, 11, 12, 13, 14, 15, 16, 5, 17, 18, 19, 20, 21, 22, 23, 24, 25, 26, 27, 28] (by decide +kernel) (by decide +kernel)
set_option maxRecDepth 20000 in
theorem gX7_then_X7_oneThen : GoodIn wsX7_then (wsV RX7 53 RX7 yX7_oneThen wsX7_oneThen) := goodIn_app (goodIn_of _ (by decide +kernel)) ggX7_then_X7_oneThen
theorem dX7_then_0 : decode cX7_then 0 = .ok (.iload_n 1, 1) := by decide +kernel
theorem dX7_then_1 : decode cX7_then 1 = .ok (.iconst 0, 1) := by decide +kernel
theorem dX7_then_2 : decode cX7_then 2 = .ok (.bipush 7, 2) := by decide +kernel
theorem dX7_then_4 : decode cX7_then 4 = .ok (.invokestatic 57, 3) := by decide +kernel
theorem dX7_then_7 : decode cX7_then 7 = .ok (.ifCond .ne 6, 3) := by decide +kernel
theorem dX7_then_10 : decode cX7_then 10 = .ok (.bipush (-2), 2) := by decide +kernel
theorem dX7_then_12 : decode cX7_then 12 = .ok (.ireturn, 1) := by decide +kernel
theorem dX7_then_13 : decode cX7_then 13 = .ok (.aload_n 0, 1) := by decide +kernel
theorem dX7_then_14 : decode cX7_then 14 = .ok (.aload_n 0, 1) := by decide +kernel
theorem dX7_then_15 : decode cX7_then 15 = .ok (.aload_n 0, 1) := by decide +kernel
theorem dX7_then_16 : decode cX7_then 16 = .ok (.getfield 64, 3) := by decide +kernel
theorem dX7_then_19 : decode cX7_then 19 = .ok (.aload_n 0, 1) := by decide +kernel
theorem dX7_then_20 : decode cX7_then 20 = .ok (.getfield 18, 3) := by decide +kernel
theorem dX7_then_23 : decode cX7_then 23 = .ok (.iload_n 1, 1) := by decide +kernel
theorem dX7_then_24 : decode cX7_then 24 = .ok (.iaload, 1) := by decide +kernel
theorem dX7_then_25 : decode cX7_then 25 = .ok (.invokevirtual 53, 3) := by decide +kernel
theorem dX7_then_28 : decode cX7_then 28 = .ok (.putfield 64, 3) := by decide +kernel
theorem dX7_then_31 : decode cX7_then 31 = .ok (.iconst 1, 1) := by decide +kernel
theorem dX7_then_32 : decode cX7_then 32 = .ok (.ireturn, 1) := by decide +kernel
set_option maxRecDepth 20000 in
theorem ggX7_back_X7_orderOf : GoodIn wsX7_back wsX7_orderOf := goodIn_r _ [6, 7, 8, 9, 5, 10, 11, 12, 13, 14, 15, 16, 17, 22, 23, 24, 25, 26, 27, 28, 29, 30, 31, 32] (by decide +kernel) (by decide +kernel)
set_option maxRecDepth 20000 in
theorem gX7_back_X7_orderOf : GoodIn wsX7_back (wsV RX7 69 RX7 yX7_orderOf wsX7_orderOf) := goodIn_app (goodIn_of _ (by decide +kernel)) ggX7_back_X7_orderOf
set_option maxRecDepth 20000 in
theorem ggX7_back_X7_backOf : GoodIn wsX7_back wsX7_backOf := goodIn_r _ [21, 11, 12, 13, 14, 15, 16, 5, 17, 22, 23, 24, 25, 26, 27, 28, 29, 30, 31, 32] (by decide +kernel) (by decide +kernel)
set_option maxRecDepth 20000 in
theorem gX7_back_X7_backOf : GoodIn wsX7_back (wsV RX7 72 RX7 yX7_backOf wsX7_backOf) := goodIn_app (goodIn_of _ (by decide +kernel)) ggX7_back_X7_backOf
theorem dX7_back_0 : decode cX7_back 0 = .ok (.aload_n 0, 1) := by decide +kernel
theorem dX7_back_1 : decode cX7_back 1 = .ok (.aload_n 0, 1) := by decide +kernel
theorem dX7_back_2 : decode cX7_back 2 = .ok (.getfield 64, 3) := by decide +kernel
theorem dX7_back_5 : decode cX7_back 5 = .ok (.invokevirtual 69, 3) := by decide +kernel
theorem dX7_back_8 : decode cX7_back 8 = .ok (.istore_n 1, 1) := by decide +kernel
theorem dX7_back_9 : decode cX7_back 9 = .ok (.aload_n 0, 1) := by decide +kernel
theorem dX7_back_10 : decode cX7_back 10 = .ok (.aload_n 0, 1) := by decide +kernel
theorem dX7_back_11 : decode cX7_back 11 = .ok (.aload_n 0, 1) := by decide +kernel
theorem dX7_back_12 : decode cX7_back 12 = .ok (.getfield 64, 3) := by decide +kernel
theorem dX7_back_15 : decode cX7_back 15 = .ok (.invokevirtual 72, 3) := by decide +kernel
theorem dX7_back_18 : decode cX7_back 18 = .ok (.putfield 64, 3) := by decide +kernel
theorem dX7_back_21 : decode cX7_back 21 = .ok (.iload_n 1, 1) := by decide +kernel
theorem dX7_back_22 : decode cX7_back 22 = .ok (.ireturn, 1) := by decide +kernel
set_option maxRecDepth 20000 in
theorem ggX7_power_X7_orderOf : GoodIn wsX7_power wsX7_orderOf := goodIn_r _ [6, 7, 8, 9, 5, 10, 11, 12, 13, 14, 15, 16, 17, 18, 19, 20, 21, 22, 23, 24, 25, 26, 27, 28] (by decide +kernel) (by decide +kernel)
set_option maxRecDepth 20000 in
theorem gX7_power_X7_orderOf : GoodIn wsX7_power (wsV RX7 69 RX7 yX7_orderOf wsX7_orderOf) := goodIn_app (goodIn_of _ (by decide +kernel)) ggX7_power_X7_orderOf
set_option maxRecDepth 20000 in
theorem ggX7_power_X7_oneThen : GoodIn wsX7_power wsX7_oneThen := goodIn_r _ [10, 11, 12, 13, 14, 15, 16, 5, 17, 18, 19, 20, 21, 22, 23, 24, 25, 26, 27, 28] (by decide +kernel) (by decide +kernel)
set_option maxRecDepth 20000 in
theorem gX7_power_X7_oneThen : GoodIn wsX7_power (wsV RX7 53 RX7 yX7_oneThen wsX7_oneThen) := goodIn_app (goodIn_of _ (by decide +kernel)) ggX7_power_X7_oneThen
theorem dX7_power_0 : decode cX7_power 0 = .ok (.aload_n 0, 1) := by decide +kernel
theorem dX7_power_1 : decode cX7_power 1 = .ok (.aload_n 0, 1) := by decide +kernel
theorem dX7_power_2 : decode cX7_power 2 = .ok (.getfield 64, 3) := by decide +kernel
theorem dX7_power_5 : decode cX7_power 5 = .ok (.invokevirtual 69, 3) := by decide +kernel
theorem dX7_power_8 : decode cX7_power 8 = .ok (.istore_n 2, 1) := by decide +kernel
theorem dX7_power_9 : decode cX7_power 9 = .ok (.iload_n 1, 1) := by decide +kernel
theorem dX7_power_10 : decode cX7_power 10 = .ok (.iload_n 2, 1) := by decide +kernel
theorem dX7_power_11 : decode cX7_power 11 = .ok (.irem, 1) := by decide +kernel
theorem dX7_power_12 : decode cX7_power 12 = .ok (.ifCond .ge 11, 3) := by decide +kernel
theorem dX7_power_15 : decode cX7_power 15 = .ok (.iload_n 1, 1) := by decide +kernel
theorem dX7_power_16 : decode cX7_power 16 = .ok (.iload_n 2, 1) := by decide +kernel
theorem dX7_power_17 : decode cX7_power 17 = .ok (.irem, 1) := by decide +kernel
theorem dX7_power_18 : decode cX7_power 18 = .ok (.iload_n 2, 1) := by decide +kernel
theorem dX7_power_19 : decode cX7_power 19 = .ok (.iadd, 1) := by decide +kernel
theorem dX7_power_20 : decode cX7_power 20 = .ok (.goto 6, 3) := by decide +kernel
theorem dX7_power_23 : decode cX7_power 23 = .ok (.iload_n 1, 1) := by decide +kernel
theorem dX7_power_24 : decode cX7_power 24 = .ok (.iload_n 2, 1) := by decide +kernel
theorem dX7_power_25 : decode cX7_power 25 = .ok (.irem, 1) := by decide +kernel
theorem dX7_power_26 : decode cX7_power 26 = .ok (.istore_n 3, 1) := by decide +kernel
theorem dX7_power_27 : decode cX7_power 27 = .ok (.iconst 0, 1) := by decide +kernel
theorem dX7_power_28 : decode cX7_power 28 = .ok (.istore 4, 2) := by decide +kernel
theorem dX7_power_30 : decode cX7_power 30 = .ok (.iconst 0, 1) := by decide +kernel
theorem dX7_power_31 : decode cX7_power 31 = .ok (.istore 5, 2) := by decide +kernel
theorem dX7_power_33 : decode cX7_power 33 = .ok (.iload 5, 2) := by decide +kernel
theorem dX7_power_35 : decode cX7_power 35 = .ok (.iload_n 3, 1) := by decide +kernel
theorem dX7_power_36 : decode cX7_power 36 = .ok (.if_icmp .ge 21, 3) := by decide +kernel
theorem dX7_power_39 : decode cX7_power 39 = .ok (.aload_n 0, 1) := by decide +kernel
theorem dX7_power_40 : decode cX7_power 40 = .ok (.iload 4, 2) := by decide +kernel
theorem dX7_power_42 : decode cX7_power 42 = .ok (.aload_n 0, 1) := by decide +kernel
theorem dX7_power_43 : decode cX7_power 43 = .ok (.getfield 64, 3) := by decide +kernel
theorem dX7_power_46 : decode cX7_power 46 = .ok (.invokevirtual 53, 3) := by decide +kernel
theorem dX7_power_49 : decode cX7_power 49 = .ok (.istore 4, 2) := by decide +kernel
theorem dX7_power_51 : decode cX7_power 51 = .ok (.iinc 5 1, 3) := by decide +kernel
theorem dX7_power_54 : decode cX7_power 54 = .ok (.goto (-21), 3) := by decide +kernel
theorem dX7_power_57 : decode cX7_power 57 = .ok (.aload_n 0, 1) := by decide +kernel
theorem dX7_power_58 : decode cX7_power 58 = .ok (.iload 4, 2) := by decide +kernel
theorem dX7_power_60 : decode cX7_power 60 = .ok (.putfield 64, 3) := by decide +kernel
theorem dX7_power_63 : decode cX7_power 63 = .ok (.aload_n 0, 1) := by decide +kernel
theorem dX7_power_64 : decode cX7_power 64 = .ok (.getfield 64, 3) := by decide +kernel
theorem dX7_power_67 : decode cX7_power 67 = .ok (.ifCond .ne 7, 3) := by decide +kernel
theorem dX7_power_70 : decode cX7_power 70 = .ok (.iconst 1, 1) := by decide +kernel
theorem dX7_power_71 : decode cX7_power 71 = .ok (.goto 4, 3) := by decide +kernel
theorem dX7_power_74 : decode cX7_power 74 = .ok (.iconst 0, 1) := by decide +kernel
theorem dX7_power_75 : decode cX7_power 75 = .ok (.ireturn, 1) := by decide +kernel
set_option maxRecDepth 20000 in
theorem ggX7_isGroup_X7_isIn : GoodIn wsX7_isGroup wsX7_isIn := goodIn_r _ [5] (by decide +kernel) (by decide +kernel)
set_option maxRecDepth 20000 in
theorem gX7_isGroup_X7_isIn : GoodIn wsX7_isGroup (va_wsS RX7 57 yX7_isIn wsX7_isIn) := goodIn_app (goodIn_of _ (by decide +kernel)) ggX7_isGroup_X7_isIn
theorem dX7_isGroup_0 : decode cX7_isGroup 0 = .ok (.iload_n 1, 1) := by decide +kernel
theorem dX7_isGroup_1 : decode cX7_isGroup 1 = .ok (.iconst 0, 1) := by decide +kernel
theorem dX7_isGroup_2 : decode cX7_isGroup 2 = .ok (.aload_n 0, 1) := by decide +kernel
theorem dX7_isGroup_3 : decode cX7_isGroup 3 = .ok (.getfield 61, 3) := by decide +kernel
theorem dX7_isGroup_6 : decode cX7_isGroup 6 = .ok (.iconst 1, 1) := by decide +kernel
theorem dX7_isGroup_7 : decode cX7_isGroup 7 = .ok (.isub, 1) := by decide +kernel
theorem dX7_isGroup_8 : decode cX7_isGroup 8 = .ok (.invokestatic 57, 3) := by decide +kernel
theorem dX7_isGroup_11 : decode cX7_isGroup 11 = .ok (.ireturn, 1) := by decide +kernel
theorem dX7_hasIt_0 : decode cX7_hasIt 0 = .ok (.aload_n 0, 1) := by decide +kernel
theorem dX7_hasIt_1 : decode cX7_hasIt 1 = .ok (.getfield 22, 3) := by decide +kernel
theorem dX7_hasIt_4 : decode cX7_hasIt 4 = .ok (.ldc 35, 2) := by decide +kernel
theorem dX7_hasIt_6 : decode cX7_hasIt 6 = .ok (.iload_n 1, 1) := by decide +kernel
theorem dX7_hasIt_7 : decode cX7_hasIt 7 = .ok (.imul, 1) := by decide +kernel
theorem dX7_hasIt_8 : decode cX7_hasIt 8 = .ok (.iload_n 2, 1) := by decide +kernel
theorem dX7_hasIt_9 : decode cX7_hasIt 9 = .ok (.iadd, 1) := by decide +kernel
theorem dX7_hasIt_10 : decode cX7_hasIt 10 = .ok (.baload, 1) := by decide +kernel
theorem dX7_hasIt_11 : decode cX7_hasIt 11 = .ok (.ireturn, 1) := by decide +kernel
theorem dX7_clear_0 : decode cX7_clear 0 = .ok (.iconst 0, 1) := by decide +kernel
theorem dX7_clear_1 : decode cX7_clear 1 = .ok (.istore_n 2, 1) := by decide +kernel
theorem dX7_clear_2 : decode cX7_clear 2 = .ok (.iload_n 2, 1) := by decide +kernel
theorem dX7_clear_3 : decode cX7_clear 3 = .ok (.aload_n 0, 1) := by decide +kernel
theorem dX7_clear_4 : decode cX7_clear 4 = .ok (.getfield 46, 3) := by decide +kernel
theorem dX7_clear_7 : decode cX7_clear 7 = .ok (.if_icmp .ge 29, 3) := by decide +kernel
theorem dX7_clear_10 : decode cX7_clear 10 = .ok (.aload_n 0, 1) := by decide +kernel
theorem dX7_clear_11 : decode cX7_clear 11 = .ok (.getfield 22, 3) := by decide +kernel
theorem dX7_clear_14 : decode cX7_clear 14 = .ok (.ldc 35, 2) := by decide +kernel
theorem dX7_clear_16 : decode cX7_clear 16 = .ok (.iload_n 1, 1) := by decide +kernel
theorem dX7_clear_17 : decode cX7_clear 17 = .ok (.imul, 1) := by decide +kernel
theorem dX7_clear_18 : decode cX7_clear 18 = .ok (.iload_n 2, 1) := by decide +kernel
theorem dX7_clear_19 : decode cX7_clear 19 = .ok (.iadd, 1) := by decide +kernel
theorem dX7_clear_20 : decode cX7_clear 20 = .ok (.iload_n 2, 1) := by decide +kernel
theorem dX7_clear_21 : decode cX7_clear 21 = .ok (.ifCond .ne 7, 3) := by decide +kernel
theorem dX7_clear_24 : decode cX7_clear 24 = .ok (.iconst 1, 1) := by decide +kernel
theorem dX7_clear_25 : decode cX7_clear 25 = .ok (.goto 4, 3) := by decide +kernel
theorem dX7_clear_28 : decode cX7_clear 28 = .ok (.iconst 0, 1) := by decide +kernel
theorem dX7_clear_29 : decode cX7_clear 29 = .ok (.bastore, 1) := by decide +kernel
theorem dX7_clear_30 : decode cX7_clear 30 = .ok (.iinc 2 1, 3) := by decide +kernel
theorem dX7_clear_33 : decode cX7_clear 33 = .ok (.goto (-31), 3) := by decide +kernel
theorem dX7_clear_36 : decode cX7_clear 36 = .ok (.return_, 1) := by decide +kernel
theorem dX7_copy_0 : decode cX7_copy 0 = .ok (.iconst 0, 1) := by decide +kernel
theorem dX7_copy_1 : decode cX7_copy 1 = .ok (.istore_n 3, 1) := by decide +kernel
theorem dX7_copy_2 : decode cX7_copy 2 = .ok (.iload_n 3, 1) := by decide +kernel
theorem dX7_copy_3 : decode cX7_copy 3 = .ok (.aload_n 0, 1) := by decide +kernel
theorem dX7_copy_4 : decode cX7_copy 4 = .ok (.getfield 46, 3) := by decide +kernel
theorem dX7_copy_7 : decode cX7_copy 7 = .ok (.if_icmp .ge 31, 3) := by decide +kernel
theorem dX7_copy_10 : decode cX7_copy 10 = .ok (.aload_n 0, 1) := by decide +kernel
theorem dX7_copy_11 : decode cX7_copy 11 = .ok (.getfield 22, 3) := by decide +kernel
theorem dX7_copy_14 : decode cX7_copy 14 = .ok (.ldc 35, 2) := by decide +kernel
theorem dX7_copy_16 : decode cX7_copy 16 = .ok (.iload_n 2, 1) := by decide +kernel
theorem dX7_copy_17 : decode cX7_copy 17 = .ok (.imul, 1) := by decide +kernel
theorem dX7_copy_18 : decode cX7_copy 18 = .ok (.iload_n 3, 1) := by decide +kernel
theorem dX7_copy_19 : decode cX7_copy 19 = .ok (.iadd, 1) := by decide +kernel
theorem dX7_copy_20 : decode cX7_copy 20 = .ok (.aload_n 0, 1) := by decide +kernel
theorem dX7_copy_21 : decode cX7_copy 21 = .ok (.getfield 22, 3) := by decide +kernel
theorem dX7_copy_24 : decode cX7_copy 24 = .ok (.ldc 35, 2) := by decide +kernel
theorem dX7_copy_26 : decode cX7_copy 26 = .ok (.iload_n 1, 1) := by decide +kernel
theorem dX7_copy_27 : decode cX7_copy 27 = .ok (.imul, 1) := by decide +kernel
theorem dX7_copy_28 : decode cX7_copy 28 = .ok (.iload_n 3, 1) := by decide +kernel
theorem dX7_copy_29 : decode cX7_copy 29 = .ok (.iadd, 1) := by decide +kernel
theorem dX7_copy_30 : decode cX7_copy 30 = .ok (.baload, 1) := by decide +kernel
theorem dX7_copy_31 : decode cX7_copy 31 = .ok (.bastore, 1) := by decide +kernel
theorem dX7_copy_32 : decode cX7_copy 32 = .ok (.iinc 3 1, 3) := by decide +kernel
theorem dX7_copy_35 : decode cX7_copy 35 = .ok (.goto (-33), 3) := by decide +kernel
theorem dX7_copy_38 : decode cX7_copy 38 = .ok (.return_, 1) := by decide +kernel
set_option maxRecDepth 20000 in
theorem ggX7_begin_X7_clear : GoodIn wsX7_begin wsX7_clear := goodIn_r _ [6, 7, 8, 9, 10, 11, 12, 13, 14, 15, 16, 17, 18, 19, 20] (by decide +kernel) (by decide +kernel)
set_option maxRecDepth 20000 in
theorem gX7_begin_X7_clear : GoodIn wsX7_begin (wsV RX7 75 RX7 yX7_clear wsX7_clear) := goodIn_app (goodIn_of _ (by decide +kernel)) ggX7_begin_X7_clear
theorem dX7_begin_0 : decode cX7_begin 0 = .ok (.aload_n 0, 1) := by decide +kernel
theorem dX7_begin_1 : decode cX7_begin 1 = .ok (.iload_n 1, 1) := by decide +kernel
theorem dX7_begin_2 : decode cX7_begin 2 = .ok (.invokevirtual 75, 3) := by decide +kernel
theorem dX7_begin_5 : decode cX7_begin 5 = .ok (.aload_n 0, 1) := by decide +kernel
theorem dX7_begin_6 : decode cX7_begin 6 = .ok (.getfield 32, 3) := by decide +kernel
theorem dX7_begin_9 : decode cX7_begin 9 = .ok (.iload_n 1, 1) := by decide +kernel
theorem dX7_begin_10 : decode cX7_begin 10 = .ok (.iconst 0, 1) := by decide +kernel
theorem dX7_begin_11 : decode cX7_begin 11 = .ok (.iastore, 1) := by decide +kernel
theorem dX7_begin_12 : decode cX7_begin 12 = .ok (.return_, 1) := by decide +kernel
set_option maxRecDepth 20000 in
theorem ggX7_join_X7_hasIt : GoodIn wsX7_join wsX7_hasIt := goodIn_r _ [10, 4, 5, 27, 28, 29, 30, 31, 32, 33, 34, 35, 36, 37] (by decide +kernel) (by decide +kernel)
set_option maxRecDepth 20000 in
theorem gX7_join_X7_hasIt : GoodIn wsX7_join (wsV RX7 79 RX7 yX7_hasIt wsX7_hasIt) := goodIn_app (goodIn_of _ (by decide +kernel)) ggX7_join_X7_hasIt
set_option maxRecDepth 20000 in
theorem ggX7_join_X7_clear : GoodIn wsX7_join wsX7_clear := goodIn_r _ [14, 15, 4, 5, 27, 28, 29, 30, 31, 32, 33, 34, 35, 36, 37] (by decide +kernel) (by decide +kernel)
set_option maxRecDepth 20000 in
theorem gX7_join_X7_clear : GoodIn wsX7_join (wsV RX7 75 RX7 yX7_clear wsX7_clear) := goodIn_app (goodIn_of _ (by decide +kernel)) ggX7_join_X7_clear
set_option maxRecDepth 20000 in
theorem ggX7_join_X7_oneThen : GoodIn wsX7_join wsX7_oneThen := goodIn_r _ [19, 20, 21, 22, 23, 24, 25, 9, 26, 27, 28, 29, 30, 31, 32, 33, 34, 35, 36, 37] (by decide +kernel) (by decide +kernel)
set_option maxRecDepth 20000 in
theorem gX7_join_X7_oneThen : GoodIn wsX7_join (wsV RX7 53 RX7 yX7_oneThen wsX7_oneThen) := goodIn_app (goodIn_of _ (by decide +kernel)) ggX7_join_X7_oneThen
theorem dX7_join_0 : decode cX7_join 0 = .ok (.aload_n 0, 1) := by decide +kernel
theorem dX7_join_1 : decode cX7_join 1 = .ok (.iload_n 1, 1) := by decide +kernel
theorem dX7_join_2 : decode cX7_join 2 = .ok (.iload_n 2, 1) := by decide +kernel
theorem dX7_join_3 : decode cX7_join 3 = .ok (.invokevirtual 79, 3) := by decide +kernel
theorem dX7_join_6 : decode cX7_join 6 = .ok (.ifCond .eq 4, 3) := by decide +kernel
theorem dX7_join_9 : decode cX7_join 9 = .ok (.return_, 1) := by decide +kernel
theorem dX7_join_10 : decode cX7_join 10 = .ok (.aload_n 0, 1) := by decide +kernel
theorem dX7_join_11 : decode cX7_join 11 = .ok (.getfield 29, 3) := by decide +kernel
theorem dX7_join_14 : decode cX7_join 14 = .ok (.bipush 32, 2) := by decide +kernel
theorem dX7_join_16 : decode cX7_join 16 = .ok (.iload_n 1, 1) := by decide +kernel
theorem dX7_join_17 : decode cX7_join 17 = .ok (.imul, 1) := by decide +kernel
theorem dX7_join_18 : decode cX7_join 18 = .ok (.aload_n 0, 1) := by decide +kernel
theorem dX7_join_19 : decode cX7_join 19 = .ok (.getfield 32, 3) := by decide +kernel
theorem dX7_join_22 : decode cX7_join 22 = .ok (.iload_n 1, 1) := by decide +kernel
theorem dX7_join_23 : decode cX7_join 23 = .ok (.iaload, 1) := by decide +kernel
theorem dX7_join_24 : decode cX7_join 24 = .ok (.iadd, 1) := by decide +kernel
theorem dX7_join_25 : decode cX7_join 25 = .ok (.iload_n 2, 1) := by decide +kernel
theorem dX7_join_26 : decode cX7_join 26 = .ok (.iastore, 1) := by decide +kernel
theorem dX7_join_27 : decode cX7_join 27 = .ok (.aload_n 0, 1) := by decide +kernel
theorem dX7_join_28 : decode cX7_join 28 = .ok (.getfield 32, 3) := by decide +kernel
theorem dX7_join_31 : decode cX7_join 31 = .ok (.iload_n 1, 1) := by decide +kernel
theorem dX7_join_32 : decode cX7_join 32 = .ok (.dup2, 1) := by decide +kernel
theorem dX7_join_33 : decode cX7_join 33 = .ok (.iaload, 1) := by decide +kernel
theorem dX7_join_34 : decode cX7_join 34 = .ok (.iconst 1, 1) := by decide +kernel
theorem dX7_join_35 : decode cX7_join 35 = .ok (.iadd, 1) := by decide +kernel
theorem dX7_join_36 : decode cX7_join 36 = .ok (.iastore, 1) := by decide +kernel
theorem dX7_join_37 : decode cX7_join 37 = .ok (.aload_n 0, 1) := by decide +kernel
theorem dX7_join_38 : decode cX7_join 38 = .ok (.iload_n 1, 1) := by decide +kernel
theorem dX7_join_39 : decode cX7_join 39 = .ok (.invokevirtual 75, 3) := by decide +kernel
theorem dX7_join_42 : decode cX7_join 42 = .ok (.aload_n 0, 1) := by decide +kernel
theorem dX7_join_43 : decode cX7_join 43 = .ok (.getfield 36, 3) := by decide +kernel
theorem dX7_join_46 : decode cX7_join 46 = .ok (.iconst 0, 1) := by decide +kernel
theorem dX7_join_47 : decode cX7_join 47 = .ok (.iconst 0, 1) := by decide +kernel
theorem dX7_join_48 : decode cX7_join 48 = .ok (.iastore, 1) := by decide +kernel
theorem dX7_join_49 : decode cX7_join 49 = .ok (.iconst 1, 1) := by decide +kernel
theorem dX7_join_50 : decode cX7_join 50 = .ok (.istore_n 3, 1) := by decide +kernel
theorem dX7_join_51 : decode cX7_join 51 = .ok (.iconst 0, 1) := by decide +kernel
theorem dX7_join_52 : decode cX7_join 52 = .ok (.istore 4, 2) := by decide +kernel
theorem dX7_join_54 : decode cX7_join 54 = .ok (.iload 4, 2) := by decide +kernel
theorem dX7_join_56 : decode cX7_join 56 = .ok (.iload_n 3, 1) := by decide +kernel
theorem dX7_join_57 : decode cX7_join 57 = .ok (.if_icmp .ge 88, 3) := by decide +kernel
theorem dX7_join_60 : decode cX7_join 60 = .ok (.iconst 0, 1) := by decide +kernel
theorem dX7_join_61 : decode cX7_join 61 = .ok (.istore 5, 2) := by decide +kernel
theorem dX7_join_63 : decode cX7_join 63 = .ok (.iload 5, 2) := by decide +kernel
theorem dX7_join_65 : decode cX7_join 65 = .ok (.aload_n 0, 1) := by decide +kernel
theorem dX7_join_66 : decode cX7_join 66 = .ok (.getfield 32, 3) := by decide +kernel
theorem dX7_join_69 : decode cX7_join 69 = .ok (.iload_n 1, 1) := by decide +kernel
theorem dX7_join_70 : decode cX7_join 70 = .ok (.iaload, 1) := by decide +kernel
theorem dX7_join_71 : decode cX7_join 71 = .ok (.if_icmp .ge 68, 3) := by decide +kernel
theorem dX7_join_74 : decode cX7_join 74 = .ok (.aload_n 0, 1) := by decide +kernel
theorem dX7_join_75 : decode cX7_join 75 = .ok (.aload_n 0, 1) := by decide +kernel
theorem dX7_join_76 : decode cX7_join 76 = .ok (.getfield 36, 3) := by decide +kernel
theorem dX7_join_79 : decode cX7_join 79 = .ok (.iload 4, 2) := by decide +kernel
theorem dX7_join_81 : decode cX7_join 81 = .ok (.iaload, 1) := by decide +kernel
theorem dX7_join_82 : decode cX7_join 82 = .ok (.aload_n 0, 1) := by decide +kernel
theorem dX7_join_83 : decode cX7_join 83 = .ok (.getfield 29, 3) := by decide +kernel
theorem dX7_join_86 : decode cX7_join 86 = .ok (.bipush 32, 2) := by decide +kernel
theorem dX7_join_88 : decode cX7_join 88 = .ok (.iload_n 1, 1) := by decide +kernel
theorem dX7_join_89 : decode cX7_join 89 = .ok (.imul, 1) := by decide +kernel
theorem dX7_join_90 : decode cX7_join 90 = .ok (.iload 5, 2) := by decide +kernel
theorem dX7_join_92 : decode cX7_join 92 = .ok (.iadd, 1) := by decide +kernel
theorem dX7_join_93 : decode cX7_join 93 = .ok (.iaload, 1) := by decide +kernel
theorem dX7_join_94 : decode cX7_join 94 = .ok (.invokevirtual 53, 3) := by decide +kernel
theorem dX7_join_97 : decode cX7_join 97 = .ok (.istore 6, 2) := by decide +kernel
theorem dX7_join_99 : decode cX7_join 99 = .ok (.aload_n 0, 1) := by decide +kernel
theorem dX7_join_100 : decode cX7_join 100 = .ok (.iload_n 1, 1) := by decide +kernel
theorem dX7_join_101 : decode cX7_join 101 = .ok (.iload 6, 2) := by decide +kernel
theorem dX7_join_103 : decode cX7_join 103 = .ok (.invokevirtual 79, 3) := by decide +kernel
theorem dX7_join_106 : decode cX7_join 106 = .ok (.ifCond .ne 27, 3) := by decide +kernel
theorem dX7_join_109 : decode cX7_join 109 = .ok (.aload_n 0, 1) := by decide +kernel
theorem dX7_join_110 : decode cX7_join 110 = .ok (.getfield 22, 3) := by decide +kernel
theorem dX7_join_113 : decode cX7_join 113 = .ok (.ldc 35, 2) := by decide +kernel
theorem dX7_join_115 : decode cX7_join 115 = .ok (.iload_n 1, 1) := by decide +kernel
theorem dX7_join_116 : decode cX7_join 116 = .ok (.imul, 1) := by decide +kernel
theorem dX7_join_117 : decode cX7_join 117 = .ok (.iload 6, 2) := by decide +kernel
theorem dX7_join_119 : decode cX7_join 119 = .ok (.iadd, 1) := by decide +kernel
theorem dX7_join_120 : decode cX7_join 120 = .ok (.iconst 1, 1) := by decide +kernel
theorem dX7_join_121 : decode cX7_join 121 = .ok (.bastore, 1) := by decide +kernel
theorem dX7_join_122 : decode cX7_join 122 = .ok (.aload_n 0, 1) := by decide +kernel
theorem dX7_join_123 : decode cX7_join 123 = .ok (.getfield 36, 3) := by decide +kernel
theorem dX7_join_126 : decode cX7_join 126 = .ok (.iload_n 3, 1) := by decide +kernel
theorem dX7_join_127 : decode cX7_join 127 = .ok (.iload 6, 2) := by decide +kernel
theorem dX7_join_129 : decode cX7_join 129 = .ok (.iastore, 1) := by decide +kernel
theorem dX7_join_130 : decode cX7_join 130 = .ok (.iinc 3 1, 3) := by decide +kernel
theorem dX7_join_133 : decode cX7_join 133 = .ok (.iinc 5 1, 3) := by decide +kernel
theorem dX7_join_136 : decode cX7_join 136 = .ok (.goto (-73), 3) := by decide +kernel
theorem dX7_join_139 : decode cX7_join 139 = .ok (.iinc 4 1, 3) := by decide +kernel
theorem dX7_join_142 : decode cX7_join 142 = .ok (.goto (-88), 3) := by decide +kernel
theorem dX7_join_145 : decode cX7_join 145 = .ok (.return_, 1) := by decide +kernel
set_option maxRecDepth 20000 in
theorem ggX7_joinAll_X7_hasIt : GoodIn wsX7_joinAll wsX7_hasIt := goodIn_r _ [6, 7, 8, 31, 32, 33, 34, 35, 36, 37, 38, 39, 40, 41] (by decide +kernel) (by decide +kernel)
set_option maxRecDepth 20000 in
theorem gX7_joinAll_X7_hasIt : GoodIn wsX7_joinAll (wsV RX7 79 RX7 yX7_hasIt wsX7_hasIt) := goodIn_app (goodIn_of _ (by decide +kernel)) ggX7_joinAll_X7_hasIt
set_option maxRecDepth 20000 in
theorem ggX7_joinAll_X7_join : GoodIn wsX7_joinAll wsX7_join := goodIn_r _ [12, 13, 14, 15, 7, 8, 2, 3, 4, 5, 6, 16, 17, 18, 19, 1, 20, 21, 22, 23, 24, 25, 26, 27, 28, 29, 30, 31, 32, 33, 34, 35, 36, 37, 38, 39, 40, 41] (by decide +kernel) (by decide +kernel)
set_option maxRecDepth 20000 in
theorem gX7_joinAll_X7_join : GoodIn wsX7_joinAll (wsV RX7 83 RX7 yX7_join wsX7_join) := goodIn_app (goodIn_of _ (by decide +kernel)) ggX7_joinAll_X7_join
theorem dX7_joinAll_0 : decode cX7_joinAll 0 = .ok (.iconst 0, 1) := by decide +kernel
theorem dX7_joinAll_1 : decode cX7_joinAll 1 = .ok (.istore_n 3, 1) := by decide +kernel
theorem dX7_joinAll_2 : decode cX7_joinAll 2 = .ok (.iload_n 3, 1) := by decide +kernel
theorem dX7_joinAll_3 : decode cX7_joinAll 3 = .ok (.aload_n 0, 1) := by decide +kernel
theorem dX7_joinAll_4 : decode cX7_joinAll 4 = .ok (.getfield 46, 3) := by decide +kernel
theorem dX7_joinAll_7 : decode cX7_joinAll 7 = .ok (.if_icmp .ge 24, 3) := by decide +kernel
theorem dX7_joinAll_10 : decode cX7_joinAll 10 = .ok (.aload_n 0, 1) := by decide +kernel
theorem dX7_joinAll_11 : decode cX7_joinAll 11 = .ok (.iload_n 2, 1) := by decide +kernel
theorem dX7_joinAll_12 : decode cX7_joinAll 12 = .ok (.iload_n 3, 1) := by decide +kernel
theorem dX7_joinAll_13 : decode cX7_joinAll 13 = .ok (.invokevirtual 79, 3) := by decide +kernel
theorem dX7_joinAll_16 : decode cX7_joinAll 16 = .ok (.ifCond .eq 9, 3) := by decide +kernel
theorem dX7_joinAll_19 : decode cX7_joinAll 19 = .ok (.aload_n 0, 1) := by decide +kernel
theorem dX7_joinAll_20 : decode cX7_joinAll 20 = .ok (.iload_n 1, 1) := by decide +kernel
theorem dX7_joinAll_21 : decode cX7_joinAll 21 = .ok (.iload_n 3, 1) := by decide +kernel
theorem dX7_joinAll_22 : decode cX7_joinAll 22 = .ok (.invokevirtual 83, 3) := by decide +kernel
theorem dX7_joinAll_25 : decode cX7_joinAll 25 = .ok (.iinc 3 1, 3) := by decide +kernel
theorem dX7_joinAll_28 : decode cX7_joinAll 28 = .ok (.goto (-26), 3) := by decide +kernel
theorem dX7_joinAll_31 : decode cX7_joinAll 31 = .ok (.return_, 1) := by decide +kernel
set_option maxRecDepth 20000 in
theorem ggX7_close_X7_carried : GoodIn wsX7_close wsX7_carried := goodIn_r _ [7, 8, 9, 10, 11, 12, 13, 6, 14, 35, 36, 37, 38, 39, 40, 41, 42, 43, 44, 45] (by decide +kernel) (by decide +kernel)
set_option maxRecDepth 20000 in
theorem gX7_close_X7_carried : GoodIn wsX7_close (wsV RX7 87 RX7 yX7_carried wsX7_carried) := goodIn_app (goodIn_of _ (by decide +kernel)) ggX7_close_X7_carried
set_option maxRecDepth 20000 in
theorem ggX7_close_X7_join : GoodIn wsX7_close wsX7_join := goodIn_r _ [18, 2, 1, 19, 20, 21, 22, 23, 24, 6, 25, 26, 27, 28, 29, 30, 31, 32, 33, 34, 8, 9, 10, 11, 12, 13, 14, 35, 36, 37, 38, 39, 40, 41, 42, 43, 44, 45] (by decide +kernel) (by decide +kernel)
set_option maxRecDepth 20000 in
theorem gX7_close_X7_join : GoodIn wsX7_close (wsV RX7 83 RX7 yX7_join wsX7_join) := goodIn_app (goodIn_of _ (by decide +kernel)) ggX7_close_X7_join
theorem dX7_close_0 : decode cX7_close 0 = .ok (.iconst 0, 1) := by decide +kernel
theorem dX7_close_1 : decode cX7_close 1 = .ok (.istore_n 3, 1) := by decide +kernel
theorem dX7_close_2 : decode cX7_close 2 = .ok (.iload_n 3, 1) := by decide +kernel
theorem dX7_close_3 : decode cX7_close 3 = .ok (.aload_n 0, 1) := by decide +kernel
theorem dX7_close_4 : decode cX7_close 4 = .ok (.getfield 32, 3) := by decide +kernel
theorem dX7_close_7 : decode cX7_close 7 = .ok (.iload_n 1, 1) := by decide +kernel
theorem dX7_close_8 : decode cX7_close 8 = .ok (.iaload, 1) := by decide +kernel
theorem dX7_close_9 : decode cX7_close 9 = .ok (.if_icmp .ge 61, 3) := by decide +kernel
theorem dX7_close_12 : decode cX7_close 12 = .ok (.iconst 0, 1) := by decide +kernel
theorem dX7_close_13 : decode cX7_close 13 = .ok (.istore 4, 2) := by decide +kernel
theorem dX7_close_15 : decode cX7_close 15 = .ok (.iload 4, 2) := by decide +kernel
theorem dX7_close_17 : decode cX7_close 17 = .ok (.aload_n 0, 1) := by decide +kernel
theorem dX7_close_18 : decode cX7_close 18 = .ok (.getfield 32, 3) := by decide +kernel
theorem dX7_close_21 : decode cX7_close 21 = .ok (.iload_n 2, 1) := by decide +kernel
theorem dX7_close_22 : decode cX7_close 22 = .ok (.iaload, 1) := by decide +kernel
theorem dX7_close_23 : decode cX7_close 23 = .ok (.if_icmp .ge 41, 3) := by decide +kernel
theorem dX7_close_26 : decode cX7_close 26 = .ok (.aload_n 0, 1) := by decide +kernel
theorem dX7_close_27 : decode cX7_close 27 = .ok (.iload_n 1, 1) := by decide +kernel
theorem dX7_close_28 : decode cX7_close 28 = .ok (.aload_n 0, 1) := by decide +kernel
theorem dX7_close_29 : decode cX7_close 29 = .ok (.aload_n 0, 1) := by decide +kernel
theorem dX7_close_30 : decode cX7_close 30 = .ok (.getfield 29, 3) := by decide +kernel
theorem dX7_close_33 : decode cX7_close 33 = .ok (.bipush 32, 2) := by decide +kernel
theorem dX7_close_35 : decode cX7_close 35 = .ok (.iload_n 1, 1) := by decide +kernel
theorem dX7_close_36 : decode cX7_close 36 = .ok (.imul, 1) := by decide +kernel
theorem dX7_close_37 : decode cX7_close 37 = .ok (.iload_n 3, 1) := by decide +kernel
theorem dX7_close_38 : decode cX7_close 38 = .ok (.iadd, 1) := by decide +kernel
theorem dX7_close_39 : decode cX7_close 39 = .ok (.iaload, 1) := by decide +kernel
theorem dX7_close_40 : decode cX7_close 40 = .ok (.aload_n 0, 1) := by decide +kernel
theorem dX7_close_41 : decode cX7_close 41 = .ok (.getfield 29, 3) := by decide +kernel
theorem dX7_close_44 : decode cX7_close 44 = .ok (.bipush 32, 2) := by decide +kernel
theorem dX7_close_46 : decode cX7_close 46 = .ok (.iload_n 2, 1) := by decide +kernel
theorem dX7_close_47 : decode cX7_close 47 = .ok (.imul, 1) := by decide +kernel
theorem dX7_close_48 : decode cX7_close 48 = .ok (.iload 4, 2) := by decide +kernel
theorem dX7_close_50 : decode cX7_close 50 = .ok (.iadd, 1) := by decide +kernel
theorem dX7_close_51 : decode cX7_close 51 = .ok (.iaload, 1) := by decide +kernel
theorem dX7_close_52 : decode cX7_close 52 = .ok (.invokevirtual 87, 3) := by decide +kernel
theorem dX7_close_55 : decode cX7_close 55 = .ok (.invokevirtual 83, 3) := by decide +kernel
theorem dX7_close_58 : decode cX7_close 58 = .ok (.iinc 4 1, 3) := by decide +kernel
theorem dX7_close_61 : decode cX7_close 61 = .ok (.goto (-46), 3) := by decide +kernel
theorem dX7_close_64 : decode cX7_close 64 = .ok (.iinc 3 1, 3) := by decide +kernel
theorem dX7_close_67 : decode cX7_close 67 = .ok (.goto (-65), 3) := by decide +kernel
theorem dX7_close_70 : decode cX7_close 70 = .ok (.return_, 1) := by decide +kernel
set_option maxRecDepth 20000 in
theorem ggX7_goDown_X7_begin : GoodIn wsX7_goDown wsX7_begin := goodIn_r _ [7, 1, 8, 9, 10, 6, 11, 12, 13, 14, 51, 52, 53, 54, 55, 56, 57, 58, 59, 60, 61] (by decide +kernel) (by decide +kernel)
set_option maxRecDepth 20000 in
theorem gX7_goDown_X7_begin : GoodIn wsX7_goDown (wsV RX7 90 RX7 yX7_begin wsX7_begin) := goodIn_app (goodIn_of _ (by decide +kernel)) ggX7_goDown_X7_begin
set_option maxRecDepth 20000 in
theorem ggX7_goDown_X7_joinAll : GoodIn wsX7_goDown wsX7_joinAll := goodIn_r _ [18, 12, 19, 20, 21, 6, 22, 13, 14, 23, 24, 25, 26, 2, 1, 27, 8, 9, 10, 11, 28, 29, 30, 31, 32, 33, 34, 35, 36, 37, 38, 51, 52, 53, 54, 55, 56, 57, 58, 59, 60, 61] (by decide +kernel) (by decide +kernel)
set_option maxRecDepth 20000 in
theorem gX7_goDown_X7_joinAll : GoodIn wsX7_goDown (wsV RX7 93 RX7 yX7_joinAll wsX7_joinAll) := goodIn_app (goodIn_of _ (by decide +kernel)) ggX7_goDown_X7_joinAll
set_option maxRecDepth 20000 in
theorem ggX7_goDown_X7_backOf : GoodIn wsX7_goDown wsX7_backOf := goodIn_r _ [42, 32, 33, 34, 35, 36, 37, 6, 38, 51, 52, 53, 54, 55, 56, 57, 58, 59, 60, 61] (by decide +kernel) (by decide +kernel)
set_option maxRecDepth 20000 in
theorem gX7_goDown_X7_backOf : GoodIn wsX7_goDown (wsV RX7 72 RX7 yX7_backOf wsX7_backOf) := goodIn_app (goodIn_of _ (by decide +kernel)) ggX7_goDown_X7_backOf
set_option maxRecDepth 20000 in
theorem ggX7_goDown_X7_oneThen : GoodIn wsX7_goDown wsX7_oneThen := goodIn_r _ [31, 32, 33, 34, 35, 36, 37, 6, 38, 51, 52, 53, 54, 55, 56, 57, 58, 59, 60, 61] (by decide +kernel) (by decide +kernel)
set_option maxRecDepth 20000 in
theorem gX7_goDown_X7_oneThen : GoodIn wsX7_goDown (wsV RX7 53 RX7 yX7_oneThen wsX7_oneThen) := goodIn_app (goodIn_of _ (by decide +kernel)) ggX7_goDown_X7_oneThen
set_option maxRecDepth 20000 in
theorem ggX7_goDown_X7_join : GoodIn wsX7_goDown wsX7_join := goodIn_r _ [26, 2, 1, 27, 13, 14, 19, 20, 21, 6, 22, 8, 9, 10, 11, 12, 28, 29, 30, 31, 32, 33, 34, 35, 36, 37, 38, 51, 52, 53, 54, 55, 56, 57, 58, 59, 60, 61] (by decide +kernel) (by decide +kernel)
set_option maxRecDepth 20000 in
theorem gX7_goDown_X7_join : GoodIn wsX7_goDown (wsV RX7 83 RX7 yX7_join wsX7_join) := goodIn_app (goodIn_of _ (by decide +kernel)) ggX7_goDown_X7_join
set_option maxRecDepth 20000 in
theorem ggX7_goDown_X7_close : GoodIn wsX7_goDown wsX7_close := goodIn_r _ [46, 1, 2, 47, 48, 49, 6, 50, 32, 33, 34, 35, 36, 37, 38, 23, 24, 25, 26, 27, 13, 14, 19, 20, 21, 22, 8, 9, 10, 11, 12, 28, 29, 30, 31, 51, 52, 53, 54, 55, 56, 57, 58, 59, 60, 61] (by decide +kernel) (by decide +kernel)
set_option maxRecDepth 20000 in
theorem gX7_goDown_X7_close : GoodIn wsX7_goDown (wsV RX7 96 RX7 yX7_close wsX7_close) := goodIn_app (goodIn_of _ (by decide +kernel)) ggX7_goDown_X7_close
theorem dX7_goDown_0 : decode cX7_goDown 0 = .ok (.aload_n 0, 1) := by decide +kernel
theorem dX7_goDown_1 : decode cX7_goDown 1 = .ok (.bipush 10, 2) := by decide +kernel
theorem dX7_goDown_3 : decode cX7_goDown 3 = .ok (.invokevirtual 90, 3) := by decide +kernel
theorem dX7_goDown_6 : decode cX7_goDown 6 = .ok (.aload_n 0, 1) := by decide +kernel
theorem dX7_goDown_7 : decode cX7_goDown 7 = .ok (.bipush 10, 2) := by decide +kernel
theorem dX7_goDown_9 : decode cX7_goDown 9 = .ok (.iload_n 1, 1) := by decide +kernel
theorem dX7_goDown_10 : decode cX7_goDown 10 = .ok (.invokevirtual 93, 3) := by decide +kernel
theorem dX7_goDown_13 : decode cX7_goDown 13 = .ok (.aload_n 0, 1) := by decide +kernel
theorem dX7_goDown_14 : decode cX7_goDown 14 = .ok (.bipush 11, 2) := by decide +kernel
theorem dX7_goDown_16 : decode cX7_goDown 16 = .ok (.invokevirtual 90, 3) := by decide +kernel
theorem dX7_goDown_19 : decode cX7_goDown 19 = .ok (.iconst 0, 1) := by decide +kernel
theorem dX7_goDown_20 : decode cX7_goDown 20 = .ok (.istore_n 2, 1) := by decide +kernel
theorem dX7_goDown_21 : decode cX7_goDown 21 = .ok (.iload_n 2, 1) := by decide +kernel
theorem dX7_goDown_22 : decode cX7_goDown 22 = .ok (.aload_n 0, 1) := by decide +kernel
theorem dX7_goDown_23 : decode cX7_goDown 23 = .ok (.getfield 32, 3) := by decide +kernel
theorem dX7_goDown_26 : decode cX7_goDown 26 = .ok (.bipush 10, 2) := by decide +kernel
theorem dX7_goDown_28 : decode cX7_goDown 28 = .ok (.iaload, 1) := by decide +kernel
theorem dX7_goDown_29 : decode cX7_goDown 29 = .ok (.if_icmp .ge 86, 3) := by decide +kernel
theorem dX7_goDown_32 : decode cX7_goDown 32 = .ok (.iconst 0, 1) := by decide +kernel
theorem dX7_goDown_33 : decode cX7_goDown 33 = .ok (.istore_n 3, 1) := by decide +kernel
theorem dX7_goDown_34 : decode cX7_goDown 34 = .ok (.iload_n 3, 1) := by decide +kernel
theorem dX7_goDown_35 : decode cX7_goDown 35 = .ok (.aload_n 0, 1) := by decide +kernel
theorem dX7_goDown_36 : decode cX7_goDown 36 = .ok (.getfield 32, 3) := by decide +kernel
theorem dX7_goDown_39 : decode cX7_goDown 39 = .ok (.bipush 10, 2) := by decide +kernel
theorem dX7_goDown_41 : decode cX7_goDown 41 = .ok (.iaload, 1) := by decide +kernel
theorem dX7_goDown_42 : decode cX7_goDown 42 = .ok (.if_icmp .ge 67, 3) := by decide +kernel
theorem dX7_goDown_45 : decode cX7_goDown 45 = .ok (.aload_n 0, 1) := by decide +kernel
theorem dX7_goDown_46 : decode cX7_goDown 46 = .ok (.getfield 29, 3) := by decide +kernel
theorem dX7_goDown_49 : decode cX7_goDown 49 = .ok (.sipush 320, 3) := by decide +kernel
theorem dX7_goDown_52 : decode cX7_goDown 52 = .ok (.iload_n 2, 1) := by decide +kernel
theorem dX7_goDown_53 : decode cX7_goDown 53 = .ok (.iadd, 1) := by decide +kernel
theorem dX7_goDown_54 : decode cX7_goDown 54 = .ok (.iaload, 1) := by decide +kernel
theorem dX7_goDown_55 : decode cX7_goDown 55 = .ok (.istore 4, 2) := by decide +kernel
theorem dX7_goDown_57 : decode cX7_goDown 57 = .ok (.aload_n 0, 1) := by decide +kernel
theorem dX7_goDown_58 : decode cX7_goDown 58 = .ok (.getfield 29, 3) := by decide +kernel
theorem dX7_goDown_61 : decode cX7_goDown 61 = .ok (.sipush 320, 3) := by decide +kernel
theorem dX7_goDown_64 : decode cX7_goDown 64 = .ok (.iload_n 3, 1) := by decide +kernel
theorem dX7_goDown_65 : decode cX7_goDown 65 = .ok (.iadd, 1) := by decide +kernel
theorem dX7_goDown_66 : decode cX7_goDown 66 = .ok (.iaload, 1) := by decide +kernel
theorem dX7_goDown_67 : decode cX7_goDown 67 = .ok (.istore 5, 2) := by decide +kernel
theorem dX7_goDown_69 : decode cX7_goDown 69 = .ok (.aload_n 0, 1) := by decide +kernel
theorem dX7_goDown_70 : decode cX7_goDown 70 = .ok (.bipush 11, 2) := by decide +kernel
theorem dX7_goDown_72 : decode cX7_goDown 72 = .ok (.aload_n 0, 1) := by decide +kernel
theorem dX7_goDown_73 : decode cX7_goDown 73 = .ok (.aload_n 0, 1) := by decide +kernel
theorem dX7_goDown_74 : decode cX7_goDown 74 = .ok (.iload 4, 2) := by decide +kernel
theorem dX7_goDown_76 : decode cX7_goDown 76 = .ok (.invokevirtual 72, 3) := by decide +kernel
theorem dX7_goDown_79 : decode cX7_goDown 79 = .ok (.aload_n 0, 1) := by decide +kernel
theorem dX7_goDown_80 : decode cX7_goDown 80 = .ok (.aload_n 0, 1) := by decide +kernel
theorem dX7_goDown_81 : decode cX7_goDown 81 = .ok (.iload 5, 2) := by decide +kernel
theorem dX7_goDown_83 : decode cX7_goDown 83 = .ok (.invokevirtual 72, 3) := by decide +kernel
theorem dX7_goDown_86 : decode cX7_goDown 86 = .ok (.aload_n 0, 1) := by decide +kernel
theorem dX7_goDown_87 : decode cX7_goDown 87 = .ok (.iload 4, 2) := by decide +kernel
theorem dX7_goDown_89 : decode cX7_goDown 89 = .ok (.iload 5, 2) := by decide +kernel
theorem dX7_goDown_91 : decode cX7_goDown 91 = .ok (.invokevirtual 53, 3) := by decide +kernel
theorem dX7_goDown_94 : decode cX7_goDown 94 = .ok (.invokevirtual 53, 3) := by decide +kernel
theorem dX7_goDown_97 : decode cX7_goDown 97 = .ok (.invokevirtual 53, 3) := by decide +kernel
theorem dX7_goDown_100 : decode cX7_goDown 100 = .ok (.invokevirtual 83, 3) := by decide +kernel
theorem dX7_goDown_103 : decode cX7_goDown 103 = .ok (.iinc 3 1, 3) := by decide +kernel
theorem dX7_goDown_106 : decode cX7_goDown 106 = .ok (.goto (-72), 3) := by decide +kernel
theorem dX7_goDown_109 : decode cX7_goDown 109 = .ok (.iinc 2 1, 3) := by decide +kernel
theorem dX7_goDown_112 : decode cX7_goDown 112 = .ok (.goto (-91), 3) := by decide +kernel
theorem dX7_goDown_115 : decode cX7_goDown 115 = .ok (.aload_n 0, 1) := by decide +kernel
theorem dX7_goDown_116 : decode cX7_goDown 116 = .ok (.bipush 11, 2) := by decide +kernel
theorem dX7_goDown_118 : decode cX7_goDown 118 = .ok (.bipush 10, 2) := by decide +kernel
theorem dX7_goDown_120 : decode cX7_goDown 120 = .ok (.invokevirtual 96, 3) := by decide +kernel
theorem dX7_goDown_123 : decode cX7_goDown 123 = .ok (.return_, 1) := by decide +kernel
set_option maxRecDepth 20000 in
theorem ggX7_newGroup_X7_copy : GoodIn wsX7_newGroup wsX7_copy := goodIn_r _ [6, 7, 8, 9, 10, 11, 12, 13, 14, 15, 16, 17, 18, 19, 20] (by decide +kernel) (by decide +kernel)
set_option maxRecDepth 20000 in
theorem gX7_newGroup_X7_copy : GoodIn wsX7_newGroup (wsV RX7 99 RX7 yX7_copy wsX7_copy) := goodIn_app (goodIn_of _ (by decide +kernel)) ggX7_newGroup_X7_copy
theorem dX7_newGroup_0 : decode cX7_newGroup 0 = .ok (.iload_n 1, 1) := by decide +kernel
theorem dX7_newGroup_1 : decode cX7_newGroup 1 = .ok (.ifCond .lt 12, 3) := by decide +kernel
theorem dX7_newGroup_4 : decode cX7_newGroup 4 = .ok (.aload_n 0, 1) := by decide +kernel
theorem dX7_newGroup_5 : decode cX7_newGroup 5 = .ok (.iload_n 1, 1) := by decide +kernel
theorem dX7_newGroup_6 : decode cX7_newGroup 6 = .ok (.aload_n 0, 1) := by decide +kernel
theorem dX7_newGroup_7 : decode cX7_newGroup 7 = .ok (.getfield 61, 3) := by decide +kernel
theorem dX7_newGroup_10 : decode cX7_newGroup 10 = .ok (.invokevirtual 99, 3) := by decide +kernel
theorem dX7_newGroup_13 : decode cX7_newGroup 13 = .ok (.aload_n 0, 1) := by decide +kernel
theorem dX7_newGroup_14 : decode cX7_newGroup 14 = .ok (.dup, 1) := by decide +kernel
theorem dX7_newGroup_15 : decode cX7_newGroup 15 = .ok (.getfield 61, 3) := by decide +kernel
theorem dX7_newGroup_18 : decode cX7_newGroup 18 = .ok (.iconst 1, 1) := by decide +kernel
theorem dX7_newGroup_19 : decode cX7_newGroup 19 = .ok (.iadd, 1) := by decide +kernel
theorem dX7_newGroup_20 : decode cX7_newGroup 20 = .ok (.putfield 61, 3) := by decide +kernel
theorem dX7_newGroup_23 : decode cX7_newGroup 23 = .ok (.aload_n 0, 1) := by decide +kernel
theorem dX7_newGroup_24 : decode cX7_newGroup 24 = .ok (.getfield 61, 3) := by decide +kernel
theorem dX7_newGroup_27 : decode cX7_newGroup 27 = .ok (.iconst 1, 1) := by decide +kernel
theorem dX7_newGroup_28 : decode cX7_newGroup 28 = .ok (.isub, 1) := by decide +kernel
theorem dX7_newGroup_29 : decode cX7_newGroup 29 = .ok (.ireturn, 1) := by decide +kernel
theorem dX7_isEven_0 : decode cX7_isEven 0 = .ok (.iconst 0, 1) := by decide +kernel
theorem dX7_isEven_1 : decode cX7_isEven 1 = .ok (.istore_n 2, 1) := by decide +kernel
theorem dX7_isEven_2 : decode cX7_isEven 2 = .ok (.iconst 0, 1) := by decide +kernel
theorem dX7_isEven_3 : decode cX7_isEven 3 = .ok (.istore_n 3, 1) := by decide +kernel
theorem dX7_isEven_4 : decode cX7_isEven 4 = .ok (.iload_n 3, 1) := by decide +kernel
theorem dX7_isEven_5 : decode cX7_isEven 5 = .ok (.aload_n 0, 1) := by decide +kernel
theorem dX7_isEven_6 : decode cX7_isEven 6 = .ok (.getfield 7, 3) := by decide +kernel
theorem dX7_isEven_9 : decode cX7_isEven 9 = .ok (.if_icmp .ge 63, 3) := by decide +kernel
theorem dX7_isEven_12 : decode cX7_isEven 12 = .ok (.iload_n 3, 1) := by decide +kernel
theorem dX7_isEven_13 : decode cX7_isEven 13 = .ok (.iconst 1, 1) := by decide +kernel
theorem dX7_isEven_14 : decode cX7_isEven 14 = .ok (.iadd, 1) := by decide +kernel
theorem dX7_isEven_15 : decode cX7_isEven 15 = .ok (.istore 4, 2) := by decide +kernel
theorem dX7_isEven_17 : decode cX7_isEven 17 = .ok (.iload 4, 2) := by decide +kernel
theorem dX7_isEven_19 : decode cX7_isEven 19 = .ok (.aload_n 0, 1) := by decide +kernel
theorem dX7_isEven_20 : decode cX7_isEven 20 = .ok (.getfield 7, 3) := by decide +kernel
theorem dX7_isEven_23 : decode cX7_isEven 23 = .ok (.if_icmp .ge 43, 3) := by decide +kernel
theorem dX7_isEven_26 : decode cX7_isEven 26 = .ok (.iload_n 2, 1) := by decide +kernel
theorem dX7_isEven_27 : decode cX7_isEven 27 = .ok (.aload_n 0, 1) := by decide +kernel
theorem dX7_isEven_28 : decode cX7_isEven 28 = .ok (.getfield 14, 3) := by decide +kernel
theorem dX7_isEven_31 : decode cX7_isEven 31 = .ok (.bipush 8, 2) := by decide +kernel
theorem dX7_isEven_33 : decode cX7_isEven 33 = .ok (.iload_n 1, 1) := by decide +kernel
theorem dX7_isEven_34 : decode cX7_isEven 34 = .ok (.imul, 1) := by decide +kernel
theorem dX7_isEven_35 : decode cX7_isEven 35 = .ok (.iload_n 3, 1) := by decide +kernel
theorem dX7_isEven_36 : decode cX7_isEven 36 = .ok (.iadd, 1) := by decide +kernel
theorem dX7_isEven_37 : decode cX7_isEven 37 = .ok (.iaload, 1) := by decide +kernel
theorem dX7_isEven_38 : decode cX7_isEven 38 = .ok (.aload_n 0, 1) := by decide +kernel
theorem dX7_isEven_39 : decode cX7_isEven 39 = .ok (.getfield 14, 3) := by decide +kernel
theorem dX7_isEven_42 : decode cX7_isEven 42 = .ok (.bipush 8, 2) := by decide +kernel
theorem dX7_isEven_44 : decode cX7_isEven 44 = .ok (.iload_n 1, 1) := by decide +kernel
theorem dX7_isEven_45 : decode cX7_isEven 45 = .ok (.imul, 1) := by decide +kernel
theorem dX7_isEven_46 : decode cX7_isEven 46 = .ok (.iload 4, 2) := by decide +kernel
theorem dX7_isEven_48 : decode cX7_isEven 48 = .ok (.iadd, 1) := by decide +kernel
theorem dX7_isEven_49 : decode cX7_isEven 49 = .ok (.iaload, 1) := by decide +kernel
theorem dX7_isEven_50 : decode cX7_isEven 50 = .ok (.if_icmp .le 7, 3) := by decide +kernel
theorem dX7_isEven_53 : decode cX7_isEven 53 = .ok (.iconst 1, 1) := by decide +kernel
theorem dX7_isEven_54 : decode cX7_isEven 54 = .ok (.goto 4, 3) := by decide +kernel
theorem dX7_isEven_57 : decode cX7_isEven 57 = .ok (.iconst 0, 1) := by decide +kernel
theorem dX7_isEven_58 : decode cX7_isEven 58 = .ok (.iadd, 1) := by decide +kernel
theorem dX7_isEven_59 : decode cX7_isEven 59 = .ok (.istore_n 2, 1) := by decide +kernel
theorem dX7_isEven_60 : decode cX7_isEven 60 = .ok (.iinc 4 1, 3) := by decide +kernel
theorem dX7_isEven_63 : decode cX7_isEven 63 = .ok (.goto (-46), 3) := by decide +kernel
theorem dX7_isEven_66 : decode cX7_isEven 66 = .ok (.iinc 3 1, 3) := by decide +kernel
theorem dX7_isEven_69 : decode cX7_isEven 69 = .ok (.goto (-65), 3) := by decide +kernel
theorem dX7_isEven_72 : decode cX7_isEven 72 = .ok (.iload_n 2, 1) := by decide +kernel
theorem dX7_isEven_73 : decode cX7_isEven 73 = .ok (.iconst 2, 1) := by decide +kernel
theorem dX7_isEven_74 : decode cX7_isEven 74 = .ok (.irem, 1) := by decide +kernel
theorem dX7_isEven_75 : decode cX7_isEven 75 = .ok (.ifCond .ne 7, 3) := by decide +kernel
theorem dX7_isEven_78 : decode cX7_isEven 78 = .ok (.iconst 1, 1) := by decide +kernel
theorem dX7_isEven_79 : decode cX7_isEven 79 = .ok (.goto 4, 3) := by decide +kernel
theorem dX7_isEven_82 : decode cX7_isEven 82 = .ok (.iconst 0, 1) := by decide +kernel
theorem dX7_isEven_83 : decode cX7_isEven 83 = .ok (.ireturn, 1) := by decide +kernel
set_option maxRecDepth 20000 in
theorem ggX7_group_X7_isIn : GoodIn wsX7_group wsX7_isIn := goodIn_r _ [8] (by decide +kernel) (by decide +kernel)
set_option maxRecDepth 20000 in
theorem gX7_group_X7_isIn : GoodIn wsX7_group (va_wsS RX7 57 yX7_isIn wsX7_isIn) := goodIn_app (goodIn_of _ (by decide +kernel)) ggX7_group_X7_isIn
set_option maxRecDepth 20000 in
theorem ggX7_group_X7_isEven : GoodIn wsX7_group wsX7_isEven := goodIn_r _ [12, 13, 14, 23, 24, 25, 26, 27, 28, 29, 30, 31, 32, 33] (by decide +kernel) (by decide +kernel)
set_option maxRecDepth 20000 in
theorem gX7_group_X7_isEven : GoodIn wsX7_group (wsV RX7 102 RX7 yX7_isEven wsX7_isEven) := goodIn_app (goodIn_of _ (by decide +kernel)) ggX7_group_X7_isEven
set_option maxRecDepth 20000 in
theorem ggX7_group_X7_newGroup : GoodIn wsX7_group wsX7_newGroup := goodIn_r _ [18, 1, 19, 20, 21, 7, 22, 2, 3, 4, 23, 24, 25, 26, 27, 28, 29, 30, 31, 32, 33] (by decide +kernel) (by decide +kernel)
set_option maxRecDepth 20000 in
theorem gX7_group_X7_newGroup : GoodIn wsX7_group (wsV RX7 106 RX7 yX7_newGroup wsX7_newGroup) := goodIn_app (goodIn_of _ (by decide +kernel)) ggX7_group_X7_newGroup
theorem dX7_group_0 : decode cX7_group 0 = .ok (.iload_n 1, 1) := by decide +kernel
theorem dX7_group_1 : decode cX7_group 1 = .ok (.iconst 0, 1) := by decide +kernel
theorem dX7_group_2 : decode cX7_group 2 = .ok (.iconst 2, 1) := by decide +kernel
theorem dX7_group_3 : decode cX7_group 3 = .ok (.invokestatic 57, 3) := by decide +kernel
theorem dX7_group_6 : decode cX7_group 6 = .ok (.ifCond .ne 6, 3) := by decide +kernel
theorem dX7_group_9 : decode cX7_group 9 = .ok (.bipush (-2), 2) := by decide +kernel
theorem dX7_group_11 : decode cX7_group 11 = .ok (.ireturn, 1) := by decide +kernel
theorem dX7_group_12 : decode cX7_group 12 = .ok (.aload_n 0, 1) := by decide +kernel
theorem dX7_group_13 : decode cX7_group 13 = .ok (.getfield 61, 3) := by decide +kernel
theorem dX7_group_16 : decode cX7_group 16 = .ok (.bipush 10, 2) := by decide +kernel
theorem dX7_group_18 : decode cX7_group 18 = .ok (.if_icmp .ne 6, 3) := by decide +kernel
theorem dX7_group_21 : decode cX7_group 21 = .ok (.bipush (-3), 2) := by decide +kernel
theorem dX7_group_23 : decode cX7_group 23 = .ok (.ireturn, 1) := by decide +kernel
theorem dX7_group_24 : decode cX7_group 24 = .ok (.iconst 0, 1) := by decide +kernel
theorem dX7_group_25 : decode cX7_group 25 = .ok (.istore_n 2, 1) := by decide +kernel
theorem dX7_group_26 : decode cX7_group 26 = .ok (.iload_n 2, 1) := by decide +kernel
theorem dX7_group_27 : decode cX7_group 27 = .ok (.aload_n 0, 1) := by decide +kernel
theorem dX7_group_28 : decode cX7_group 28 = .ok (.getfield 46, 3) := by decide +kernel
theorem dX7_group_31 : decode cX7_group 31 = .ok (.if_icmp .ge 50, 3) := by decide +kernel
theorem dX7_group_34 : decode cX7_group 34 = .ok (.aload_n 0, 1) := by decide +kernel
theorem dX7_group_35 : decode cX7_group 35 = .ok (.getfield 22, 3) := by decide +kernel
theorem dX7_group_38 : decode cX7_group 38 = .ok (.ldc 35, 2) := by decide +kernel
theorem dX7_group_40 : decode cX7_group 40 = .ok (.aload_n 0, 1) := by decide +kernel
theorem dX7_group_41 : decode cX7_group 41 = .ok (.getfield 61, 3) := by decide +kernel
theorem dX7_group_44 : decode cX7_group 44 = .ok (.imul, 1) := by decide +kernel
theorem dX7_group_45 : decode cX7_group 45 = .ok (.iload_n 2, 1) := by decide +kernel
theorem dX7_group_46 : decode cX7_group 46 = .ok (.iadd, 1) := by decide +kernel
theorem dX7_group_47 : decode cX7_group 47 = .ok (.iload_n 1, 1) := by decide +kernel
theorem dX7_group_48 : decode cX7_group 48 = .ok (.iconst 1, 1) := by decide +kernel
theorem dX7_group_49 : decode cX7_group 49 = .ok (.if_icmp .eq 20, 3) := by decide +kernel
theorem dX7_group_52 : decode cX7_group 52 = .ok (.iload_n 2, 1) := by decide +kernel
theorem dX7_group_53 : decode cX7_group 53 = .ok (.ifCond .eq 16, 3) := by decide +kernel
theorem dX7_group_56 : decode cX7_group 56 = .ok (.iload_n 1, 1) := by decide +kernel
theorem dX7_group_57 : decode cX7_group 57 = .ok (.iconst 2, 1) := by decide +kernel
theorem dX7_group_58 : decode cX7_group 58 = .ok (.if_icmp .ne 15, 3) := by decide +kernel
theorem dX7_group_61 : decode cX7_group 61 = .ok (.aload_n 0, 1) := by decide +kernel
theorem dX7_group_62 : decode cX7_group 62 = .ok (.iload_n 2, 1) := by decide +kernel
theorem dX7_group_63 : decode cX7_group 63 = .ok (.invokevirtual 102, 3) := by decide +kernel
theorem dX7_group_66 : decode cX7_group 66 = .ok (.ifCond .eq 7, 3) := by decide +kernel
theorem dX7_group_69 : decode cX7_group 69 = .ok (.iconst 1, 1) := by decide +kernel
theorem dX7_group_70 : decode cX7_group 70 = .ok (.goto 4, 3) := by decide +kernel
theorem dX7_group_73 : decode cX7_group 73 = .ok (.iconst 0, 1) := by decide +kernel
theorem dX7_group_74 : decode cX7_group 74 = .ok (.bastore, 1) := by decide +kernel
theorem dX7_group_75 : decode cX7_group 75 = .ok (.iinc 2 1, 3) := by decide +kernel
theorem dX7_group_78 : decode cX7_group 78 = .ok (.goto (-52), 3) := by decide +kernel
theorem dX7_group_81 : decode cX7_group 81 = .ok (.aload_n 0, 1) := by decide +kernel
theorem dX7_group_82 : decode cX7_group 82 = .ok (.iconst (-1), 1) := by decide +kernel
theorem dX7_group_83 : decode cX7_group 83 = .ok (.invokevirtual 106, 3) := by decide +kernel
theorem dX7_group_86 : decode cX7_group 86 = .ok (.ireturn, 1) := by decide +kernel
set_option maxRecDepth 20000 in
theorem ggX7_add_X7_isGroup : GoodIn wsX7_add wsX7_isGroup := goodIn_r _ [6, 7, 8, 9, 5, 10, 52, 53, 54, 55, 56, 57, 58, 59, 60, 61, 62] (by decide +kernel) (by decide +kernel)
set_option maxRecDepth 20000 in
theorem gX7_add_X7_isGroup : GoodIn wsX7_add (wsV RX7 109 RX7 yX7_isGroup wsX7_isGroup) := goodIn_app (goodIn_of _ (by decide +kernel)) ggX7_add_X7_isGroup
set_option maxRecDepth 20000 in
theorem ggX7_add_X7_hasIt : GoodIn wsX7_add wsX7_hasIt := goodIn_r _ [14, 15, 16, 52, 53, 54, 55, 56, 57, 58, 59, 60, 61, 62] (by decide +kernel) (by decide +kernel)
set_option maxRecDepth 20000 in
theorem gX7_add_X7_hasIt : GoodIn wsX7_add (wsV RX7 79 RX7 yX7_hasIt wsX7_hasIt) := goodIn_app (goodIn_of _ (by decide +kernel)) ggX7_add_X7_hasIt
set_option maxRecDepth 20000 in
theorem ggX7_add_X7_begin : GoodIn wsX7_add wsX7_begin := goodIn_r _ [20, 21, 22, 23, 24, 5, 25, 26, 15, 16, 52, 53, 54, 55, 56, 57, 58, 59, 60, 61, 62] (by decide +kernel) (by decide +kernel)
set_option maxRecDepth 20000 in
theorem gX7_add_X7_begin : GoodIn wsX7_add (wsV RX7 90 RX7 yX7_begin wsX7_begin) := goodIn_app (goodIn_of _ (by decide +kernel)) ggX7_add_X7_begin
set_option maxRecDepth 20000 in
theorem ggX7_add_X7_joinAll : GoodIn wsX7_add wsX7_joinAll := goodIn_r _ [30, 26, 11, 12, 13, 5, 14, 15, 16, 31, 32, 33, 34, 35, 21, 36, 22, 23, 24, 25, 37, 38, 39, 40, 41, 42, 43, 44, 45, 46, 47, 52, 53, 54, 55, 56, 57, 58, 59, 60, 61, 62] (by decide +kernel) (by decide +kernel)
set_option maxRecDepth 20000 in
theorem gX7_add_X7_joinAll : GoodIn wsX7_add (wsV RX7 93 RX7 yX7_joinAll wsX7_joinAll) := goodIn_app (goodIn_of _ (by decide +kernel)) ggX7_add_X7_joinAll
set_option maxRecDepth 20000 in
theorem ggX7_add_X7_join : GoodIn wsX7_add wsX7_join := goodIn_r _ [34, 35, 21, 36, 15, 16, 11, 12, 13, 5, 14, 22, 23, 24, 25, 26, 37, 38, 39, 40, 41, 42, 43, 44, 45, 46, 47, 52, 53, 54, 55, 56, 57, 58, 59, 60, 61, 62] (by decide +kernel) (by decide +kernel)
set_option maxRecDepth 20000 in
theorem gX7_add_X7_join : GoodIn wsX7_add (wsV RX7 83 RX7 yX7_join wsX7_join) := goodIn_app (goodIn_of _ (by decide +kernel)) ggX7_add_X7_join
set_option maxRecDepth 20000 in
theorem ggX7_add_X7_copy : GoodIn wsX7_add wsX7_copy := goodIn_r _ [51, 26, 15, 16, 52, 53, 54, 55, 56, 57, 58, 59, 60, 61, 62] (by decide +kernel) (by decide +kernel)
set_option maxRecDepth 20000 in
theorem gX7_add_X7_copy : GoodIn wsX7_add (wsV RX7 99 RX7 yX7_copy wsX7_copy) := goodIn_app (goodIn_of _ (by decide +kernel)) ggX7_add_X7_copy
theorem dX7_add_0 : decode cX7_add 0 = .ok (.aload_n 0, 1) := by decide +kernel
theorem dX7_add_1 : decode cX7_add 1 = .ok (.iload_n 1, 1) := by decide +kernel
theorem dX7_add_2 : decode cX7_add 2 = .ok (.invokevirtual 109, 3) := by decide +kernel
theorem dX7_add_5 : decode cX7_add 5 = .ok (.ifCond .ne 6, 3) := by decide +kernel
theorem dX7_add_8 : decode cX7_add 8 = .ok (.bipush (-2), 2) := by decide +kernel
theorem dX7_add_10 : decode cX7_add 10 = .ok (.ireturn, 1) := by decide +kernel
theorem dX7_add_11 : decode cX7_add 11 = .ok (.aload_n 0, 1) := by decide +kernel
theorem dX7_add_12 : decode cX7_add 12 = .ok (.iload_n 1, 1) := by decide +kernel
theorem dX7_add_13 : decode cX7_add 13 = .ok (.aload_n 0, 1) := by decide +kernel
theorem dX7_add_14 : decode cX7_add 14 = .ok (.getfield 64, 3) := by decide +kernel
theorem dX7_add_17 : decode cX7_add 17 = .ok (.invokevirtual 79, 3) := by decide +kernel
theorem dX7_add_20 : decode cX7_add 20 = .ok (.ifCond .eq 5, 3) := by decide +kernel
theorem dX7_add_23 : decode cX7_add 23 = .ok (.iconst 1, 1) := by decide +kernel
theorem dX7_add_24 : decode cX7_add 24 = .ok (.ireturn, 1) := by decide +kernel
theorem dX7_add_25 : decode cX7_add 25 = .ok (.aload_n 0, 1) := by decide +kernel
theorem dX7_add_26 : decode cX7_add 26 = .ok (.bipush 10, 2) := by decide +kernel
theorem dX7_add_28 : decode cX7_add 28 = .ok (.invokevirtual 90, 3) := by decide +kernel
theorem dX7_add_31 : decode cX7_add 31 = .ok (.aload_n 0, 1) := by decide +kernel
theorem dX7_add_32 : decode cX7_add 32 = .ok (.bipush 10, 2) := by decide +kernel
theorem dX7_add_34 : decode cX7_add 34 = .ok (.iload_n 1, 1) := by decide +kernel
theorem dX7_add_35 : decode cX7_add 35 = .ok (.invokevirtual 93, 3) := by decide +kernel
theorem dX7_add_38 : decode cX7_add 38 = .ok (.aload_n 0, 1) := by decide +kernel
theorem dX7_add_39 : decode cX7_add 39 = .ok (.bipush 10, 2) := by decide +kernel
theorem dX7_add_41 : decode cX7_add 41 = .ok (.aload_n 0, 1) := by decide +kernel
theorem dX7_add_42 : decode cX7_add 42 = .ok (.getfield 64, 3) := by decide +kernel
theorem dX7_add_45 : decode cX7_add 45 = .ok (.invokevirtual 83, 3) := by decide +kernel
theorem dX7_add_48 : decode cX7_add 48 = .ok (.aload_n 0, 1) := by decide +kernel
theorem dX7_add_49 : decode cX7_add 49 = .ok (.bipush 10, 2) := by decide +kernel
theorem dX7_add_51 : decode cX7_add 51 = .ok (.iload_n 1, 1) := by decide +kernel
theorem dX7_add_52 : decode cX7_add 52 = .ok (.invokevirtual 99, 3) := by decide +kernel
theorem dX7_add_55 : decode cX7_add 55 = .ok (.iconst 0, 1) := by decide +kernel
theorem dX7_add_56 : decode cX7_add 56 = .ok (.ireturn, 1) := by decide +kernel
set_option maxRecDepth 20000 in
theorem ggX7_of_X7_isIn : GoodIn wsX7_of wsX7_isIn := goodIn_r _ [8] (by decide +kernel) (by decide +kernel)
set_option maxRecDepth 20000 in
theorem gX7_of_X7_isIn : GoodIn wsX7_of (va_wsS RX7 57 yX7_isIn wsX7_isIn) := goodIn_app (goodIn_of _ (by decide +kernel)) ggX7_of_X7_isIn
set_option maxRecDepth 20000 in
theorem ggX7_of_X7_isGroup : GoodIn wsX7_of wsX7_isGroup := goodIn_r _ [12, 1, 5, 6, 7, 8, 64, 65, 66, 67, 68, 69, 70, 71, 72, 73, 74] (by decide +kernel) (by decide +kernel)
set_option maxRecDepth 20000 in
theorem gX7_of_X7_isGroup : GoodIn wsX7_of (wsV RX7 109 RX7 yX7_isGroup wsX7_isGroup) := goodIn_app (goodIn_of _ (by decide +kernel)) ggX7_of_X7_isGroup
set_option maxRecDepth 20000 in
theorem ggX7_of_X7_hasIt : GoodIn wsX7_of wsX7_hasIt := goodIn_r _ [16, 3, 17, 64, 65, 66, 67, 68, 69, 70, 71, 72, 73, 74] (by decide +kernel) (by decide +kernel)
set_option maxRecDepth 20000 in
theorem gX7_of_X7_hasIt : GoodIn wsX7_of (wsV RX7 79 RX7 yX7_hasIt wsX7_hasIt) := goodIn_app (goodIn_of _ (by decide +kernel)) ggX7_of_X7_hasIt
set_option maxRecDepth 20000 in
theorem ggX7_of_X7_newGroup : GoodIn wsX7_of wsX7_newGroup := goodIn_r _ [21, 1, 22, 23, 24, 7, 25, 2, 3, 17, 64, 65, 66, 67, 68, 69, 70, 71, 72, 73, 74] (by decide +kernel) (by decide +kernel)
set_option maxRecDepth 20000 in
theorem gX7_of_X7_newGroup : GoodIn wsX7_of (wsV RX7 106 RX7 yX7_newGroup wsX7_newGroup) := goodIn_app (goodIn_of _ (by decide +kernel)) ggX7_of_X7_newGroup
set_option maxRecDepth 20000 in
theorem ggX7_of_X7_begin : GoodIn wsX7_of wsX7_begin := goodIn_r _ [29, 30, 31, 32, 33, 7, 34, 2, 3, 17, 64, 65, 66, 67, 68, 69, 70, 71, 72, 73, 74] (by decide +kernel) (by decide +kernel)
set_option maxRecDepth 20000 in
theorem gX7_of_X7_begin : GoodIn wsX7_of (wsV RX7 90 RX7 yX7_begin wsX7_begin) := goodIn_app (goodIn_of _ (by decide +kernel)) ggX7_of_X7_begin
set_option maxRecDepth 20000 in
theorem ggX7_of_X7_joinAll : GoodIn wsX7_of wsX7_joinAll := goodIn_r _ [38, 2, 13, 14, 15, 7, 16, 3, 17, 39, 40, 41, 42, 43, 30, 44, 31, 32, 33, 34, 45, 46, 47, 48, 49, 50, 51, 52, 53, 54, 55, 64, 65, 66, 67, 68, 69, 70, 71, 72, 73, 74] (by decide +kernel) (by decide +kernel)
set_option maxRecDepth 20000 in
theorem gX7_of_X7_joinAll : GoodIn wsX7_of (wsV RX7 93 RX7 yX7_joinAll wsX7_joinAll) := goodIn_app (goodIn_of _ (by decide +kernel)) ggX7_of_X7_joinAll
set_option maxRecDepth 20000 in
theorem ggX7_of_X7_close : GoodIn wsX7_of wsX7_close := goodIn_r _ [59, 30, 43, 60, 61, 62, 7, 63, 49, 50, 51, 52, 53, 54, 55, 39, 40, 41, 42, 44, 3, 17, 13, 14, 15, 16, 31, 32, 33, 34, 2, 45, 46, 47, 48, 64, 65, 66, 67, 68, 69, 70, 71, 72, 73, 74] (by decide +kernel) (by decide +kernel)
set_option maxRecDepth 20000 in
theorem gX7_of_X7_close : GoodIn wsX7_of (wsV RX7 96 RX7 yX7_close wsX7_close) := goodIn_app (goodIn_of _ (by decide +kernel)) ggX7_of_X7_close
theorem dX7_of_0 : decode cX7_of 0 = .ok (.iload_n 1, 1) := by decide +kernel
theorem dX7_of_1 : decode cX7_of 1 = .ok (.iconst 0, 1) := by decide +kernel
theorem dX7_of_2 : decode cX7_of 2 = .ok (.iconst 2, 1) := by decide +kernel
theorem dX7_of_3 : decode cX7_of 3 = .ok (.invokestatic 57, 3) := by decide +kernel
theorem dX7_of_6 : decode cX7_of 6 = .ok (.ifCond .eq 19, 3) := by decide +kernel
theorem dX7_of_9 : decode cX7_of 9 = .ok (.aload_n 0, 1) := by decide +kernel
theorem dX7_of_10 : decode cX7_of 10 = .ok (.iload_n 2, 1) := by decide +kernel
theorem dX7_of_11 : decode cX7_of 11 = .ok (.invokevirtual 109, 3) := by decide +kernel
theorem dX7_of_14 : decode cX7_of 14 = .ok (.ifCond .eq 11, 3) := by decide +kernel
theorem dX7_of_17 : decode cX7_of 17 = .ok (.aload_n 0, 1) := by decide +kernel
theorem dX7_of_18 : decode cX7_of 18 = .ok (.iload_n 3, 1) := by decide +kernel
theorem dX7_of_19 : decode cX7_of 19 = .ok (.invokevirtual 109, 3) := by decide +kernel
theorem dX7_of_22 : decode cX7_of 22 = .ok (.ifCond .ne 6, 3) := by decide +kernel
theorem dX7_of_25 : decode cX7_of 25 = .ok (.bipush (-2), 2) := by decide +kernel
theorem dX7_of_27 : decode cX7_of 27 = .ok (.ireturn, 1) := by decide +kernel
theorem dX7_of_28 : decode cX7_of 28 = .ok (.aload_n 0, 1) := by decide +kernel
theorem dX7_of_29 : decode cX7_of 29 = .ok (.getfield 61, 3) := by decide +kernel
theorem dX7_of_32 : decode cX7_of 32 = .ok (.bipush 10, 2) := by decide +kernel
theorem dX7_of_34 : decode cX7_of 34 = .ok (.if_icmp .ne 6, 3) := by decide +kernel
theorem dX7_of_37 : decode cX7_of 37 = .ok (.bipush (-3), 2) := by decide +kernel
theorem dX7_of_39 : decode cX7_of 39 = .ok (.ireturn, 1) := by decide +kernel
theorem dX7_of_40 : decode cX7_of 40 = .ok (.iload_n 1, 1) := by decide +kernel
theorem dX7_of_41 : decode cX7_of 41 = .ok (.iconst 1, 1) := by decide +kernel
theorem dX7_of_42 : decode cX7_of 42 = .ok (.if_icmp .ne 63, 3) := by decide +kernel
theorem dX7_of_45 : decode cX7_of 45 = .ok (.iconst 0, 1) := by decide +kernel
theorem dX7_of_46 : decode cX7_of 46 = .ok (.istore 4, 2) := by decide +kernel
theorem dX7_of_48 : decode cX7_of 48 = .ok (.iload 4, 2) := by decide +kernel
theorem dX7_of_50 : decode cX7_of 50 = .ok (.aload_n 0, 1) := by decide +kernel
theorem dX7_of_51 : decode cX7_of 51 = .ok (.getfield 46, 3) := by decide +kernel
theorem dX7_of_54 : decode cX7_of 54 = .ok (.if_icmp .ge 44, 3) := by decide +kernel
theorem dX7_of_57 : decode cX7_of 57 = .ok (.aload_n 0, 1) := by decide +kernel
theorem dX7_of_58 : decode cX7_of 58 = .ok (.getfield 22, 3) := by decide +kernel
theorem dX7_of_61 : decode cX7_of 61 = .ok (.ldc 112, 2) := by decide +kernel
theorem dX7_of_63 : decode cX7_of 63 = .ok (.iload 4, 2) := by decide +kernel
theorem dX7_of_65 : decode cX7_of 65 = .ok (.iadd, 1) := by decide +kernel
theorem dX7_of_66 : decode cX7_of 66 = .ok (.aload_n 0, 1) := by decide +kernel
theorem dX7_of_67 : decode cX7_of 67 = .ok (.iload_n 2, 1) := by decide +kernel
theorem dX7_of_68 : decode cX7_of 68 = .ok (.iload 4, 2) := by decide +kernel
theorem dX7_of_70 : decode cX7_of 70 = .ok (.invokevirtual 79, 3) := by decide +kernel
theorem dX7_of_73 : decode cX7_of 73 = .ok (.ifCond .eq 17, 3) := by decide +kernel
theorem dX7_of_76 : decode cX7_of 76 = .ok (.aload_n 0, 1) := by decide +kernel
theorem dX7_of_77 : decode cX7_of 77 = .ok (.iload_n 3, 1) := by decide +kernel
theorem dX7_of_78 : decode cX7_of 78 = .ok (.iload 4, 2) := by decide +kernel
theorem dX7_of_80 : decode cX7_of 80 = .ok (.invokevirtual 79, 3) := by decide +kernel
theorem dX7_of_83 : decode cX7_of 83 = .ok (.ifCond .eq 7, 3) := by decide +kernel
theorem dX7_of_86 : decode cX7_of 86 = .ok (.iconst 1, 1) := by decide +kernel
theorem dX7_of_87 : decode cX7_of 87 = .ok (.goto 4, 3) := by decide +kernel
theorem dX7_of_90 : decode cX7_of 90 = .ok (.iconst 0, 1) := by decide +kernel
theorem dX7_of_91 : decode cX7_of 91 = .ok (.bastore, 1) := by decide +kernel
theorem dX7_of_92 : decode cX7_of 92 = .ok (.iinc 4 1, 3) := by decide +kernel
theorem dX7_of_95 : decode cX7_of 95 = .ok (.goto (-47), 3) := by decide +kernel
theorem dX7_of_98 : decode cX7_of 98 = .ok (.aload_n 0, 1) := by decide +kernel
theorem dX7_of_99 : decode cX7_of 99 = .ok (.bipush 10, 2) := by decide +kernel
theorem dX7_of_101 : decode cX7_of 101 = .ok (.invokevirtual 106, 3) := by decide +kernel
theorem dX7_of_104 : decode cX7_of 104 = .ok (.ireturn, 1) := by decide +kernel
theorem dX7_of_105 : decode cX7_of 105 = .ok (.aload_n 0, 1) := by decide +kernel
theorem dX7_of_106 : decode cX7_of 106 = .ok (.bipush 10, 2) := by decide +kernel
theorem dX7_of_108 : decode cX7_of 108 = .ok (.invokevirtual 90, 3) := by decide +kernel
theorem dX7_of_111 : decode cX7_of 111 = .ok (.aload_n 0, 1) := by decide +kernel
theorem dX7_of_112 : decode cX7_of 112 = .ok (.bipush 10, 2) := by decide +kernel
theorem dX7_of_114 : decode cX7_of 114 = .ok (.iload_n 2, 1) := by decide +kernel
theorem dX7_of_115 : decode cX7_of 115 = .ok (.invokevirtual 93, 3) := by decide +kernel
theorem dX7_of_118 : decode cX7_of 118 = .ok (.aload_n 0, 1) := by decide +kernel
theorem dX7_of_119 : decode cX7_of 119 = .ok (.bipush 10, 2) := by decide +kernel
theorem dX7_of_121 : decode cX7_of 121 = .ok (.iload_n 3, 1) := by decide +kernel
theorem dX7_of_122 : decode cX7_of 122 = .ok (.invokevirtual 93, 3) := by decide +kernel
theorem dX7_of_125 : decode cX7_of 125 = .ok (.iload_n 1, 1) := by decide +kernel
theorem dX7_of_126 : decode cX7_of 126 = .ok (.ifCond .ne 10, 3) := by decide +kernel
theorem dX7_of_129 : decode cX7_of 129 = .ok (.aload_n 0, 1) := by decide +kernel
theorem dX7_of_130 : decode cX7_of 130 = .ok (.bipush 10, 2) := by decide +kernel
theorem dX7_of_132 : decode cX7_of 132 = .ok (.invokevirtual 106, 3) := by decide +kernel
theorem dX7_of_135 : decode cX7_of 135 = .ok (.ireturn, 1) := by decide +kernel
theorem dX7_of_136 : decode cX7_of 136 = .ok (.aload_n 0, 1) := by decide +kernel
theorem dX7_of_137 : decode cX7_of 137 = .ok (.bipush 11, 2) := by decide +kernel
theorem dX7_of_139 : decode cX7_of 139 = .ok (.invokevirtual 90, 3) := by decide +kernel
theorem dX7_of_142 : decode cX7_of 142 = .ok (.aload_n 0, 1) := by decide +kernel
theorem dX7_of_143 : decode cX7_of 143 = .ok (.bipush 11, 2) := by decide +kernel
theorem dX7_of_145 : decode cX7_of 145 = .ok (.iload_n 2, 1) := by decide +kernel
theorem dX7_of_146 : decode cX7_of 146 = .ok (.invokevirtual 93, 3) := by decide +kernel
theorem dX7_of_149 : decode cX7_of 149 = .ok (.aload_n 0, 1) := by decide +kernel
theorem dX7_of_150 : decode cX7_of 150 = .ok (.bipush 11, 2) := by decide +kernel
theorem dX7_of_152 : decode cX7_of 152 = .ok (.bipush 10, 2) := by decide +kernel
theorem dX7_of_154 : decode cX7_of 154 = .ok (.invokevirtual 96, 3) := by decide +kernel
theorem dX7_of_157 : decode cX7_of 157 = .ok (.aload_n 0, 1) := by decide +kernel
theorem dX7_of_158 : decode cX7_of 158 = .ok (.bipush 11, 2) := by decide +kernel
theorem dX7_of_160 : decode cX7_of 160 = .ok (.invokevirtual 106, 3) := by decide +kernel
theorem dX7_of_163 : decode cX7_of 163 = .ok (.ireturn, 1) := by decide +kernel
set_option maxRecDepth 20000 in
theorem ggX7_by_X7_isIn : GoodIn wsX7_by wsX7_isIn := goodIn_r _ [10] (by decide +kernel) (by decide +kernel)
set_option maxRecDepth 20000 in
theorem gX7_by_X7_isIn : GoodIn wsX7_by (va_wsS RX7 57 yX7_isIn wsX7_isIn) := goodIn_app (goodIn_of _ (by decide +kernel)) ggX7_by_X7_isIn
set_option maxRecDepth 20000 in
theorem ggX7_by_X7_isGroup : GoodIn wsX7_by wsX7_isGroup := goodIn_r _ [14, 2, 7, 8, 9, 10, 31, 32, 33, 34, 35, 36, 37, 38, 39, 40, 41] (by decide +kernel) (by decide +kernel)
set_option maxRecDepth 20000 in
theorem gX7_by_X7_isGroup : GoodIn wsX7_by (wsV RX7 109 RX7 yX7_isGroup wsX7_isGroup) := goodIn_app (goodIn_of _ (by decide +kernel)) ggX7_by_X7_isGroup
set_option maxRecDepth 20000 in
theorem ggX7_by_X7_hasIt : GoodIn wsX7_by wsX7_hasIt := goodIn_r _ [18, 5, 6, 31, 32, 33, 34, 35, 36, 37, 38, 39, 40, 41] (by decide +kernel) (by decide +kernel)
set_option maxRecDepth 20000 in
theorem gX7_by_X7_hasIt : GoodIn wsX7_by (wsV RX7 79 RX7 yX7_hasIt wsX7_hasIt) := goodIn_app (goodIn_of _ (by decide +kernel)) ggX7_by_X7_hasIt
set_option maxRecDepth 20000 in
theorem ggX7_by_X7_setOf : GoodIn wsX7_by wsX7_setOf := goodIn_r _ [22, 1, 4, 31, 32, 33, 34, 35, 36, 37, 38, 39, 40, 41] (by decide +kernel) (by decide +kernel)
set_option maxRecDepth 20000 in
theorem gX7_by_X7_setOf : GoodIn wsX7_by (wsV RX7 113 RX7 yX7_setOf wsX7_setOf) := goodIn_app (goodIn_of _ (by decide +kernel)) ggX7_by_X7_setOf
set_option maxRecDepth 20000 in
theorem ggX7_by_X7_newGroup : GoodIn wsX7_by wsX7_newGroup := goodIn_r _ [26, 2, 27, 28, 29, 9, 30, 3, 5, 6, 31, 32, 33, 34, 35, 36, 37, 38, 39, 40, 41] (by decide +kernel) (by decide +kernel)
set_option maxRecDepth 20000 in
theorem gX7_by_X7_newGroup : GoodIn wsX7_by (wsV RX7 106 RX7 yX7_newGroup wsX7_newGroup) := goodIn_app (goodIn_of _ (by decide +kernel)) ggX7_by_X7_newGroup
theorem dX7_by_0 : decode cX7_by 0 = .ok (.iload_n 1, 1) := by decide +kernel
theorem dX7_by_1 : decode cX7_by 1 = .ok (.iconst 0, 1) := by decide +kernel
theorem dX7_by_2 : decode cX7_by 2 = .ok (.iconst 1, 1) := by decide +kernel
theorem dX7_by_3 : decode cX7_by 3 = .ok (.invokestatic 57, 3) := by decide +kernel
theorem dX7_by_6 : decode cX7_by 6 = .ok (.ifCond .eq 27, 3) := by decide +kernel
theorem dX7_by_9 : decode cX7_by 9 = .ok (.aload_n 0, 1) := by decide +kernel
theorem dX7_by_10 : decode cX7_by 10 = .ok (.iload_n 2, 1) := by decide +kernel
theorem dX7_by_11 : decode cX7_by 11 = .ok (.invokevirtual 109, 3) := by decide +kernel
theorem dX7_by_14 : decode cX7_by 14 = .ok (.ifCond .eq 19, 3) := by decide +kernel
theorem dX7_by_17 : decode cX7_by 17 = .ok (.iload_n 3, 1) := by decide +kernel
theorem dX7_by_18 : decode cX7_by 18 = .ok (.iconst 0, 1) := by decide +kernel
theorem dX7_by_19 : decode cX7_by 19 = .ok (.iconst 1, 1) := by decide +kernel
theorem dX7_by_20 : decode cX7_by 20 = .ok (.aload_n 0, 1) := by decide +kernel
theorem dX7_by_21 : decode cX7_by 21 = .ok (.getfield 7, 3) := by decide +kernel
theorem dX7_by_24 : decode cX7_by 24 = .ok (.ishl, 1) := by decide +kernel
theorem dX7_by_25 : decode cX7_by 25 = .ok (.iconst 1, 1) := by decide +kernel
theorem dX7_by_26 : decode cX7_by 26 = .ok (.isub, 1) := by decide +kernel
theorem dX7_by_27 : decode cX7_by 27 = .ok (.invokestatic 57, 3) := by decide +kernel
theorem dX7_by_30 : decode cX7_by 30 = .ok (.ifCond .ne 6, 3) := by decide +kernel
theorem dX7_by_33 : decode cX7_by 33 = .ok (.bipush (-2), 2) := by decide +kernel
theorem dX7_by_35 : decode cX7_by 35 = .ok (.ireturn, 1) := by decide +kernel
theorem dX7_by_36 : decode cX7_by 36 = .ok (.aload_n 0, 1) := by decide +kernel
theorem dX7_by_37 : decode cX7_by 37 = .ok (.getfield 61, 3) := by decide +kernel
theorem dX7_by_40 : decode cX7_by 40 = .ok (.bipush 10, 2) := by decide +kernel
theorem dX7_by_42 : decode cX7_by 42 = .ok (.if_icmp .ne 6, 3) := by decide +kernel
theorem dX7_by_45 : decode cX7_by 45 = .ok (.bipush (-3), 2) := by decide +kernel
theorem dX7_by_47 : decode cX7_by 47 = .ok (.ireturn, 1) := by decide +kernel
theorem dX7_by_48 : decode cX7_by 48 = .ok (.iconst 0, 1) := by decide +kernel
theorem dX7_by_49 : decode cX7_by 49 = .ok (.istore 4, 2) := by decide +kernel
theorem dX7_by_51 : decode cX7_by 51 = .ok (.iload 4, 2) := by decide +kernel
theorem dX7_by_53 : decode cX7_by 53 = .ok (.aload_n 0, 1) := by decide +kernel
theorem dX7_by_54 : decode cX7_by 54 = .ok (.getfield 46, 3) := by decide +kernel
theorem dX7_by_57 : decode cX7_by 57 = .ok (.if_icmp .ge 119, 3) := by decide +kernel
theorem dX7_by_60 : decode cX7_by 60 = .ok (.aload_n 0, 1) := by decide +kernel
theorem dX7_by_61 : decode cX7_by 61 = .ok (.iload_n 2, 1) := by decide +kernel
theorem dX7_by_62 : decode cX7_by 62 = .ok (.iload 4, 2) := by decide +kernel
theorem dX7_by_64 : decode cX7_by 64 = .ok (.invokevirtual 79, 3) := by decide +kernel
theorem dX7_by_67 : decode cX7_by 67 = .ok (.istore 5, 2) := by decide +kernel
theorem dX7_by_69 : decode cX7_by 69 = .ok (.iconst 0, 1) := by decide +kernel
theorem dX7_by_70 : decode cX7_by 70 = .ok (.istore 6, 2) := by decide +kernel
theorem dX7_by_72 : decode cX7_by 72 = .ok (.iload 6, 2) := by decide +kernel
theorem dX7_by_74 : decode cX7_by 74 = .ok (.aload_n 0, 1) := by decide +kernel
theorem dX7_by_75 : decode cX7_by 75 = .ok (.getfield 7, 3) := by decide +kernel
theorem dX7_by_78 : decode cX7_by 78 = .ok (.if_icmp .ge 52, 3) := by decide +kernel
theorem dX7_by_81 : decode cX7_by 81 = .ok (.iload_n 1, 1) := by decide +kernel
theorem dX7_by_82 : decode cX7_by 82 = .ok (.ifCond .ne 48, 3) := by decide +kernel
theorem dX7_by_85 : decode cX7_by 85 = .ok (.iload 5, 2) := by decide +kernel
theorem dX7_by_87 : decode cX7_by 87 = .ok (.ifCond .eq 34, 3) := by decide +kernel
theorem dX7_by_90 : decode cX7_by 90 = .ok (.iload_n 3, 1) := by decide +kernel
theorem dX7_by_91 : decode cX7_by 91 = .ok (.iload 6, 2) := by decide +kernel
theorem dX7_by_93 : decode cX7_by 93 = .ok (.ishr, 1) := by decide +kernel
theorem dX7_by_94 : decode cX7_by 94 = .ok (.iconst 1, 1) := by decide +kernel
theorem dX7_by_95 : decode cX7_by 95 = .ok (.iand, 1) := by decide +kernel
theorem dX7_by_96 : decode cX7_by 96 = .ok (.ifCond .eq 21, 3) := by decide +kernel
theorem dX7_by_99 : decode cX7_by 99 = .ok (.aload_n 0, 1) := by decide +kernel
theorem dX7_by_100 : decode cX7_by 100 = .ok (.getfield 14, 3) := by decide +kernel
theorem dX7_by_103 : decode cX7_by 103 = .ok (.bipush 8, 2) := by decide +kernel
theorem dX7_by_105 : decode cX7_by 105 = .ok (.iload 4, 2) := by decide +kernel
theorem dX7_by_107 : decode cX7_by 107 = .ok (.imul, 1) := by decide +kernel
theorem dX7_by_108 : decode cX7_by 108 = .ok (.iload 6, 2) := by decide +kernel
theorem dX7_by_110 : decode cX7_by 110 = .ok (.iadd, 1) := by decide +kernel
theorem dX7_by_111 : decode cX7_by 111 = .ok (.iaload, 1) := by decide +kernel
theorem dX7_by_112 : decode cX7_by 112 = .ok (.iload 6, 2) := by decide +kernel
theorem dX7_by_114 : decode cX7_by 114 = .ok (.if_icmp .ne 7, 3) := by decide +kernel
theorem dX7_by_117 : decode cX7_by 117 = .ok (.iconst 1, 1) := by decide +kernel
theorem dX7_by_118 : decode cX7_by 118 = .ok (.goto 4, 3) := by decide +kernel
theorem dX7_by_121 : decode cX7_by 121 = .ok (.iconst 0, 1) := by decide +kernel
theorem dX7_by_122 : decode cX7_by 122 = .ok (.istore 5, 2) := by decide +kernel
theorem dX7_by_124 : decode cX7_by 124 = .ok (.iinc 6 1, 3) := by decide +kernel
theorem dX7_by_127 : decode cX7_by 127 = .ok (.goto (-55), 3) := by decide +kernel
theorem dX7_by_130 : decode cX7_by 130 = .ok (.aload_n 0, 1) := by decide +kernel
theorem dX7_by_131 : decode cX7_by 131 = .ok (.getfield 22, 3) := by decide +kernel
theorem dX7_by_134 : decode cX7_by 134 = .ok (.ldc 35, 2) := by decide +kernel
theorem dX7_by_136 : decode cX7_by 136 = .ok (.aload_n 0, 1) := by decide +kernel
theorem dX7_by_137 : decode cX7_by 137 = .ok (.getfield 61, 3) := by decide +kernel
theorem dX7_by_140 : decode cX7_by 140 = .ok (.imul, 1) := by decide +kernel
theorem dX7_by_141 : decode cX7_by 141 = .ok (.iload 4, 2) := by decide +kernel
theorem dX7_by_143 : decode cX7_by 143 = .ok (.iadd, 1) := by decide +kernel
theorem dX7_by_144 : decode cX7_by 144 = .ok (.iload 5, 2) := by decide +kernel
theorem dX7_by_146 : decode cX7_by 146 = .ok (.ifCond .eq 22, 3) := by decide +kernel
theorem dX7_by_149 : decode cX7_by 149 = .ok (.iload_n 1, 1) := by decide +kernel
theorem dX7_by_150 : decode cX7_by 150 = .ok (.ifCond .eq 14, 3) := by decide +kernel
theorem dX7_by_153 : decode cX7_by 153 = .ok (.aload_n 0, 1) := by decide +kernel
theorem dX7_by_154 : decode cX7_by 154 = .ok (.iload 4, 2) := by decide +kernel
theorem dX7_by_156 : decode cX7_by 156 = .ok (.iload_n 3, 1) := by decide +kernel
theorem dX7_by_157 : decode cX7_by 157 = .ok (.invokevirtual 113, 3) := by decide +kernel
theorem dX7_by_160 : decode cX7_by 160 = .ok (.iload_n 3, 1) := by decide +kernel
theorem dX7_by_161 : decode cX7_by 161 = .ok (.if_icmp .ne 7, 3) := by decide +kernel
theorem dX7_by_164 : decode cX7_by 164 = .ok (.iconst 1, 1) := by decide +kernel
theorem dX7_by_165 : decode cX7_by 165 = .ok (.goto 4, 3) := by decide +kernel
theorem dX7_by_168 : decode cX7_by 168 = .ok (.iconst 0, 1) := by decide +kernel
theorem dX7_by_169 : decode cX7_by 169 = .ok (.bastore, 1) := by decide +kernel
theorem dX7_by_170 : decode cX7_by 170 = .ok (.iinc 4 1, 3) := by decide +kernel
theorem dX7_by_173 : decode cX7_by 173 = .ok (.goto (-122), 3) := by decide +kernel
theorem dX7_by_176 : decode cX7_by 176 = .ok (.aload_n 0, 1) := by decide +kernel
theorem dX7_by_177 : decode cX7_by 177 = .ok (.iconst (-1), 1) := by decide +kernel
theorem dX7_by_178 : decode cX7_by 178 = .ok (.invokevirtual 106, 3) := by decide +kernel
theorem dX7_by_181 : decode cX7_by 181 = .ok (.ireturn, 1) := by decide +kernel
set_option maxRecDepth 20000 in
theorem ggX7_made_X7_isIn : GoodIn wsX7_made wsX7_isIn := goodIn_r _ [11] (by decide +kernel) (by decide +kernel)
set_option maxRecDepth 20000 in
theorem gX7_made_X7_isIn : GoodIn wsX7_made (va_wsS RX7 57 yX7_isIn wsX7_isIn) := goodIn_app (goodIn_of _ (by decide +kernel)) ggX7_made_X7_isIn
set_option maxRecDepth 20000 in
theorem ggX7_made_X7_isGroup : GoodIn wsX7_made wsX7_isGroup := goodIn_r _ [15, 1, 8, 9, 10, 11, 73, 74, 75, 76, 77, 78, 79, 80, 81, 82, 83] (by decide +kernel) (by decide +kernel)
set_option maxRecDepth 20000 in
theorem gX7_made_X7_isGroup : GoodIn wsX7_made (wsV RX7 109 RX7 yX7_isGroup wsX7_isGroup) := goodIn_app (goodIn_of _ (by decide +kernel)) ggX7_made_X7_isGroup
set_option maxRecDepth 20000 in
theorem ggX7_made_X7_goDown : GoodIn wsX7_made wsX7_goDown := goodIn_r _ [19, 4, 2, 20, 21, 22, 10, 23, 24, 25, 26, 27, 5, 6, 28, 29, 30, 31, 32, 33, 34, 35, 36, 37, 38, 39, 40, 41, 42, 43, 44, 45, 46, 47, 48, 49, 50, 51, 52, 53, 54, 55, 56, 57, 58, 59, 60, 61, 62, 63, 64, 73, 74, 75, 76, 77, 78, 79, 80, 81, 82, 83] (by decide +kernel) (by decide +kernel)
set_option maxRecDepth 20000 in
theorem gX7_made_X7_goDown : GoodIn wsX7_made (wsV RX7 116 RX7 yX7_goDown wsX7_goDown) := goodIn_app (goodIn_of _ (by decide +kernel)) ggX7_made_X7_goDown
set_option maxRecDepth 20000 in
theorem ggX7_made_X7_newGroup : GoodIn wsX7_made wsX7_newGroup := goodIn_r _ [68, 1, 69, 70, 71, 10, 72, 5, 6, 28, 73, 74, 75, 76, 77, 78, 79, 80, 81, 82, 83] (by decide +kernel) (by decide +kernel)
set_option maxRecDepth 20000 in
theorem gX7_made_X7_newGroup : GoodIn wsX7_made (wsV RX7 106 RX7 yX7_newGroup wsX7_newGroup) := goodIn_app (goodIn_of _ (by decide +kernel)) ggX7_made_X7_newGroup
set_option maxRecDepth 20000 in
theorem ggX7_made_X7_begin : GoodIn wsX7_made wsX7_begin := goodIn_r _ [23, 4, 24, 25, 26, 10, 27, 5, 6, 28, 73, 74, 75, 76, 77, 78, 79, 80, 81, 82, 83] (by decide +kernel) (by decide +kernel)
set_option maxRecDepth 20000 in
theorem gX7_made_X7_begin : GoodIn wsX7_made (wsV RX7 90 RX7 yX7_begin wsX7_begin) := goodIn_app (goodIn_of _ (by decide +kernel)) ggX7_made_X7_begin
set_option maxRecDepth 20000 in
theorem ggX7_made_X7_joinAll : GoodIn wsX7_made wsX7_joinAll := goodIn_r _ [32, 5, 33, 34, 35, 10, 36, 6, 28, 37, 38, 39, 40, 2, 4, 41, 24, 25, 26, 27, 42, 43, 44, 45, 46, 47, 48, 49, 50, 51, 52, 73, 74, 75, 76, 77, 78, 79, 80, 81, 82, 83] (by decide +kernel) (by decide +kernel)
set_option maxRecDepth 20000 in
theorem gX7_made_X7_joinAll : GoodIn wsX7_made (wsV RX7 93 RX7 yX7_joinAll wsX7_joinAll) := goodIn_app (goodIn_of _ (by decide +kernel)) ggX7_made_X7_joinAll
set_option maxRecDepth 20000 in
theorem ggX7_made_X7_clear : GoodIn wsX7_made wsX7_clear := goodIn_r _ [27, 5, 6, 28, 73, 74, 75, 76, 77, 78, 79, 80, 81, 82, 83] (by decide +kernel) (by decide +kernel)
set_option maxRecDepth 20000 in
theorem gX7_made_X7_clear : GoodIn wsX7_made (wsV RX7 75 RX7 yX7_clear wsX7_clear) := goodIn_app (goodIn_of _ (by decide +kernel)) ggX7_made_X7_clear
set_option maxRecDepth 20000 in
theorem ggX7_made_X7_hasIt : GoodIn wsX7_made wsX7_hasIt := goodIn_r _ [36, 6, 28, 73, 74, 75, 76, 77, 78, 79, 80, 81, 82, 83] (by decide +kernel) (by decide +kernel)
set_option maxRecDepth 20000 in
theorem gX7_made_X7_hasIt : GoodIn wsX7_made (wsV RX7 79 RX7 yX7_hasIt wsX7_hasIt) := goodIn_app (goodIn_of _ (by decide +kernel)) ggX7_made_X7_hasIt
set_option maxRecDepth 20000 in
theorem ggX7_made_X7_carried : GoodIn wsX7_made wsX7_carried := goodIn_r _ [64, 46, 47, 48, 49, 50, 51, 10, 52, 73, 74, 75, 76, 77, 78, 79, 80, 81, 82, 83] (by decide +kernel) (by decide +kernel)
set_option maxRecDepth 20000 in
theorem gX7_made_X7_carried : GoodIn wsX7_made (wsV RX7 87 RX7 yX7_carried wsX7_carried) := goodIn_app (goodIn_of _ (by decide +kernel)) ggX7_made_X7_carried
set_option maxRecDepth 20000 in
theorem ggX7_made_X7_oneThen : GoodIn wsX7_made wsX7_oneThen := goodIn_r _ [45, 46, 47, 48, 49, 50, 51, 10, 52, 73, 74, 75, 76, 77, 78, 79, 80, 81, 82, 83] (by decide +kernel) (by decide +kernel)
set_option maxRecDepth 20000 in
theorem gX7_made_X7_oneThen : GoodIn wsX7_made (wsV RX7 53 RX7 yX7_oneThen wsX7_oneThen) := goodIn_app (goodIn_of _ (by decide +kernel)) ggX7_made_X7_oneThen
theorem dX7_made_0 : decode cX7_made 0 = .ok (.iload_n 1, 1) := by decide +kernel
theorem dX7_made_1 : decode cX7_made 1 = .ok (.iconst 0, 1) := by decide +kernel
theorem dX7_made_2 : decode cX7_made 2 = .ok (.iconst 3, 1) := by decide +kernel
theorem dX7_made_3 : decode cX7_made 3 = .ok (.invokestatic 57, 3) := by decide +kernel
theorem dX7_made_6 : decode cX7_made 6 = .ok (.ifCond .eq 11, 3) := by decide +kernel
theorem dX7_made_9 : decode cX7_made 9 = .ok (.aload_n 0, 1) := by decide +kernel
theorem dX7_made_10 : decode cX7_made 10 = .ok (.iload_n 2, 1) := by decide +kernel
theorem dX7_made_11 : decode cX7_made 11 = .ok (.invokevirtual 109, 3) := by decide +kernel
theorem dX7_made_14 : decode cX7_made 14 = .ok (.ifCond .ne 6, 3) := by decide +kernel
theorem dX7_made_17 : decode cX7_made 17 = .ok (.bipush (-2), 2) := by decide +kernel
theorem dX7_made_19 : decode cX7_made 19 = .ok (.ireturn, 1) := by decide +kernel
theorem dX7_made_20 : decode cX7_made 20 = .ok (.aload_n 0, 1) := by decide +kernel
theorem dX7_made_21 : decode cX7_made 21 = .ok (.getfield 61, 3) := by decide +kernel
theorem dX7_made_24 : decode cX7_made 24 = .ok (.bipush 10, 2) := by decide +kernel
theorem dX7_made_26 : decode cX7_made 26 = .ok (.if_icmp .ne 6, 3) := by decide +kernel
theorem dX7_made_29 : decode cX7_made 29 = .ok (.bipush (-3), 2) := by decide +kernel
theorem dX7_made_31 : decode cX7_made 31 = .ok (.ireturn, 1) := by decide +kernel
theorem dX7_made_32 : decode cX7_made 32 = .ok (.iload_n 1, 1) := by decide +kernel
theorem dX7_made_33 : decode cX7_made 33 = .ok (.iconst 3, 1) := by decide +kernel
theorem dX7_made_34 : decode cX7_made 34 = .ok (.if_icmp .ne 15, 3) := by decide +kernel
theorem dX7_made_37 : decode cX7_made 37 = .ok (.aload_n 0, 1) := by decide +kernel
theorem dX7_made_38 : decode cX7_made 38 = .ok (.iload_n 2, 1) := by decide +kernel
theorem dX7_made_39 : decode cX7_made 39 = .ok (.invokevirtual 116, 3) := by decide +kernel
theorem dX7_made_42 : decode cX7_made 42 = .ok (.aload_n 0, 1) := by decide +kernel
theorem dX7_made_43 : decode cX7_made 43 = .ok (.bipush 11, 2) := by decide +kernel
theorem dX7_made_45 : decode cX7_made 45 = .ok (.invokevirtual 106, 3) := by decide +kernel
theorem dX7_made_48 : decode cX7_made 48 = .ok (.ireturn, 1) := by decide +kernel
theorem dX7_made_49 : decode cX7_made 49 = .ok (.aload_n 0, 1) := by decide +kernel
theorem dX7_made_50 : decode cX7_made 50 = .ok (.bipush 10, 2) := by decide +kernel
theorem dX7_made_52 : decode cX7_made 52 = .ok (.invokevirtual 90, 3) := by decide +kernel
theorem dX7_made_55 : decode cX7_made 55 = .ok (.iload_n 1, 1) := by decide +kernel
theorem dX7_made_56 : decode cX7_made 56 = .ok (.ifCond .ne 26, 3) := by decide +kernel
theorem dX7_made_59 : decode cX7_made 59 = .ok (.aload_n 0, 1) := by decide +kernel
theorem dX7_made_60 : decode cX7_made 60 = .ok (.getfield 29, 3) := by decide +kernel
theorem dX7_made_63 : decode cX7_made 63 = .ok (.sipush 320, 3) := by decide +kernel
theorem dX7_made_66 : decode cX7_made 66 = .ok (.aload_n 0, 1) := by decide +kernel
theorem dX7_made_67 : decode cX7_made 67 = .ok (.getfield 64, 3) := by decide +kernel
theorem dX7_made_70 : decode cX7_made 70 = .ok (.iastore, 1) := by decide +kernel
theorem dX7_made_71 : decode cX7_made 71 = .ok (.aload_n 0, 1) := by decide +kernel
theorem dX7_made_72 : decode cX7_made 72 = .ok (.getfield 32, 3) := by decide +kernel
theorem dX7_made_75 : decode cX7_made 75 = .ok (.bipush 10, 2) := by decide +kernel
theorem dX7_made_77 : decode cX7_made 77 = .ok (.iconst 1, 1) := by decide +kernel
theorem dX7_made_78 : decode cX7_made 78 = .ok (.iastore, 1) := by decide +kernel
theorem dX7_made_79 : decode cX7_made 79 = .ok (.goto 15, 3) := by decide +kernel
theorem dX7_made_82 : decode cX7_made 82 = .ok (.iload_n 1, 1) := by decide +kernel
theorem dX7_made_83 : decode cX7_made 83 = .ok (.iconst 1, 1) := by decide +kernel
theorem dX7_made_84 : decode cX7_made 84 = .ok (.if_icmp .ne 10, 3) := by decide +kernel
theorem dX7_made_87 : decode cX7_made 87 = .ok (.aload_n 0, 1) := by decide +kernel
theorem dX7_made_88 : decode cX7_made 88 = .ok (.bipush 10, 2) := by decide +kernel
theorem dX7_made_90 : decode cX7_made 90 = .ok (.iload_n 2, 1) := by decide +kernel
theorem dX7_made_91 : decode cX7_made 91 = .ok (.invokevirtual 93, 3) := by decide +kernel
theorem dX7_made_94 : decode cX7_made 94 = .ok (.aload_n 0, 1) := by decide +kernel
theorem dX7_made_95 : decode cX7_made 95 = .ok (.bipush 12, 2) := by decide +kernel
theorem dX7_made_97 : decode cX7_made 97 = .ok (.invokevirtual 75, 3) := by decide +kernel
theorem dX7_made_100 : decode cX7_made 100 = .ok (.iconst 0, 1) := by decide +kernel
theorem dX7_made_101 : decode cX7_made 101 = .ok (.istore_n 3, 1) := by decide +kernel
theorem dX7_made_102 : decode cX7_made 102 = .ok (.iload_n 3, 1) := by decide +kernel
theorem dX7_made_103 : decode cX7_made 103 = .ok (.aload_n 0, 1) := by decide +kernel
theorem dX7_made_104 : decode cX7_made 104 = .ok (.getfield 46, 3) := by decide +kernel
theorem dX7_made_107 : decode cX7_made 107 = .ok (.if_icmp .ge 130, 3) := by decide +kernel
theorem dX7_made_110 : decode cX7_made 110 = .ok (.aload_n 0, 1) := by decide +kernel
theorem dX7_made_111 : decode cX7_made 111 = .ok (.iload_n 2, 1) := by decide +kernel
theorem dX7_made_112 : decode cX7_made 112 = .ok (.iload_n 3, 1) := by decide +kernel
theorem dX7_made_113 : decode cX7_made 113 = .ok (.invokevirtual 79, 3) := by decide +kernel
theorem dX7_made_116 : decode cX7_made 116 = .ok (.ifCond .eq 29, 3) := by decide +kernel
theorem dX7_made_119 : decode cX7_made 119 = .ok (.iload_n 1, 1) := by decide +kernel
theorem dX7_made_120 : decode cX7_made 120 = .ok (.iconst 2, 1) := by decide +kernel
theorem dX7_made_121 : decode cX7_made 121 = .ok (.if_icmp .ne 24, 3) := by decide +kernel
theorem dX7_made_124 : decode cX7_made 124 = .ok (.aload_n 0, 1) := by decide +kernel
theorem dX7_made_125 : decode cX7_made 125 = .ok (.getfield 22, 3) := by decide +kernel
theorem dX7_made_128 : decode cX7_made 128 = .ok (.ldc 119, 2) := by decide +kernel
theorem dX7_made_130 : decode cX7_made 130 = .ok (.aload_n 0, 1) := by decide +kernel
theorem dX7_made_131 : decode cX7_made 131 = .ok (.iload_n 3, 1) := by decide +kernel
theorem dX7_made_132 : decode cX7_made 132 = .ok (.aload_n 0, 1) := by decide +kernel
theorem dX7_made_133 : decode cX7_made 133 = .ok (.getfield 64, 3) := by decide +kernel
theorem dX7_made_136 : decode cX7_made 136 = .ok (.invokevirtual 87, 3) := by decide +kernel
theorem dX7_made_139 : decode cX7_made 139 = .ok (.iadd, 1) := by decide +kernel
theorem dX7_made_140 : decode cX7_made 140 = .ok (.iconst 1, 1) := by decide +kernel
theorem dX7_made_141 : decode cX7_made 141 = .ok (.bastore, 1) := by decide +kernel
theorem dX7_made_142 : decode cX7_made 142 = .ok (.goto 89, 3) := by decide +kernel
theorem dX7_made_145 : decode cX7_made 145 = .ok (.aload_n 0, 1) := by decide +kernel
theorem dX7_made_146 : decode cX7_made 146 = .ok (.iload_n 2, 1) := by decide +kernel
theorem dX7_made_147 : decode cX7_made 147 = .ok (.iload_n 3, 1) := by decide +kernel
theorem dX7_made_148 : decode cX7_made 148 = .ok (.invokevirtual 79, 3) := by decide +kernel
theorem dX7_made_151 : decode cX7_made 151 = .ok (.ifCond .eq 80, 3) := by decide +kernel
theorem dX7_made_154 : decode cX7_made 154 = .ok (.iconst 1, 1) := by decide +kernel
theorem dX7_made_155 : decode cX7_made 155 = .ok (.istore 4, 2) := by decide +kernel
theorem dX7_made_157 : decode cX7_made 157 = .ok (.iconst 0, 1) := by decide +kernel
theorem dX7_made_158 : decode cX7_made 158 = .ok (.istore 5, 2) := by decide +kernel
theorem dX7_made_160 : decode cX7_made 160 = .ok (.iload 5, 2) := by decide +kernel
theorem dX7_made_162 : decode cX7_made 162 = .ok (.aload_n 0, 1) := by decide +kernel
theorem dX7_made_163 : decode cX7_made 163 = .ok (.getfield 32, 3) := by decide +kernel
theorem dX7_made_166 : decode cX7_made 166 = .ok (.bipush 10, 2) := by decide +kernel
theorem dX7_made_168 : decode cX7_made 168 = .ok (.iaload, 1) := by decide +kernel
theorem dX7_made_169 : decode cX7_made 169 = .ok (.if_icmp .ge 51, 3) := by decide +kernel
theorem dX7_made_172 : decode cX7_made 172 = .ok (.iload 4, 2) := by decide +kernel
theorem dX7_made_174 : decode cX7_made 174 = .ok (.ifCond .eq 46, 3) := by decide +kernel
theorem dX7_made_177 : decode cX7_made 177 = .ok (.aload_n 0, 1) := by decide +kernel
theorem dX7_made_178 : decode cX7_made 178 = .ok (.getfield 29, 3) := by decide +kernel
theorem dX7_made_181 : decode cX7_made 181 = .ok (.sipush 320, 3) := by decide +kernel
theorem dX7_made_184 : decode cX7_made 184 = .ok (.iload 5, 2) := by decide +kernel
theorem dX7_made_186 : decode cX7_made 186 = .ok (.iadd, 1) := by decide +kernel
theorem dX7_made_187 : decode cX7_made 187 = .ok (.iaload, 1) := by decide +kernel
theorem dX7_made_188 : decode cX7_made 188 = .ok (.istore 6, 2) := by decide +kernel
theorem dX7_made_190 : decode cX7_made 190 = .ok (.aload_n 0, 1) := by decide +kernel
theorem dX7_made_191 : decode cX7_made 191 = .ok (.iload_n 3, 1) := by decide +kernel
theorem dX7_made_192 : decode cX7_made 192 = .ok (.iload 6, 2) := by decide +kernel
theorem dX7_made_194 : decode cX7_made 194 = .ok (.invokevirtual 53, 3) := by decide +kernel
theorem dX7_made_197 : decode cX7_made 197 = .ok (.aload_n 0, 1) := by decide +kernel
theorem dX7_made_198 : decode cX7_made 198 = .ok (.iload 6, 2) := by decide +kernel
theorem dX7_made_200 : decode cX7_made 200 = .ok (.iload_n 3, 1) := by decide +kernel
theorem dX7_made_201 : decode cX7_made 201 = .ok (.invokevirtual 53, 3) := by decide +kernel
theorem dX7_made_204 : decode cX7_made 204 = .ok (.if_icmp .ne 7, 3) := by decide +kernel
theorem dX7_made_207 : decode cX7_made 207 = .ok (.iconst 1, 1) := by decide +kernel
theorem dX7_made_208 : decode cX7_made 208 = .ok (.goto 4, 3) := by decide +kernel
theorem dX7_made_211 : decode cX7_made 211 = .ok (.iconst 0, 1) := by decide +kernel
theorem dX7_made_212 : decode cX7_made 212 = .ok (.istore 4, 2) := by decide +kernel
theorem dX7_made_214 : decode cX7_made 214 = .ok (.iinc 5 1, 3) := by decide +kernel
theorem dX7_made_217 : decode cX7_made 217 = .ok (.goto (-57), 3) := by decide +kernel
theorem dX7_made_220 : decode cX7_made 220 = .ok (.aload_n 0, 1) := by decide +kernel
theorem dX7_made_221 : decode cX7_made 221 = .ok (.getfield 22, 3) := by decide +kernel
theorem dX7_made_224 : decode cX7_made 224 = .ok (.ldc 119, 2) := by decide +kernel
theorem dX7_made_226 : decode cX7_made 226 = .ok (.iload_n 3, 1) := by decide +kernel
theorem dX7_made_227 : decode cX7_made 227 = .ok (.iadd, 1) := by decide +kernel
theorem dX7_made_228 : decode cX7_made 228 = .ok (.iload 4, 2) := by decide +kernel
theorem dX7_made_230 : decode cX7_made 230 = .ok (.bastore, 1) := by decide +kernel
theorem dX7_made_231 : decode cX7_made 231 = .ok (.iinc 3 1, 3) := by decide +kernel
theorem dX7_made_234 : decode cX7_made 234 = .ok (.goto (-132), 3) := by decide +kernel
theorem dX7_made_237 : decode cX7_made 237 = .ok (.aload_n 0, 1) := by decide +kernel
theorem dX7_made_238 : decode cX7_made 238 = .ok (.bipush 12, 2) := by decide +kernel
theorem dX7_made_240 : decode cX7_made 240 = .ok (.invokevirtual 106, 3) := by decide +kernel
theorem dX7_made_243 : decode cX7_made 243 = .ok (.ireturn, 1) := by decide +kernel
theorem dX7_undo_0 : decode cX7_undo 0 = .ok (.aload_n 0, 1) := by decide +kernel
theorem dX7_undo_1 : decode cX7_undo 1 = .ok (.getfield 61, 3) := by decide +kernel
theorem dX7_undo_4 : decode cX7_undo 4 = .ok (.ifCond .ne 5, 3) := by decide +kernel
theorem dX7_undo_7 : decode cX7_undo 7 = .ok (.iconst (-1), 1) := by decide +kernel
theorem dX7_undo_8 : decode cX7_undo 8 = .ok (.ireturn, 1) := by decide +kernel
theorem dX7_undo_9 : decode cX7_undo 9 = .ok (.aload_n 0, 1) := by decide +kernel
theorem dX7_undo_10 : decode cX7_undo 10 = .ok (.dup, 1) := by decide +kernel
theorem dX7_undo_11 : decode cX7_undo 11 = .ok (.getfield 61, 3) := by decide +kernel
theorem dX7_undo_14 : decode cX7_undo 14 = .ok (.iconst 1, 1) := by decide +kernel
theorem dX7_undo_15 : decode cX7_undo 15 = .ok (.isub, 1) := by decide +kernel
theorem dX7_undo_16 : decode cX7_undo 16 = .ok (.putfield 61, 3) := by decide +kernel
theorem dX7_undo_19 : decode cX7_undo 19 = .ok (.aload_n 0, 1) := by decide +kernel
theorem dX7_undo_20 : decode cX7_undo 20 = .ok (.getfield 61, 3) := by decide +kernel
theorem dX7_undo_23 : decode cX7_undo 23 = .ok (.ireturn, 1) := by decide +kernel
set_option maxRecDepth 20000 in
theorem ggX7_sizeOf_X7_hasIt : GoodIn wsX7_sizeOf wsX7_hasIt := goodIn_r _ [6, 7, 8, 9, 10, 11, 12, 13, 14, 15, 16, 17, 18, 19] (by decide +kernel) (by decide +kernel)
set_option maxRecDepth 20000 in
theorem gX7_sizeOf_X7_hasIt : GoodIn wsX7_sizeOf (wsV RX7 79 RX7 yX7_hasIt wsX7_hasIt) := goodIn_app (goodIn_of _ (by decide +kernel)) ggX7_sizeOf_X7_hasIt
theorem dX7_sizeOf_0 : decode cX7_sizeOf 0 = .ok (.iconst 0, 1) := by decide +kernel
theorem dX7_sizeOf_1 : decode cX7_sizeOf 1 = .ok (.istore_n 2, 1) := by decide +kernel
theorem dX7_sizeOf_2 : decode cX7_sizeOf 2 = .ok (.iconst 0, 1) := by decide +kernel
theorem dX7_sizeOf_3 : decode cX7_sizeOf 3 = .ok (.istore_n 3, 1) := by decide +kernel
theorem dX7_sizeOf_4 : decode cX7_sizeOf 4 = .ok (.iload_n 3, 1) := by decide +kernel
theorem dX7_sizeOf_5 : decode cX7_sizeOf 5 = .ok (.aload_n 0, 1) := by decide +kernel
theorem dX7_sizeOf_6 : decode cX7_sizeOf 6 = .ok (.getfield 46, 3) := by decide +kernel
theorem dX7_sizeOf_9 : decode cX7_sizeOf 9 = .ok (.if_icmp .ge 26, 3) := by decide +kernel
theorem dX7_sizeOf_12 : decode cX7_sizeOf 12 = .ok (.iload_n 2, 1) := by decide +kernel
theorem dX7_sizeOf_13 : decode cX7_sizeOf 13 = .ok (.aload_n 0, 1) := by decide +kernel
theorem dX7_sizeOf_14 : decode cX7_sizeOf 14 = .ok (.iload_n 1, 1) := by decide +kernel
theorem dX7_sizeOf_15 : decode cX7_sizeOf 15 = .ok (.iload_n 3, 1) := by decide +kernel
theorem dX7_sizeOf_16 : decode cX7_sizeOf 16 = .ok (.invokevirtual 79, 3) := by decide +kernel
theorem dX7_sizeOf_19 : decode cX7_sizeOf 19 = .ok (.ifCond .eq 7, 3) := by decide +kernel
theorem dX7_sizeOf_22 : decode cX7_sizeOf 22 = .ok (.iconst 1, 1) := by decide +kernel
theorem dX7_sizeOf_23 : decode cX7_sizeOf 23 = .ok (.goto 4, 3) := by decide +kernel
theorem dX7_sizeOf_26 : decode cX7_sizeOf 26 = .ok (.iconst 0, 1) := by decide +kernel
theorem dX7_sizeOf_27 : decode cX7_sizeOf 27 = .ok (.iadd, 1) := by decide +kernel
theorem dX7_sizeOf_28 : decode cX7_sizeOf 28 = .ok (.istore_n 2, 1) := by decide +kernel
theorem dX7_sizeOf_29 : decode cX7_sizeOf 29 = .ok (.iinc 3 1, 3) := by decide +kernel
theorem dX7_sizeOf_32 : decode cX7_sizeOf 32 = .ok (.goto (-28), 3) := by decide +kernel
theorem dX7_sizeOf_35 : decode cX7_sizeOf 35 = .ok (.iload_n 2, 1) := by decide +kernel
theorem dX7_sizeOf_36 : decode cX7_sizeOf 36 = .ok (.ireturn, 1) := by decide +kernel
set_option maxRecDepth 20000 in
theorem ggX7_size_X7_isGroup : GoodIn wsX7_size wsX7_isGroup := goodIn_r _ [5, 6, 7, 8, 4, 9, 21, 22, 23, 24, 25, 26, 27, 28, 29, 30, 31] (by decide +kernel) (by decide +kernel)
set_option maxRecDepth 20000 in
theorem gX7_size_X7_isGroup : GoodIn wsX7_size (wsV RX7 109 RX7 yX7_isGroup wsX7_isGroup) := goodIn_app (goodIn_of _ (by decide +kernel)) ggX7_size_X7_isGroup
set_option maxRecDepth 20000 in
theorem ggX7_size_X7_sizeOf : GoodIn wsX7_size wsX7_sizeOf := goodIn_r _ [13, 14, 15, 16, 17, 4, 18, 19, 20, 21, 22, 23, 24, 25, 26, 27, 28, 29, 30, 31] (by decide +kernel) (by decide +kernel)
set_option maxRecDepth 20000 in
theorem gX7_size_X7_sizeOf : GoodIn wsX7_size (wsV RX7 120 RX7 yX7_sizeOf wsX7_sizeOf) := goodIn_app (goodIn_of _ (by decide +kernel)) ggX7_size_X7_sizeOf
theorem dX7_size_0 : decode cX7_size 0 = .ok (.aload_n 0, 1) := by decide +kernel
theorem dX7_size_1 : decode cX7_size 1 = .ok (.iload_n 1, 1) := by decide +kernel
theorem dX7_size_2 : decode cX7_size 2 = .ok (.invokevirtual 109, 3) := by decide +kernel
theorem dX7_size_5 : decode cX7_size 5 = .ok (.ifCond .eq 11, 3) := by decide +kernel
theorem dX7_size_8 : decode cX7_size 8 = .ok (.aload_n 0, 1) := by decide +kernel
theorem dX7_size_9 : decode cX7_size 9 = .ok (.iload_n 1, 1) := by decide +kernel
theorem dX7_size_10 : decode cX7_size 10 = .ok (.invokevirtual 120, 3) := by decide +kernel
theorem dX7_size_13 : decode cX7_size 13 = .ok (.goto 5, 3) := by decide +kernel
theorem dX7_size_16 : decode cX7_size 16 = .ok (.bipush (-2), 2) := by decide +kernel
theorem dX7_size_18 : decode cX7_size 18 = .ok (.ireturn, 1) := by decide +kernel
set_option maxRecDepth 20000 in
theorem ggX7_has_X7_isGroup : GoodIn wsX7_has wsX7_isGroup := goodIn_r _ [6, 7, 8, 9, 5, 10, 17, 18, 19, 20, 21, 22, 23, 24, 25, 26, 27] (by decide +kernel) (by decide +kernel)
set_option maxRecDepth 20000 in
theorem gX7_has_X7_isGroup : GoodIn wsX7_has (wsV RX7 109 RX7 yX7_isGroup wsX7_isGroup) := goodIn_app (goodIn_of _ (by decide +kernel)) ggX7_has_X7_isGroup
set_option maxRecDepth 20000 in
theorem ggX7_has_X7_hasIt : GoodIn wsX7_has wsX7_hasIt := goodIn_r _ [14, 15, 16, 17, 18, 19, 20, 21, 22, 23, 24, 25, 26, 27] (by decide +kernel) (by decide +kernel)
set_option maxRecDepth 20000 in
theorem gX7_has_X7_hasIt : GoodIn wsX7_has (wsV RX7 79 RX7 yX7_hasIt wsX7_hasIt) := goodIn_app (goodIn_of _ (by decide +kernel)) ggX7_has_X7_hasIt
theorem dX7_has_0 : decode cX7_has 0 = .ok (.aload_n 0, 1) := by decide +kernel
theorem dX7_has_1 : decode cX7_has 1 = .ok (.iload_n 1, 1) := by decide +kernel
theorem dX7_has_2 : decode cX7_has 2 = .ok (.invokevirtual 109, 3) := by decide +kernel
theorem dX7_has_5 : decode cX7_has 5 = .ok (.ifCond .ne 8, 3) := by decide +kernel
theorem dX7_has_8 : decode cX7_has 8 = .ok (.bipush (-2), 2) := by decide +kernel
theorem dX7_has_10 : decode cX7_has 10 = .ok (.goto 20, 3) := by decide +kernel
theorem dX7_has_13 : decode cX7_has 13 = .ok (.aload_n 0, 1) := by decide +kernel
theorem dX7_has_14 : decode cX7_has 14 = .ok (.iload_n 1, 1) := by decide +kernel
theorem dX7_has_15 : decode cX7_has 15 = .ok (.aload_n 0, 1) := by decide +kernel
theorem dX7_has_16 : decode cX7_has 16 = .ok (.getfield 64, 3) := by decide +kernel
theorem dX7_has_19 : decode cX7_has 19 = .ok (.invokevirtual 79, 3) := by decide +kernel
theorem dX7_has_22 : decode cX7_has 22 = .ok (.ifCond .eq 7, 3) := by decide +kernel
theorem dX7_has_25 : decode cX7_has 25 = .ok (.iconst 1, 1) := by decide +kernel
theorem dX7_has_26 : decode cX7_has 26 = .ok (.goto 4, 3) := by decide +kernel
theorem dX7_has_29 : decode cX7_has 29 = .ok (.iconst 0, 1) := by decide +kernel
theorem dX7_has_30 : decode cX7_has 30 = .ok (.ireturn, 1) := by decide +kernel
set_option maxRecDepth 20000 in
theorem ggX7_isWithin_X7_hasIt : GoodIn wsX7_isWithin wsX7_hasIt := goodIn_r _ [6, 7, 8, 9, 10, 11, 12, 13, 14, 15, 16, 17, 18, 19] (by decide +kernel) (by decide +kernel)
set_option maxRecDepth 20000 in
theorem gX7_isWithin_X7_hasIt : GoodIn wsX7_isWithin (wsV RX7 79 RX7 yX7_hasIt wsX7_hasIt) := goodIn_app (goodIn_of _ (by decide +kernel)) ggX7_isWithin_X7_hasIt
theorem dX7_isWithin_0 : decode cX7_isWithin 0 = .ok (.iconst 1, 1) := by decide +kernel
theorem dX7_isWithin_1 : decode cX7_isWithin 1 = .ok (.istore_n 3, 1) := by decide +kernel
theorem dX7_isWithin_2 : decode cX7_isWithin 2 = .ok (.iconst 0, 1) := by decide +kernel
theorem dX7_isWithin_3 : decode cX7_isWithin 3 = .ok (.istore 4, 2) := by decide +kernel
theorem dX7_isWithin_5 : decode cX7_isWithin 5 = .ok (.iload 4, 2) := by decide +kernel
theorem dX7_isWithin_7 : decode cX7_isWithin 7 = .ok (.aload_n 0, 1) := by decide +kernel
theorem dX7_isWithin_8 : decode cX7_isWithin 8 = .ok (.getfield 46, 3) := by decide +kernel
theorem dX7_isWithin_11 : decode cX7_isWithin 11 = .ok (.if_icmp .ge 39, 3) := by decide +kernel
theorem dX7_isWithin_14 : decode cX7_isWithin 14 = .ok (.iload_n 3, 1) := by decide +kernel
theorem dX7_isWithin_15 : decode cX7_isWithin 15 = .ok (.ifCond .eq 35, 3) := by decide +kernel
theorem dX7_isWithin_18 : decode cX7_isWithin 18 = .ok (.aload_n 0, 1) := by decide +kernel
theorem dX7_isWithin_19 : decode cX7_isWithin 19 = .ok (.iload_n 1, 1) := by decide +kernel
theorem dX7_isWithin_20 : decode cX7_isWithin 20 = .ok (.iload 4, 2) := by decide +kernel
theorem dX7_isWithin_22 : decode cX7_isWithin 22 = .ok (.invokevirtual 79, 3) := by decide +kernel
theorem dX7_isWithin_25 : decode cX7_isWithin 25 = .ok (.ifCond .eq 13, 3) := by decide +kernel
theorem dX7_isWithin_28 : decode cX7_isWithin 28 = .ok (.aload_n 0, 1) := by decide +kernel
theorem dX7_isWithin_29 : decode cX7_isWithin 29 = .ok (.iload_n 2, 1) := by decide +kernel
theorem dX7_isWithin_30 : decode cX7_isWithin 30 = .ok (.iload 4, 2) := by decide +kernel
theorem dX7_isWithin_32 : decode cX7_isWithin 32 = .ok (.invokevirtual 79, 3) := by decide +kernel
theorem dX7_isWithin_35 : decode cX7_isWithin 35 = .ok (.ifCond .eq 7, 3) := by decide +kernel
theorem dX7_isWithin_38 : decode cX7_isWithin 38 = .ok (.iconst 1, 1) := by decide +kernel
theorem dX7_isWithin_39 : decode cX7_isWithin 39 = .ok (.goto 4, 3) := by decide +kernel
theorem dX7_isWithin_42 : decode cX7_isWithin 42 = .ok (.iconst 0, 1) := by decide +kernel
theorem dX7_isWithin_43 : decode cX7_isWithin 43 = .ok (.istore_n 3, 1) := by decide +kernel
theorem dX7_isWithin_44 : decode cX7_isWithin 44 = .ok (.iinc 4 1, 3) := by decide +kernel
theorem dX7_isWithin_47 : decode cX7_isWithin 47 = .ok (.goto (-42), 3) := by decide +kernel
theorem dX7_isWithin_50 : decode cX7_isWithin 50 = .ok (.iload_n 3, 1) := by decide +kernel
theorem dX7_isWithin_51 : decode cX7_isWithin 51 = .ok (.ireturn, 1) := by decide +kernel
set_option maxRecDepth 20000 in
theorem ggX7_isNormal_X7_begin : GoodIn wsX7_isNormal wsX7_begin := goodIn_r _ [7, 1, 8, 9, 10, 6, 11, 12, 13, 14, 43, 44, 45, 46, 47, 48, 49, 50, 51, 52, 53] (by decide +kernel) (by decide +kernel)
set_option maxRecDepth 20000 in
theorem gX7_isNormal_X7_begin : GoodIn wsX7_isNormal (wsV RX7 90 RX7 yX7_begin wsX7_begin) := goodIn_app (goodIn_of _ (by decide +kernel)) ggX7_isNormal_X7_begin
set_option maxRecDepth 20000 in
theorem ggX7_isNormal_X7_joinAll : GoodIn wsX7_isNormal wsX7_joinAll := goodIn_r _ [18, 12, 19, 20, 21, 6, 22, 13, 14, 23, 24, 25, 26, 2, 1, 27, 8, 9, 10, 11, 28, 29, 30, 31, 32, 33, 34, 35, 36, 37, 38, 43, 44, 45, 46, 47, 48, 49, 50, 51, 52, 53] (by decide +kernel) (by decide +kernel)
set_option maxRecDepth 20000 in
theorem gX7_isNormal_X7_joinAll : GoodIn wsX7_isNormal (wsV RX7 93 RX7 yX7_joinAll wsX7_joinAll) := goodIn_app (goodIn_of _ (by decide +kernel)) ggX7_isNormal_X7_joinAll
set_option maxRecDepth 20000 in
theorem ggX7_isNormal_X7_carried : GoodIn wsX7_isNormal wsX7_carried := goodIn_r _ [42, 32, 33, 34, 35, 36, 37, 6, 38, 43, 44, 45, 46, 47, 48, 49, 50, 51, 52, 53] (by decide +kernel) (by decide +kernel)
set_option maxRecDepth 20000 in
theorem gX7_isNormal_X7_carried : GoodIn wsX7_isNormal (wsV RX7 87 RX7 yX7_carried wsX7_carried) := goodIn_app (goodIn_of _ (by decide +kernel)) ggX7_isNormal_X7_carried
set_option maxRecDepth 20000 in
theorem ggX7_isNormal_X7_hasIt : GoodIn wsX7_isNormal wsX7_hasIt := goodIn_r _ [22, 13, 14, 43, 44, 45, 46, 47, 48, 49, 50, 51, 52, 53] (by decide +kernel) (by decide +kernel)
set_option maxRecDepth 20000 in
theorem gX7_isNormal_X7_hasIt : GoodIn wsX7_isNormal (wsV RX7 79 RX7 yX7_hasIt wsX7_hasIt) := goodIn_app (goodIn_of _ (by decide +kernel)) ggX7_isNormal_X7_hasIt
theorem dX7_isNormal_0 : decode cX7_isNormal 0 = .ok (.aload_n 0, 1) := by decide +kernel
theorem dX7_isNormal_1 : decode cX7_isNormal 1 = .ok (.bipush 10, 2) := by decide +kernel
theorem dX7_isNormal_3 : decode cX7_isNormal 3 = .ok (.invokevirtual 90, 3) := by decide +kernel
theorem dX7_isNormal_6 : decode cX7_isNormal 6 = .ok (.aload_n 0, 1) := by decide +kernel
theorem dX7_isNormal_7 : decode cX7_isNormal 7 = .ok (.bipush 10, 2) := by decide +kernel
theorem dX7_isNormal_9 : decode cX7_isNormal 9 = .ok (.iload_n 1, 1) := by decide +kernel
theorem dX7_isNormal_10 : decode cX7_isNormal 10 = .ok (.invokevirtual 93, 3) := by decide +kernel
theorem dX7_isNormal_13 : decode cX7_isNormal 13 = .ok (.aload_n 0, 1) := by decide +kernel
theorem dX7_isNormal_14 : decode cX7_isNormal 14 = .ok (.bipush 11, 2) := by decide +kernel
theorem dX7_isNormal_16 : decode cX7_isNormal 16 = .ok (.invokevirtual 90, 3) := by decide +kernel
theorem dX7_isNormal_19 : decode cX7_isNormal 19 = .ok (.aload_n 0, 1) := by decide +kernel
theorem dX7_isNormal_20 : decode cX7_isNormal 20 = .ok (.bipush 11, 2) := by decide +kernel
theorem dX7_isNormal_22 : decode cX7_isNormal 22 = .ok (.iload_n 2, 1) := by decide +kernel
theorem dX7_isNormal_23 : decode cX7_isNormal 23 = .ok (.invokevirtual 93, 3) := by decide +kernel
theorem dX7_isNormal_26 : decode cX7_isNormal 26 = .ok (.iconst 1, 1) := by decide +kernel
theorem dX7_isNormal_27 : decode cX7_isNormal 27 = .ok (.istore_n 3, 1) := by decide +kernel
theorem dX7_isNormal_28 : decode cX7_isNormal 28 = .ok (.iconst 0, 1) := by decide +kernel
theorem dX7_isNormal_29 : decode cX7_isNormal 29 = .ok (.istore 4, 2) := by decide +kernel
theorem dX7_isNormal_31 : decode cX7_isNormal 31 = .ok (.iload 4, 2) := by decide +kernel
theorem dX7_isNormal_33 : decode cX7_isNormal 33 = .ok (.aload_n 0, 1) := by decide +kernel
theorem dX7_isNormal_34 : decode cX7_isNormal 34 = .ok (.getfield 32, 3) := by decide +kernel
theorem dX7_isNormal_37 : decode cX7_isNormal 37 = .ok (.bipush 10, 2) := by decide +kernel
theorem dX7_isNormal_39 : decode cX7_isNormal 39 = .ok (.iaload, 1) := by decide +kernel
theorem dX7_isNormal_40 : decode cX7_isNormal 40 = .ok (.if_icmp .ge 74, 3) := by decide +kernel
theorem dX7_isNormal_43 : decode cX7_isNormal 43 = .ok (.iconst 0, 1) := by decide +kernel
theorem dX7_isNormal_44 : decode cX7_isNormal 44 = .ok (.istore 5, 2) := by decide +kernel
theorem dX7_isNormal_46 : decode cX7_isNormal 46 = .ok (.iload 5, 2) := by decide +kernel
theorem dX7_isNormal_48 : decode cX7_isNormal 48 = .ok (.aload_n 0, 1) := by decide +kernel
theorem dX7_isNormal_49 : decode cX7_isNormal 49 = .ok (.getfield 32, 3) := by decide +kernel
theorem dX7_isNormal_52 : decode cX7_isNormal 52 = .ok (.bipush 11, 2) := by decide +kernel
theorem dX7_isNormal_54 : decode cX7_isNormal 54 = .ok (.iaload, 1) := by decide +kernel
theorem dX7_isNormal_55 : decode cX7_isNormal 55 = .ok (.if_icmp .ge 53, 3) := by decide +kernel
theorem dX7_isNormal_58 : decode cX7_isNormal 58 = .ok (.iload_n 3, 1) := by decide +kernel
theorem dX7_isNormal_59 : decode cX7_isNormal 59 = .ok (.ifCond .eq 41, 3) := by decide +kernel
theorem dX7_isNormal_62 : decode cX7_isNormal 62 = .ok (.aload_n 0, 1) := by decide +kernel
theorem dX7_isNormal_63 : decode cX7_isNormal 63 = .ok (.iload_n 1, 1) := by decide +kernel
theorem dX7_isNormal_64 : decode cX7_isNormal 64 = .ok (.aload_n 0, 1) := by decide +kernel
theorem dX7_isNormal_65 : decode cX7_isNormal 65 = .ok (.aload_n 0, 1) := by decide +kernel
theorem dX7_isNormal_66 : decode cX7_isNormal 66 = .ok (.getfield 29, 3) := by decide +kernel
theorem dX7_isNormal_69 : decode cX7_isNormal 69 = .ok (.sipush 320, 3) := by decide +kernel
theorem dX7_isNormal_72 : decode cX7_isNormal 72 = .ok (.iload 4, 2) := by decide +kernel
theorem dX7_isNormal_74 : decode cX7_isNormal 74 = .ok (.iadd, 1) := by decide +kernel
theorem dX7_isNormal_75 : decode cX7_isNormal 75 = .ok (.iaload, 1) := by decide +kernel
theorem dX7_isNormal_76 : decode cX7_isNormal 76 = .ok (.aload_n 0, 1) := by decide +kernel
theorem dX7_isNormal_77 : decode cX7_isNormal 77 = .ok (.getfield 29, 3) := by decide +kernel
theorem dX7_isNormal_80 : decode cX7_isNormal 80 = .ok (.sipush 352, 3) := by decide +kernel
theorem dX7_isNormal_83 : decode cX7_isNormal 83 = .ok (.iload 5, 2) := by decide +kernel
theorem dX7_isNormal_85 : decode cX7_isNormal 85 = .ok (.iadd, 1) := by decide +kernel
theorem dX7_isNormal_86 : decode cX7_isNormal 86 = .ok (.iaload, 1) := by decide +kernel
theorem dX7_isNormal_87 : decode cX7_isNormal 87 = .ok (.invokevirtual 87, 3) := by decide +kernel
theorem dX7_isNormal_90 : decode cX7_isNormal 90 = .ok (.invokevirtual 79, 3) := by decide +kernel
theorem dX7_isNormal_93 : decode cX7_isNormal 93 = .ok (.ifCond .eq 7, 3) := by decide +kernel
theorem dX7_isNormal_96 : decode cX7_isNormal 96 = .ok (.iconst 1, 1) := by decide +kernel
theorem dX7_isNormal_97 : decode cX7_isNormal 97 = .ok (.goto 4, 3) := by decide +kernel
theorem dX7_isNormal_100 : decode cX7_isNormal 100 = .ok (.iconst 0, 1) := by decide +kernel
theorem dX7_isNormal_101 : decode cX7_isNormal 101 = .ok (.istore_n 3, 1) := by decide +kernel
theorem dX7_isNormal_102 : decode cX7_isNormal 102 = .ok (.iinc 5 1, 3) := by decide +kernel
theorem dX7_isNormal_105 : decode cX7_isNormal 105 = .ok (.goto (-59), 3) := by decide +kernel
theorem dX7_isNormal_108 : decode cX7_isNormal 108 = .ok (.iinc 4 1, 3) := by decide +kernel
theorem dX7_isNormal_111 : decode cX7_isNormal 111 = .ok (.goto (-80), 3) := by decide +kernel
theorem dX7_isNormal_114 : decode cX7_isNormal 114 = .ok (.iload_n 3, 1) := by decide +kernel
theorem dX7_isNormal_115 : decode cX7_isNormal 115 = .ok (.ireturn, 1) := by decide +kernel
set_option maxRecDepth 20000 in
theorem ggX7_is_X7_isIn : GoodIn wsX7_is wsX7_isIn := goodIn_r _ [4] (by decide +kernel) (by decide +kernel)
set_option maxRecDepth 20000 in
theorem gX7_is_X7_isIn : GoodIn wsX7_is (va_wsS RX7 57 yX7_isIn wsX7_isIn) := goodIn_app (goodIn_of _ (by decide +kernel)) ggX7_is_X7_isIn
set_option maxRecDepth 20000 in
theorem ggX7_is_X7_isGroup : GoodIn wsX7_is wsX7_isGroup := goodIn_r _ [8, 9, 1, 2, 3, 4, 59, 60, 61, 62, 63, 64, 65, 66, 67, 68, 69] (by decide +kernel) (by decide +kernel)
set_option maxRecDepth 20000 in
theorem gX7_is_X7_isGroup : GoodIn wsX7_is (wsV RX7 109 RX7 yX7_isGroup wsX7_isGroup) := goodIn_app (goodIn_of _ (by decide +kernel)) ggX7_is_X7_isGroup
set_option maxRecDepth 20000 in
theorem ggX7_is_X7_isWithin : GoodIn wsX7_is wsX7_isWithin := goodIn_r _ [13, 14, 15, 16, 17, 3, 18, 19, 20, 59, 60, 61, 62, 63, 64, 65, 66, 67, 68, 69] (by decide +kernel) (by decide +kernel)
set_option maxRecDepth 20000 in
theorem gX7_is_X7_isWithin : GoodIn wsX7_is (wsV RX7 123 RX7 yX7_isWithin wsX7_isWithin) := goodIn_app (goodIn_of _ (by decide +kernel)) ggX7_is_X7_isWithin
set_option maxRecDepth 20000 in
theorem ggX7_is_X7_isNormal : GoodIn wsX7_is wsX7_isNormal := goodIn_r _ [24, 25, 26, 27, 28, 29, 3, 30, 31, 32, 33, 34, 14, 19, 20, 35, 36, 37, 38, 15, 16, 17, 18, 39, 40, 41, 42, 43, 44, 45, 46, 47, 48, 49, 50, 51, 52, 53, 54, 55, 56, 57, 58, 59, 60, 61, 62, 63, 64, 65, 66, 67, 68, 69] (by decide +kernel) (by decide +kernel)
set_option maxRecDepth 20000 in
theorem gX7_is_X7_isNormal : GoodIn wsX7_is (wsV RX7 126 RX7 yX7_isNormal wsX7_isNormal) := goodIn_app (goodIn_of _ (by decide +kernel)) ggX7_is_X7_isNormal
theorem dX7_is_0 : decode cX7_is 0 = .ok (.iload_n 1, 1) := by decide +kernel
theorem dX7_is_1 : decode cX7_is 1 = .ok (.iconst 0, 1) := by decide +kernel
theorem dX7_is_2 : decode cX7_is 2 = .ok (.iconst 2, 1) := by decide +kernel
theorem dX7_is_3 : decode cX7_is 3 = .ok (.invokestatic 57, 3) := by decide +kernel
theorem dX7_is_6 : decode cX7_is 6 = .ok (.ifCond .eq 19, 3) := by decide +kernel
theorem dX7_is_9 : decode cX7_is 9 = .ok (.aload_n 0, 1) := by decide +kernel
theorem dX7_is_10 : decode cX7_is 10 = .ok (.iload_n 2, 1) := by decide +kernel
theorem dX7_is_11 : decode cX7_is 11 = .ok (.invokevirtual 109, 3) := by decide +kernel
theorem dX7_is_14 : decode cX7_is 14 = .ok (.ifCond .eq 11, 3) := by decide +kernel
theorem dX7_is_17 : decode cX7_is 17 = .ok (.aload_n 0, 1) := by decide +kernel
theorem dX7_is_18 : decode cX7_is 18 = .ok (.iload_n 3, 1) := by decide +kernel
theorem dX7_is_19 : decode cX7_is 19 = .ok (.invokevirtual 109, 3) := by decide +kernel
theorem dX7_is_22 : decode cX7_is 22 = .ok (.ifCond .ne 6, 3) := by decide +kernel
theorem dX7_is_25 : decode cX7_is 25 = .ok (.bipush (-2), 2) := by decide +kernel
theorem dX7_is_27 : decode cX7_is 27 = .ok (.ireturn, 1) := by decide +kernel
theorem dX7_is_28 : decode cX7_is 28 = .ok (.aload_n 0, 1) := by decide +kernel
theorem dX7_is_29 : decode cX7_is 29 = .ok (.iload_n 2, 1) := by decide +kernel
theorem dX7_is_30 : decode cX7_is 30 = .ok (.iload_n 3, 1) := by decide +kernel
theorem dX7_is_31 : decode cX7_is 31 = .ok (.invokevirtual 123, 3) := by decide +kernel
theorem dX7_is_34 : decode cX7_is 34 = .ok (.ifCond .eq 37, 3) := by decide +kernel
theorem dX7_is_37 : decode cX7_is 37 = .ok (.iload_n 1, 1) := by decide +kernel
theorem dX7_is_38 : decode cX7_is 38 = .ok (.ifCond .eq 29, 3) := by decide +kernel
theorem dX7_is_41 : decode cX7_is 41 = .ok (.iload_n 1, 1) := by decide +kernel
theorem dX7_is_42 : decode cX7_is 42 = .ok (.iconst 1, 1) := by decide +kernel
theorem dX7_is_43 : decode cX7_is 43 = .ok (.if_icmp .ne 15, 3) := by decide +kernel
theorem dX7_is_46 : decode cX7_is 46 = .ok (.aload_n 0, 1) := by decide +kernel
theorem dX7_is_47 : decode cX7_is 47 = .ok (.iload_n 2, 1) := by decide +kernel
theorem dX7_is_48 : decode cX7_is 48 = .ok (.iload_n 3, 1) := by decide +kernel
theorem dX7_is_49 : decode cX7_is 49 = .ok (.invokevirtual 126, 3) := by decide +kernel
theorem dX7_is_52 : decode cX7_is 52 = .ok (.ifCond .eq 19, 3) := by decide +kernel
theorem dX7_is_55 : decode cX7_is 55 = .ok (.goto 12, 3) := by decide +kernel
theorem dX7_is_58 : decode cX7_is 58 = .ok (.aload_n 0, 1) := by decide +kernel
theorem dX7_is_59 : decode cX7_is 59 = .ok (.iload_n 3, 1) := by decide +kernel
theorem dX7_is_60 : decode cX7_is 60 = .ok (.iload_n 2, 1) := by decide +kernel
theorem dX7_is_61 : decode cX7_is 61 = .ok (.invokevirtual 123, 3) := by decide +kernel
theorem dX7_is_64 : decode cX7_is 64 = .ok (.ifCond .eq 7, 3) := by decide +kernel
theorem dX7_is_67 : decode cX7_is 67 = .ok (.iconst 1, 1) := by decide +kernel
theorem dX7_is_68 : decode cX7_is 68 = .ok (.goto 4, 3) := by decide +kernel
theorem dX7_is_71 : decode cX7_is 71 = .ok (.iconst 0, 1) := by decide +kernel
theorem dX7_is_72 : decode cX7_is 72 = .ok (.istore 4, 2) := by decide +kernel
theorem dX7_is_74 : decode cX7_is 74 = .ok (.iload 4, 2) := by decide +kernel
theorem dX7_is_76 : decode cX7_is 76 = .ok (.ifCond .eq 7, 3) := by decide +kernel
theorem dX7_is_79 : decode cX7_is 79 = .ok (.iconst 1, 1) := by decide +kernel
theorem dX7_is_80 : decode cX7_is 80 = .ok (.goto 4, 3) := by decide +kernel
theorem dX7_is_83 : decode cX7_is 83 = .ok (.iconst 0, 1) := by decide +kernel
theorem dX7_is_84 : decode cX7_is 84 = .ok (.ireturn, 1) := by decide +kernel
set_option maxRecDepth 20000 in
theorem ggX7_orbit_X7_isGroup : GoodIn wsX7_orbit wsX7_isGroup := goodIn_r _ [8, 9, 10, 11, 7, 12, 19, 20, 21, 22, 23, 24, 25, 26, 27, 28, 29] (by decide +kernel) (by decide +kernel)
set_option maxRecDepth 20000 in
theorem gX7_orbit_X7_isGroup : GoodIn wsX7_orbit (wsV RX7 109 RX7 yX7_isGroup wsX7_isGroup) := goodIn_app (goodIn_of _ (by decide +kernel)) ggX7_orbit_X7_isGroup
set_option maxRecDepth 20000 in
theorem ggX7_orbit_X7_isIn : GoodIn wsX7_orbit wsX7_isIn := goodIn_r _ [12] (by decide +kernel) (by decide +kernel)
set_option maxRecDepth 20000 in
theorem gX7_orbit_X7_isIn : GoodIn wsX7_orbit (va_wsS RX7 57 yX7_isIn wsX7_isIn) := goodIn_app (goodIn_of _ (by decide +kernel)) ggX7_orbit_X7_isIn
set_option maxRecDepth 20000 in
theorem ggX7_orbit_X7_hasIt : GoodIn wsX7_orbit wsX7_hasIt := goodIn_r _ [16, 17, 18, 19, 20, 21, 22, 23, 24, 25, 26, 27, 28, 29] (by decide +kernel) (by decide +kernel)
set_option maxRecDepth 20000 in
theorem gX7_orbit_X7_hasIt : GoodIn wsX7_orbit (wsV RX7 79 RX7 yX7_hasIt wsX7_hasIt) := goodIn_app (goodIn_of _ (by decide +kernel)) ggX7_orbit_X7_hasIt
theorem dX7_orbit_0 : decode cX7_orbit 0 = .ok (.aload_n 0, 1) := by decide +kernel
theorem dX7_orbit_1 : decode cX7_orbit 1 = .ok (.iload_n 1, 1) := by decide +kernel
theorem dX7_orbit_2 : decode cX7_orbit 2 = .ok (.invokevirtual 109, 3) := by decide +kernel
theorem dX7_orbit_5 : decode cX7_orbit 5 = .ok (.ifCond .eq 17, 3) := by decide +kernel
theorem dX7_orbit_8 : decode cX7_orbit 8 = .ok (.iload_n 2, 1) := by decide +kernel
theorem dX7_orbit_9 : decode cX7_orbit 9 = .ok (.iconst 0, 1) := by decide +kernel
theorem dX7_orbit_10 : decode cX7_orbit 10 = .ok (.aload_n 0, 1) := by decide +kernel
theorem dX7_orbit_11 : decode cX7_orbit 11 = .ok (.getfield 7, 3) := by decide +kernel
theorem dX7_orbit_14 : decode cX7_orbit 14 = .ok (.iconst 1, 1) := by decide +kernel
theorem dX7_orbit_15 : decode cX7_orbit 15 = .ok (.isub, 1) := by decide +kernel
theorem dX7_orbit_16 : decode cX7_orbit 16 = .ok (.invokestatic 57, 3) := by decide +kernel
theorem dX7_orbit_19 : decode cX7_orbit 19 = .ok (.ifCond .ne 6, 3) := by decide +kernel
theorem dX7_orbit_22 : decode cX7_orbit 22 = .ok (.bipush (-2), 2) := by decide +kernel
theorem dX7_orbit_24 : decode cX7_orbit 24 = .ok (.ireturn, 1) := by decide +kernel
theorem dX7_orbit_25 : decode cX7_orbit 25 = .ok (.iconst 0, 1) := by decide +kernel
theorem dX7_orbit_26 : decode cX7_orbit 26 = .ok (.istore_n 3, 1) := by decide +kernel
theorem dX7_orbit_27 : decode cX7_orbit 27 = .ok (.iconst 0, 1) := by decide +kernel
theorem dX7_orbit_28 : decode cX7_orbit 28 = .ok (.istore 4, 2) := by decide +kernel
theorem dX7_orbit_30 : decode cX7_orbit 30 = .ok (.iload 4, 2) := by decide +kernel
theorem dX7_orbit_32 : decode cX7_orbit 32 = .ok (.aload_n 0, 1) := by decide +kernel
theorem dX7_orbit_33 : decode cX7_orbit 33 = .ok (.getfield 46, 3) := by decide +kernel
theorem dX7_orbit_36 : decode cX7_orbit 36 = .ok (.if_icmp .ge 40, 3) := by decide +kernel
theorem dX7_orbit_39 : decode cX7_orbit 39 = .ok (.iload_n 3, 1) := by decide +kernel
theorem dX7_orbit_40 : decode cX7_orbit 40 = .ok (.aload_n 0, 1) := by decide +kernel
theorem dX7_orbit_41 : decode cX7_orbit 41 = .ok (.iload_n 1, 1) := by decide +kernel
theorem dX7_orbit_42 : decode cX7_orbit 42 = .ok (.iload 4, 2) := by decide +kernel
theorem dX7_orbit_44 : decode cX7_orbit 44 = .ok (.invokevirtual 79, 3) := by decide +kernel
theorem dX7_orbit_47 : decode cX7_orbit 47 = .ok (.ifCond .eq 20, 3) := by decide +kernel
theorem dX7_orbit_50 : decode cX7_orbit 50 = .ok (.iconst 1, 1) := by decide +kernel
theorem dX7_orbit_51 : decode cX7_orbit 51 = .ok (.aload_n 0, 1) := by decide +kernel
theorem dX7_orbit_52 : decode cX7_orbit 52 = .ok (.getfield 14, 3) := by decide +kernel
theorem dX7_orbit_55 : decode cX7_orbit 55 = .ok (.bipush 8, 2) := by decide +kernel
theorem dX7_orbit_57 : decode cX7_orbit 57 = .ok (.iload 4, 2) := by decide +kernel
theorem dX7_orbit_59 : decode cX7_orbit 59 = .ok (.imul, 1) := by decide +kernel
theorem dX7_orbit_60 : decode cX7_orbit 60 = .ok (.iload_n 2, 1) := by decide +kernel
theorem dX7_orbit_61 : decode cX7_orbit 61 = .ok (.iadd, 1) := by decide +kernel
theorem dX7_orbit_62 : decode cX7_orbit 62 = .ok (.iaload, 1) := by decide +kernel
theorem dX7_orbit_63 : decode cX7_orbit 63 = .ok (.ishl, 1) := by decide +kernel
theorem dX7_orbit_64 : decode cX7_orbit 64 = .ok (.goto 4, 3) := by decide +kernel
theorem dX7_orbit_67 : decode cX7_orbit 67 = .ok (.iconst 0, 1) := by decide +kernel
theorem dX7_orbit_68 : decode cX7_orbit 68 = .ok (.ior, 1) := by decide +kernel
theorem dX7_orbit_69 : decode cX7_orbit 69 = .ok (.istore_n 3, 1) := by decide +kernel
theorem dX7_orbit_70 : decode cX7_orbit 70 = .ok (.iinc 4 1, 3) := by decide +kernel
theorem dX7_orbit_73 : decode cX7_orbit 73 = .ok (.goto (-43), 3) := by decide +kernel
theorem dX7_orbit_76 : decode cX7_orbit 76 = .ok (.iload_n 3, 1) := by decide +kernel
theorem dX7_orbit_77 : decode cX7_orbit 77 = .ok (.ireturn, 1) := by decide +kernel
set_option maxRecDepth 20000 in
theorem ggX7_block_X7_isGroup : GoodIn wsX7_block wsX7_isGroup := goodIn_r _ [7, 8, 9, 10, 6, 11, 23, 24, 25, 26, 27, 28, 29, 30, 31, 32, 33] (by decide +kernel) (by decide +kernel)
set_option maxRecDepth 20000 in
theorem gX7_block_X7_isGroup : GoodIn wsX7_block (wsV RX7 109 RX7 yX7_isGroup wsX7_isGroup) := goodIn_app (goodIn_of _ (by decide +kernel)) ggX7_block_X7_isGroup
set_option maxRecDepth 20000 in
theorem ggX7_block_X7_isIn : GoodIn wsX7_block wsX7_isIn := goodIn_r _ [11] (by decide +kernel) (by decide +kernel)
set_option maxRecDepth 20000 in
theorem gX7_block_X7_isIn : GoodIn wsX7_block (va_wsS RX7 57 yX7_isIn wsX7_isIn) := goodIn_app (goodIn_of _ (by decide +kernel)) ggX7_block_X7_isIn
set_option maxRecDepth 20000 in
theorem ggX7_block_X7_hasIt : GoodIn wsX7_block wsX7_hasIt := goodIn_r _ [15, 16, 17, 23, 24, 25, 26, 27, 28, 29, 30, 31, 32, 33] (by decide +kernel) (by decide +kernel)
set_option maxRecDepth 20000 in
theorem gX7_block_X7_hasIt : GoodIn wsX7_block (wsV RX7 79 RX7 yX7_hasIt wsX7_hasIt) := goodIn_app (goodIn_of _ (by decide +kernel)) ggX7_block_X7_hasIt
set_option maxRecDepth 20000 in
theorem ggX7_block_X7_setOf : GoodIn wsX7_block wsX7_setOf := goodIn_r _ [21, 1, 22, 23, 24, 25, 26, 27, 28, 29, 30, 31, 32, 33] (by decide +kernel) (by decide +kernel)
set_option maxRecDepth 20000 in
theorem gX7_block_X7_setOf : GoodIn wsX7_block (wsV RX7 113 RX7 yX7_setOf wsX7_setOf) := goodIn_app (goodIn_of _ (by decide +kernel)) ggX7_block_X7_setOf
theorem dX7_block_0 : decode cX7_block 0 = .ok (.aload_n 0, 1) := by decide +kernel
theorem dX7_block_1 : decode cX7_block 1 = .ok (.iload_n 1, 1) := by decide +kernel
theorem dX7_block_2 : decode cX7_block 2 = .ok (.invokevirtual 109, 3) := by decide +kernel
theorem dX7_block_5 : decode cX7_block 5 = .ok (.ifCond .eq 31, 3) := by decide +kernel
theorem dX7_block_8 : decode cX7_block 8 = .ok (.iload_n 2, 1) := by decide +kernel
theorem dX7_block_9 : decode cX7_block 9 = .ok (.iconst 0, 1) := by decide +kernel
theorem dX7_block_10 : decode cX7_block 10 = .ok (.aload_n 0, 1) := by decide +kernel
theorem dX7_block_11 : decode cX7_block 11 = .ok (.getfield 7, 3) := by decide +kernel
theorem dX7_block_14 : decode cX7_block 14 = .ok (.iconst 1, 1) := by decide +kernel
theorem dX7_block_15 : decode cX7_block 15 = .ok (.isub, 1) := by decide +kernel
theorem dX7_block_16 : decode cX7_block 16 = .ok (.invokestatic 57, 3) := by decide +kernel
theorem dX7_block_19 : decode cX7_block 19 = .ok (.ifCond .eq 17, 3) := by decide +kernel
theorem dX7_block_22 : decode cX7_block 22 = .ok (.iload_n 3, 1) := by decide +kernel
theorem dX7_block_23 : decode cX7_block 23 = .ok (.iconst 0, 1) := by decide +kernel
theorem dX7_block_24 : decode cX7_block 24 = .ok (.aload_n 0, 1) := by decide +kernel
theorem dX7_block_25 : decode cX7_block 25 = .ok (.getfield 7, 3) := by decide +kernel
theorem dX7_block_28 : decode cX7_block 28 = .ok (.iconst 1, 1) := by decide +kernel
theorem dX7_block_29 : decode cX7_block 29 = .ok (.isub, 1) := by decide +kernel
theorem dX7_block_30 : decode cX7_block 30 = .ok (.invokestatic 57, 3) := by decide +kernel
theorem dX7_block_33 : decode cX7_block 33 = .ok (.ifCond .ne 6, 3) := by decide +kernel
theorem dX7_block_36 : decode cX7_block 36 = .ok (.bipush (-2), 2) := by decide +kernel
theorem dX7_block_38 : decode cX7_block 38 = .ok (.ireturn, 1) := by decide +kernel
theorem dX7_block_39 : decode cX7_block 39 = .ok (.iconst 1, 1) := by decide +kernel
theorem dX7_block_40 : decode cX7_block 40 = .ok (.iload_n 2, 1) := by decide +kernel
theorem dX7_block_41 : decode cX7_block 41 = .ok (.ishl, 1) := by decide +kernel
theorem dX7_block_42 : decode cX7_block 42 = .ok (.iconst 1, 1) := by decide +kernel
theorem dX7_block_43 : decode cX7_block 43 = .ok (.iload_n 3, 1) := by decide +kernel
theorem dX7_block_44 : decode cX7_block 44 = .ok (.ishl, 1) := by decide +kernel
theorem dX7_block_45 : decode cX7_block 45 = .ok (.ior, 1) := by decide +kernel
theorem dX7_block_46 : decode cX7_block 46 = .ok (.istore 4, 2) := by decide +kernel
theorem dX7_block_48 : decode cX7_block 48 = .ok (.iconst 0, 1) := by decide +kernel
theorem dX7_block_49 : decode cX7_block 49 = .ok (.istore 5, 2) := by decide +kernel
theorem dX7_block_51 : decode cX7_block 51 = .ok (.iload 4, 2) := by decide +kernel
theorem dX7_block_53 : decode cX7_block 53 = .ok (.iload 5, 2) := by decide +kernel
theorem dX7_block_55 : decode cX7_block 55 = .ok (.if_icmp .eq 71, 3) := by decide +kernel
theorem dX7_block_58 : decode cX7_block 58 = .ok (.iload 4, 2) := by decide +kernel
theorem dX7_block_60 : decode cX7_block 60 = .ok (.istore 5, 2) := by decide +kernel
theorem dX7_block_62 : decode cX7_block 62 = .ok (.iconst 0, 1) := by decide +kernel
theorem dX7_block_63 : decode cX7_block 63 = .ok (.istore 6, 2) := by decide +kernel
theorem dX7_block_65 : decode cX7_block 65 = .ok (.iload 6, 2) := by decide +kernel
theorem dX7_block_67 : decode cX7_block 67 = .ok (.aload_n 0, 1) := by decide +kernel
theorem dX7_block_68 : decode cX7_block 68 = .ok (.getfield 46, 3) := by decide +kernel
theorem dX7_block_71 : decode cX7_block 71 = .ok (.if_icmp .ge 52, 3) := by decide +kernel
theorem dX7_block_74 : decode cX7_block 74 = .ok (.aload_n 0, 1) := by decide +kernel
theorem dX7_block_75 : decode cX7_block 75 = .ok (.iload_n 1, 1) := by decide +kernel
theorem dX7_block_76 : decode cX7_block 76 = .ok (.iload 6, 2) := by decide +kernel
theorem dX7_block_78 : decode cX7_block 78 = .ok (.invokevirtual 79, 3) := by decide +kernel
theorem dX7_block_81 : decode cX7_block 81 = .ok (.ifCond .eq 14, 3) := by decide +kernel
theorem dX7_block_84 : decode cX7_block 84 = .ok (.aload_n 0, 1) := by decide +kernel
theorem dX7_block_85 : decode cX7_block 85 = .ok (.iload 6, 2) := by decide +kernel
theorem dX7_block_87 : decode cX7_block 87 = .ok (.iload 4, 2) := by decide +kernel
theorem dX7_block_89 : decode cX7_block 89 = .ok (.invokevirtual 113, 3) := by decide +kernel
theorem dX7_block_92 : decode cX7_block 92 = .ok (.goto 4, 3) := by decide +kernel
theorem dX7_block_95 : decode cX7_block 95 = .ok (.iconst 0, 1) := by decide +kernel
theorem dX7_block_96 : decode cX7_block 96 = .ok (.istore 7, 2) := by decide +kernel
theorem dX7_block_98 : decode cX7_block 98 = .ok (.iload 4, 2) := by decide +kernel
theorem dX7_block_100 : decode cX7_block 100 = .ok (.iload 7, 2) := by decide +kernel
theorem dX7_block_102 : decode cX7_block 102 = .ok (.iload 4, 2) := by decide +kernel
theorem dX7_block_104 : decode cX7_block 104 = .ok (.iand, 1) := by decide +kernel
theorem dX7_block_105 : decode cX7_block 105 = .ok (.ifCond .eq 8, 3) := by decide +kernel
theorem dX7_block_108 : decode cX7_block 108 = .ok (.iload 7, 2) := by decide +kernel
theorem dX7_block_110 : decode cX7_block 110 = .ok (.goto 4, 3) := by decide +kernel
theorem dX7_block_113 : decode cX7_block 113 = .ok (.iconst 0, 1) := by decide +kernel
theorem dX7_block_114 : decode cX7_block 114 = .ok (.ior, 1) := by decide +kernel
theorem dX7_block_115 : decode cX7_block 115 = .ok (.istore 4, 2) := by decide +kernel
theorem dX7_block_117 : decode cX7_block 117 = .ok (.iinc 6 1, 3) := by decide +kernel
theorem dX7_block_120 : decode cX7_block 120 = .ok (.goto (-55), 3) := by decide +kernel
theorem dX7_block_123 : decode cX7_block 123 = .ok (.goto (-72), 3) := by decide +kernel
theorem dX7_block_126 : decode cX7_block 126 = .ok (.iload 4, 2) := by decide +kernel
theorem dX7_block_128 : decode cX7_block 128 = .ok (.ireturn, 1) := by decide +kernel
set_option maxRecDepth 20000 in
theorem ggX7_steps_X7_isGroup : GoodIn wsX7_steps wsX7_isGroup := goodIn_r _ [5, 6, 7, 8, 4, 9, 71, 72, 73, 74, 75, 76, 77, 78, 79, 80, 81] (by decide +kernel) (by decide +kernel)
set_option maxRecDepth 20000 in
theorem gX7_steps_X7_isGroup : GoodIn wsX7_steps (wsV RX7 109 RX7 yX7_isGroup wsX7_isGroup) := goodIn_app (goodIn_of _ (by decide +kernel)) ggX7_steps_X7_isGroup
set_option maxRecDepth 20000 in
theorem ggX7_steps_X7_copy : GoodIn wsX7_steps wsX7_copy := goodIn_r _ [13, 14, 15, 16, 71, 72, 73, 74, 75, 76, 77, 78, 79, 80, 81] (by decide +kernel) (by decide +kernel)
set_option maxRecDepth 20000 in
theorem gX7_steps_X7_copy : GoodIn wsX7_steps (wsV RX7 99 RX7 yX7_copy wsX7_copy) := goodIn_app (goodIn_of _ (by decide +kernel)) ggX7_steps_X7_copy
set_option maxRecDepth 20000 in
theorem ggX7_steps_X7_sizeOf : GoodIn wsX7_steps wsX7_sizeOf := goodIn_r _ [20, 14, 21, 22, 23, 4, 24, 15, 16, 71, 72, 73, 74, 75, 76, 77, 78, 79, 80, 81] (by decide +kernel) (by decide +kernel)
set_option maxRecDepth 20000 in
theorem gX7_steps_X7_sizeOf : GoodIn wsX7_steps (wsV RX7 120 RX7 yX7_sizeOf wsX7_sizeOf) := goodIn_app (goodIn_of _ (by decide +kernel)) ggX7_steps_X7_sizeOf
set_option maxRecDepth 20000 in
theorem ggX7_steps_X7_goDown : GoodIn wsX7_steps wsX7_goDown := goodIn_r _ [28, 29, 30, 31, 32, 33, 4, 34, 35, 36, 37, 38, 14, 15, 16, 39, 40, 41, 42, 21, 22, 23, 24, 43, 44, 45, 46, 47, 48, 49, 50, 51, 52, 53, 54, 55, 56, 57, 58, 59, 60, 61, 62, 63, 64, 65, 66, 67, 68, 69, 70, 71, 72, 73, 74, 75, 76, 77, 78, 79, 80, 81] (by decide +kernel) (by decide +kernel)
set_option maxRecDepth 20000 in
theorem gX7_steps_X7_goDown : GoodIn wsX7_steps (wsV RX7 116 RX7 yX7_goDown wsX7_goDown) := goodIn_app (goodIn_of _ (by decide +kernel)) ggX7_steps_X7_goDown
theorem dX7_steps_0 : decode cX7_steps 0 = .ok (.aload_n 0, 1) := by decide +kernel
theorem dX7_steps_1 : decode cX7_steps 1 = .ok (.iload_n 1, 1) := by decide +kernel
theorem dX7_steps_2 : decode cX7_steps 2 = .ok (.invokevirtual 109, 3) := by decide +kernel
theorem dX7_steps_5 : decode cX7_steps 5 = .ok (.ifCond .ne 6, 3) := by decide +kernel
theorem dX7_steps_8 : decode cX7_steps 8 = .ok (.bipush (-2), 2) := by decide +kernel
theorem dX7_steps_10 : decode cX7_steps 10 = .ok (.ireturn, 1) := by decide +kernel
theorem dX7_steps_11 : decode cX7_steps 11 = .ok (.iconst 0, 1) := by decide +kernel
theorem dX7_steps_12 : decode cX7_steps 12 = .ok (.istore_n 2, 1) := by decide +kernel
theorem dX7_steps_13 : decode cX7_steps 13 = .ok (.aload_n 0, 1) := by decide +kernel
theorem dX7_steps_14 : decode cX7_steps 14 = .ok (.iload_n 1, 1) := by decide +kernel
theorem dX7_steps_15 : decode cX7_steps 15 = .ok (.bipush 12, 2) := by decide +kernel
theorem dX7_steps_17 : decode cX7_steps 17 = .ok (.invokevirtual 99, 3) := by decide +kernel
theorem dX7_steps_20 : decode cX7_steps 20 = .ok (.aload_n 0, 1) := by decide +kernel
theorem dX7_steps_21 : decode cX7_steps 21 = .ok (.bipush 12, 2) := by decide +kernel
theorem dX7_steps_23 : decode cX7_steps 23 = .ok (.invokevirtual 120, 3) := by decide +kernel
theorem dX7_steps_26 : decode cX7_steps 26 = .ok (.istore_n 3, 1) := by decide +kernel
theorem dX7_steps_27 : decode cX7_steps 27 = .ok (.iload_n 3, 1) := by decide +kernel
theorem dX7_steps_28 : decode cX7_steps 28 = .ok (.iconst 1, 1) := by decide +kernel
theorem dX7_steps_29 : decode cX7_steps 29 = .ok (.if_icmp .le 42, 3) := by decide +kernel
theorem dX7_steps_32 : decode cX7_steps 32 = .ok (.aload_n 0, 1) := by decide +kernel
theorem dX7_steps_33 : decode cX7_steps 33 = .ok (.bipush 12, 2) := by decide +kernel
theorem dX7_steps_35 : decode cX7_steps 35 = .ok (.invokevirtual 116, 3) := by decide +kernel
theorem dX7_steps_38 : decode cX7_steps 38 = .ok (.aload_n 0, 1) := by decide +kernel
theorem dX7_steps_39 : decode cX7_steps 39 = .ok (.bipush 11, 2) := by decide +kernel
theorem dX7_steps_41 : decode cX7_steps 41 = .ok (.bipush 12, 2) := by decide +kernel
theorem dX7_steps_43 : decode cX7_steps 43 = .ok (.invokevirtual 99, 3) := by decide +kernel
theorem dX7_steps_46 : decode cX7_steps 46 = .ok (.aload_n 0, 1) := by decide +kernel
theorem dX7_steps_47 : decode cX7_steps 47 = .ok (.bipush 12, 2) := by decide +kernel
theorem dX7_steps_49 : decode cX7_steps 49 = .ok (.invokevirtual 120, 3) := by decide +kernel
theorem dX7_steps_52 : decode cX7_steps 52 = .ok (.istore 4, 2) := by decide +kernel
theorem dX7_steps_54 : decode cX7_steps 54 = .ok (.iload 4, 2) := by decide +kernel
theorem dX7_steps_56 : decode cX7_steps 56 = .ok (.iload_n 3, 1) := by decide +kernel
theorem dX7_steps_57 : decode cX7_steps 57 = .ok (.if_icmp .ne 5, 3) := by decide +kernel
theorem dX7_steps_60 : decode cX7_steps 60 = .ok (.iconst (-1), 1) := by decide +kernel
theorem dX7_steps_61 : decode cX7_steps 61 = .ok (.ireturn, 1) := by decide +kernel
theorem dX7_steps_62 : decode cX7_steps 62 = .ok (.iload 4, 2) := by decide +kernel
theorem dX7_steps_64 : decode cX7_steps 64 = .ok (.istore_n 3, 1) := by decide +kernel
theorem dX7_steps_65 : decode cX7_steps 65 = .ok (.iinc 2 1, 3) := by decide +kernel
theorem dX7_steps_68 : decode cX7_steps 68 = .ok (.goto (-41), 3) := by decide +kernel
theorem dX7_steps_71 : decode cX7_steps 71 = .ok (.iload_n 2, 1) := by decide +kernel
theorem dX7_steps_72 : decode cX7_steps 72 = .ok (.ireturn, 1) := by decide +kernel
theorem dX7_stillIn_0 : decode cX7_stillIn 0 = .ok (.iconst 0, 1) := by decide +kernel
theorem dX7_stillIn_1 : decode cX7_stillIn 1 = .ok (.istore_n 2, 1) := by decide +kernel
theorem dX7_stillIn_2 : decode cX7_stillIn 2 = .ok (.iconst 0, 1) := by decide +kernel
theorem dX7_stillIn_3 : decode cX7_stillIn 3 = .ok (.istore_n 3, 1) := by decide +kernel
theorem dX7_stillIn_4 : decode cX7_stillIn 4 = .ok (.iload_n 3, 1) := by decide +kernel
theorem dX7_stillIn_5 : decode cX7_stillIn 5 = .ok (.aload_n 0, 1) := by decide +kernel
theorem dX7_stillIn_6 : decode cX7_stillIn 6 = .ok (.getfield 7, 3) := by decide +kernel
theorem dX7_stillIn_9 : decode cX7_stillIn 9 = .ok (.if_icmp .ge 32, 3) := by decide +kernel
theorem dX7_stillIn_12 : decode cX7_stillIn 12 = .ok (.iload_n 2, 1) := by decide +kernel
theorem dX7_stillIn_13 : decode cX7_stillIn 13 = .ok (.aload_n 0, 1) := by decide +kernel
theorem dX7_stillIn_14 : decode cX7_stillIn 14 = .ok (.getfield 14, 3) := by decide +kernel
theorem dX7_stillIn_17 : decode cX7_stillIn 17 = .ok (.bipush 8, 2) := by decide +kernel
theorem dX7_stillIn_19 : decode cX7_stillIn 19 = .ok (.iload_n 1, 1) := by decide +kernel
theorem dX7_stillIn_20 : decode cX7_stillIn 20 = .ok (.imul, 1) := by decide +kernel
theorem dX7_stillIn_21 : decode cX7_stillIn 21 = .ok (.iload_n 3, 1) := by decide +kernel
theorem dX7_stillIn_22 : decode cX7_stillIn 22 = .ok (.iadd, 1) := by decide +kernel
theorem dX7_stillIn_23 : decode cX7_stillIn 23 = .ok (.iaload, 1) := by decide +kernel
theorem dX7_stillIn_24 : decode cX7_stillIn 24 = .ok (.iload_n 3, 1) := by decide +kernel
theorem dX7_stillIn_25 : decode cX7_stillIn 25 = .ok (.if_icmp .ne 7, 3) := by decide +kernel
theorem dX7_stillIn_28 : decode cX7_stillIn 28 = .ok (.iconst 1, 1) := by decide +kernel
theorem dX7_stillIn_29 : decode cX7_stillIn 29 = .ok (.goto 4, 3) := by decide +kernel
theorem dX7_stillIn_32 : decode cX7_stillIn 32 = .ok (.iconst 0, 1) := by decide +kernel
theorem dX7_stillIn_33 : decode cX7_stillIn 33 = .ok (.iadd, 1) := by decide +kernel
theorem dX7_stillIn_34 : decode cX7_stillIn 34 = .ok (.istore_n 2, 1) := by decide +kernel
theorem dX7_stillIn_35 : decode cX7_stillIn 35 = .ok (.iinc 3 1, 3) := by decide +kernel
theorem dX7_stillIn_38 : decode cX7_stillIn 38 = .ok (.goto (-34), 3) := by decide +kernel
theorem dX7_stillIn_41 : decode cX7_stillIn 41 = .ok (.iload_n 2, 1) := by decide +kernel
theorem dX7_stillIn_42 : decode cX7_stillIn 42 = .ok (.ireturn, 1) := by decide +kernel
set_option maxRecDepth 20000 in
theorem ggX7_still_X7_isGroup : GoodIn wsX7_still wsX7_isGroup := goodIn_r _ [7, 8, 9, 10, 6, 11, 23, 24, 25, 26, 27, 28, 29, 30, 31, 32, 33] (by decide +kernel) (by decide +kernel)
set_option maxRecDepth 20000 in
theorem gX7_still_X7_isGroup : GoodIn wsX7_still (wsV RX7 109 RX7 yX7_isGroup wsX7_isGroup) := goodIn_app (goodIn_of _ (by decide +kernel)) ggX7_still_X7_isGroup
set_option maxRecDepth 20000 in
theorem ggX7_still_X7_isIn : GoodIn wsX7_still wsX7_isIn := goodIn_r _ [11] (by decide +kernel) (by decide +kernel)
set_option maxRecDepth 20000 in
theorem gX7_still_X7_isIn : GoodIn wsX7_still (va_wsS RX7 57 yX7_isIn wsX7_isIn) := goodIn_app (goodIn_of _ (by decide +kernel)) ggX7_still_X7_isIn
set_option maxRecDepth 20000 in
theorem ggX7_still_X7_hasIt : GoodIn wsX7_still wsX7_hasIt := goodIn_r _ [15, 16, 17, 23, 24, 25, 26, 27, 28, 29, 30, 31, 32, 33] (by decide +kernel) (by decide +kernel)
set_option maxRecDepth 20000 in
theorem gX7_still_X7_hasIt : GoodIn wsX7_still (wsV RX7 79 RX7 yX7_hasIt wsX7_hasIt) := goodIn_app (goodIn_of _ (by decide +kernel)) ggX7_still_X7_hasIt
set_option maxRecDepth 20000 in
theorem ggX7_still_X7_stillIn : GoodIn wsX7_still wsX7_stillIn := goodIn_r _ [21, 1, 22, 23, 24, 25, 26, 27, 28, 29, 30, 31, 32, 33] (by decide +kernel) (by decide +kernel)
set_option maxRecDepth 20000 in
theorem gX7_still_X7_stillIn : GoodIn wsX7_still (wsV RX7 129 RX7 yX7_stillIn wsX7_stillIn) := goodIn_app (goodIn_of _ (by decide +kernel)) ggX7_still_X7_stillIn
theorem dX7_still_0 : decode cX7_still 0 = .ok (.aload_n 0, 1) := by decide +kernel
theorem dX7_still_1 : decode cX7_still 1 = .ok (.iload_n 1, 1) := by decide +kernel
theorem dX7_still_2 : decode cX7_still 2 = .ok (.invokevirtual 109, 3) := by decide +kernel
theorem dX7_still_5 : decode cX7_still 5 = .ok (.ifCond .eq 15, 3) := by decide +kernel
theorem dX7_still_8 : decode cX7_still 8 = .ok (.iload_n 2, 1) := by decide +kernel
theorem dX7_still_9 : decode cX7_still 9 = .ok (.iconst 0, 1) := by decide +kernel
theorem dX7_still_10 : decode cX7_still 10 = .ok (.aload_n 0, 1) := by decide +kernel
theorem dX7_still_11 : decode cX7_still 11 = .ok (.getfield 7, 3) := by decide +kernel
theorem dX7_still_14 : decode cX7_still 14 = .ok (.invokestatic 57, 3) := by decide +kernel
theorem dX7_still_17 : decode cX7_still 17 = .ok (.ifCond .ne 6, 3) := by decide +kernel
theorem dX7_still_20 : decode cX7_still 20 = .ok (.bipush (-2), 2) := by decide +kernel
theorem dX7_still_22 : decode cX7_still 22 = .ok (.ireturn, 1) := by decide +kernel
theorem dX7_still_23 : decode cX7_still 23 = .ok (.iconst 0, 1) := by decide +kernel
theorem dX7_still_24 : decode cX7_still 24 = .ok (.istore_n 3, 1) := by decide +kernel
theorem dX7_still_25 : decode cX7_still 25 = .ok (.iconst 0, 1) := by decide +kernel
theorem dX7_still_26 : decode cX7_still 26 = .ok (.istore 4, 2) := by decide +kernel
theorem dX7_still_28 : decode cX7_still 28 = .ok (.iload 4, 2) := by decide +kernel
theorem dX7_still_30 : decode cX7_still 30 = .ok (.aload_n 0, 1) := by decide +kernel
theorem dX7_still_31 : decode cX7_still 31 = .ok (.getfield 46, 3) := by decide +kernel
theorem dX7_still_34 : decode cX7_still 34 = .ok (.if_icmp .ge 37, 3) := by decide +kernel
theorem dX7_still_37 : decode cX7_still 37 = .ok (.iload_n 3, 1) := by decide +kernel
theorem dX7_still_38 : decode cX7_still 38 = .ok (.aload_n 0, 1) := by decide +kernel
theorem dX7_still_39 : decode cX7_still 39 = .ok (.iload_n 1, 1) := by decide +kernel
theorem dX7_still_40 : decode cX7_still 40 = .ok (.iload 4, 2) := by decide +kernel
theorem dX7_still_42 : decode cX7_still 42 = .ok (.invokevirtual 79, 3) := by decide +kernel
theorem dX7_still_45 : decode cX7_still 45 = .ok (.ifCond .eq 17, 3) := by decide +kernel
theorem dX7_still_48 : decode cX7_still 48 = .ok (.aload_n 0, 1) := by decide +kernel
theorem dX7_still_49 : decode cX7_still 49 = .ok (.iload 4, 2) := by decide +kernel
theorem dX7_still_51 : decode cX7_still 51 = .ok (.invokevirtual 129, 3) := by decide +kernel
theorem dX7_still_54 : decode cX7_still 54 = .ok (.iload_n 2, 1) := by decide +kernel
theorem dX7_still_55 : decode cX7_still 55 = .ok (.if_icmp .ne 7, 3) := by decide +kernel
theorem dX7_still_58 : decode cX7_still 58 = .ok (.iconst 1, 1) := by decide +kernel
theorem dX7_still_59 : decode cX7_still 59 = .ok (.goto 4, 3) := by decide +kernel
theorem dX7_still_62 : decode cX7_still 62 = .ok (.iconst 0, 1) := by decide +kernel
theorem dX7_still_63 : decode cX7_still 63 = .ok (.iadd, 1) := by decide +kernel
theorem dX7_still_64 : decode cX7_still 64 = .ok (.istore_n 3, 1) := by decide +kernel
theorem dX7_still_65 : decode cX7_still 65 = .ok (.iinc 4 1, 3) := by decide +kernel
theorem dX7_still_68 : decode cX7_still 68 = .ok (.goto (-40), 3) := by decide +kernel
theorem dX7_still_71 : decode cX7_still 71 = .ok (.iload_n 3, 1) := by decide +kernel
theorem dX7_still_72 : decode cX7_still 72 = .ok (.ireturn, 1) := by decide +kernel
set_option maxRecDepth 20000 in
theorem ggX7_element_X7_isGroup : GoodIn wsX7_element wsX7_isGroup := goodIn_r _ [7, 8, 9, 10, 6, 11, 18, 19, 20, 21, 22, 23, 24, 25, 26, 27, 28] (by decide +kernel) (by decide +kernel)
set_option maxRecDepth 20000 in
theorem gX7_element_X7_isGroup : GoodIn wsX7_element (wsV RX7 109 RX7 yX7_isGroup wsX7_isGroup) := goodIn_app (goodIn_of _ (by decide +kernel)) ggX7_element_X7_isGroup
set_option maxRecDepth 20000 in
theorem ggX7_element_X7_hasIt : GoodIn wsX7_element wsX7_hasIt := goodIn_r _ [15, 16, 17, 18, 19, 20, 21, 22, 23, 24, 25, 26, 27, 28] (by decide +kernel) (by decide +kernel)
set_option maxRecDepth 20000 in
theorem gX7_element_X7_hasIt : GoodIn wsX7_element (wsV RX7 79 RX7 yX7_hasIt wsX7_hasIt) := goodIn_app (goodIn_of _ (by decide +kernel)) ggX7_element_X7_hasIt
theorem dX7_element_0 : decode cX7_element 0 = .ok (.aload_n 0, 1) := by decide +kernel
theorem dX7_element_1 : decode cX7_element 1 = .ok (.iload_n 1, 1) := by decide +kernel
theorem dX7_element_2 : decode cX7_element 2 = .ok (.invokevirtual 109, 3) := by decide +kernel
theorem dX7_element_5 : decode cX7_element 5 = .ok (.ifCond .eq 7, 3) := by decide +kernel
theorem dX7_element_8 : decode cX7_element 8 = .ok (.iload_n 2, 1) := by decide +kernel
theorem dX7_element_9 : decode cX7_element 9 = .ok (.ifCond .ge 6, 3) := by decide +kernel
theorem dX7_element_12 : decode cX7_element 12 = .ok (.bipush (-2), 2) := by decide +kernel
theorem dX7_element_14 : decode cX7_element 14 = .ok (.ireturn, 1) := by decide +kernel
theorem dX7_element_15 : decode cX7_element 15 = .ok (.iload_n 2, 1) := by decide +kernel
theorem dX7_element_16 : decode cX7_element 16 = .ok (.istore_n 3, 1) := by decide +kernel
theorem dX7_element_17 : decode cX7_element 17 = .ok (.iconst 0, 1) := by decide +kernel
theorem dX7_element_18 : decode cX7_element 18 = .ok (.istore 4, 2) := by decide +kernel
theorem dX7_element_20 : decode cX7_element 20 = .ok (.iload 4, 2) := by decide +kernel
theorem dX7_element_22 : decode cX7_element 22 = .ok (.aload_n 0, 1) := by decide +kernel
theorem dX7_element_23 : decode cX7_element 23 = .ok (.getfield 46, 3) := by decide +kernel
theorem dX7_element_26 : decode cX7_element 26 = .ok (.if_icmp .ge 34, 3) := by decide +kernel
theorem dX7_element_29 : decode cX7_element 29 = .ok (.aload_n 0, 1) := by decide +kernel
theorem dX7_element_30 : decode cX7_element 30 = .ok (.iload_n 1, 1) := by decide +kernel
theorem dX7_element_31 : decode cX7_element 31 = .ok (.iload 4, 2) := by decide +kernel
theorem dX7_element_33 : decode cX7_element 33 = .ok (.invokevirtual 79, 3) := by decide +kernel
theorem dX7_element_36 : decode cX7_element 36 = .ok (.ifCond .eq 18, 3) := by decide +kernel
theorem dX7_element_39 : decode cX7_element 39 = .ok (.iload_n 3, 1) := by decide +kernel
theorem dX7_element_40 : decode cX7_element 40 = .ok (.ifCond .ne 11, 3) := by decide +kernel
theorem dX7_element_43 : decode cX7_element 43 = .ok (.aload_n 0, 1) := by decide +kernel
theorem dX7_element_44 : decode cX7_element 44 = .ok (.iload 4, 2) := by decide +kernel
theorem dX7_element_46 : decode cX7_element 46 = .ok (.putfield 64, 3) := by decide +kernel
theorem dX7_element_49 : decode cX7_element 49 = .ok (.iconst 1, 1) := by decide +kernel
theorem dX7_element_50 : decode cX7_element 50 = .ok (.ireturn, 1) := by decide +kernel
theorem dX7_element_51 : decode cX7_element 51 = .ok (.iinc 3 (-1), 3) := by decide +kernel
theorem dX7_element_54 : decode cX7_element 54 = .ok (.iinc 4 1, 3) := by decide +kernel
theorem dX7_element_57 : decode cX7_element 57 = .ok (.goto (-37), 3) := by decide +kernel
theorem dX7_element_60 : decode cX7_element 60 = .ok (.bipush (-2), 2) := by decide +kernel
theorem dX7_element_62 : decode cX7_element 62 = .ok (.ireturn, 1) := by decide +kernel
set_option maxRecDepth 20000 in
theorem ggX7_place_X7_isGroup : GoodIn wsX7_place wsX7_isGroup := goodIn_r _ [6, 7, 8, 9, 5, 10, 17, 18, 19, 20, 21, 22, 23, 24, 25, 26, 27] (by decide +kernel) (by decide +kernel)
set_option maxRecDepth 20000 in
theorem gX7_place_X7_isGroup : GoodIn wsX7_place (wsV RX7 109 RX7 yX7_isGroup wsX7_isGroup) := goodIn_app (goodIn_of _ (by decide +kernel)) ggX7_place_X7_isGroup
set_option maxRecDepth 20000 in
theorem ggX7_place_X7_hasIt : GoodIn wsX7_place wsX7_hasIt := goodIn_r _ [14, 15, 16, 17, 18, 19, 20, 21, 22, 23, 24, 25, 26, 27] (by decide +kernel) (by decide +kernel)
set_option maxRecDepth 20000 in
theorem gX7_place_X7_hasIt : GoodIn wsX7_place (wsV RX7 79 RX7 yX7_hasIt wsX7_hasIt) := goodIn_app (goodIn_of _ (by decide +kernel)) ggX7_place_X7_hasIt
theorem dX7_place_0 : decode cX7_place 0 = .ok (.aload_n 0, 1) := by decide +kernel
theorem dX7_place_1 : decode cX7_place 1 = .ok (.iload_n 1, 1) := by decide +kernel
theorem dX7_place_2 : decode cX7_place 2 = .ok (.invokevirtual 109, 3) := by decide +kernel
theorem dX7_place_5 : decode cX7_place 5 = .ok (.ifCond .ne 6, 3) := by decide +kernel
theorem dX7_place_8 : decode cX7_place 8 = .ok (.bipush (-2), 2) := by decide +kernel
theorem dX7_place_10 : decode cX7_place 10 = .ok (.ireturn, 1) := by decide +kernel
theorem dX7_place_11 : decode cX7_place 11 = .ok (.iconst 0, 1) := by decide +kernel
theorem dX7_place_12 : decode cX7_place 12 = .ok (.istore_n 2, 1) := by decide +kernel
theorem dX7_place_13 : decode cX7_place 13 = .ok (.iconst 0, 1) := by decide +kernel
theorem dX7_place_14 : decode cX7_place 14 = .ok (.istore_n 3, 1) := by decide +kernel
theorem dX7_place_15 : decode cX7_place 15 = .ok (.iload_n 3, 1) := by decide +kernel
theorem dX7_place_16 : decode cX7_place 16 = .ok (.aload_n 0, 1) := by decide +kernel
theorem dX7_place_17 : decode cX7_place 17 = .ok (.getfield 64, 3) := by decide +kernel
theorem dX7_place_20 : decode cX7_place 20 = .ok (.if_icmp .ge 26, 3) := by decide +kernel
theorem dX7_place_23 : decode cX7_place 23 = .ok (.iload_n 2, 1) := by decide +kernel
theorem dX7_place_24 : decode cX7_place 24 = .ok (.aload_n 0, 1) := by decide +kernel
theorem dX7_place_25 : decode cX7_place 25 = .ok (.iload_n 1, 1) := by decide +kernel
theorem dX7_place_26 : decode cX7_place 26 = .ok (.iload_n 3, 1) := by decide +kernel
theorem dX7_place_27 : decode cX7_place 27 = .ok (.invokevirtual 79, 3) := by decide +kernel
theorem dX7_place_30 : decode cX7_place 30 = .ok (.ifCond .eq 7, 3) := by decide +kernel
theorem dX7_place_33 : decode cX7_place 33 = .ok (.iconst 1, 1) := by decide +kernel
theorem dX7_place_34 : decode cX7_place 34 = .ok (.goto 4, 3) := by decide +kernel
theorem dX7_place_37 : decode cX7_place 37 = .ok (.iconst 0, 1) := by decide +kernel
theorem dX7_place_38 : decode cX7_place 38 = .ok (.iadd, 1) := by decide +kernel
theorem dX7_place_39 : decode cX7_place 39 = .ok (.istore_n 2, 1) := by decide +kernel
theorem dX7_place_40 : decode cX7_place 40 = .ok (.iinc 3 1, 3) := by decide +kernel
theorem dX7_place_43 : decode cX7_place 43 = .ok (.goto (-28), 3) := by decide +kernel
theorem dX7_place_46 : decode cX7_place 46 = .ok (.iload_n 2, 1) := by decide +kernel
theorem dX7_place_47 : decode cX7_place 47 = .ok (.ireturn, 1) := by decide +kernel
set_option maxRecDepth 20000 in
theorem ggX7_carry_X7_isGroup : GoodIn wsX7_carry wsX7_isGroup := goodIn_r _ [8, 9, 10, 11, 7, 12, 24, 25, 26, 27, 28, 29, 30, 31, 32, 33, 34] (by decide +kernel) (by decide +kernel)
set_option maxRecDepth 20000 in
theorem gX7_carry_X7_isGroup : GoodIn wsX7_carry (wsV RX7 109 RX7 yX7_isGroup wsX7_isGroup) := goodIn_app (goodIn_of _ (by decide +kernel)) ggX7_carry_X7_isGroup
set_option maxRecDepth 20000 in
theorem ggX7_carry_X7_isIn : GoodIn wsX7_carry wsX7_isIn := goodIn_r _ [12] (by decide +kernel) (by decide +kernel)
set_option maxRecDepth 20000 in
theorem gX7_carry_X7_isIn : GoodIn wsX7_carry (va_wsS RX7 57 yX7_isIn wsX7_isIn) := goodIn_app (goodIn_of _ (by decide +kernel)) ggX7_carry_X7_isIn
set_option maxRecDepth 20000 in
theorem ggX7_carry_X7_hasIt : GoodIn wsX7_carry wsX7_hasIt := goodIn_r _ [16, 17, 18, 24, 25, 26, 27, 28, 29, 30, 31, 32, 33, 34] (by decide +kernel) (by decide +kernel)
set_option maxRecDepth 20000 in
theorem gX7_carry_X7_hasIt : GoodIn wsX7_carry (wsV RX7 79 RX7 yX7_hasIt wsX7_hasIt) := goodIn_app (goodIn_of _ (by decide +kernel)) ggX7_carry_X7_hasIt
set_option maxRecDepth 20000 in
theorem ggX7_carry_X7_setOf : GoodIn wsX7_carry wsX7_setOf := goodIn_r _ [22, 1, 23, 24, 25, 26, 27, 28, 29, 30, 31, 32, 33, 34] (by decide +kernel) (by decide +kernel)
set_option maxRecDepth 20000 in
theorem gX7_carry_X7_setOf : GoodIn wsX7_carry (wsV RX7 113 RX7 yX7_setOf wsX7_setOf) := goodIn_app (goodIn_of _ (by decide +kernel)) ggX7_carry_X7_setOf
theorem dX7_carry_0 : decode cX7_carry 0 = .ok (.iconst 1, 1) := by decide +kernel
theorem dX7_carry_1 : decode cX7_carry 1 = .ok (.aload_n 0, 1) := by decide +kernel
theorem dX7_carry_2 : decode cX7_carry 2 = .ok (.getfield 7, 3) := by decide +kernel
theorem dX7_carry_5 : decode cX7_carry 5 = .ok (.ishl, 1) := by decide +kernel
theorem dX7_carry_6 : decode cX7_carry 6 = .ok (.iconst 1, 1) := by decide +kernel
theorem dX7_carry_7 : decode cX7_carry 7 = .ok (.isub, 1) := by decide +kernel
theorem dX7_carry_8 : decode cX7_carry 8 = .ok (.istore 4, 2) := by decide +kernel
theorem dX7_carry_10 : decode cX7_carry 10 = .ok (.aload_n 0, 1) := by decide +kernel
theorem dX7_carry_11 : decode cX7_carry 11 = .ok (.iload_n 1, 1) := by decide +kernel
theorem dX7_carry_12 : decode cX7_carry 12 = .ok (.invokevirtual 109, 3) := by decide +kernel
theorem dX7_carry_15 : decode cX7_carry 15 = .ok (.ifCond .eq 23, 3) := by decide +kernel
theorem dX7_carry_18 : decode cX7_carry 18 = .ok (.iload_n 2, 1) := by decide +kernel
theorem dX7_carry_19 : decode cX7_carry 19 = .ok (.iconst 0, 1) := by decide +kernel
theorem dX7_carry_20 : decode cX7_carry 20 = .ok (.iload 4, 2) := by decide +kernel
theorem dX7_carry_22 : decode cX7_carry 22 = .ok (.invokestatic 57, 3) := by decide +kernel
theorem dX7_carry_25 : decode cX7_carry 25 = .ok (.ifCond .eq 13, 3) := by decide +kernel
theorem dX7_carry_28 : decode cX7_carry 28 = .ok (.iload_n 3, 1) := by decide +kernel
theorem dX7_carry_29 : decode cX7_carry 29 = .ok (.iconst 0, 1) := by decide +kernel
theorem dX7_carry_30 : decode cX7_carry 30 = .ok (.iload 4, 2) := by decide +kernel
theorem dX7_carry_32 : decode cX7_carry 32 = .ok (.invokestatic 57, 3) := by decide +kernel
theorem dX7_carry_35 : decode cX7_carry 35 = .ok (.ifCond .ne 6, 3) := by decide +kernel
theorem dX7_carry_38 : decode cX7_carry 38 = .ok (.bipush (-2), 2) := by decide +kernel
theorem dX7_carry_40 : decode cX7_carry 40 = .ok (.ireturn, 1) := by decide +kernel
theorem dX7_carry_41 : decode cX7_carry 41 = .ok (.iconst 0, 1) := by decide +kernel
theorem dX7_carry_42 : decode cX7_carry 42 = .ok (.istore 5, 2) := by decide +kernel
theorem dX7_carry_44 : decode cX7_carry 44 = .ok (.iload 5, 2) := by decide +kernel
theorem dX7_carry_46 : decode cX7_carry 46 = .ok (.aload_n 0, 1) := by decide +kernel
theorem dX7_carry_47 : decode cX7_carry 47 = .ok (.getfield 46, 3) := by decide +kernel
theorem dX7_carry_50 : decode cX7_carry 50 = .ok (.if_icmp .ge 38, 3) := by decide +kernel
theorem dX7_carry_53 : decode cX7_carry 53 = .ok (.aload_n 0, 1) := by decide +kernel
theorem dX7_carry_54 : decode cX7_carry 54 = .ok (.iload_n 1, 1) := by decide +kernel
theorem dX7_carry_55 : decode cX7_carry 55 = .ok (.iload 5, 2) := by decide +kernel
theorem dX7_carry_57 : decode cX7_carry 57 = .ok (.invokevirtual 79, 3) := by decide +kernel
theorem dX7_carry_60 : decode cX7_carry 60 = .ok (.ifCond .eq 22, 3) := by decide +kernel
theorem dX7_carry_63 : decode cX7_carry 63 = .ok (.aload_n 0, 1) := by decide +kernel
theorem dX7_carry_64 : decode cX7_carry 64 = .ok (.iload 5, 2) := by decide +kernel
theorem dX7_carry_66 : decode cX7_carry 66 = .ok (.iload_n 2, 1) := by decide +kernel
theorem dX7_carry_67 : decode cX7_carry 67 = .ok (.invokevirtual 113, 3) := by decide +kernel
theorem dX7_carry_70 : decode cX7_carry 70 = .ok (.iload_n 3, 1) := by decide +kernel
theorem dX7_carry_71 : decode cX7_carry 71 = .ok (.if_icmp .ne 11, 3) := by decide +kernel
theorem dX7_carry_74 : decode cX7_carry 74 = .ok (.aload_n 0, 1) := by decide +kernel
theorem dX7_carry_75 : decode cX7_carry 75 = .ok (.iload 5, 2) := by decide +kernel
theorem dX7_carry_77 : decode cX7_carry 77 = .ok (.putfield 64, 3) := by decide +kernel
theorem dX7_carry_80 : decode cX7_carry 80 = .ok (.iconst 1, 1) := by decide +kernel
theorem dX7_carry_81 : decode cX7_carry 81 = .ok (.ireturn, 1) := by decide +kernel
theorem dX7_carry_82 : decode cX7_carry 82 = .ok (.iinc 5 1, 3) := by decide +kernel
theorem dX7_carry_85 : decode cX7_carry 85 = .ok (.goto (-41), 3) := by decide +kernel
theorem dX7_carry_88 : decode cX7_carry 88 = .ok (.iconst (-1), 1) := by decide +kernel
theorem dX7_carry_89 : decode cX7_carry 89 = .ok (.ireturn, 1) := by decide +kernel
set_option maxRecDepth 20000 in
theorem ggX7_count_X7_stillIn : GoodIn wsX7_count wsX7_stillIn := goodIn_r _ [8, 1, 9, 14, 15, 16, 17, 18, 19, 20, 21, 22, 23, 24] (by decide +kernel) (by decide +kernel)
set_option maxRecDepth 20000 in
theorem gX7_count_X7_stillIn : GoodIn wsX7_count (wsV RX7 129 RX7 yX7_stillIn wsX7_stillIn) := goodIn_app (goodIn_of _ (by decide +kernel)) ggX7_count_X7_stillIn
set_option maxRecDepth 20000 in
theorem ggX7_count_X7_isEven : GoodIn wsX7_count wsX7_isEven := goodIn_r _ [13, 1, 9, 14, 15, 16, 17, 18, 19, 20, 21, 22, 23, 24] (by decide +kernel) (by decide +kernel)
set_option maxRecDepth 20000 in
theorem gX7_count_X7_isEven : GoodIn wsX7_count (wsV RX7 102 RX7 yX7_isEven wsX7_isEven) := goodIn_app (goodIn_of _ (by decide +kernel)) ggX7_count_X7_isEven
theorem dX7_count_0 : decode cX7_count 0 = .ok (.iload_n 1, 1) := by decide +kernel
theorem dX7_count_1 : decode cX7_count 1 = .ok (.tableswitch 67 0 3 #[31, 36, 41, 50], 31) := by decide +kernel
theorem dX7_count_32 : decode cX7_count 32 = .ok (.aload_n 0, 1) := by decide +kernel
theorem dX7_count_33 : decode cX7_count 33 = .ok (.getfield 7, 3) := by decide +kernel
theorem dX7_count_36 : decode cX7_count 36 = .ok (.ireturn, 1) := by decide +kernel
theorem dX7_count_37 : decode cX7_count 37 = .ok (.aload_n 0, 1) := by decide +kernel
theorem dX7_count_38 : decode cX7_count 38 = .ok (.getfield 61, 3) := by decide +kernel
theorem dX7_count_41 : decode cX7_count 41 = .ok (.ireturn, 1) := by decide +kernel
theorem dX7_count_42 : decode cX7_count 42 = .ok (.aload_n 0, 1) := by decide +kernel
theorem dX7_count_43 : decode cX7_count 43 = .ok (.aload_n 0, 1) := by decide +kernel
theorem dX7_count_44 : decode cX7_count 44 = .ok (.getfield 64, 3) := by decide +kernel
theorem dX7_count_47 : decode cX7_count 47 = .ok (.invokevirtual 129, 3) := by decide +kernel
theorem dX7_count_50 : decode cX7_count 50 = .ok (.ireturn, 1) := by decide +kernel
theorem dX7_count_51 : decode cX7_count 51 = .ok (.aload_n 0, 1) := by decide +kernel
theorem dX7_count_52 : decode cX7_count 52 = .ok (.aload_n 0, 1) := by decide +kernel
theorem dX7_count_53 : decode cX7_count 53 = .ok (.getfield 64, 3) := by decide +kernel
theorem dX7_count_56 : decode cX7_count 56 = .ok (.invokevirtual 102, 3) := by decide +kernel
theorem dX7_count_59 : decode cX7_count 59 = .ok (.ifCond .eq 7, 3) := by decide +kernel
theorem dX7_count_62 : decode cX7_count 62 = .ok (.iconst 1, 1) := by decide +kernel
theorem dX7_count_63 : decode cX7_count 63 = .ok (.goto 4, 3) := by decide +kernel
theorem dX7_count_66 : decode cX7_count 66 = .ok (.iconst 0, 1) := by decide +kernel
theorem dX7_count_67 : decode cX7_count 67 = .ok (.ireturn, 1) := by decide +kernel
theorem dX7_count_68 : decode cX7_count 68 = .ok (.bipush (-2), 2) := by decide +kernel
theorem dX7_count_70 : decode cX7_count 70 = .ok (.ireturn, 1) := by decide +kernel
end
section
/-! the words of the mirrors: a guard, a step that may fail, a named value -/
def gd {α : Type} (b : Bool) (x : Option α) : Option α := if b = true then x else none
theorem gd_el {α : Type} {b : Bool} {x : Option α} {r : α} (h : gd b x = some r) : b = true ∧ x = some r := by
  unfold gd at h
  split at h
  · exact ⟨by assumption, h⟩
  · cases h
theorem gd_t {α : Type} {b : Bool} {x : Option α} (h : b = true) : gd b x = x := by rw [gd, if_pos h]
def bd {α β : Type} (x : Option α) (f : α → Option β) : Option β := match x with
  | none => none
  | some a => f a
theorem bd_el {α β : Type} {x : Option α} {f : α → Option β} {r : β} (h : bd x f = some r) : ∃ a, x = some a ∧ f a = some r := by
  cases x with
  | none => cases h
  | some a => exact ⟨a, rfl, h⟩
theorem bd_s {α β : Type} {a : α} {f : α → Option β} : bd (some a) f = f a := rfl
theorem bd_e {α β : Type} {x : Option α} {a : α} {f : α → Option β} (h : x = some a) : bd x f = f a := by rw [h]; rfl
def bd2 {α β γ : Type} (x : Option (α × β)) (f : α → β → Option γ) : Option γ := match x with
  | none => none
  | some (a, b) => f a b
theorem bd2_el {α β γ : Type} {x : Option (α × β)} {f : α → β → Option γ} {r : γ} (h : bd2 x f = some r) : ∃ a b, x = some (a, b) ∧ f a b = some r := by
  cases x with
  | none => cases h
  | some a => exact ⟨a.1, a.2, rfl, h⟩
theorem bd2_e {α β γ : Type} {x : Option (α × β)} {a : α} {b : β} {f : α → β → Option γ} (h : x = some (a, b)) : bd2 x f = f a b := by rw [h]; rfl
def bd3 {α β γ δ : Type} (x : Option (α × β × γ)) (f : α → β → γ → Option δ) : Option δ := match x with
  | none => none
  | some (a, b, c) => f a b c
theorem bd3_el {α β γ δ : Type} {x : Option (α × β × γ)} {f : α → β → γ → Option δ} {r : δ} (h : bd3 x f = some r) : ∃ a b c, x = some (a, b, c) ∧ f a b c = some r := by
  cases x with
  | none => cases h
  | some a => exact ⟨a.1, a.2.1, a.2.2, rfl, h⟩
theorem bd3_e {α β γ δ : Type} {x : Option (α × β × γ)} {a : α} {b : β} {c : γ} {f : α → β → γ → Option δ} (h : x = some (a, b, c)) : bd3 x f = f a b c := by rw [h]; rfl
def bd4 {α β γ δ ε : Type} (x : Option (α × β × γ × δ)) (f : α → β → γ → δ → Option ε) : Option ε := match x with
  | none => none
  | some (a, b, c, d) => f a b c d
theorem bd4_el {α β γ δ ε : Type} {x : Option (α × β × γ × δ)} {f : α → β → γ → δ → Option ε} {r : ε} (h : bd4 x f = some r) : ∃ a b c d, x = some (a, b, c, d) ∧ f a b c d = some r := by
  cases x with
  | none => cases h
  | some a => exact ⟨a.1, a.2.1, a.2.2.1, a.2.2.2, rfl, h⟩
theorem bd4_e {α β γ δ ε : Type} {x : Option (α × β × γ × δ)} {a : α} {b : β} {c : γ} {d : δ} {f : α → β → γ → δ → Option ε} (h : x = some (a, b, c, d)) : bd4 x f = f a b c d := by rw [h]; rfl
def bd5 {α β γ δ ε ζ : Type} (x : Option (α × β × γ × δ × ε)) (f : α → β → γ → δ → ε → Option ζ) : Option ζ := match x with
  | none => none
  | some (a, b, c, d, e) => f a b c d e
theorem bd5_el {α β γ δ ε ζ : Type} {x : Option (α × β × γ × δ × ε)} {f : α → β → γ → δ → ε → Option ζ} {r : ζ} (h : bd5 x f = some r) : ∃ a b c d e, x = some (a, b, c, d, e) ∧ f a b c d e = some r := by
  cases x with
  | none => cases h
  | some a => exact ⟨a.1, a.2.1, a.2.2.1, a.2.2.2.1, a.2.2.2.2, rfl, h⟩
theorem bd5_e {α β γ δ ε ζ : Type} {x : Option (α × β × γ × δ × ε)} {a : α} {b : β} {c : γ} {d : δ} {e : ε} {f : α → β → γ → δ → ε → Option ζ} (h : x = some (a, b, c, d, e)) : bd5 x f = f a b c d e := by rw [h]; rfl
def bd6 {α β γ δ ε ζ η : Type} (x : Option (α × β × γ × δ × ε × ζ)) (f : α → β → γ → δ → ε → ζ → Option η) : Option η := match x with
  | none => none
  | some (a, b, c, d, e, g) => f a b c d e g
theorem bd6_el {α β γ δ ε ζ η : Type} {x : Option (α × β × γ × δ × ε × ζ)} {f : α → β → γ → δ → ε → ζ → Option η} {r : η} (h : bd6 x f = some r) : ∃ a b c d e g, x = some (a, b, c, d, e, g) ∧ f a b c d e g = some r := by
  cases x with
  | none => cases h
  | some a => exact ⟨a.1, a.2.1, a.2.2.1, a.2.2.2.1, a.2.2.2.2.1, a.2.2.2.2.2, rfl, h⟩
theorem bd6_e {α β γ δ ε ζ η : Type} {x : Option (α × β × γ × δ × ε × ζ)} {a : α} {b : β} {c : γ} {d : δ} {e : ε} {g : ζ} {f : α → β → γ → δ → ε → ζ → Option η} (h : x = some (a, b, c, d, e, g)) : bd6 x f = f a b c d e g := by rw [h]; rfl
def bd7 {α β γ δ ε ζ η θ : Type} (x : Option (α × β × γ × δ × ε × ζ × η)) (f : α → β → γ → δ → ε → ζ → η → Option θ) : Option θ := match x with
  | none => none
  | some (a, b, c, d, e, g, k) => f a b c d e g k
theorem bd7_el {α β γ δ ε ζ η θ : Type} {x : Option (α × β × γ × δ × ε × ζ × η)} {f : α → β → γ → δ → ε → ζ → η → Option θ} {r : θ} (h : bd7 x f = some r) : ∃ a b c d e g k, x = some (a, b, c, d, e, g, k) ∧ f a b c d e g k = some r := by
  cases x with
  | none => cases h
  | some a => exact ⟨a.1, a.2.1, a.2.2.1, a.2.2.2.1, a.2.2.2.2.1, a.2.2.2.2.2.1, a.2.2.2.2.2.2, rfl, h⟩
theorem bd7_e {α β γ δ ε ζ η θ : Type} {x : Option (α × β × γ × δ × ε × ζ × η)} {a : α} {b : β} {c : γ} {d : δ} {e : ε} {g : ζ} {k : η} {f : α → β → γ → δ → ε → ζ → η → Option θ} (h : x = some (a, b, c, d, e, g, k)) : bd7 x f = f a b c d e g k := by rw [h]; rfl
def lT {α β : Type} (x : α) (f : α → β) : β := f x
theorem lT_el {α β : Type} {x : α} {f : α → β} {r : β} (h : lT x f = r) : ∃ v, v = x ∧ f v = r := ⟨x, rfl, h⟩
def inb (i : Int32) (n : Nat) : Bool := !(decide (i < 0) || decide (n ≤ i.toNatClampNeg))
theorem inb_in {i : Int32} {n : Nat} (h : inb i n = true) : vp_in i n := by
  unfold inb at h
  unfold vp_in
  simpa using h
theorem inb_of {i : Int32} {n : Nat} (h : vp_in i n) : inb i n = true := by
  unfold vp_in at h
  unfold inb
  simpa using h
def nzb (y : Int32) : Bool := !(decide (y = 0))
theorem nzb_el {y : Int32} (h : nzb y = true) : ¬ y = 0 := by
  unfold nzb at h
  simpa using h
theorem nzb_of {y : Int32} (h : ¬ y = 0) : nzb y = true := by
  unfold nzb
  simpa using h
/-! the links between classes of one nest, and the abstract method: they hold at every state -/
def nwL : List Cond := [.methodLinkNest RX6 22 yX4_init RX6, .fieldLinkNest RX1 19 RX4 "makers" "[I" RX6, .fieldLinkNest RX1 13 RX4 "makerCount" "I" RX6, .methodLinkNest RX4 76 yX6_image RX6, .methodLinkNest RX4 123 yX6_reverse RX6, .methodLinkNest RX4 82 yX6_chain RX6, .methodLinkNest RX3 1 yX5_init RX6, .declares ⟨RX5, "fits", "(II)Z"⟩, .methodLinkNest RX0 16 yX6_image RX6, .methodLinkNest RX1 27 yX6_image RX6, .methodLinkNest RX2 13 yX6_image RX6, .methodLinkNest RX4 51 yX6_carried RX6, .methodLinkNest RX2 1 yX5_init RX6, .methodLinkNest RX0 1 yX5_init RX6, .methodLinkNest RX1 1 yX5_init RX6, .methodLinkNest RX4 58 yX6_commutator RX6]
def NW (U : State) : Prop := ∀ w ∈ nwL, va_Nw w U
theorem NW.warm {s U : State} (hW : s.WarmedH U.vm) (h : NW s) : NW U := by
  have t : ∀ w ∈ nwL, (va_Nw w s → va_Nw w U) := by
    unfold nwL
    refine List.forall_mem_cons.mpr ⟨va_Nw.warmM hW, ?_⟩
    refine List.forall_mem_cons.mpr ⟨va_Nw.warmF hW, ?_⟩
    refine List.forall_mem_cons.mpr ⟨va_Nw.warmF hW, ?_⟩
    refine List.forall_mem_cons.mpr ⟨va_Nw.warmM hW, ?_⟩
    refine List.forall_mem_cons.mpr ⟨va_Nw.warmM hW, ?_⟩
    refine List.forall_mem_cons.mpr ⟨va_Nw.warmM hW, ?_⟩
    refine List.forall_mem_cons.mpr ⟨va_Nw.warmM hW, ?_⟩
    refine List.forall_mem_cons.mpr ⟨va_Nw.warmD hW, ?_⟩
    refine List.forall_mem_cons.mpr ⟨va_Nw.warmM hW, ?_⟩
    refine List.forall_mem_cons.mpr ⟨va_Nw.warmM hW, ?_⟩
    refine List.forall_mem_cons.mpr ⟨va_Nw.warmM hW, ?_⟩
    refine List.forall_mem_cons.mpr ⟨va_Nw.warmM hW, ?_⟩
    refine List.forall_mem_cons.mpr ⟨va_Nw.warmM hW, ?_⟩
    refine List.forall_mem_cons.mpr ⟨va_Nw.warmM hW, ?_⟩
    refine List.forall_mem_cons.mpr ⟨va_Nw.warmM hW, ?_⟩
    refine List.forall_mem_cons.mpr ⟨va_Nw.warmM hW, ?_⟩
    exact fun _ h => absurd h List.not_mem_nil
  exact fun w hw => t w hw (h w hw)
theorem NW.calling {U : State} {g : JFrame} {mk : MethodId} {a : Array Value} (h : NW U) : NW (U.calling g mk a) := by
  have t : ∀ w ∈ nwL, w.onTables = true := by decide +kernel
  exact fun w hw => va_Nw.same (t w hw) (rfl : U.vm = (U.calling g mk a).vm) (h w hw)
/-! the forms of the contracts -/
/-- the addresses of a world -/
def tg_in (ws : va_W) (q : Nat) : Prop := ∃ (k : Nat) (e : va_E), ws[k]? = some (q, e)
/-- a method's start, that reads the world ws -/
def tg_P (D : va_G) (tys : List (ClassId × FieldType)) (av : List Value) (ws : va_W) : Array Value → State → Prop := va_Pc av (fun U => va_P D vwCl ws U.heap ∧ va_K D vwCl tys U ∧ NW U)
/-- a method's start, that may write the world ws -/
def tg_PM (D : va_G) (tys : List (ClassId × FieldType)) (av : List Value) (ws : va_W) : Array Value → State → Prop := va_Pc av (fun U => va_P D vwCl ws U.heap ∧ va_K D vwCl tys U ∧ NW U ∧ va_D (fun _ => True) ws)
theorem tg_P_blind {D : va_G} {tys : List (ClassId × FieldType)} {av : List Value} {ws : va_W} : FrameBlind (tg_P D tys av ws) := fun a U g mk q => by
  obtain ⟨q0, qP, qK, qN⟩ := q
  exact ⟨q0, qP, va_K.moved (u := U) (U := U.calling g mk a) (Vm.Alike.refl U.vm) qK, qN.calling⟩
theorem tg_PM_blind {D : va_G} {tys : List (ClassId × FieldType)} {av : List Value} {ws : va_W} : FrameBlind (tg_PM D tys av ws) := fun a U g mk q => by
  obtain ⟨q0, qP, qK, qN, qD⟩ := q
  exact ⟨q0, qP, va_K.moved (u := U) (U := U.calling g mk a) (Vm.Alike.refl U.vm) qK, qN.calling, qD⟩
/-- a method that only reads: an int, a long, nothing -/
def tg_Ri (r : Int32) : Array Value → State → Outcome → State → Prop := fun _ st oc t => oc = .returned (some (.int r)) ∧ t.heap = st.heap
def tg_Rl (r : Int64) : Array Value → State → Outcome → State → Prop := fun _ st oc t => oc = .returned (some (.long r)) ∧ t.heap = st.heap
/-- a method that writes the world ws, and makes nothing: ws' comes of it -/
def tg_Mi (D : va_G) (ws ws' : va_W) (r : Int32) : Array Value → State → Outcome → State → Prop := fun _ st oc t => oc = .returned (some (.int r)) ∧ va_P D vwCl ws' t.heap ∧ va_F (tg_in ws) st t
def tg_Mv (D : va_G) (ws ws' : va_W) : Array Value → State → Outcome → State → Prop := fun _ st oc t => oc = .returned none ∧ va_P D vwCl ws' t.heap ∧ va_F (tg_in ws) st t
theorem tg_D {A : Nat → Prop} {ws : va_W} (h : va_D A ws) : va_D (tg_in ws) ws := ⟨h.1, fun k q hk => ⟨k, q.2, hk⟩⟩
section TG
variable {p : Program} {l : Launch} {e : Env} {R : Room} {s : State} {m : MethodId} {args : Array Value} {below : List Frame} {meth : Method} {c : Code} {H : Heap} {locs : List Loc} {cells slots : Nat} {Q : State → Prop}
variable {pc : Nat} {ls : Array Slot} {rest st0 : List Value} {a : Array Value} {A0 : Nat → Prop} {H0 : Heap} {D : va_G} {tys : List (ClassId × FieldType)}
theorem tg_preS {ws : va_W} {As : List Value} (hP : va_P D vwCl ws H) (hK : va_K D vwCl tys s) (hN : NW s) : PreS s H (tg_P D tys As ws) As :=
  ⟨tg_P_blind, fun U hU hW => ⟨rfl, by rw [hU]; exact hP, va_K.moved hW.alike hK, hN.warm hW⟩⟩
theorem tg_preSM {ws : va_W} {As : List Value} {B : Nat → Prop} (hP : va_P D vwCl ws H) (hD : va_D B ws) (hK : va_K D vwCl tys s) (hN : NW s) : PreS s H (tg_PM D tys As ws) As :=
  ⟨tg_PM_blind, fun U hU hW => ⟨rfl, by rw [hU]; exact hP, va_K.moved hW.alike hK, hN.warm hW, hD.weaken (fun _ _ _ _ => trivial)⟩⟩
theorem tg_preV {ws : va_W} {As : List Value} {b q0 ci : Nat} {r : vw_C} {fs : List Value} (hP : va_P D vwCl ws H) (hK : va_K D vwCl tys s) (hN : NW s) (hc : vwCl[ci]? = some r) (he : ws[q0]? = some (b, .inr (ci, fs))) : PreV s H r.1 b (tg_P D tys (.ref b :: As) ws) As :=
  ⟨tg_P_blind, va_recv hK hP hc he, fun U hU hW => ⟨rfl, by rw [hU]; exact hP, va_K.moved hW.alike hK, hN.warm hW⟩⟩
theorem tg_preVM {ws : va_W} {As : List Value} {b q0 ci : Nat} {r : vw_C} {fs : List Value} {B : Nat → Prop} (hP : va_P D vwCl ws H) (hD : va_D B ws) (hK : va_K D vwCl tys s) (hN : NW s) (hc : vwCl[ci]? = some r) (he : ws[q0]? = some (b, .inr (ci, fs))) : PreV s H r.1 b (tg_PM D tys (.ref b :: As) ws) As :=
  ⟨tg_PM_blind, va_recv hK hP hc he, fun U hU hW => ⟨rfl, by rw [hU]; exact hP, va_K.moved hW.alike hK, hN.warm hW, hD.weaken (fun _ _ _ _ => trivial)⟩⟩
theorem tg_cRi {r : Int32} (hr : va_Run p l e R s m args below meth c H locs cells slots 0 0 (F0 m pc ls st0) rest (tg_Ri r a) (fun _ => False)) (kk : W p l e R s m args below meth c H locs cells slots Q (F0 m (pc + 3) ls (.int r :: rest))) : W p l e R s m args below meth c H locs cells slots Q (F0 m pc ls st0) := by
  intro T hT X
  obtain ⟨v, st₀, t, T', L, h0, X', hL, e1, -, ⟨hv, hh⟩, st⟩ := hr T hT X
  cases hv
  obtain ⟨t2, a1, b1⟩ := kk T' (by rw [e1, hh, h0]) (Stand.forget X' (fun q h => (hL q h).elim))
  exact ⟨t2, st t2 a1, b1⟩
theorem tg_cRl {r : Int64} (hr : va_Run p l e R s m args below meth c H locs cells slots 0 0 (F0 m pc ls st0) rest (tg_Rl r a) (fun _ => False)) (kk : W p l e R s m args below meth c H locs cells slots Q (F0 m (pc + 3) ls (.long r :: rest))) : W p l e R s m args below meth c H locs cells slots Q (F0 m pc ls st0) := by
  intro T hT X
  obtain ⟨v, st₀, t, T', L, h0, X', hL, e1, -, ⟨hv, hh⟩, st⟩ := hr T hT X
  cases hv
  obtain ⟨t2, a1, b1⟩ := kk T' (by rw [e1, hh, h0]) (Stand.forget X' (fun q h => (hL q h).elim))
  exact ⟨t2, st t2 a1, b1⟩
theorem tg_cMi {ws ws' : va_W} {r : Int32} (hr : va_Run p l e R s m args below meth c H locs cells slots 0 0 (F0 m pc ls st0) rest (tg_Mi D ws ws' r a) (tg_in ws)) (hS : va_S A0 H0 H locs) (hA : ∀ q, tg_in ws q → A0 q)
    (kk : ∀ (H1 : Heap) (locs1 : List Loc), (∀ q : Nat, q < H.size → ¬ tg_in ws q → H1[q]? = H[q]?) → va_P D vwCl ws' H1 → va_S A0 H0 H1 locs1 → W p l e R s m args below meth c H1 locs1 cells slots Q (F0 m (pc + 3) ls (.int r :: rest))) : W p l e R s m args below meth c H locs cells slots Q (F0 m pc ls st0) := by
  intro T hT X
  obtain ⟨v, st₀, t, T', L, h0, X', hL, e1, -, ⟨hv, hp, hz, hk⟩, st⟩ := hr T hT X
  cases hv
  rw [h0] at hz hk
  obtain ⟨t2, a1, b1⟩ := kk T'.heap (locs ++ L) (fun q h1 h2 => by rw [e1]; exact hk q h1 h2) (by rw [e1]; exact hp)
    ⟨Nat.le_trans hS.1 (by rw [e1]; exact hz), fun q h1 h2 => by rw [e1, hk q (Nat.lt_of_lt_of_le h1 hS.1) (fun z => h2 (hA q z))]; exact hS.2.1 q h1 h2, fun q hq => by
      rcases List.mem_append.mp hq with h | h
      · exact hS.2.2 q h
      · exact hA _ (hL q h)⟩ T' rfl X'
  exact ⟨t2, st t2 a1, b1⟩
theorem tg_cMv {ws ws' : va_W} (hr : va_Run p l e R s m args below meth c H locs cells slots 0 0 (F0 m pc ls st0) rest (tg_Mv D ws ws' a) (tg_in ws)) (hS : va_S A0 H0 H locs) (hA : ∀ q, tg_in ws q → A0 q)
    (kk : ∀ (H1 : Heap) (locs1 : List Loc), (∀ q : Nat, q < H.size → ¬ tg_in ws q → H1[q]? = H[q]?) → va_P D vwCl ws' H1 → va_S A0 H0 H1 locs1 → W p l e R s m args below meth c H1 locs1 cells slots Q (F0 m (pc + 3) ls rest)) : W p l e R s m args below meth c H locs cells slots Q (F0 m pc ls st0) := by
  intro T hT X
  obtain ⟨v, st₀, t, T', L, h0, X', hL, e1, -, ⟨hv, hp, hz, hk⟩, st⟩ := hr T hT X
  cases hv
  rw [h0] at hz hk
  obtain ⟨t2, a1, b1⟩ := kk T'.heap (locs ++ L) (fun q h1 h2 => by rw [e1]; exact hk q h1 h2) (by rw [e1]; exact hp)
    ⟨Nat.le_trans hS.1 (by rw [e1]; exact hz), fun q h1 h2 => by rw [e1, hk q (Nat.lt_of_lt_of_le h1 hS.1) (fun z => h2 (hA q z))]; exact hS.2.1 q h1 h2, fun q hq => by
      rcases List.mem_append.mp hq with h | h
      · exact hS.2.2 q h
      · exact hA _ (hL q h)⟩ T' rfl X'
  exact ⟨t2, st t2 a1, b1⟩
theorem tg_top {x y : Int32} (h : y = x) (k : W p l e R s m args below meth c H locs cells slots Q (F0 m pc ls (.int y :: rest))) : W p l e R s m args below meth c H locs cells slots Q (F0 m pc ls (.int x :: rest)) := h ▸ k
theorem tg_topl {x y : Int64} (h : y = x) (k : W p l e R s m args below meth c H locs cells slots Q (F0 m pc ls (.long y :: rest))) : W p l e R s m args below meth c H locs cells slots Q (F0 m pc ls (.long x :: rest)) := h ▸ k
end TG
/-- the fixed facts of a method's walk -/
def tg_C (p : Program) (s : State) (m : MethodId) (meth : Method) (c : Code) (args : Array Value) (cc : ByteArray) (own : String) (Ts : List Cond) (nL : Nat) (D : va_G) (tys : List (ClassId × FieldType)) : Prop :=
  p.tables.exec = Jvm.exec ∧ c.code = cc ∧ c.maxLocals = nL ∧ s.vm.findClass own = some m.cls ∧ (∀ w ∈ Ts, w.before args s = true) ∧ va_K D vwCl tys s ∧ NW s
theorem tg_Da {A : Nat → Prop} {ws ws' : va_W} (h : va_D A ws) (he : ws.map Prod.fst = ws'.map Prod.fst) : va_D A ws' := by
  have key : ∀ (k : Nat) (q : Nat × va_E), ws'[k]? = some q → ∃ q0, ws[k]? = some q0 ∧ q0.1 = q.1 := by
    intro k q hk
    have h1 : (ws'.map Prod.fst)[k]? = some q.1 := by rw [List.getElem?_map, hk]; rfl
    rw [← he, List.getElem?_map] at h1
    cases h2 : ws[k]? with
    | none => rw [h2] at h1; cases h1
    | some q0 => rw [h2] at h1; exact ⟨q0, rfl, Option.some.inj h1⟩
  refine ⟨fun i j x y hi hj hxy => ?_, fun k q hk => ?_⟩
  · obtain ⟨x0, h1, h2⟩ := key i x hi
    obtain ⟨y0, h3, h4⟩ := key j y hj
    exact h.1 i j x0 y0 h1 h3 (h2.trans (hxy.trans h4.symm))
  · obtain ⟨q0, h1, h2⟩ := key k q hk
    rw [← h2]
    exact h.2 k q0 h1
theorem tg_inA {A : Nat → Prop} {ws : va_W} (h : va_D A ws) : ∀ q, tg_in ws q → A q := fun _ ⟨k, e, hk⟩ => h.2 k (_, e) hk
theorem tg_nil {D : va_G} {H : Heap} : va_P D vwCl [] H := fun k q h => by simp at h
def isb (v : Int32) : Bool := decide (v = 0) || decide (v = 1)
theorem isb_n {v : Int32} (h : isb v = true) : narrow .boolean (.int v) = .int v := by
  unfold isb at h
  simp only [Bool.or_eq_true, decide_eq_true_eq] at h
  rcases h with h | h <;> subst h <;> rfl
theorem isb_0 : isb 0 = true := by decide
theorem isb_1 : isb 1 = true := by decide
theorem isb_el {v : Int32} (h : isb v = true) : v = 0 ∨ v = 1 := by
  unfold isb at h
  simpa using h
theorem tg_ro {A : Nat → Prop} {H0 H : Heap} {locs : List Loc} {D : va_G} {ws : va_W} (h : va_P D vwCl ws H0) (hA : ∀ q, tg_in ws q → ¬ A q) (hS : va_S A H0 H locs) : va_P D vwCl ws H :=
  h.kept (fun k q hk => hS.2.1 q.1 (h k q hk).lt (hA q.1 ⟨k, q.2, hk⟩))
theorem tg_appL {D : va_G} {ws wo : va_W} {H : Heap} (h : va_P D vwCl (ws ++ wo) H) : va_P D vwCl ws H := fun k q hk => h k q (by rw [List.getElem?_append_left (List.getElem?_eq_some_iff.mp hk).1]; exact hk)
theorem tg_appR {D : va_G} {ws wo : va_W} {H : Heap} (h : va_P D vwCl (ws ++ wo) H) : va_P D vwCl wo H := fun k q hk => h (ws.length + k) q (by rw [List.getElem?_append_right (Nat.le_add_right _ _), Nat.add_sub_cancel_left]; exact hk)
theorem nw_X6_22 : Cond.methodLinkNest RX6 22 yX4_init RX6 ∈ nwL := List.mem_of_getElem? (i := 0) rfl
theorem nw_X1_19 : Cond.fieldLinkNest RX1 19 RX4 "makers" "[I" RX6 ∈ nwL := List.mem_of_getElem? (i := 1) rfl
theorem nw_X1_13 : Cond.fieldLinkNest RX1 13 RX4 "makerCount" "I" RX6 ∈ nwL := List.mem_of_getElem? (i := 2) rfl
theorem nw_X4_76 : Cond.methodLinkNest RX4 76 yX6_image RX6 ∈ nwL := List.mem_of_getElem? (i := 3) rfl
theorem nw_X4_123 : Cond.methodLinkNest RX4 123 yX6_reverse RX6 ∈ nwL := List.mem_of_getElem? (i := 4) rfl
theorem nw_X4_82 : Cond.methodLinkNest RX4 82 yX6_chain RX6 ∈ nwL := List.mem_of_getElem? (i := 5) rfl
theorem nw_X3_1 : Cond.methodLinkNest RX3 1 yX5_init RX6 ∈ nwL := List.mem_of_getElem? (i := 6) rfl
theorem nw_dec : Cond.declares ⟨RX5, "fits", "(II)Z"⟩ ∈ nwL := List.mem_of_getElem? (i := 7) rfl
theorem nw_X0_16 : Cond.methodLinkNest RX0 16 yX6_image RX6 ∈ nwL := List.mem_of_getElem? (i := 8) rfl
theorem nw_X1_27 : Cond.methodLinkNest RX1 27 yX6_image RX6 ∈ nwL := List.mem_of_getElem? (i := 9) rfl
theorem nw_X2_13 : Cond.methodLinkNest RX2 13 yX6_image RX6 ∈ nwL := List.mem_of_getElem? (i := 10) rfl
theorem nw_X4_51 : Cond.methodLinkNest RX4 51 yX6_carried RX6 ∈ nwL := List.mem_of_getElem? (i := 11) rfl
theorem nw_X2_1 : Cond.methodLinkNest RX2 1 yX5_init RX6 ∈ nwL := List.mem_of_getElem? (i := 12) rfl
theorem nw_X0_1 : Cond.methodLinkNest RX0 1 yX5_init RX6 ∈ nwL := List.mem_of_getElem? (i := 13) rfl
theorem nw_X1_1 : Cond.methodLinkNest RX1 1 yX5_init RX6 ∈ nwL := List.mem_of_getElem? (i := 14) rfl
theorem nw_X4_58 : Cond.methodLinkNest RX4 58 yX6_commutator RX6 ∈ nwL := List.mem_of_getElem? (i := 15) rfl
/-! the worlds -/
/-- the reference's cells: the object, and its arrays -/
abbrev wM (cI cZ : ClassId) (ad : Nat → Nat) (n many : Int32) (image : Nat → Int32) (turn : Int32) (shelf : Nat → Int32) (groups : Int32) (inn now makers makerMany queue : Nat → Int32) : va_W := [(ad 0, .inr (6, [.int n, .int many, .ref (ad 1), .int turn, .ref (ad 2), .int groups, .ref (ad 3), .ref (ad 4), .ref (ad 5), .ref (ad 6), .ref (ad 7)])), (ad 1, .inl (cI, 322560, .inl image)), (ad 2, .inl (cI, 8, .inl shelf)), (ad 3, .inl (cZ, 524160, .inl inn)), (ad 4, .inl (cI, 8, .inl now)), (ad 5, .inl (cI, 416, .inl makers)), (ad 6, .inl (cI, 13, .inl makerMany)), (ad 7, .inl (cI, 40320, .inl queue))]
/-- a tower's cells -/
abbrev wT (cI : ClassId) (ad : Nat → Nat) (cells back reach filled : Nat → Int32) (fc : Int32) (makers : Nat → Int32) (mc : Int32) : va_W := [(ad 0, .inr (4, [.ref (ad 1), .ref (ad 2), .ref (ad 3), .ref (ad 4), .int fc, .ref (ad 5), .int mc])), (ad 1, .inl (cI, 64, .inl cells)), (ad 2, .inl (cI, 64, .inl back)), (ad 3, .inl (cI, 8, .inl reach)), (ad 4, .inl (cI, 28, .inl filled)), (ad 5, .inl (cI, 16, .inl makers))]
end
section
/-! ===== private static boolean isIn(int, int, int); ===== -/
def mX7_isIn (x0 : Int32) (x1 : Int32) (x2 : Int32) : Int32 := if x0 < x1 then 0 else (if x2 < x0 then 0 else 1)
set_option maxRecDepth 100000 in
set_option maxHeartbeats 4000000 in
theorem qX7_isIn (l : Launch) (D : va_G) (x0 : Int32) (x1 : Int32) (x2 : Int32) (r0 : Int32) (h : mX7_isIn x0 x1 x2 = r0) : Met l yX7_isIn wsX7_isIn ({ frames := 0, cells := 0, slots := 0, locals := 0 } : Room) (tg_P D [] [.int x0, .int x1, .int x2] ([])) (tg_Ri r0) 0 0 (fun _ => False) := by
  refine Met.ofW (cc := cX7_isIn) (maxL := 3) (ret := (some .boolean)) (by decide) rfl ?_
  intro p e s m args below meth c s₁ B hml hv
  obtain ⟨rfl, hP, hK, hN⟩ := hv
  have hx := B.exec
  have hb := B.bytes
  have hr := B.returns
  have hts := atoms_spec (ws := wsX7_isIn) B.pre
  have hown : s.vm.findClass RX7 = some m.cls := findClass_of_methodNamed B.named
  have hlocks := B.notSynchronized
  have hl := lv_entry ([.int x0, .int x1, .int x2]) (n := 3) (Nat.le_of_ble_eq_true rfl)
  rw [lg_entry_eq]
  generalize (lg_sl ([.int x0, .int x1, .int x2]) ++ List.replicate (3 - (lg_sl ([.int x0, .int x1, .int x2])).length) Slot.unset).toArray = ls at hl ⊢
  have hl : lv_has ls 3 [(0, .int x0), (1, .int x1), (2, .int x2)] := hl
  rw [mX7_isIn] at h
  refine lv_iload_n hx hb dX7_isIn_0 rfl (lv_at hl 0 rfl) ?_
  refine lv_iload_n hx hb dX7_isIn_1 rfl (lv_at hl 1 rfl) ?_
  refine lv_icmp_lt (tgt := 14) hx hb dX7_isIn_2 (by decide) (fun cb => ?_) (fun cb => ?_)
  · rw [if_pos cb] at h
    refine lv_iconst (v := 0) hx hb dX7_isIn_14 (by decide) ?_
    subst h
    exact W.zret hx hb hr rfl (fun t ht hW => ⟨rfl, ht⟩) (fun _ h9 => absurd h9 List.not_mem_nil) dX7_isIn_15
  · rw [if_neg cb] at h
    refine lv_iload_n hx hb dX7_isIn_5 rfl (lv_at hl 0 rfl) ?_
    refine lv_iload_n hx hb dX7_isIn_6 rfl (lv_at hl 2 rfl) ?_
    refine lv_icmp_gt (tgt := 14) hx hb dX7_isIn_7 (by decide) (fun cb_1 => ?_) (fun cb_1 => ?_)
    · rw [if_pos cb_1] at h
      refine lv_iconst (v := 0) hx hb dX7_isIn_14 (by decide) ?_
      subst h
      exact W.zret hx hb hr rfl (fun t ht hW => ⟨rfl, ht⟩) (fun _ h9 => absurd h9 List.not_mem_nil) dX7_isIn_15
    · rw [if_neg cb_1] at h
      refine lv_iconst (v := 1) hx hb dX7_isIn_10 (by decide) ?_
      refine lv_goto (tgt := 15) hx hb dX7_isIn_11 (by decide) ?_
      subst h
      exact W.zret hx hb hr rfl (fun t ht hW => ⟨rfl, ht⟩) (fun _ h9 => absurd h9 List.not_mem_nil) dX7_isIn_15
theorem zSX7_isIn : yX7_isIn.cls ≠ "java/lang/invoke/MethodHandle" ∧ yX7_isIn.cls ≠ "java/lang/invoke/VarHandle" ∧ (parseMethodDescriptor yX7_isIn.desc).map (fun d => d.parameters.length) = some 3 := by decide +kernel

/-! ===== private static int product(int); ===== -/
def mX7_product_L4 (x0 : Int32) : Nat → Int32 → Int32 → Option (Int32)
  | 0, _, _ => none
  | f + 1, x1, x2 => if x0 < x2 then (some x1) else (lT (x1 * x2) (fun x1_1 => mX7_product_L4 x0 f x1_1 (x2 + 1)))
theorem mX7_product_L4_s (x0 : Int32) (f : Nat) (x1 : Int32) (x2 : Int32) : mX7_product_L4 x0 (f + 1) x1 x2 = (if x0 < x2 then (some x1) else (lT (x1 * x2) (fun x1_1 => mX7_product_L4 x0 f x1_1 (x2 + 1)))) := rfl
def mX7_product (F : Nat) (x0 : Int32) : Option (Int32) := bd (mX7_product_L4 x0 F 1 2) (fun x1 => some x1)
set_option maxRecDepth 100000 in
set_option maxHeartbeats 4000000 in
theorem wX7_product_L4 {p : Program} {l : Launch} {e : Env} {s : State} {m : MethodId} {args : Array Value} {below : List Frame} {meth : Method} {c : Code} {D : va_G} {Q : State → Prop} {x0 : Int32} (C0 : tg_C p s m meth c args cX7_product RX7 wsX7_product 3 D []) (hlocks : meth.locks = false) (hr : meth.sig.returnType = (some .int)) (F : Nat) : ∀ (f : Nat) (x1 : Int32) (x2 : Int32) (o1 : Int32), mX7_product_L4 x0 f x1 x2 = some o1 → ∀ (ls : Array Slot), lv_has ls 3 [(0, .int x0), (1, .int x1), (2, .int x2)] → (∀ (ls : Array Slot), lv_has ls 3 [(1, .int o1)] → W p l e ({ frames := 0, cells := 0, slots := 0, locals := 0 } : Room) s m args below meth c s.heap [] 0 0 Q (F0 m 19 ls [])) → W p l e ({ frames := 0, cells := 0, slots := 0, locals := 0 } : Room) s m args below meth c s.heap [] 0 0 Q (F0 m 4 ls []) := by
  obtain ⟨hx, hb, hml, hown, hts, hK, hN⟩ := C0
  intro f
  induction f with
  | zero => intro _ _ _ h; exact absurd (show none = some _ from h) (fun h9 => by cases h9)
  | succ f ih =>
    intro x1 x2 o1 h  ls hl kk
    rw [mX7_product_L4_s] at h
    refine lv_iload_n hx hb dX7_product_4 rfl (lv_at hl 2 rfl) ?_
    refine lv_iload_n hx hb dX7_product_5 rfl (lv_at hl 0 rfl) ?_
    refine lv_icmp_gt (tgt := 19) hx hb dX7_product_6 (by decide) (fun cb => ?_) (fun cb => ?_)
    · rw [if_pos cb] at h
      cases h
      exact kk  _ (lv_sub hl [1] rfl)
    · rw [if_neg cb] at h
      refine lv_iload_n hx hb dX7_product_9 rfl (lv_at hl 1 rfl) ?_
      refine lv_iload_n hx hb dX7_product_10 rfl (lv_at hl 2 rfl) ?_
      refine lv_imul hx hb dX7_product_11 ?_
      obtain ⟨x1_1, ex1_1, h⟩ := lT_el h
      refine tg_top ex1_1 ?_
      refine lv_istore_n (lv' := [(1, .int x1_1), (0, .int x0), (2, .int x2)]) hx hb dX7_product_12 rfl hl (by decide) rfl (fun ls hl => ?_)
      refine lv_iinc (v := (x2 + 1)) (lv' := [(2, .int (x2 + 1)), (1, .int x1_1), (0, .int x0)]) hx hb dX7_product_13 hl (k := 2) rfl rfl (by decide) rfl (fun ls hl => ?_)
      refine lv_goto (tgt := 4) hx hb dX7_product_16 (by decide) ?_
      exact ih _ _ _ h  _ (lv_sub hl [2, 1, 0] rfl) kk
set_option maxRecDepth 100000 in
set_option maxHeartbeats 4000000 in
theorem qX7_product (l : Launch) (D : va_G) (x0 : Int32) (F : Nat) (r0 : Int32) (h : mX7_product F x0 = some r0) : Met l yX7_product wsX7_product ({ frames := 0, cells := 0, slots := 0, locals := 0 } : Room) (tg_P D [] [.int x0] ([])) (tg_Ri r0) 0 0 (fun _ => False) := by
  refine Met.ofW (cc := cX7_product) (maxL := 3) (ret := (some .int)) (by decide) rfl ?_
  intro p e s m args below meth c s₁ B hml hv
  obtain ⟨rfl, hP, hK, hN⟩ := hv
  have hx := B.exec
  have hb := B.bytes
  have hr := B.returns
  have hts := atoms_spec (ws := wsX7_product) B.pre
  have hown : s.vm.findClass RX7 = some m.cls := findClass_of_methodNamed B.named
  have hlocks := B.notSynchronized
  have hl := lv_entry ([.int x0]) (n := 3) (Nat.le_of_ble_eq_true rfl)
  rw [lg_entry_eq]
  generalize (lg_sl ([.int x0]) ++ List.replicate (3 - (lg_sl ([.int x0])).length) Slot.unset).toArray = ls at hl ⊢
  have hl : lv_has ls 3 [(0, .int x0)] := hl
  rw [mX7_product] at h
  refine lv_iconst (v := 1) hx hb dX7_product_0 (by decide) ?_
  refine lv_istore_n (lv' := [(1, .int 1), (0, .int x0)]) hx hb dX7_product_1 rfl hl (by decide) rfl (fun ls hl => ?_)
  refine lv_iconst (v := 2) hx hb dX7_product_2 (by decide) ?_
  refine lv_istore_n (lv' := [(2, .int 2), (1, .int 1), (0, .int x0)]) hx hb dX7_product_3 rfl hl (by decide) rfl (fun ls hl => ?_)
  obtain ⟨x1, hv, h⟩ := bd_el h
  refine wX7_product_L4 ⟨hx, hb, hml, hown, hts, hK, hN⟩ hlocks hr F F _ _ _ hv  _ (lv_sub hl [2, 1, 0] rfl) (fun ls hl => ?_)
  refine lv_iload_n hx hb dX7_product_19 rfl (lv_at hl 0 rfl) ?_
  cases h
  exact W.iret hx hb hr (fun t ht hW => ⟨rfl, ht⟩) (fun _ h9 => absurd h9 List.not_mem_nil) dX7_product_20
theorem zSX7_product : yX7_product.cls ≠ "java/lang/invoke/MethodHandle" ∧ yX7_product.cls ≠ "java/lang/invoke/VarHandle" ∧ (parseMethodDescriptor yX7_product.desc).map (fun d => d.parameters.length) = some 1 := by decide +kernel

/-! ===== private int placeNow(); ===== -/
theorem kX7_placeNow_1 : Cond.fieldLink RX7 7 "TurnGroupsModel" "n" "I" ∈ wsX7_placeNow := by decide +kernel
theorem kX7_placeNow_2 : Cond.fieldLink RX7 26 "TurnGroupsModel" "now" "[I" ∈ wsX7_placeNow := by decide +kernel
theorem uX7_placeNow_RX7 : ∀ w ∈ u_ws RX7 TX7 11, w ∈ wsX7_placeNow := by decide +kernel
def mX7_placeNow_L19 (x2 : Int32) (n : Int32) (now : Nat → Int32) : Nat → Int32 → Int32 → Option (Int32)
  | 0, _, _ => none
  | f + 1, x3, x4 => if n ≤ x4 then (some x3) else (gd (inb x4 8) (gd (inb x2 8) (lT (if (now (Int32.toNatClampNeg x2)) ≤ (now (Int32.toNatClampNeg x4)) then 0 else 1) (fun v => lT (x3 + v) (fun x3_1 => mX7_placeNow_L19 x2 n now f x3_1 (x4 + 1))))))
theorem mX7_placeNow_L19_s (x2 : Int32) (n : Int32) (now : Nat → Int32) (f : Nat) (x3 : Int32) (x4 : Int32) : mX7_placeNow_L19 x2 n now (f + 1) x3 x4 = (if n ≤ x4 then (some x3) else (gd (inb x4 8) (gd (inb x2 8) (lT (if (now (Int32.toNatClampNeg x2)) ≤ (now (Int32.toNatClampNeg x4)) then 0 else 1) (fun v => lT (x3 + v) (fun x3_1 => mX7_placeNow_L19 x2 n now f x3_1 (x4 + 1))))))) := rfl
def mX7_placeNow_L4 (F : Nat) (n : Int32) (now : Nat → Int32) : Nat → Int32 → Int32 → Option (Int32)
  | 0, _, _ => none
  | f + 1, x1, x2 => if n ≤ x2 then (some x1) else (lT (x2 + 1) (fun x4 => bd (mX7_placeNow_L19 x2 n now F 0 x4) (fun x3 => lT ((x1 * (n - x2)) + x3) (fun x1_1 => mX7_placeNow_L4 F n now f x1_1 (x2 + 1)))))
theorem mX7_placeNow_L4_s (F : Nat) (n : Int32) (now : Nat → Int32) (f : Nat) (x1 : Int32) (x2 : Int32) : mX7_placeNow_L4 F n now (f + 1) x1 x2 = (if n ≤ x2 then (some x1) else (lT (x2 + 1) (fun x4 => bd (mX7_placeNow_L19 x2 n now F 0 x4) (fun x3 => lT ((x1 * (n - x2)) + x3) (fun x1_1 => mX7_placeNow_L4 F n now f x1_1 (x2 + 1)))))) := rfl
def mX7_placeNow (F : Nat) (n : Int32) (now : Nat → Int32) : Option (Int32) := bd (mX7_placeNow_L4 F n now F 0 0) (fun x1 => some x1)
set_option maxRecDepth 100000 in
set_option maxHeartbeats 4000000 in
theorem wX7_placeNow_L19 {p : Program} {l : Launch} {e : Env} {s : State} {m : MethodId} {args : Array Value} {below : List Frame} {meth : Method} {c : Code} {D : va_G} {Q : State → Prop} {ad : Nat → Nat} {cI cZ : ClassId} {n : Int32} {many : Int32} {image : Nat → Int32} {turn : Int32} {shelf : Nat → Int32} {groups : Int32} {inn : Nat → Int32} {now : Nat → Int32} {makers : Nat → Int32} {makerMany : Nat → Int32} {queue : Nat → Int32} {x1 : Int32} {x2 : Int32} (C0 : tg_C p s m meth c args cX7_placeNow RX7 wsX7_placeNow 5 D [(cI, .int), (cZ, .boolean)]) (hP : va_P D vwCl (wM cI cZ ad n many image turn shelf groups inn now makers makerMany queue) s.heap) (hlocks : meth.locks = false) (hr : meth.sig.returnType = (some .int)) (F : Nat) : ∀ (f : Nat) (x3 : Int32) (x4 : Int32) (o3 : Int32), mX7_placeNow_L19 x2 n now f x3 x4 = some o3 → ∀ (ls : Array Slot), lv_has ls 5 [(0, .ref (ad 0)), (1, .int x1), (2, .int x2), (3, .int x3), (4, .int x4)] → (∀ (ls : Array Slot), lv_has ls 5 [(0, .ref (ad 0)), (1, .int x1), (2, .int x2), (3, .int o3)] → W p l e ({ frames := 0, cells := 0, slots := 0, locals := 0 } : Room) s m args below meth c s.heap [] 0 0 Q (F0 m 58 ls [])) → W p l e ({ frames := 0, cells := 0, slots := 0, locals := 0 } : Room) s m args below meth c s.heap [] 0 0 Q (F0 m 19 ls []) := by
  obtain ⟨hx, hb, hml, hown, hts, hK, hN⟩ := C0
  intro f
  induction f with
  | zero => intro _ _ _ h; exact absurd (show none = some _ from h) (fun h9 => by cases h9)
  | succ f ih =>
    intro x3 x4 o3 h  ls hl kk
    rw [mX7_placeNow_L19_s] at h
    refine lv_iload hx hb dX7_placeNow_19 (lv_at hl 4 rfl) ?_
    refine lv_aload_n hx hb dX7_placeNow_21 rfl (lv_at hl 0 rfl) ?_
    refine va_get (D := D) (ci := 6) (v := .int n) (C := RX7) (T := TX7) (N := 11) hx hb hts uX7_placeNow_RX7 hown hK hP 0 rfl rfl 0 (by decide) (hts _ kX7_placeNow_1) (fun _ h9 => h9) rfl dX7_placeNow_22 ?_
    refine lv_icmp_ge (tgt := 58) hx hb dX7_placeNow_25 (by decide) (fun cb => ?_) (fun cb => ?_)
    · rw [if_pos cb] at h
      cases h
      exact kk  _ (lv_sub hl [0, 1, 2, 3] rfl)
    · rw [if_neg cb] at h
      refine lv_iload_n hx hb dX7_placeNow_28 rfl (lv_at hl 3 rfl) ?_
      refine lv_aload_n hx hb dX7_placeNow_29 rfl (lv_at hl 0 rfl) ?_
      refine va_get (D := D) (ci := 6) (v := .ref (ad 4)) (C := RX7) (T := TX7) (N := 11) hx hb hts uX7_placeNow_RX7 hown hK hP 0 rfl rfl 7 (by decide) (hts _ kX7_placeNow_2) (fun _ h9 => h9) rfl dX7_placeNow_30 ?_
      refine lv_iload hx hb dX7_placeNow_33 (lv_at hl 4 rfl) ?_
      obtain ⟨gg, h⟩ := gd_el h
      refine va_iald hx hb hK hP 4 0 rfl rfl (inb_in gg) dX7_placeNow_35 ?_
      refine lv_aload_n hx hb dX7_placeNow_36 rfl (lv_at hl 0 rfl) ?_
      refine va_get (D := D) (ci := 6) (v := .ref (ad 4)) (C := RX7) (T := TX7) (N := 11) hx hb hts uX7_placeNow_RX7 hown hK hP 0 rfl rfl 7 (by decide) (hts _ kX7_placeNow_2) (fun _ h9 => h9) rfl dX7_placeNow_37 ?_
      refine lv_iload_n hx hb dX7_placeNow_40 rfl (lv_at hl 2 rfl) ?_
      obtain ⟨gg_1, h⟩ := gd_el h
      refine va_iald hx hb hK hP 4 0 rfl rfl (inb_in gg_1) dX7_placeNow_41 ?_
      obtain ⟨v, hv, h⟩ := lT_el h
      have hj : W p l e ({ frames := 0, cells := 0, slots := 0, locals := 0 } : Room) s m args below meth c s.heap [] 0 0 Q (F0 m 50 ls [.int v, .int x3]) := by
        refine lv_iadd hx hb dX7_placeNow_50 ?_
        obtain ⟨x3_1, ex3_1, h⟩ := lT_el h
        refine tg_top ex3_1 ?_
        refine lv_istore_n (lv' := [(3, .int x3_1), (0, .ref (ad 0)), (1, .int x1), (2, .int x2), (4, .int x4)]) hx hb dX7_placeNow_51 rfl hl (by decide) rfl (fun ls hl => ?_)
        refine lv_iinc (v := (x4 + 1)) (lv' := [(4, .int (x4 + 1)), (3, .int x3_1), (0, .ref (ad 0)), (1, .int x1), (2, .int x2)]) hx hb dX7_placeNow_52 hl (k := 4) rfl rfl (by decide) rfl (fun ls hl => ?_)
        refine lv_goto (tgt := 19) hx hb dX7_placeNow_55 (by decide) ?_
        exact ih _ _ _ h  _ (lv_sub hl [2, 3, 4, 1, 0] rfl) kk
      refine lv_icmp_ge (tgt := 49) hx hb dX7_placeNow_42 (by decide) (fun cb_1 => ?_) (fun cb_1 => ?_)
      · rw [if_pos cb_1] at hv
        refine lv_iconst (v := 0) hx hb dX7_placeNow_49 (by decide) ?_
        subst hv
        exact hj 
      · rw [if_neg cb_1] at hv
        refine lv_iconst (v := 1) hx hb dX7_placeNow_45 (by decide) ?_
        refine lv_goto (tgt := 50) hx hb dX7_placeNow_46 (by decide) ?_
        subst hv
        exact hj 
set_option maxRecDepth 100000 in
set_option maxHeartbeats 4000000 in
theorem wX7_placeNow_L4 {p : Program} {l : Launch} {e : Env} {s : State} {m : MethodId} {args : Array Value} {below : List Frame} {meth : Method} {c : Code} {D : va_G} {Q : State → Prop} {ad : Nat → Nat} {cI cZ : ClassId} {n : Int32} {many : Int32} {image : Nat → Int32} {turn : Int32} {shelf : Nat → Int32} {groups : Int32} {inn : Nat → Int32} {now : Nat → Int32} {makers : Nat → Int32} {makerMany : Nat → Int32} {queue : Nat → Int32} (C0 : tg_C p s m meth c args cX7_placeNow RX7 wsX7_placeNow 5 D [(cI, .int), (cZ, .boolean)]) (hP : va_P D vwCl (wM cI cZ ad n many image turn shelf groups inn now makers makerMany queue) s.heap) (hlocks : meth.locks = false) (hr : meth.sig.returnType = (some .int)) (F : Nat) : ∀ (f : Nat) (x1 : Int32) (x2 : Int32) (o1 : Int32), mX7_placeNow_L4 F n now f x1 x2 = some o1 → ∀ (ls : Array Slot), lv_has ls 5 [(0, .ref (ad 0)), (1, .int x1), (2, .int x2)] → (∀ (ls : Array Slot), lv_has ls 5 [(1, .int o1)] → W p l e ({ frames := 0, cells := 0, slots := 0, locals := 0 } : Room) s m args below meth c s.heap [] 0 0 Q (F0 m 75 ls [])) → W p l e ({ frames := 0, cells := 0, slots := 0, locals := 0 } : Room) s m args below meth c s.heap [] 0 0 Q (F0 m 4 ls []) := by
  obtain ⟨hx, hb, hml, hown, hts, hK, hN⟩ := C0
  intro f
  induction f with
  | zero => intro _ _ _ h; exact absurd (show none = some _ from h) (fun h9 => by cases h9)
  | succ f ih =>
    intro x1 x2 o1 h  ls hl kk
    rw [mX7_placeNow_L4_s] at h
    refine lv_iload_n hx hb dX7_placeNow_4 rfl (lv_at hl 2 rfl) ?_
    refine lv_aload_n hx hb dX7_placeNow_5 rfl (lv_at hl 0 rfl) ?_
    refine va_get (D := D) (ci := 6) (v := .int n) (C := RX7) (T := TX7) (N := 11) hx hb hts uX7_placeNow_RX7 hown hK hP 0 rfl rfl 0 (by decide) (hts _ kX7_placeNow_1) (fun _ h9 => h9) rfl dX7_placeNow_6 ?_
    refine lv_icmp_ge (tgt := 75) hx hb dX7_placeNow_9 (by decide) (fun cb => ?_) (fun cb => ?_)
    · rw [if_pos cb] at h
      cases h
      exact kk  _ (lv_sub hl [1] rfl)
    · rw [if_neg cb] at h
      refine lv_iconst (v := 0) hx hb dX7_placeNow_12 (by decide) ?_
      refine lv_istore_n (lv' := [(3, .int 0), (0, .ref (ad 0)), (1, .int x1), (2, .int x2)]) hx hb dX7_placeNow_13 rfl hl (by decide) rfl (fun ls hl => ?_)
      refine lv_iload_n hx hb dX7_placeNow_14 rfl (lv_at hl 3 rfl) ?_
      refine lv_iconst (v := 1) hx hb dX7_placeNow_15 (by decide) ?_
      refine lv_iadd hx hb dX7_placeNow_16 ?_
      obtain ⟨x4, ex4, h⟩ := lT_el h
      refine tg_top ex4 ?_
      refine lv_istore (lv' := [(4, .int x4), (3, .int 0), (0, .ref (ad 0)), (1, .int x1), (2, .int x2)]) hx hb dX7_placeNow_17 hl (by decide) rfl (fun ls hl => ?_)
      obtain ⟨x3, hv, h⟩ := bd_el h
      refine wX7_placeNow_L19 ⟨hx, hb, hml, hown, hts, hK, hN⟩ hP hlocks hr F F _ _ _ hv  _ (lv_sub hl [2, 3, 4, 1, 0] rfl) (fun ls hl => ?_)
      refine lv_iload_n hx hb dX7_placeNow_58 rfl (lv_at hl 1 rfl) ?_
      refine lv_aload_n hx hb dX7_placeNow_59 rfl (lv_at hl 0 rfl) ?_
      refine va_get (D := D) (ci := 6) (v := .int n) (C := RX7) (T := TX7) (N := 11) hx hb hts uX7_placeNow_RX7 hown hK hP 0 rfl rfl 0 (by decide) (hts _ kX7_placeNow_1) (fun _ h9 => h9) rfl dX7_placeNow_60 ?_
      refine lv_iload_n hx hb dX7_placeNow_63 rfl (lv_at hl 2 rfl) ?_
      refine lv_isub hx hb dX7_placeNow_64 ?_
      refine lv_imul hx hb dX7_placeNow_65 ?_
      refine lv_iload_n hx hb dX7_placeNow_66 rfl (lv_at hl 3 rfl) ?_
      refine lv_iadd hx hb dX7_placeNow_67 ?_
      obtain ⟨x1_1, ex1_1, h⟩ := lT_el h
      refine tg_top ex1_1 ?_
      refine lv_istore_n (lv' := [(1, .int x1_1), (0, .ref (ad 0)), (2, .int x2), (3, .int x3)]) hx hb dX7_placeNow_68 rfl hl (by decide) rfl (fun ls hl => ?_)
      refine lv_iinc (v := (x2 + 1)) (lv' := [(2, .int (x2 + 1)), (1, .int x1_1), (0, .ref (ad 0)), (3, .int x3)]) hx hb dX7_placeNow_69 hl (k := 2) rfl rfl (by decide) rfl (fun ls hl => ?_)
      refine lv_goto (tgt := 4) hx hb dX7_placeNow_72 (by decide) ?_
      exact ih _ _ _ h  _ (lv_sub hl [2, 1, 0] rfl) kk
set_option maxRecDepth 100000 in
set_option maxHeartbeats 4000000 in
theorem qX7_placeNow (l : Launch) (D : va_G) (cI : ClassId) (cZ : ClassId) (ad : Nat → Nat) (n : Int32) (many : Int32) (image : Nat → Int32) (turn : Int32) (shelf : Nat → Int32) (groups : Int32) (inn : Nat → Int32) (now : Nat → Int32) (makers : Nat → Int32) (makerMany : Nat → Int32) (queue : Nat → Int32) (F : Nat) (r0 : Int32) (h : mX7_placeNow F n now = some r0) : Met l yX7_placeNow wsX7_placeNow ({ frames := 0, cells := 0, slots := 0, locals := 0 } : Room) (tg_P D [(cI, .int), (cZ, .boolean)] [.ref (ad 0)] ((wM cI cZ ad n many image turn shelf groups inn now makers makerMany queue))) (tg_Ri r0) 0 0 (fun _ => False) := by
  refine Met.ofW (cc := cX7_placeNow) (maxL := 5) (ret := (some .int)) (by decide) rfl ?_
  intro p e s m args below meth c s₁ B hml hv
  obtain ⟨rfl, hP, hK, hN⟩ := hv
  have hx := B.exec
  have hb := B.bytes
  have hr := B.returns
  have hts := atoms_spec (ws := wsX7_placeNow) B.pre
  have hown : s.vm.findClass RX7 = some m.cls := findClass_of_methodNamed B.named
  have hlocks := B.notSynchronized
  have hl := lv_entry ([.ref (ad 0)]) (n := 5) (Nat.le_of_ble_eq_true rfl)
  rw [lg_entry_eq]
  generalize (lg_sl ([.ref (ad 0)]) ++ List.replicate (5 - (lg_sl ([.ref (ad 0)])).length) Slot.unset).toArray = ls at hl ⊢
  have hl : lv_has ls 5 [(0, .ref (ad 0))] := hl
  rw [mX7_placeNow] at h
  refine lv_iconst (v := 0) hx hb dX7_placeNow_0 (by decide) ?_
  refine lv_istore_n (lv' := [(1, .int 0), (0, .ref (ad 0))]) hx hb dX7_placeNow_1 rfl hl (by decide) rfl (fun ls hl => ?_)
  refine lv_iconst (v := 0) hx hb dX7_placeNow_2 (by decide) ?_
  refine lv_istore_n (lv' := [(2, .int 0), (1, .int 0), (0, .ref (ad 0))]) hx hb dX7_placeNow_3 rfl hl (by decide) rfl (fun ls hl => ?_)
  obtain ⟨x1, hv, h⟩ := bd_el h
  refine wX7_placeNow_L4 ⟨hx, hb, hml, hown, hts, hK, hN⟩ hP hlocks hr F F _ _ _ hv  _ (lv_sub hl [2, 1, 0] rfl) (fun ls hl => ?_)
  refine lv_iload_n hx hb dX7_placeNow_75 rfl (lv_at hl 0 rfl) ?_
  cases h
  exact W.iret hx hb hr (fun t ht hW => ⟨rfl, ht⟩) (fun _ h9 => absurd h9 List.not_mem_nil) dX7_placeNow_76
theorem zVX7_placeNow : yX7_placeNow.cls = RX7 ∧ yX7_placeNow.cls ≠ "java/lang/invoke/MethodHandle" ∧ yX7_placeNow.cls ≠ "java/lang/invoke/VarHandle" ∧ (parseMethodDescriptor yX7_placeNow.desc).map (fun d => d.parameters.length) = some 0 := by decide +kernel

/-! ===== private boolean hasIt(int, int); ===== -/
theorem kX7_hasIt_1 : Cond.fieldLink RX7 22 "TurnGroupsModel" "in" "[Z" ∈ wsX7_hasIt := by decide +kernel
theorem kX7_hasIt_2 : Cond.constant RX7 35 (40320) ∈ wsX7_hasIt := by decide +kernel
theorem uX7_hasIt_RX7 : ∀ w ∈ u_ws RX7 TX7 11, w ∈ wsX7_hasIt := by decide +kernel
def mX7_hasIt (inn : Nat → Int32) (x1 : Int32) (x2 : Int32) : Option (Int32) := gd (inb ((40320 * x1) + x2) 524160) (gd (isb (inn (Int32.toNatClampNeg ((40320 * x1) + x2)))) (some (inn (Int32.toNatClampNeg ((40320 * x1) + x2)))))
set_option maxRecDepth 100000 in
set_option maxHeartbeats 4000000 in
theorem qX7_hasIt (l : Launch) (D : va_G) (cI : ClassId) (cZ : ClassId) (ad : Nat → Nat) (n : Int32) (many : Int32) (image : Nat → Int32) (turn : Int32) (shelf : Nat → Int32) (groups : Int32) (inn : Nat → Int32) (now : Nat → Int32) (makers : Nat → Int32) (makerMany : Nat → Int32) (queue : Nat → Int32) (x1 : Int32) (x2 : Int32) (r0 : Int32) (h : mX7_hasIt inn x1 x2 = some r0) : Met l yX7_hasIt wsX7_hasIt ({ frames := 0, cells := 0, slots := 0, locals := 0 } : Room) (tg_P D [(cI, .int), (cZ, .boolean)] [.ref (ad 0), .int x1, .int x2] ((wM cI cZ ad n many image turn shelf groups inn now makers makerMany queue))) (tg_Ri r0) 0 0 (fun _ => False) := by
  refine Met.ofW (cc := cX7_hasIt) (maxL := 3) (ret := (some .boolean)) (by decide) rfl ?_
  intro p e s m args below meth c s₁ B hml hv
  obtain ⟨rfl, hP, hK, hN⟩ := hv
  have hx := B.exec
  have hb := B.bytes
  have hr := B.returns
  have hts := atoms_spec (ws := wsX7_hasIt) B.pre
  have hown : s.vm.findClass RX7 = some m.cls := findClass_of_methodNamed B.named
  have hlocks := B.notSynchronized
  have hl := lv_entry ([.ref (ad 0), .int x1, .int x2]) (n := 3) (Nat.le_of_ble_eq_true rfl)
  rw [lg_entry_eq]
  generalize (lg_sl ([.ref (ad 0), .int x1, .int x2]) ++ List.replicate (3 - (lg_sl ([.ref (ad 0), .int x1, .int x2])).length) Slot.unset).toArray = ls at hl ⊢
  have hl : lv_has ls 3 [(0, .ref (ad 0)), (1, .int x1), (2, .int x2)] := hl
  rw [mX7_hasIt] at h
  refine lv_aload_n hx hb dX7_hasIt_0 rfl (lv_at hl 0 rfl) ?_
  refine va_get (D := D) (ci := 6) (v := .ref (ad 3)) (C := RX7) (T := TX7) (N := 11) hx hb hts uX7_hasIt_RX7 hown hK hP 0 rfl rfl 6 (by decide) (hts _ kX7_hasIt_1) (fun _ h9 => h9) rfl dX7_hasIt_1 ?_
  refine lv_ldc hx hb hown (hts _ kX7_hasIt_2) dX7_hasIt_4 ?_
  refine lv_iload_n hx hb dX7_hasIt_6 rfl (lv_at hl 1 rfl) ?_
  refine lv_imul hx hb dX7_hasIt_7 ?_
  refine lv_iload_n hx hb dX7_hasIt_8 rfl (lv_at hl 2 rfl) ?_
  refine lv_iadd hx hb dX7_hasIt_9 ?_
  obtain ⟨gg, h⟩ := gd_el h
  refine va_zald hx hb hK hP 3 1 rfl rfl (inb_in gg) dX7_hasIt_10 ?_
  obtain ⟨gz, h⟩ := gd_el h
  cases h
  exact W.zret hx hb hr (isb_n gz) (fun t ht hW => ⟨rfl, ht⟩) (fun _ h9 => absurd h9 List.not_mem_nil) dX7_hasIt_11
theorem zVX7_hasIt : yX7_hasIt.cls = RX7 ∧ yX7_hasIt.cls ≠ "java/lang/invoke/MethodHandle" ∧ yX7_hasIt.cls ≠ "java/lang/invoke/VarHandle" ∧ (parseMethodDescriptor yX7_hasIt.desc).map (fun d => d.parameters.length) = some 2 := by decide +kernel

/-! ===== private int oneThen(int, int); ===== -/
theorem kX7_oneThen_1 : Cond.fieldLink RX7 7 "TurnGroupsModel" "n" "I" ∈ wsX7_oneThen := by decide +kernel
theorem kX7_oneThen_2 : Cond.fieldLink RX7 26 "TurnGroupsModel" "now" "[I" ∈ wsX7_oneThen := by decide +kernel
theorem kX7_oneThen_3 : Cond.fieldLink RX7 14 "TurnGroupsModel" "image" "[I" ∈ wsX7_oneThen := by decide +kernel
theorem uX7_oneThen_RX7 : ∀ w ∈ u_ws RX7 TX7 11, w ∈ wsX7_oneThen := by decide +kernel
def mX7_oneThen_L2 (x1 : Int32) (x2 : Int32) (n : Int32) (image : Nat → Int32) : Nat → Int32 → (Nat → Int32) → Option ((Nat → Int32))
  | 0, _, _ => none
  | f + 1, x3, now => if n ≤ x3 then (some now) else (gd (inb ((8 * x1) + x3) 322560) (gd (inb ((8 * x2) + (image (Int32.toNatClampNeg ((8 * x1) + x3)))) 322560) (gd (inb x3 8) (lT (upd now (Int32.toNatClampNeg x3) (image (Int32.toNatClampNeg ((8 * x2) + (image (Int32.toNatClampNeg ((8 * x1) + x3))))))) (fun now_1 => mX7_oneThen_L2 x1 x2 n image f (x3 + 1) now_1)))))
theorem mX7_oneThen_L2_s (x1 : Int32) (x2 : Int32) (n : Int32) (image : Nat → Int32) (f : Nat) (x3 : Int32) (now : Nat → Int32) : mX7_oneThen_L2 x1 x2 n image (f + 1) x3 now = (if n ≤ x3 then (some now) else (gd (inb ((8 * x1) + x3) 322560) (gd (inb ((8 * x2) + (image (Int32.toNatClampNeg ((8 * x1) + x3)))) 322560) (gd (inb x3 8) (lT (upd now (Int32.toNatClampNeg x3) (image (Int32.toNatClampNeg ((8 * x2) + (image (Int32.toNatClampNeg ((8 * x1) + x3))))))) (fun now_1 => mX7_oneThen_L2 x1 x2 n image f (x3 + 1) now_1)))))) := rfl
def mX7_oneThen (F : Nat) (n : Int32) (image : Nat → Int32) (now : Nat → Int32) (x1 : Int32) (x2 : Int32) : Option (Int32 × (Nat → Int32)) := bd (mX7_oneThen_L2 x1 x2 n image F 0 now) (fun now_1 => bd (mX7_placeNow F n now_1) (fun r => some (r, now_1)))
set_option maxRecDepth 100000 in
set_option maxHeartbeats 4000000 in
theorem wX7_oneThen_L2 {p : Program} {l : Launch} {e : Env} {s : State} {m : MethodId} {args : Array Value} {below : List Frame} {meth : Method} {c : Code} {D : va_G} {Q : State → Prop} {A : Nat → Prop} {ad : Nat → Nat} {cI cZ : ClassId} {n : Int32} {many : Int32} {image : Nat → Int32} {turn : Int32} {shelf : Nat → Int32} {groups : Int32} {inn : Nat → Int32} {now : Nat → Int32} {makers : Nat → Int32} {makerMany : Nat → Int32} {queue : Nat → Int32} {x1 : Int32} {x2 : Int32} (C0 : tg_C p s m meth c args cX7_oneThen RX7 wsX7_oneThen 4 D [(cI, .int), (cZ, .boolean)]) (hD : va_D A (wM cI cZ ad n many image turn shelf groups inn now makers makerMany queue)) (hlocks : meth.locks = false) (hr : meth.sig.returnType = (some .int)) (F : Nat) : ∀ (f : Nat) (x3 : Int32) (now : Nat → Int32) (onow : Nat → Int32), mX7_oneThen_L2 x1 x2 n image f x3 now = some onow → ∀ (H : Heap) (locs : List Loc), va_P D vwCl (wM cI cZ ad n many image turn shelf groups inn now makers makerMany queue) H → va_S A s.heap H locs → ∀ (ls : Array Slot), lv_has ls 4 [(0, .ref (ad 0)), (1, .int x1), (2, .int x2), (3, .int x3)] → (∀ (H : Heap) (locs : List Loc), va_P D vwCl (wM cI cZ ad n many image turn shelf groups inn onow makers makerMany queue) H → va_S A s.heap H locs → ∀ (ls : Array Slot), lv_has ls 4 [(0, .ref (ad 0))] → W p l e ({ frames := 1, cells := 0, slots := 0, locals := 24 } : Room) s m args below meth c H locs 0 0 Q (F0 m 43 ls [])) → W p l e ({ frames := 1, cells := 0, slots := 0, locals := 24 } : Room) s m args below meth c H locs 0 0 Q (F0 m 2 ls []) := by
  obtain ⟨hx, hb, hml, hown, hts, hK, hN⟩ := C0
  intro f
  induction f with
  | zero => intro _ _ _ h; exact absurd (show none = some _ from h) (fun h9 => by cases h9)
  | succ f ih =>
    intro x3 now onow h H locs hP hS ls hl kk
    rw [mX7_oneThen_L2_s] at h
    refine lv_iload_n hx hb dX7_oneThen_2 rfl (lv_at hl 3 rfl) ?_
    refine lv_aload_n hx hb dX7_oneThen_3 rfl (lv_at hl 0 rfl) ?_
    refine va_get (D := D) (ci := 6) (v := .int n) (C := RX7) (T := TX7) (N := 11) hx hb hts uX7_oneThen_RX7 hown hK hP 0 rfl rfl 0 (by decide) (hts _ kX7_oneThen_1) (fun _ h9 => h9) rfl dX7_oneThen_4 ?_
    refine lv_icmp_ge (tgt := 43) hx hb dX7_oneThen_7 (by decide) (fun cb => ?_) (fun cb => ?_)
    · rw [if_pos cb] at h
      cases h
      exact kk _ _ hP hS _ (lv_sub hl [0] rfl)
    · rw [if_neg cb] at h
      refine lv_aload_n hx hb dX7_oneThen_10 rfl (lv_at hl 0 rfl) ?_
      refine va_get (D := D) (ci := 6) (v := .ref (ad 4)) (C := RX7) (T := TX7) (N := 11) hx hb hts uX7_oneThen_RX7 hown hK hP 0 rfl rfl 7 (by decide) (hts _ kX7_oneThen_2) (fun _ h9 => h9) rfl dX7_oneThen_11 ?_
      refine lv_iload_n hx hb dX7_oneThen_14 rfl (lv_at hl 3 rfl) ?_
      refine lv_aload_n hx hb dX7_oneThen_15 rfl (lv_at hl 0 rfl) ?_
      refine va_get (D := D) (ci := 6) (v := .ref (ad 1)) (C := RX7) (T := TX7) (N := 11) hx hb hts uX7_oneThen_RX7 hown hK hP 0 rfl rfl 2 (by decide) (hts _ kX7_oneThen_3) (fun _ h9 => h9) rfl dX7_oneThen_16 ?_
      refine lv_bipush (v := 8) hx hb dX7_oneThen_19 (by decide) ?_
      refine lv_iload_n hx hb dX7_oneThen_21 rfl (lv_at hl 2 rfl) ?_
      refine lv_imul hx hb dX7_oneThen_22 ?_
      refine lv_aload_n hx hb dX7_oneThen_23 rfl (lv_at hl 0 rfl) ?_
      refine va_get (D := D) (ci := 6) (v := .ref (ad 1)) (C := RX7) (T := TX7) (N := 11) hx hb hts uX7_oneThen_RX7 hown hK hP 0 rfl rfl 2 (by decide) (hts _ kX7_oneThen_3) (fun _ h9 => h9) rfl dX7_oneThen_24 ?_
      refine lv_bipush (v := 8) hx hb dX7_oneThen_27 (by decide) ?_
      refine lv_iload_n hx hb dX7_oneThen_29 rfl (lv_at hl 1 rfl) ?_
      refine lv_imul hx hb dX7_oneThen_30 ?_
      refine lv_iload_n hx hb dX7_oneThen_31 rfl (lv_at hl 3 rfl) ?_
      refine lv_iadd hx hb dX7_oneThen_32 ?_
      obtain ⟨gg, h⟩ := gd_el h
      refine va_iald hx hb hK hP 1 0 rfl rfl (inb_in gg) dX7_oneThen_33 ?_
      refine lv_iadd hx hb dX7_oneThen_34 ?_
      obtain ⟨gg_1, h⟩ := gd_el h
      refine va_iald hx hb hK hP 1 0 rfl rfl (inb_in gg_1) dX7_oneThen_35 ?_
      obtain ⟨gg_2, h⟩ := gd_el h
      obtain ⟨now_1, enow_1, h⟩ := lT_el h
      refine va_iast hx hb hK hP (tg_Da hD rfl) hS 4 0 rfl rfl (inb_in gg_2) dX7_oneThen_36 (fun H locs hP _ hS => ?_)
      have hP : va_P D vwCl (wM cI cZ ad n many image turn shelf groups inn (upd now (Int32.toNatClampNeg x3) (image (Int32.toNatClampNeg ((8 * x2) + (image (Int32.toNatClampNeg ((8 * x1) + x3))))))) makers makerMany queue) H := hP
      rw [← enow_1] at hP
      refine lv_iinc (v := (x3 + 1)) (lv' := [(3, .int (x3 + 1)), (0, .ref (ad 0)), (1, .int x1), (2, .int x2)]) hx hb dX7_oneThen_37 hl (k := 3) rfl rfl (by decide) rfl (fun ls hl => ?_)
      refine lv_goto (tgt := 2) hx hb dX7_oneThen_40 (by decide) ?_
      exact ih _ _ _ h _ _ hP hS _ (lv_sub hl [1, 2, 3, 0] rfl) kk
set_option maxRecDepth 100000 in
set_option maxHeartbeats 4000000 in
theorem qX7_oneThen (l : Launch) (D : va_G) (cI : ClassId) (cZ : ClassId) (ad : Nat → Nat) (n : Int32) (many : Int32) (image : Nat → Int32) (turn : Int32) (shelf : Nat → Int32) (groups : Int32) (inn : Nat → Int32) (now : Nat → Int32) (makers : Nat → Int32) (makerMany : Nat → Int32) (queue : Nat → Int32) (x1 : Int32) (x2 : Int32) (F : Nat) (r0 : Int32) (onow : Nat → Int32) (h : mX7_oneThen F n image now x1 x2 = some (r0, onow)) : Met l yX7_oneThen wsX7_oneThen ({ frames := 1, cells := 0, slots := 0, locals := 24 } : Room) (tg_PM D [(cI, .int), (cZ, .boolean)] [.ref (ad 0), .int x1, .int x2] (wM cI cZ ad n many image turn shelf groups inn now makers makerMany queue)) (tg_Mi D (wM cI cZ ad n many image turn shelf groups inn now makers makerMany queue) (wM cI cZ ad n many image turn shelf groups inn onow makers makerMany queue) r0) 0 0 (tg_in (wM cI cZ ad n many image turn shelf groups inn now makers makerMany queue)) := by
  refine Met.ofW (cc := cX7_oneThen) (maxL := 4) (ret := (some .int)) (by decide) rfl ?_
  intro p e s m args below meth c s₁ B hml hv
  obtain ⟨rfl, hP, hK, hN, hD0⟩ := hv
  have hx := B.exec
  have hb := B.bytes
  have hr := B.returns
  have hts := atoms_spec (ws := wsX7_oneThen) B.pre
  have hown : s.vm.findClass RX7 = some m.cls := findClass_of_methodNamed B.named
  have hlocks := B.notSynchronized
  have hD := tg_D hD0
  have hS : va_S (tg_in (wM cI cZ ad n many image turn shelf groups inn now makers makerMany queue)) s.heap s.heap [] := va_S.rf
  have hl := lv_entry ([.ref (ad 0), .int x1, .int x2]) (n := 4) (Nat.le_of_ble_eq_true rfl)
  rw [lg_entry_eq]
  generalize (lg_sl ([.ref (ad 0), .int x1, .int x2]) ++ List.replicate (4 - (lg_sl ([.ref (ad 0), .int x1, .int x2])).length) Slot.unset).toArray = ls at hl ⊢
  have hl : lv_has ls 4 [(0, .ref (ad 0)), (1, .int x1), (2, .int x2)] := hl
  rw [mX7_oneThen] at h
  refine lv_iconst (v := 0) hx hb dX7_oneThen_0 (by decide) ?_
  refine lv_istore_n (lv' := [(3, .int 0), (0, .ref (ad 0)), (1, .int x1), (2, .int x2)]) hx hb dX7_oneThen_1 rfl hl (by decide) rfl (fun ls hl => ?_)
  obtain ⟨now_1, hv, h⟩ := bd_el h
  refine wX7_oneThen_L2 ⟨hx, hb, hml, hown, hts, hK, hN⟩ (tg_Da hD rfl) hlocks hr F F _ _ _ hv _ _ hP hS _ (lv_sub hl [1, 2, 3, 0] rfl) (fun H locs hP hS ls hl => ?_)
  refine lv_aload_n hx hb dX7_oneThen_43 rfl (lv_at hl 0 rfl) ?_
  obtain ⟨r, hc, h⟩ := bd_el h
  refine tg_cRi (va_runV (As := []) (rest := []) ⟨hx, hb, hml, hown, hts⟩ (qX7_placeNow l D cI cZ ad n many image turn shelf groups inn now_1 makers makerMany queue F r hc) (cwV 0 hts gX7_oneThen_X7_placeNow rfl rfl rfl zVX7_placeNow ⟨Nat.le_of_ble_eq_true rfl, Nat.le_of_ble_eq_true rfl⟩) (tg_preV (r := (RX7, TX7, 11)) (ci := 6) (q0 := 0) hP hK hN rfl rfl) rfl rfl hl.1 rfl (lv_room (Nat.le_of_ble_eq_true rfl)) dX7_oneThen_44 ⟨Nat.zero_le _, Nat.zero_le _⟩) ?_
  cases h
  exact W.iret hx hb hr (fun t ht hW => ⟨rfl, by rw [ht]; exact hP, hS.F ht⟩) hS.2.2 dX7_oneThen_47
theorem zVX7_oneThen : yX7_oneThen.cls = RX7 ∧ yX7_oneThen.cls ≠ "java/lang/invoke/MethodHandle" ∧ yX7_oneThen.cls ≠ "java/lang/invoke/VarHandle" ∧ (parseMethodDescriptor yX7_oneThen.desc).map (fun d => d.parameters.length) = some 2 := by decide +kernel

/-! ===== private void clear(int); ===== -/
theorem kX7_clear_1 : Cond.fieldLink RX7 46 "TurnGroupsModel" "many" "I" ∈ wsX7_clear := by decide +kernel
theorem kX7_clear_2 : Cond.fieldLink RX7 22 "TurnGroupsModel" "in" "[Z" ∈ wsX7_clear := by decide +kernel
theorem kX7_clear_3 : Cond.constant RX7 35 (40320) ∈ wsX7_clear := by decide +kernel
theorem uX7_clear_RX7 : ∀ w ∈ u_ws RX7 TX7 11, w ∈ wsX7_clear := by decide +kernel
def mX7_clear_L2 (x1 : Int32) (many : Int32) : Nat → Int32 → (Nat → Int32) → Option ((Nat → Int32))
  | 0, _, _ => none
  | f + 1, x2, inn => if many ≤ x2 then (some inn) else (lT (if x2 = 0 then 1 else 0) (fun v => gd (inb ((40320 * x1) + x2) 524160) (lT (upd inn (Int32.toNatClampNeg ((40320 * x1) + x2)) (vp_nar .boolean v)) (fun inn_1 => mX7_clear_L2 x1 many f (x2 + 1) inn_1))))
theorem mX7_clear_L2_s (x1 : Int32) (many : Int32) (f : Nat) (x2 : Int32) (inn : Nat → Int32) : mX7_clear_L2 x1 many (f + 1) x2 inn = (if many ≤ x2 then (some inn) else (lT (if x2 = 0 then 1 else 0) (fun v => gd (inb ((40320 * x1) + x2) 524160) (lT (upd inn (Int32.toNatClampNeg ((40320 * x1) + x2)) (vp_nar .boolean v)) (fun inn_1 => mX7_clear_L2 x1 many f (x2 + 1) inn_1))))) := rfl
def mX7_clear (F : Nat) (many : Int32) (inn : Nat → Int32) (x1 : Int32) : Option ((Nat → Int32)) := bd (mX7_clear_L2 x1 many F 0 inn) (fun inn_1 => some inn_1)
set_option maxRecDepth 100000 in
set_option maxHeartbeats 4000000 in
theorem wX7_clear_L2 {p : Program} {l : Launch} {e : Env} {s : State} {m : MethodId} {args : Array Value} {below : List Frame} {meth : Method} {c : Code} {D : va_G} {Q : State → Prop} {A : Nat → Prop} {ad : Nat → Nat} {cI cZ : ClassId} {n : Int32} {many : Int32} {image : Nat → Int32} {turn : Int32} {shelf : Nat → Int32} {groups : Int32} {inn : Nat → Int32} {now : Nat → Int32} {makers : Nat → Int32} {makerMany : Nat → Int32} {queue : Nat → Int32} {x1 : Int32} (C0 : tg_C p s m meth c args cX7_clear RX7 wsX7_clear 3 D [(cI, .int), (cZ, .boolean)]) (hD : va_D A (wM cI cZ ad n many image turn shelf groups inn now makers makerMany queue)) (hlocks : meth.locks = false) (hr : meth.sig.returnType = none) (F : Nat) : ∀ (f : Nat) (x2 : Int32) (inn : Nat → Int32) (oinn : Nat → Int32), mX7_clear_L2 x1 many f x2 inn = some oinn → ∀ (H : Heap) (locs : List Loc), va_P D vwCl (wM cI cZ ad n many image turn shelf groups inn now makers makerMany queue) H → va_S A s.heap H locs → ∀ (ls : Array Slot), lv_has ls 3 [(0, .ref (ad 0)), (1, .int x1), (2, .int x2)] → (∀ (H : Heap) (locs : List Loc), va_P D vwCl (wM cI cZ ad n many image turn shelf groups oinn now makers makerMany queue) H → va_S A s.heap H locs → ∀ (ls : Array Slot), lv_has ls 3 [] → W p l e ({ frames := 0, cells := 0, slots := 0, locals := 0 } : Room) s m args below meth c H locs 0 0 Q (F0 m 36 ls [])) → W p l e ({ frames := 0, cells := 0, slots := 0, locals := 0 } : Room) s m args below meth c H locs 0 0 Q (F0 m 2 ls []) := by
  obtain ⟨hx, hb, hml, hown, hts, hK, hN⟩ := C0
  intro f
  induction f with
  | zero => intro _ _ _ h; exact absurd (show none = some _ from h) (fun h9 => by cases h9)
  | succ f ih =>
    intro x2 inn oinn h H locs hP hS ls hl kk
    rw [mX7_clear_L2_s] at h
    refine lv_iload_n hx hb dX7_clear_2 rfl (lv_at hl 2 rfl) ?_
    refine lv_aload_n hx hb dX7_clear_3 rfl (lv_at hl 0 rfl) ?_
    refine va_get (D := D) (ci := 6) (v := .int many) (C := RX7) (T := TX7) (N := 11) hx hb hts uX7_clear_RX7 hown hK hP 0 rfl rfl 1 (by decide) (hts _ kX7_clear_1) (fun _ h9 => h9) rfl dX7_clear_4 ?_
    refine lv_icmp_ge (tgt := 36) hx hb dX7_clear_7 (by decide) (fun cb => ?_) (fun cb => ?_)
    · rw [if_pos cb] at h
      cases h
      exact kk _ _ hP hS _ (lv_sub hl [] rfl)
    · rw [if_neg cb] at h
      refine lv_aload_n hx hb dX7_clear_10 rfl (lv_at hl 0 rfl) ?_
      refine va_get (D := D) (ci := 6) (v := .ref (ad 3)) (C := RX7) (T := TX7) (N := 11) hx hb hts uX7_clear_RX7 hown hK hP 0 rfl rfl 6 (by decide) (hts _ kX7_clear_2) (fun _ h9 => h9) rfl dX7_clear_11 ?_
      refine lv_ldc hx hb hown (hts _ kX7_clear_3) dX7_clear_14 ?_
      refine lv_iload_n hx hb dX7_clear_16 rfl (lv_at hl 1 rfl) ?_
      refine lv_imul hx hb dX7_clear_17 ?_
      refine lv_iload_n hx hb dX7_clear_18 rfl (lv_at hl 2 rfl) ?_
      refine lv_iadd hx hb dX7_clear_19 ?_
      refine lv_iload_n hx hb dX7_clear_20 rfl (lv_at hl 2 rfl) ?_
      obtain ⟨v, hv, h⟩ := lT_el h
      have hj : W p l e ({ frames := 0, cells := 0, slots := 0, locals := 0 } : Room) s m args below meth c H locs 0 0 Q (F0 m 29 ls [.int v, .int ((40320 * x1) + x2), .ref (ad 3)]) := by
        obtain ⟨gg, h⟩ := gd_el h
        obtain ⟨inn_1, einn_1, h⟩ := lT_el h
        refine va_zast hx hb hK hP (tg_Da hD rfl) hS 3 1 rfl rfl (inb_in gg) dX7_clear_29 (fun H locs hP _ hS => ?_)
        have hP : va_P D vwCl (wM cI cZ ad n many image turn shelf groups (upd inn (Int32.toNatClampNeg ((40320 * x1) + x2)) (vp_nar .boolean v)) now makers makerMany queue) H := hP
        rw [← einn_1] at hP
        refine lv_iinc (v := (x2 + 1)) (lv' := [(2, .int (x2 + 1)), (0, .ref (ad 0)), (1, .int x1)]) hx hb dX7_clear_30 hl (k := 2) rfl rfl (by decide) rfl (fun ls hl => ?_)
        refine lv_goto (tgt := 2) hx hb dX7_clear_33 (by decide) ?_
        exact ih _ _ _ h _ _ hP hS _ (lv_sub hl [1, 2, 0] rfl) kk
      refine lv_if_ne (tgt := 28) hx hb dX7_clear_21 (by decide) (fun cb_1 => ?_) (fun cb_1 => ?_)
      · rw [if_neg cb_1] at hv
        refine lv_iconst (v := 0) hx hb dX7_clear_28 (by decide) ?_
        subst hv
        exact hj 
      · rw [if_pos cb_1] at hv
        refine lv_iconst (v := 1) hx hb dX7_clear_24 (by decide) ?_
        refine lv_goto (tgt := 29) hx hb dX7_clear_25 (by decide) ?_
        subst hv
        exact hj 
set_option maxRecDepth 100000 in
set_option maxHeartbeats 4000000 in
theorem qX7_clear (l : Launch) (D : va_G) (cI : ClassId) (cZ : ClassId) (ad : Nat → Nat) (n : Int32) (many : Int32) (image : Nat → Int32) (turn : Int32) (shelf : Nat → Int32) (groups : Int32) (inn : Nat → Int32) (now : Nat → Int32) (makers : Nat → Int32) (makerMany : Nat → Int32) (queue : Nat → Int32) (x1 : Int32) (F : Nat) (oinn : Nat → Int32) (h : mX7_clear F many inn x1 = some oinn) : Met l yX7_clear wsX7_clear ({ frames := 0, cells := 0, slots := 0, locals := 0 } : Room) (tg_PM D [(cI, .int), (cZ, .boolean)] [.ref (ad 0), .int x1] (wM cI cZ ad n many image turn shelf groups inn now makers makerMany queue)) (tg_Mv D (wM cI cZ ad n many image turn shelf groups inn now makers makerMany queue) (wM cI cZ ad n many image turn shelf groups oinn now makers makerMany queue)) 0 0 (tg_in (wM cI cZ ad n many image turn shelf groups inn now makers makerMany queue)) := by
  refine Met.ofW (cc := cX7_clear) (maxL := 3) (ret := none) (by decide) rfl ?_
  intro p e s m args below meth c s₁ B hml hv
  obtain ⟨rfl, hP, hK, hN, hD0⟩ := hv
  have hx := B.exec
  have hb := B.bytes
  have hr := B.returns
  have hts := atoms_spec (ws := wsX7_clear) B.pre
  have hown : s.vm.findClass RX7 = some m.cls := findClass_of_methodNamed B.named
  have hlocks := B.notSynchronized
  have hD := tg_D hD0
  have hS : va_S (tg_in (wM cI cZ ad n many image turn shelf groups inn now makers makerMany queue)) s.heap s.heap [] := va_S.rf
  have hl := lv_entry ([.ref (ad 0), .int x1]) (n := 3) (Nat.le_of_ble_eq_true rfl)
  rw [lg_entry_eq]
  generalize (lg_sl ([.ref (ad 0), .int x1]) ++ List.replicate (3 - (lg_sl ([.ref (ad 0), .int x1])).length) Slot.unset).toArray = ls at hl ⊢
  have hl : lv_has ls 3 [(0, .ref (ad 0)), (1, .int x1)] := hl
  rw [mX7_clear] at h
  refine lv_iconst (v := 0) hx hb dX7_clear_0 (by decide) ?_
  refine lv_istore_n (lv' := [(2, .int 0), (0, .ref (ad 0)), (1, .int x1)]) hx hb dX7_clear_1 rfl hl (by decide) rfl (fun ls hl => ?_)
  obtain ⟨inn_1, hv, h⟩ := bd_el h
  refine wX7_clear_L2 ⟨hx, hb, hml, hown, hts, hK, hN⟩ (tg_Da hD rfl) hlocks hr F F _ _ _ hv _ _ hP hS _ (lv_sub hl [1, 2, 0] rfl) (fun H locs hP hS ls hl => ?_)
  cases h
  exact W.vret hx hb hr (fun t ht hW => ⟨rfl, by rw [ht]; exact hP, hS.F ht⟩) hS.2.2 dX7_clear_36
theorem zVX7_clear : yX7_clear.cls = RX7 ∧ yX7_clear.cls ≠ "java/lang/invoke/MethodHandle" ∧ yX7_clear.cls ≠ "java/lang/invoke/VarHandle" ∧ (parseMethodDescriptor yX7_clear.desc).map (fun d => d.parameters.length) = some 1 := by decide +kernel
end
