/-! ===== the law: what stands in its loop ===== -/
theorem start_rl {F : Nat} (hF : 50000 ≤ F) (tw : Nat → TW) (inn : Nat → Int32) : ∃ s1 i2, mX6_beginWith F (fun _ => 0) 0 0 0 4 = some (s1, 4, 0, 1985229328) ∧ mX7_layAll F 4 0 (fun _ => 0) = some (nI (fac 4), i2) ∧ Rl s1 4 0 1985229328 tw 4 (nI (fac 4)) i2 0 (fun _ => 0) 0 inn := by
  obtain ⟨s1, e1, f1⟩ := fillR_L 1985229328 8 0 F (fun _ => 0) (by omega) (by omega) (fun k hk => by omega)
  obtain ⟨i2, e3, hT⟩ := layAll_is (n := 4) hF (by omega) 0 (fun _ => 0)
  refine ⟨s1, i2, ?_, e3, 4, 0, .one, fun _ => .one, fun _ _ => True, ⟨⟨by omega, by omega⟩, by omega, Sup.one 4, fun _ _ => Sup.one 4, fun a ha => by omega⟩, ⟨rfl, rfl, cdp_one.symm, fun k hk => (f1 k hk).trans cdp_one.symm, fun a ha => by omega⟩, rfl, rfl, hT, by rw [rk_one]; rfl, fun k hk => by rw [rk_one]; rfl, rfl, fun a ha => by omega⟩
  unfold mX6_beginWith mJ7_fill_53178
  rw [bd_e (show mJ7_fill_53178_L5 1985229328 8 F 0 (fun _ => 0) = _ from e1), bd_s]
def lwA (s : State) : Nat → Prop := fun q => s.heap.size ≤ q
abbrev adM (ad : Nat → Nat) : List Nat := [ad 0, ad 1, ad 2, ad 3, ad 4, ad 5, ad 6, ad 7]
/-- the two objects, apart -/
def lwD (s : State) (ta : Nat → Nat → Nat) (ga ad : Nat → Nat) : Prop := tg_DD (lwA s) (adG ta ga) ∧ tg_DD (lwA s) (adM ad) ∧ ∀ q, q ∈ adG ta ga → q ∉ adM ad
/-- the two objects hold the same -/
def lwI (D : va_G) (cI cT cZ : ClassId) (ta : Nat → Nat → Nat) (ga ad : Nat → Nat) (H : Heap) : Prop := ∃ (shelf : Nat → Int32) (np ng cur : Int32) (tw : Nat → TW) (rn rmany : Int32) (image : Nat → Int32) (rturn : Int32) (rshelf : Nat → Int32) (rgroups : Int32) (inn now makers makerMany queue : Nat → Int32), Rl shelf np ng cur tw rn rmany image rturn rshelf rgroups inn ∧ va_P D vwCl (wG ta cI cT ga shelf np ng cur tw) H ∧ va_P D vwCl (wM cI cZ ad rn rmany image rturn rshelf rgroups inn now makers makerMany queue) H
/-- the next three ints of the script -/
def lwX (i : Int32) (L : Nat) (xs : Nat → Int32) (a1 a2 a3 : Int32) : Prop := vp_in (i + 1) L ∧ xs (i + 1).toNatClampNeg = a1 ∧ vp_in (i + 2) L ∧ xs (i + 2).toNatClampNeg = a2 ∧ vp_in (i + 3) L ∧ xs (i + 3).toNatClampNeg = a3
theorem lw_mg {ta : Nat → Nat → Nat} {ga ad : Nat → Nat} (h : ∀ q, q ∈ adG ta ga → q ∉ adM ad) {cI cT cJ cZ : ClassId} {shelf : Nat → Int32} {np ng cur : Int32} {tw : Nat → TW} {rn rmany : Int32} {image : Nat → Int32} {rturn : Int32} {rshelf : Nat → Int32} {rgroups : Int32} {inn now makers makerMany queue : Nat → Int32} : ∀ q, tg_in (wM cJ cZ ad rn rmany image rturn rshelf rgroups inn now makers makerMany queue) q → ¬ tg_in (wG ta cI cT ga shelf np ng cur tw) q := fun q h1 h2 => h q (by have := tg_in_mem.mp h2; rwa [wG_ad] at this) (tg_in_mem.mp h1)
theorem lw_gm {ta : Nat → Nat → Nat} {ga ad : Nat → Nat} (h : ∀ q, q ∈ adG ta ga → q ∉ adM ad) {cI cT cJ cZ : ClassId} {shelf : Nat → Int32} {np ng cur : Int32} {tw : Nat → TW} {rn rmany : Int32} {image : Nat → Int32} {rturn : Int32} {rshelf : Nat → Int32} {rgroups : Int32} {inn now makers makerMany queue : Nat → Int32} : ∀ q, tg_in (wG ta cI cT ga shelf np ng cur tw) q → ¬ tg_in (wM cJ cZ ad rn rmany image rturn rshelf rgroups inn now makers makerMany queue) q := fun q h1 h2 => lw_mg h q h2 h1
/-- the other object stays, behind a call that may make a cell -/
theorem lw_keepN {D : va_G} {ws wc : va_W} {H H1 : Heap} (h : va_P D vwCl ws H) (hx : ∀ q, tg_in ws q → ¬ tg_in wc q) (hf : ∀ q : Nat, q < H.size → ¬ va_A wc H.size q → H1[q]? = H[q]?) : va_P D vwCl ws H1 :=
  h.kept (fun k q hk => hf q.1 (h k q hk).lt (fun z => z.elim (fun z => hx q.1 ⟨k, q.2, hk⟩ z) (fun z => absurd (h k q hk).lt (Nat.not_lt.mpr z))))
section LW
variable {p : Program} {l : Launch} {e : Env} {R : Room} {s : State} {m : MethodId} {args : Array Value} {below : List Frame} {meth : Method} {c : Code} {H : Heap} {locs : List Loc} {cells slots : Nat} {Q : State → Prop}
variable {pc : Nat} {ls : Array Slot} {rest st0 : List Value} {a : Array Value} {A0 : Nat → Prop} {H0 : Heap} {D : va_G} {tys : List (ClassId × FieldType)}
theorem tg_preVN {ws : va_W} {As : List Value} {b q0 ci : Nat} {r : vw_C} {fs : List Value} {B : Nat → Prop} (hP : va_P D vwCl ws H) (hD : va_D B ws) (hK : va_K D vwCl tys s) (hN : NW s) (hc : vwCl[ci]? = some r) (he : ws[q0]? = some (b, .inr (ci, fs))) : PreV s H r.1 b (tg_PN D tys (.ref b :: As) ws H.size) As :=
  ⟨tg_PN_blind, va_recv hK hP hc he, fun U hU hW => ⟨rfl, by rw [hU], by rw [hU]; exact hP, va_K.moved hW.alike hK, hN.warm hW, hD.weaken (fun _ _ _ _ => trivial)⟩⟩
theorem tg_cNi {ws ws' : va_W} {sz mc ms : Nat} {r : Int32} (hr : va_Run p l e R s m args below meth c H locs cells slots mc ms (F0 m pc ls st0) rest (tg_Ni D ws ws' sz r a) (va_A ws sz)) (hS : va_S A0 H0 H locs) (hA : ∀ q, va_A ws sz q → A0 q)
    (kk : ∀ (H1 : Heap) (locs1 : List Loc), (∀ q : Nat, q < H.size → ¬ va_A ws sz q → H1[q]? = H[q]?) → va_P D vwCl ws' H1 → va_S A0 H0 H1 locs1 → W p l e R s m args below meth c H1 locs1 (cells + mc) (slots + ms) Q (F0 m (pc + 3) ls (.int r :: rest))) : W p l e R s m args below meth c H locs cells slots Q (F0 m pc ls st0) := by
  intro T hT X
  obtain ⟨v, st₀, t, T', L, h0, X', hL, e1, -, ⟨hv, hp, hz, hk⟩, st⟩ := hr T hT X
  cases hv
  rw [h0] at hz hk
  obtain ⟨t2, a1, b1⟩ := kk T'.heap (locs ++ L) (fun q h1 h2 => by rw [e1]; exact hk q h1 h2) (by rw [e1]; exact hp)
    ⟨Nat.le_trans hS.1 (by rw [e1]; exact hz), fun q h1 h2 => by rw [e1, hk q (Nat.lt_of_lt_of_le h1 hS.1) (fun z => h2 (hA q z))]; exact hS.2.1 q h1 h2, fun q hq => by
      rcases List.mem_append.mp hq with h | h
      · exact hS.2.2 q h
      · exact hA _ (hL q h)⟩ T' rfl X'
  exact ⟨t2, st t2 a1, b1⟩
end LW
theorem lw_newA {s : State} {ws : va_W} {H : Heap} {locs : List Loc} (hD : va_D (lwA s) ws) (hS : va_S (lwA s) s.heap H locs) : ∀ q, va_A ws H.size q → lwA s q := fun q h => h.elim (fun h => tg_inA hD q h) (fun h => Nat.le_trans hS.1 h)
theorem lw_cmp (v : Int64) : lg_cmp v v = 0 := by simp [lg_cmp]
theorem in_r1 : ∀ w ∈ wsL_law_r1, w ∈ wsL_law := fun _ h => List.mem_append_left _ (List.mem_append_left _ (List.mem_append_left _ (List.mem_append_left _ (List.mem_append_left _ (List.mem_append_left _ (List.mem_append_left _ (List.mem_append_left _ (List.mem_append_left _ h))))))))
theorem kL_18 : Cond.constantLong RL 18 (4294967295) ∈ wsL_law := in_r1 _ (List.mem_of_getElem? (i := 6) rfl)
