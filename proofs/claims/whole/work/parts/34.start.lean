set_option maxHeartbeats 4000000 in
set_option maxRecDepth 100000 in
theorem mS_0 : (Cond.instantiable "KindRounds" (12 : Nat)) ∈ lw_good := good_in (List.mem_append_right _ (List.mem_append_left _ (List.mem_of_getElem? (i := 23) (l := tables_1_1) rfl))) rfl
set_option maxHeartbeats 4000000 in
set_option maxRecDepth 100000 in
theorem mS_1 : (Cond.instantiable "KindRounds$Tape" (7 : Nat)) ∈ lw_good := good_in (List.mem_append_right _ (List.mem_append_left _ (List.mem_of_getElem? (i := 31) (l := tables_1_1) rfl))) rfl
set_option maxHeartbeats 4000000 in
set_option maxRecDepth 100000 in
theorem mS_2 : (Cond.instantiable "KindRounds$Fault" (4 : Nat)) ∈ lw_good := good_in (List.mem_append_right _ (List.mem_append_left _ (List.mem_of_getElem? (i := 62) (l := tables_1_1) rfl))) rfl
set_option maxHeartbeats 4000000 in
set_option maxRecDepth 100000 in
theorem mS_3 : (Cond.instantiable "KindRounds$Kinds" (11 : Nat)) ∈ lw_good := good_in (List.mem_append_right _ (List.mem_append_left _ (List.mem_of_getElem? (i := 104) (l := tables_1_1) rfl))) rfl
set_option maxHeartbeats 4000000 in
set_option maxRecDepth 100000 in
theorem mS_4 : (Cond.instantiable "KindRounds$Text" (17 : Nat)) ∈ lw_good := good_in (List.mem_append_right _ (List.mem_append_left _ (List.mem_of_getElem? (i := 145) (l := tables_1_1) rfl))) rfl
set_option maxHeartbeats 4000000 in
set_option maxRecDepth 100000 in
theorem mS_5 : (Cond.instantiable "KindRounds$Mentions" (6 : Nat)) ∈ lw_good := good_in (List.mem_append_right _ (List.mem_append_right _ (List.mem_append_left _ (List.mem_of_getElem? (i := 41) (l := tables_1_2) rfl)))) rfl
set_option maxHeartbeats 4000000 in
set_option maxRecDepth 100000 in
theorem mS_6 : (Cond.instantiable "KindRounds$Parser" (7 : Nat)) ∈ lw_good := good_in (List.mem_append_right _ (List.mem_append_right _ (List.mem_append_left _ (List.mem_of_getElem? (i := 80) (l := tables_1_2) rfl)))) rfl
set_option maxHeartbeats 4000000 in
set_option maxRecDepth 100000 in
theorem mS_7 : (Cond.instantiable "KindRounds$Checker" (4 : Nat)) ∈ lw_good := good_in (List.mem_append_right _ (List.mem_append_right _ (List.mem_append_left _ (List.mem_of_getElem? (i := 108) (l := tables_1_2) rfl)))) rfl
set_option maxHeartbeats 4000000 in
set_option maxRecDepth 100000 in
theorem mS_8 : (Cond.instantiable "KindRounds$Solver" (16 : Nat)) ∈ lw_good := good_in (List.mem_append_right _ (List.mem_append_right _ (List.mem_append_left _ (List.mem_of_getElem? (i := 127) (l := tables_1_2) rfl)))) rfl
set_option maxHeartbeats 4000000 in
set_option maxRecDepth 100000 in
theorem mS_9 : (Cond.instantiable "KindRounds$Plainer" (9 : Nat)) ∈ lw_good := good_in (List.mem_append_right _ (List.mem_append_right _ (List.mem_append_left _ (List.mem_of_getElem? (i := 183) (l := tables_1_2) rfl)))) rfl
set_option maxHeartbeats 4000000 in
set_option maxRecDepth 100000 in
theorem mS_10 : (Cond.instantiable "KindRounds$Row" (8 : Nat)) ∈ lw_good := good_in (List.mem_append_right _ (List.mem_append_left _ (List.mem_of_getElem? (i := 151) (l := tables_1_1) rfl))) rfl
set_option maxHeartbeats 4000000 in
set_option maxRecDepth 100000 in
theorem mS_11 : (Cond.instantiable "KindRounds$Line" (2 : Nat)) ∈ lw_good := good_in (List.mem_append_right _ (List.mem_append_left _ (List.mem_of_getElem? (i := 68) (l := tables_1_1) rfl))) rfl
set_option maxHeartbeats 4000000 in
set_option maxRecDepth 100000 in
theorem mS_12 : (Cond.instantiable "KindRoundsModel" (99 : Nat)) ∈ lw_good := good_in (List.mem_append_right _ (List.mem_append_right _ (List.mem_append_right _ (List.mem_append_right _ (List.mem_append_right _ (List.mem_append_left _ (List.mem_of_getElem? (i := 204) (l := tables_1_5) rfl))))))) rfl
set_option maxHeartbeats 4000000 in
set_option maxRecDepth 100000 in
theorem mS_13 : (Cond.initialized "KindRounds") ∈ lw_good := good_in (List.mem_append_right _ (List.mem_append_left _ (List.mem_of_getElem? (i := 1) (l := tables_1_1) rfl))) rfl
set_option maxHeartbeats 4000000 in
set_option maxRecDepth 100000 in
theorem mS_14 : (Cond.initialized "KindRoundsModel") ∈ lw_good := good_in (List.mem_append_right _ (List.mem_append_left _ (List.mem_of_getElem? (i := 13) (l := tables_1_1) rfl))) rfl
set_option maxHeartbeats 4000000 in
set_option maxRecDepth 100000 in
theorem mS_15 : (Cond.initialized "java/lang/String") ∈ lw_good := good_in (List.mem_append_right _ (List.mem_append_left _ (List.mem_of_getElem? (i := 14) (l := tables_1_1) rfl))) rfl
set_option maxHeartbeats 4000000 in
set_option maxRecDepth 100000 in
theorem mS_16 : (Cond.classLink "KindRoundsLaw" (7 : Nat) "KindRounds") ∈ lw_good := good_in (List.mem_append_right _ (List.mem_append_left _ (List.mem_of_getElem? (i := 22) (l := tables_1_1) rfl))) rfl
set_option maxHeartbeats 4000000 in
set_option maxRecDepth 100000 in
theorem mS_17 : (Cond.classLink "KindRoundsLaw" (10 : Nat) "KindRoundsModel") ∈ lw_good := good_in (List.mem_append_right _ (List.mem_append_right _ (List.mem_append_right _ (List.mem_append_right _ (List.mem_append_right _ (List.mem_append_left _ (List.mem_of_getElem? (i := 203) (l := tables_1_5) rfl))))))) rfl
set_option maxHeartbeats 4000000 in
set_option maxRecDepth 100000 in
theorem mS_18 : (Cond.methodLink "KindRoundsLaw" (9 : Nat) ({ cls := "KindRounds", name := "<init>", desc := "()V" } : Jvm.MethodName)) ∈ lw_good := good_in (List.mem_append_right _ (List.mem_append_left _ (List.mem_of_getElem? (i := 24) (l := tables_1_1) rfl))) rfl
set_option maxHeartbeats 4000000 in
set_option maxRecDepth 100000 in
theorem mS_19 : (Cond.methodLink "KindRoundsLaw" (12 : Nat) ({ cls := "KindRoundsModel", name := "<init>", desc := "()V" } : Jvm.MethodName)) ∈ lw_good := good_in (List.mem_append_right _ (List.mem_append_right _ (List.mem_append_right _ (List.mem_append_right _ (List.mem_append_right _ (List.mem_append_left _ (List.mem_of_getElem? (i := 205) (l := tables_1_5) rfl))))))) rfl
set_option maxHeartbeats 4000000 in
set_option maxRecDepth 100000 in
theorem mS_20 : (Cond.instanceMethod ({ cls := "KindRounds", name := "<init>", desc := "()V" } : Jvm.MethodName)) ∈ lw_good := good_in (List.mem_append_right _ (List.mem_append_left _ (List.mem_of_getElem? (i := 25) (l := tables_1_1) rfl))) rfl
set_option maxHeartbeats 4000000 in
set_option maxRecDepth 100000 in
theorem mS_21 : (Cond.instanceMethod ({ cls := "KindRoundsModel", name := "<init>", desc := "()V" } : Jvm.MethodName)) ∈ lw_good := good_in (List.mem_append_right _ (List.mem_append_right _ (List.mem_append_right _ (List.mem_append_right _ (List.mem_append_right _ (List.mem_append_left _ (List.mem_of_getElem? (i := 206) (l := tables_1_5) rfl))))))) rfl
/-! From the entry of the law to its loop; the String of signs. Own text, written by program (wip/gen). -/
section SL
variable {D : va_G} {cl : List vw_C} {tys t1 t2 : List (ClassId × FieldType)} {A : Nat → Prop} {ws w1 w2 : va_W}
variable {p : Program} {l : Launch} {e : Env} {R : Room} {s : State} {m : MethodId} {args : Array Value} {below : List Frame} {meth : Method} {c : Code} {cc : ByteArray} {own : String} {nL : Nat} {Q : State → Prop} {cells slots pc : Nat} {lv lv' : List (Nat × Value)} {st : List Value}
theorem y_ctorL (C : yC A p s m args meth c cc own nL) {y : MethodName} {c2 : ByteArray} {n2 rk mc ms n index h : Nat} {As st0 : List Value} {wc wr : va_W} {post : va_W → List (ClassId × FieldType) → Prop} (hM : kN l D cl y c2 n2 rk mc ms h As wc post) (hm : kM y c2 n2 none n) (hi : Cond.instanceMethod y ∈ lw_good) (hyn : y.name = "<init>") (hlink : Cond.methodLink own index y ∈ lw_good) (isC isR : List Nat) (hC : isC.map (fun i => ws[i]?) = wc.map some) (hCf : isC.filterMap (fun i => ws[i]?) = wc) (hCn : va_nd isC = true) (hR : isR.map (fun i => ws[i]?) = wr.map some) (hRn : va_nd isR = true) (hdis : ∀ i ∈ isR, i ∉ isC) (hn : As.length = n) (hRm : rk + 1 ≤ R.frames ∧ 8 + (n2 + 11) + 40 * rk ≤ R.locals) (hcs : cells + mc ≤ R.cells ∧ slots + ms ≤ R.slots) (hst : st0 = As.reverse ++ .ref h :: st) (hroom : (st.map fun v => v.category).sum ≤ 8) (hd : decode cc pc = .ok (.invokespecial index, 3)) (k : ∀ w t, post w t → Y D cl A p l e R s m args below meth c nL Q (cells + mc) (slots + ms) (pc + 3) lv st (wr ++ w) (tys ++ t)) : Y D cl A p l e R s m args below meth c nL Q cells slots pc lv st0 ws tys := by
  subst hst
  intro H locs ls hP hD hK hS hl
  have hPc := hP.sub isC hCf
  have hDc := hD.sub (ws' := wc) isC hCn hC
  have hKc := hK.sub (tys' := []) [] rfl
  have hFc := va_free (wc := wc) hD hS C.2.2.2.2.2.2.2 isC hC
  refine va_callv (va_runI (As := As) (rest := st) ⟨C.1, C.2.1, C.2.2.1, C.2.2.2.1, C.2.2.2.2.1⟩ (hM H.size) ⟨callB_of n C.2.2.2.2.1 (good_cons hm.1) rfl rfl rfl (C.2.2.2.2.1 _ hm.2.1) (C.2.2.2.2.1 _ hlink) hm.2.2 hRm, hyn, C.2.2.2.2.1 _ hi⟩ ⟨fun a U g mk q => by obtain ⟨q0, q1, qP, qK, qN, qD⟩ := q; exact ⟨q0, q1, qP, va_K.moved (u := U) (U := U.calling g mk a) (Vm.Alike.refl U.vm) qK, nK_warm (U := U.calling g mk a) (State.WarmedH.refl U) qN, qD⟩, fun U hU hW => ⟨rfl, by rw [hU], by rw [hU]; exact hPc, va_K.moved hW.alike hKc, nK_warm hW C.2.2.2.2.2.2.1, hDc.weaken (fun _ _ _ _ => trivial)⟩⟩ rfl hn hl.1 rfl (lv_room hroom) hd hcs) hS (fun q _ h => hFc q h) hFc (fun u t H1 locs1 ht hvm hw hB hz1 hk1 hS1 => ?_)
  obtain ⟨hP1, hK1, hD1⟩ := hB
  rw [ht] at hP1
  have hK1 := va_K.moved hvm.symm hK1
  obtain ⟨hP2, hD2⟩ := va_join (wr := wr) (w1 := u.1) hP hD isC isR hC hR hRn hdis hk1 hFc hP1 hD1
  exact k u.1 u.2 hw H1 locs1 ls hP2 hD2 (hK.app hK1) hS1 hl
theorem y_astore_n (C : yC A p s m args meth c cc own nL) {k0 : Fin 4} {i x : Nat} (hd : decode cc pc = .ok (.astore_n k0, 1)) (hi : (k0 : Nat) = i) (hn : i < nL) (ks : List Nat) (hl' : lv_pick (z_st1 i (.ref x) lv) ks = lv') (k : Y D cl A p l e R s m args below meth c nL Q cells slots (pc + 1) lv' st ws tys) : Y D cl A p l e R s m args below meth c nL Q cells slots pc lv (.ref x :: st) ws tys :=
  fun H locs ls hP hD hK hS hl => lv_astore_n C.1 C.2.1 hd hi hl hn rfl (fun ls' h' => k H locs ls' hP hD hK hS (lv_sub h' ks hl'))
theorem y_istore_n (C : yC A p s m args meth c cc own nL) {k0 : Fin 4} {i : Nat} {x : Int32} (hd : decode cc pc = .ok (.istore_n k0, 1)) (hi : (k0 : Nat) = i) (hn : i < nL) (ks : List Nat) (hl' : lv_pick (z_st1 i (.int x) lv) ks = lv') (k : Y D cl A p l e R s m args below meth c nL Q cells slots (pc + 1) lv' st ws tys) : Y D cl A p l e R s m args below meth c nL Q cells slots pc lv (.int x :: st) ws tys :=
  fun H locs ls hP hD hK hS hl => lv_istore_n C.1 C.2.1 hd hi hl hn rfl (fun ls' h' => k H locs ls' hP hD hK hS (lv_sub h' ks hl'))
theorem vaP_l {H : Heap} (h : va_P D cl (w1 ++ w2) H) : va_P D cl w1 H := fun k q hk => h k q (by
  have : k < w1.length := (List.getElem?_eq_some_iff.mp hk).1
  rw [List.getElem?_append_left this]; exact hk)
theorem vaP_r {H : Heap} (h : va_P D cl (w1 ++ w2) H) : va_P D cl w2 H := fun k q hk => h (w1.length + k) q (by
  rw [List.getElem?_append_right (Nat.le_add_right _ _), Nat.add_sub_cancel_left]; exact hk)
theorem vaD_l (h : va_D A (w1 ++ w2)) : va_D A w1 := by
  have e : ∀ k q, w1[k]? = some q → (w1 ++ w2)[k]? = some q := fun k q hk => by
    have : k < w1.length := (List.getElem?_eq_some_iff.mp hk).1
    rw [List.getElem?_append_left this]; exact hk
  exact ⟨fun i j p q hi hj hpq => h.1 i j p q (e i p hi) (e j q hj) hpq, fun k q hk => h.2 k q (e k q hk)⟩
theorem vaD_r (h : va_D A (w1 ++ w2)) : va_D A w2 := by
  have e : ∀ k q, w2[k]? = some q → (w1 ++ w2)[w1.length + k]? = some q := fun k q hk => by
    rw [List.getElem?_append_right (Nat.le_add_right _ _), Nat.add_sub_cancel_left]; exact hk
  exact ⟨fun i j p q hi hj hpq => Nat.add_left_cancel (h.1 _ _ p q (e i p hi) (e j q hj) hpq), fun k q hk => h.2 _ q (e k q hk)⟩
theorem vaD_x (h : va_D A (w1 ++ w2)) {i j : Nat} {p q : Nat × va_E} (hi : w1[i]? = some p) (hj : w2[j]? = some q) : p.1 ≠ q.1 := by
  intro e
  have hl : i < w1.length := (List.getElem?_eq_some_iff.mp hi).1
  have := h.1 i (w1.length + j) p q (by rw [List.getElem?_append_left hl]; exact hi) (by rw [List.getElem?_append_right (Nat.le_add_right _ _), Nat.add_sub_cancel_left]; exact hj) e
  omega
theorem vaK_l (h : va_K D cl (t1 ++ t2) s) : va_K D cl t1 s := ⟨h.1, fun k q hk => h.2 k q (by
  have : k < t1.length := (List.getElem?_eq_some_iff.mp hk).1
  rw [List.getElem?_append_left this]; exact hk)⟩
theorem vaK_r (h : va_K D cl (t1 ++ t2) s) : va_K D cl t2 s := ⟨h.1, fun k q hk => h.2 (t1.length + k) q (by
  rw [List.getElem?_append_right (Nat.le_add_right _ _), Nat.add_sub_cancel_left]; exact hk)⟩
end SL
theorem own_dis {A : Nat → Prop} {ad bd : Nat → Nat} {cA cB : Nat → ClassId} {σ τ : zS} (h : va_D A (wdC ad cA σ ++ wdM bd cB τ)) : ∀ q, owC ad q → ¬ owM bd q := by
  intro q h1 h2
  obtain ⟨i, hi, e1⟩ := h1
  obtain ⟨j, hj, e2⟩ := h2
  have g : ∀ {wd : zS → va_W} {n : Nat} {ad : Nat → Nat} {σ : zS} {k : Nat}, (∀ σ, (wd σ).map (·.1) = (List.range n).map ad) → k < n → ∃ z, (wd σ)[k]? = some z ∧ z.1 = ad k := by
    intro wd n ad σ k ha hk
    have h1 : ((wd σ).map (·.1))[k]? = some (ad k) := by rw [ha σ, List.getElem?_map, List.getElem?_range hk]; rfl
    rw [List.getElem?_map] at h1
    cases hw : (wd σ)[k]? with
    | none => rw [hw] at h1; cases h1
    | some z => rw [hw] at h1; exact ⟨z, rfl, by simpa using h1⟩
  obtain ⟨z1, g1, g2⟩ := g (σ := σ) (wdC_addr ad cA) hi
  obtain ⟨z2, g3, g4⟩ := g (σ := τ) (wdM_addr bd cB) hj
  exact vaD_x h g1 g3 (by rw [g2, g4, ← e1, ← e2])
set_option maxHeartbeats 4000000 in
set_option maxRecDepth 100000 in
theorem sXC_start {s : State} {args : Array Value} {ad : Nat → Nat} (hts : ∀ w ∈ lw_tbl, w.before args s = true) (hgv : (Jvm.Cond.and given_1 narrow_1).before args s = true) (hA : ∀ q, owC ad q → s.heap.size ≤ q) : sXC ad s := by
  have hs := flat_of_before _ hgv
  have hA2 : ∀ a : Nat, a < s.heap.size → ¬ owC ad a := fun a h1 h2 => absurd (hA a h2) (by omega)
  have hel : ∀ j : Nat, j < 11 → (Cond.eq (.elem (.field (.string "KindRounds$Tape" 60) "java/lang/String" "value" "[B") (.int (Int32.ofNat j))) (.int (sgB.getD j 0))).before args s = true := by
    intro j hj
    rcases (show j = 0 ∨ j = 1 ∨ j = 2 ∨ j = 3 ∨ j = 4 ∨ j = 5 ∨ j = 6 ∨ j = 7 ∨ j = 8 ∨ j = 9 ∨ j = 10 by omega) with rfl | rfl | rfl | rfl | rfl | rfl | rfl | rfl | rfl | rfl | rfl <;> exact hs _ (by decide +kernel)
  obtain ⟨adK, adV, h1, h2⟩ := vk_Sof (N := 1) (tm := fun _ => .string "KindRounds$Tape" 60) (len := [11]) (byt := [sgB]) (A := owC ad) (args := args) (s := s) (fun i hi => by obtain rfl : i = 0 := (by omega); decide) (fun i hi => hs _ (by decide +kernel)) (fun i hi => hs _ (by decide +kernel)) (fun i hi => hs _ (by decide +kernel)) (fun i hi => by obtain rfl : i = 0 := (by omega); exact hs _ (by decide +kernel)) (fun i hi j hj => by obtain rfl : i = 0 := (by omega); exact hel j hj) (fun i j hi hj h => absurd (show i = j by omega) h) hA2
  have hz : (Term.static "java/lang/String" "COMPACT_STRINGS" "Z").eval args s none [] s = some (.int 1) := va_eqi (hs _ (by decide +kernel))
  refine ⟨adK 0, vk_R.of (hts _ (List.mem_append_right _ (List.mem_append_right _ (List.mem_append_right _ (List.mem_append_left _ (List.mem_of_getElem? (i := 89) (l := tables_1_3) rfl)))))) (h2 0 (by omega)), adV 0, ?_, va_Zof (hts _ (List.mem_append_right _ (List.mem_append_right _ (List.mem_append_right _ (List.mem_append_left _ (List.mem_of_getElem? (i := 103) (l := tables_1_3) rfl)))))) (hts _ (List.mem_append_right _ (List.mem_append_left _ (List.mem_of_getElem? (i := 14) (l := tables_1_1) rfl)))) hz hA2⟩
  exact ⟨fun i hi => by obtain rfl : i = 0 := (by omega); exact h1.1 0 (by omega), fun i j hi hj h => by omega⟩
set_option maxHeartbeats 8000000 in
set_option maxRecDepth 100000 in
theorem law_start {F : Nat} {Rel : zS → zS → Prop} (hO : pOK F Rel) {p : Program} {e : Env} {s : State} {m : MethodId} {below : List Frame} {meth : Method} {c : Code} (l : Launch) {b L : Nat} {xs : Nat → Int32} (hL : L ≤ 3072) (C0 : lw_At p s m meth c b L xs) : W p l e room_1 s m #[Value.ref b] below meth c s.heap [] 0 0 (lw_Z below #[Value.ref b] s) (entryFrame m ([Value.ref b] : List Value).toArray 4) := by
  obtain ⟨hx, hb, hr, hml, hown, hts, hX, hbl, hlocks, hgv⟩ := id C0
  have hgood : ∀ w ∈ lw_good, w.before #[Value.ref b] s = true := fun w hw => hts w (List.mem_filter.mp hw).1
  have hN : nK s := fun w hw => by
    have hg := (List.mem_filter.mp hw).2
    have h1 := hts w (List.mem_filter.mp hw).1
    cases w <;> first | exact va_Nw.of rfl h1 | exact absurd hg (by simp [isNest])
  obtain ⟨c0, i0, k0⟩ := u_known (C := "KindRounds") (T := T_Q) (N := 12) (n := 12) hgood i_Q (hgood _ mS_0)
  obtain ⟨c1, i1, k1⟩ := u_known (C := "KindRounds$Tape") (T := T_Ta) (N := 7) (n := 7) hgood i_Ta (hgood _ mS_1)
  obtain ⟨c2, i2, k2⟩ := u_known (C := "KindRounds$Fault") (T := T_Fa) (N := 4) (n := 4) hgood i_Fa (hgood _ mS_2)
  obtain ⟨c3, i3, k3⟩ := u_known (C := "KindRounds$Kinds") (T := T_Ki) (N := 11) (n := 11) hgood i_Ki (hgood _ mS_3)
  obtain ⟨c4, i4, k4⟩ := u_known (C := "KindRounds$Text") (T := T_Te) (N := 17) (n := 17) hgood i_Te (hgood _ mS_4)
  obtain ⟨c5, i5, k5⟩ := u_known (C := "KindRounds$Mentions") (T := T_Me) (N := 6) (n := 6) hgood i_Me (hgood _ mS_5)
  obtain ⟨c6, i6, k6⟩ := u_known (C := "KindRounds$Parser") (T := T_Pa) (N := 7) (n := 7) hgood i_Pa (hgood _ mS_6)
  obtain ⟨c7, i7, k7⟩ := u_known (C := "KindRounds$Checker") (T := T_Ch) (N := 4) (n := 4) hgood i_Ch (hgood _ mS_7)
  obtain ⟨c8, i8, k8⟩ := u_known (C := "KindRounds$Solver") (T := T_So) (N := 16) (n := 16) hgood i_So (hgood _ mS_8)
  obtain ⟨c9, i9, k9⟩ := u_known (C := "KindRounds$Plainer") (T := T_Pl) (N := 9) (n := 9) hgood i_Pl (hgood _ mS_9)
  obtain ⟨c10, i10, k10⟩ := u_known (C := "KindRounds$Row") (T := T_Ro) (N := 8) (n := 8) hgood i_Ro (hgood _ mS_10)
  obtain ⟨c11, i11, k11⟩ := u_known (C := "KindRounds$Line") (T := T_Li) (N := 2) (n := 2) hgood i_Li (hgood _ mS_11)
  obtain ⟨c12, i12, k12⟩ := u_known (C := "KindRoundsModel") (T := T_Md) (N := 99) (n := 99) hgood i_Md (hgood _ mS_12)
  obtain ⟨dC, dI, hKc⟩ : ∃ (dC : Nat → ClassId) (dI : Nat → Nat → Nat), ∀ (k : Nat) (q : vw_C), clC[k]? = some q → u_Kn s q.1 q.2.1 q.2.2 (dC k) (dI k) := by
    refine ⟨fun k => if k = 0 then c0 else if k = 1 then c1 else if k = 2 then c2 else if k = 3 then c3 else if k = 4 then c4 else if k = 5 then c5 else if k = 6 then c6 else if k = 7 then c7 else if k = 8 then c8 else if k = 9 then c9 else if k = 10 then c10 else if k = 11 then c11 else c12, fun k => if k = 0 then i0 else if k = 1 then i1 else if k = 2 then i2 else if k = 3 then i3 else if k = 4 then i4 else if k = 5 then i5 else if k = 6 then i6 else if k = 7 then i7 else if k = 8 then i8 else if k = 9 then i9 else if k = 10 then i10 else if k = 11 then i11 else i12, ?_⟩
    intro k q hq
    match k, hq with
    | 0, hq => cases hq; exact k0
    | 1, hq => cases hq; exact k1
    | 2, hq => cases hq; exact k2
    | 3, hq => cases hq; exact k3
    | 4, hq => cases hq; exact k4
    | 5, hq => cases hq; exact k5
    | 6, hq => cases hq; exact k6
    | 7, hq => cases hq; exact k7
    | 8, hq => cases hq; exact k8
    | 9, hq => cases hq; exact k9
    | 10, hq => cases hq; exact k10
    | 11, hq => cases hq; exact k11
    | 12, hq => cases hq; exact k12
    | k + 13, hq => simp [clC] at hq
  have C : yC (fun q => s.heap.size ≤ q) p s m #[Value.ref b] meth c code "KindRoundsLaw" 4 := ⟨hx, hb, hml, hown, hgood, hlocks, hN, fun _ h => h⟩
  have hl := lv_entry ([.ref b]) (n := 4) (Nat.le_of_ble_eq_true rfl)
  rw [lg_entry_eq]
  suffices hY : Y (dC, dI) clC (fun q => s.heap.size ≤ q) p l e room_1 s m #[Value.ref b] below meth c 4 (lw_Z below #[Value.ref b] s) 0 0 0 (lv_args 0 [.ref b]) [] [] [] from
    hY s.heap [] _ (fun k q h => by simp at h) ⟨fun i j p q h => by simp at h, fun k q h => by simp at h⟩ ⟨hKc, fun k q h => by simp at h⟩ va_S.rf hl
  refine y_lv (lv' := [(0, .ref b)]) [0] rfl ?_
  refine y_new (pc := 0) (ci := 0) (fs := [.null, .null, .null, .null, .null, .null, .null, .null, .null, .null, .null, .null]) C i_Q t_Q t_Q_ok mS_16 mS_0 mS_13 rfl df_Q (by decide) (by decide) d_law_0 (fun q0 => ?_)
  refine y_dup (pc := 3) C d_law_3 rfl ?_
  refine y_ctorL (pc := 4) (wc := [(q0, .inr (0, [.null, .null, .null, .null, .null, .null, .null, .null, .null, .null, .null, .null]))]) (wr := []) C (i_Q_init (h := q0)) km_Q_init mS_20 rfl mS_18 [0] [] rfl rfl rfl rfl rfl (by decide) rfl (by decide) (by decide) rfl (Nat.le_of_ble_eq_true rfl) d_law_4 (fun w t hwt => ?_)
  obtain ⟨ad, cA, h0, rfl, rfl⟩ := hwt
  refine y_astore_n (pc := 7) (lv' := [(0, .ref b), (1, .ref q0)]) C d_law_7 rfl (by decide) [1, 0] rfl ?_
  refine y_new (pc := 8) (ci := 12) (fs := [.int 0, .null, .int 0, .int 0, .int 0, .int 0, .long 0, .int 0, .int 0, .int 0, .int 0, .null, .null, .null, .null, .null, .int 0, .int 0, .int 0, .int 0, .null, .null, .null, .int 0, .null, .null, .null, .null, .null, .null, .null, .int 0, .int 0, .null, .null, .null, .null, .null, .null, .null, .null, .null, .int 0, .null, .null, .null, .null, .null, .int 0, .int 0, .null, .null, .int 0, .null, .null, .null, .null, .null, .null, .null, .null, .null, .int 0, .null, .null, .null, .int 0, .int 0, .null, .null, .null, .int 0, .null, .null, .null, .null, .null, .null, .null, .int 0, .int 0, .null, .int 0, .null, .int 0, .int 0, .null, .int 0, .int 0, .int 0, .null, .int 0, .null, .null, .null, .int 0, .int 0, .int 0, .null]) C i_Md t_Md t_Md_ok mS_17 mS_12 mS_14 rfl df_Md (by decide) (by decide) d_law_8 (fun q1 => ?_)
  refine y_dup (pc := 11) C d_law_11 rfl ?_
  refine y_ctorL (pc := 12) (wc := [(q1, .inr (12, [.int 0, .null, .int 0, .int 0, .int 0, .int 0, .long 0, .int 0, .int 0, .int 0, .int 0, .null, .null, .null, .null, .null, .int 0, .int 0, .int 0, .int 0, .null, .null, .null, .int 0, .null, .null, .null, .null, .null, .null, .null, .int 0, .int 0, .null, .null, .null, .null, .null, .null, .null, .null, .null, .int 0, .null, .null, .null, .null, .null, .int 0, .int 0, .null, .null, .int 0, .null, .null, .null, .null, .null, .null, .null, .null, .null, .int 0, .null, .null, .null, .int 0, .int 0, .null, .null, .null, .int 0, .null, .null, .null, .null, .null, .null, .null, .int 0, .int 0, .null, .int 0, .null, .int 0, .int 0, .null, .int 0, .int 0, .int 0, .null, .int 0, .null, .null, .null, .int 0, .int 0, .int 0, .null]))]) (wr := wdC ad cA σC0) C (i_Md_init (h := q1)) kz_Md_init mS_21 rfl mS_19 [94] (List.range 94) rfl rfl rfl rfl rfl (by decide) rfl (by decide) (by decide) rfl (Nat.le_of_ble_eq_true rfl) d_law_12 (fun w t hwt => ?_)
  obtain ⟨bd, cB, h1, rfl, rfl⟩ := hwt
  refine y_astore_n (pc := 15) (lv' := [(0, .ref b), (1, .ref q0), (2, .ref q1)]) C d_law_15 rfl (by decide) [1, 2, 0] rfl ?_
  refine y_iconst (pc := 16) C d_law_16 ki_0 ?_
  refine y_istore_n (pc := 17) (lv' := [(0, .ref b), (1, .ref q0), (2, .ref q1), (3, .int 0)]) C d_law_17 rfl (by decide) [1, 2, 3, 0] rfl ?_
  subst h0
  subst h1
  intro H locs ls hP hD hK hS hl
  have hD1 := vaD_all (wdC_addr ad cA) (vaD_l hD)
  have hD2 := vaD_all (wdM_addr bd cB) (vaD_r hD)
  have s1 : ∀ q, owC ad q → s.heap.size ≤ q := vaD_sub (wdC_addr ad cA) (hD1 σC0)
  have s2 : ∀ q, owM bd q → s.heap.size ≤ q := vaD_sub (wdM_addr bd cB) (hD2 σM0)
  have JC : jC (dC, dI) ad bd cA cB p s m c b L xs := ⟨hx, hb, hml, hown, hgood, hN, vaK_l hK, vaK_r hK, vaD_own (wdC_addr ad cA) hD1, vaD_own (wdM_addr bd cB) hD2, own_dis hD, s1, s2, sXC_start hts hgv s1, hX, hbl⟩
  refine law_loop hO hL JC (fun σ τ H locs ls h1 h2 hS hl => ?_) (L + 2) 0 (by omega) (by omega) σC0 σM0 hO.1 H locs ls (vaP_l hP) (vaP_r hP) hS hl
  refine va_forget (fun q hq => hS.2.2 q hq) ?_
  refine W.widen (k := 600000) (n := 7302249) (by decide) (by decide) ?_
  exact lw_ret hx hb hr hlocks d_law_453
