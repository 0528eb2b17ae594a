/-! Walks of Li. Written by program (wip/gen). -/
set_option maxHeartbeats 4000000 in
set_option maxRecDepth 100000 in
theorem k_Li_clear {l : Launch} {D : va_G} {ad : Nat → Nat} {cA : Nat → ClassId} {F : Nat} (hAD : ∀ σ, va_D (owC ad) (wdC ad cA σ)) {σ : zS} {x0 : Nat} {σ' : zS} (hm : Li_clear F σ x0 = some σ') : kVC l D ad cA (sXC ad) y_Li_clear bc_Li_clear 1 0 [.ref (ad x0)] σ σ' := by
  refine kV_of (by decide) hAD sXC_P (Nat.le_of_ble_eq_true rfl) ?_
  intro p e s m below meth c C hr
  unfold Li_clear at hm
  refine z_lv (lv' := [(0, .ref (ad x0))]) [0] rfl ?_
  refine z_aload_n (pc := 0) C d_Li_clear_0 rfl 0 rfl ?_
  refine z_iconst (pc := 1) C d_Li_clear_1 ki_0 ?_
  obtain ⟨g1, hm⟩ := gd_s hm
  refine pC_Li_13 (pc := 2) C g1  d_Li_clear_2 ?_
  exact z_vretE (pc := 5) C hr hm d_Li_clear_5
set_option maxHeartbeats 4000000 in
set_option maxRecDepth 100000 in
theorem w_Li_put_31 {D : va_G} {ad : Nat → Nat} {cA : Nat → ClassId} {p : Program} {l : Launch} {e : Env} {s : State} {m : MethodId} {args : Array Value} {below : List Frame} {meth : Method} {c : Code} {F : Nat} (hAD : ∀ σ, va_D (owC ad) (wdC ad cA σ)) (C : CC D ad cA (sXC ad) p s m args meth c bc_Li_put "KindRounds$Line" 2) (hr : meth.sig.returnType = none) {σ' : zS} (σ : zS) (hm : Li_put_31 F σ = some σ') : ZC D ad cA p l e (rmK 0) s m args below meth c 2 (qvC D ad cA below args s σ') 31 [] [] σ := by
  unfold Li_put_31 at hm
  exact z_vretE (pc := 31) C hr hm d_Li_put_31
set_option maxHeartbeats 4000000 in
set_option maxRecDepth 100000 in
theorem k_Li_put {l : Launch} {D : va_G} {ad : Nat → Nat} {cA : Nat → ClassId} {F : Nat} (hAD : ∀ σ, va_D (owC ad) (wdC ad cA σ)) {σ : zS} {x0 : Nat} {x1 : Int32} {σ' : zS} (hm : Li_put F σ x0 x1 = some σ') : kVC l D ad cA (sXC ad) y_Li_put bc_Li_put 2 0 [.ref (ad x0), .int x1] σ σ' := by
  refine kV_of (by decide) hAD sXC_P (Nat.le_of_ble_eq_true rfl) ?_
  intro p e s m below meth c C hr
  unfold Li_put at hm
  refine z_lv (lv' := [(0, .ref (ad x0)), (1, .int x1)]) [0, 1] rfl ?_
  refine z_aload_n (pc := 0) C d_Li_put_0 rfl 0 rfl ?_
  obtain ⟨g1, hm⟩ := gd_s hm
  refine gC_Li_13 (pc := 1) (v := (mi σ (100 * x0 + 1))) C g1 rfl d_Li_put_1 ?_
  refine z_sipush (pc := 4) C d_Li_put_4 ks_2400 ?_
  refine z_icmp_ge (pc := 7) (tgt := 31) C d_Li_put_7 (by decide) (fun c2 => ?_) (fun c2 => ?_)
  · rw [if_pos c2] at hm
    refine z_lv (lv' := []) [] rfl ?_
    exact w_Li_put_31 hAD C hr σ hm
  · rw [if_neg c2] at hm
    refine z_aload_n (pc := 10) C d_Li_put_10 rfl 0 rfl ?_
    refine gC_Li_9 (pc := 11) C g1  d_Li_put_11 ?_
    refine z_aload_n (pc := 14) C d_Li_put_14 rfl 0 rfl ?_
    refine gC_Li_13 (pc := 15) (v := (mi σ (100 * x0 + 1))) C g1 rfl d_Li_put_15 ?_
    refine z_iload_n (pc := 18) C d_Li_put_18 rfl 1 rfl ?_
    refine z_i2b (pc := 19) C d_Li_put_19 ?_
    obtain ⟨g3, hm⟩ := gd_s hm
    refine asC_Li_0 (pc := 20) C (x := x0) g1 g3 d_Li_put_20 ?_
    refine z_aload_n (pc := 21) C d_Li_put_21 rfl 0 rfl ?_
    refine z_dup (pc := 22) C d_Li_put_22 rfl ?_
    refine gC_Li_13 (pc := 23) (v := (mi σ (100 * x0 + 1))) C g1 rfl d_Li_put_23 ?_
    refine z_iconst (pc := 26) C d_Li_put_26 ki_1 ?_
    refine z_iadd (pc := 27) C d_Li_put_27 ?_
    refine pC_Li_13 (pc := 28) C g1  d_Li_put_28 ?_
    refine z_lv (lv' := []) [] rfl ?_
    exact w_Li_put_31 hAD C hr (ti (ta σ (lA x0) (mi σ (100 * x0 + 1)).toNatClampNeg (vp_nar .byte (Int32.toInt8 x1).toInt32)) (100 * x0 + 1) ((mi σ (100 * x0 + 1)) + (1 : Int32))) hm
set_option maxHeartbeats 4000000 in
set_option maxRecDepth 100000 in
theorem k_Li_putArrow {l : Launch} {D : va_G} {ad : Nat → Nat} {cA : Nat → ClassId} {F : Nat} (hAD : ∀ σ, va_D (owC ad) (wdC ad cA σ)) {σ : zS} {x0 : Nat} {σ' : zS} (hm : Li_putArrow F σ x0 = some σ') : kVC l D ad cA (sXC ad) y_Li_putArrow bc_Li_putArrow 1 1 [.ref (ad x0)] σ σ' := by
  refine kV_of (by decide) hAD sXC_P (Nat.le_of_ble_eq_true rfl) ?_
  intro p e s m below meth c C hr
  unfold Li_putArrow at hm
  refine z_lv (lv' := [(0, .ref (ad x0))]) [0] rfl ?_
  refine z_aload_n (pc := 0) C d_Li_putArrow_0 rfl 0 rfl ?_
  refine z_bipush (pc := 1) C d_Li_putArrow_1 kb_45 ?_
  obtain ⟨g2, hm⟩ := gd_s hm
  obtain ⟨σ1, e3, hm⟩ := bv_s hm
  refine z_callV (pc := 3) C (k_Li_put hAD e3) km_Li_put mC_22 rfl rfl (oC_Li g2) rfl (kR_of (Nat.le_of_ble_eq_true rfl) (Nat.le_of_ble_eq_true rfl)) rfl (Nat.le_of_ble_eq_true rfl) d_Li_putArrow_3 ?_
  refine z_aload_n (pc := 6) C d_Li_putArrow_6 rfl 0 rfl ?_
  refine z_bipush (pc := 7) C d_Li_putArrow_7 kb_62 ?_
  obtain ⟨σ4, e5, hm⟩ := bv_s hm
  refine z_callV (pc := 9) C (k_Li_put hAD e5) km_Li_put mC_22 rfl rfl (oC_Li g2) rfl (kR_of (Nat.le_of_ble_eq_true rfl) (Nat.le_of_ble_eq_true rfl)) rfl (Nat.le_of_ble_eq_true rfl) d_Li_putArrow_9 ?_
  exact z_vretE (pc := 12) C hr hm d_Li_putArrow_12
set_option maxHeartbeats 4000000 in
set_option maxRecDepth 100000 in
theorem w_Li_putName_28 {D : va_G} {ad : Nat → Nat} {cA : Nat → ClassId} {p : Program} {l : Launch} {e : Env} {s : State} {m : MethodId} {args : Array Value} {below : List Frame} {meth : Method} {c : Code} {F : Nat} (hAD : ∀ σ, va_D (owC ad) (wdC ad cA σ)) (C : CC D ad cA (sXC ad) p s m args meth c bc_Li_putName "KindRounds$Line" 5) (hr : meth.sig.returnType = none) {σ' : zS} (rc3 : zS → Nat → Int64 → Int32 → Option zS) (h3 : ∀ σ x0 x1 x3, rc3 σ x0 x1 x3 = some σ' → ZC D ad cA p l e (rmK 1) s m args below meth c 5 (qvC D ad cA below args s σ') 3 [(0, .ref (ad x0)), (1, .long x1), (3, .int x3)] [] σ) (σ : zS) (x0 : Nat) (x1 : Int64) (x3 : Int32) (hm : Li_putName_28 F rc3 σ x0 x1 x3 = some σ') : ZC D ad cA p l e (rmK 1) s m args below meth c 5 (qvC D ad cA below args s σ') 28 [(0, .ref (ad x0)), (1, .long x1), (3, .int x3)] [] σ := by
  unfold Li_putName_28 at hm
  refine z_iinc (pc := 28) (lv' := [(0, .ref (ad x0)), (1, .long x1), (3, .int (x3 + (-8 : Int32)))]) C d_Li_putName_28 2 rfl (ii ki_m8) (Nat.le_of_ble_eq_true rfl) [1, 2, 0] rfl ?_
  refine z_goto (pc := 31) (tgt := 3) C d_Li_putName_31 (by decide) ?_
  exact h3 σ x0 x1 (x3 + (-8 : Int32)) hm
set_option maxHeartbeats 4000000 in
set_option maxRecDepth 100000 in
theorem w_Li_putName_3 {D : va_G} {ad : Nat → Nat} {cA : Nat → ClassId} {p : Program} {l : Launch} {e : Env} {s : State} {m : MethodId} {args : Array Value} {below : List Frame} {meth : Method} {c : Code} {F : Nat} (hAD : ∀ σ, va_D (owC ad) (wdC ad cA σ)) (C : CC D ad cA (sXC ad) p s m args meth c bc_Li_putName "KindRounds$Line" 5) (hr : meth.sig.returnType = none) {σ' : zS} : ∀ (n : Nat) (σ : zS) (x0 : Nat) (x1 : Int64) (x3 : Int32), Li_putName_3 F n σ x0 x1 x3 = some σ' → ZC D ad cA p l e (rmK 1) s m args below meth c 5 (qvC D ad cA below args s σ') 3 [(0, .ref (ad x0)), (1, .long x1), (3, .int x3)] [] σ := by
  intro n
  induction n with
  | zero => intro σ x0 x1 x3 hm; cases hm
  | succ n h3 =>
    intro σ x0 x1 x3 hm
    have hm : Li_putName_b3 F (Li_putName_3 F n) σ x0 x1 x3 = some σ' := hm
    unfold Li_putName_b3 at hm
    refine z_iload_n (pc := 3) C d_Li_putName_3 rfl 2 rfl ?_
    refine z_if_lt (pc := 4) (tgt := 34) C d_Li_putName_4 (by decide) (fun c1 => ?_) (fun c1 => ?_)
    · rw [if_pos c1] at hm
      exact z_vretE (pc := 34) C hr hm d_Li_putName_34
    · rw [if_neg c1] at hm
      refine z_lload_n (pc := 7) C d_Li_putName_7 rfl 1 rfl ?_
      refine z_iload_n (pc := 8) C d_Li_putName_8 rfl 2 rfl ?_
      refine z_lushr (pc := 9) C d_Li_putName_9 ?_
      refine z_l2i (pc := 10) C d_Li_putName_10 ?_
      refine z_sipush (pc := 11) C d_Li_putName_11 ks_255 ?_
      refine z_iand (pc := 14) C d_Li_putName_14 ?_
      refine z_istore (pc := 15) (lv' := [(0, .ref (ad x0)), (1, .long x1), (3, .int x3), (4, .int ((Int64.toInt32 (x1.toUInt64 >>> ((Int32.toInt64 x3).toUInt64 &&& Int64.toUInt64 63)).toInt64) &&& (255 : Int32)))]) C d_Li_putName_15 (Nat.le_of_ble_eq_true rfl) [1, 2, 3, 0] rfl ?_
      refine z_iload (pc := 17) C d_Li_putName_17 3 rfl ?_
      refine z_if_eq (pc := 19) (tgt := 28) C d_Li_putName_19 (by decide) (fun c2 => ?_) (fun c2 => ?_)
      · rw [if_pos c2] at hm
        refine z_lv (lv' := [(0, .ref (ad x0)), (1, .long x1), (3, .int x3)]) [0, 1, 2] rfl ?_
        exact w_Li_putName_28 hAD C hr _ h3 σ x0 x1 x3 hm
      · rw [if_neg c2] at hm
        refine z_aload_n (pc := 22) C d_Li_putName_22 rfl 0 rfl ?_
        refine z_iload (pc := 23) C d_Li_putName_23 3 rfl ?_
        obtain ⟨g4, hm⟩ := gd_s hm
        obtain ⟨σ3, e5, hm⟩ := bv_s hm
        refine z_callV (pc := 25) C (k_Li_put hAD e5) km_Li_put mC_22 rfl rfl (oC_Li g4) rfl (kR_of (Nat.le_of_ble_eq_true rfl) (Nat.le_of_ble_eq_true rfl)) rfl (Nat.le_of_ble_eq_true rfl) d_Li_putName_25 ?_
        refine z_lv (lv' := [(0, .ref (ad x0)), (1, .long x1), (3, .int x3)]) [0, 1, 2] rfl ?_
        exact w_Li_putName_28 hAD C hr _ h3 σ3 x0 x1 x3 hm
set_option maxHeartbeats 4000000 in
set_option maxRecDepth 100000 in
theorem k_Li_putName {l : Launch} {D : va_G} {ad : Nat → Nat} {cA : Nat → ClassId} {F : Nat} (hAD : ∀ σ, va_D (owC ad) (wdC ad cA σ)) {σ : zS} {x0 : Nat} {x1 : Int64} {σ' : zS} (hm : Li_putName F σ x0 x1 = some σ') : kVC l D ad cA (sXC ad) y_Li_putName bc_Li_putName 5 1 [.ref (ad x0), .long x1] σ σ' := by
  refine kV_of (by decide) hAD sXC_P (Nat.le_of_ble_eq_true rfl) ?_
  intro p e s m below meth c C hr
  unfold Li_putName at hm
  refine z_lv (lv' := [(0, .ref (ad x0)), (1, .long x1)]) [0, 1] rfl ?_
  refine z_bipush (pc := 0) C d_Li_putName_0 kb_56 ?_
  refine z_istore_n (pc := 2) (lv' := [(0, .ref (ad x0)), (1, .long x1), (3, .int (56 : Int32))]) C d_Li_putName_2 rfl (Nat.le_of_ble_eq_true rfl) [1, 2, 0] rfl ?_
  exact w_Li_putName_3 hAD C hr F σ x0 x1 (56 : Int32) hm
set_option maxHeartbeats 4000000 in
set_option maxRecDepth 100000 in
theorem k_Li_copy {l : Launch} {D : va_G} {ad : Nat → Nat} {cA : Nat → ClassId} {F : Nat} (hAD : ∀ σ, va_D (owC ad) (wdC ad cA σ)) {σ : zS} {x0 : Nat} {x1 : Nat} {σ' : zS} (hm : Li_copy F σ x0 x1 = some σ') : kVC l D ad cA (sXC ad) y_Li_copy bc_Li_copy 2 2 [.ref (ad x0), .ref (ad x1)] σ σ' := by
  refine kV_of (by decide) hAD sXC_P (Nat.le_of_ble_eq_true rfl) ?_
  intro p e s m below meth c C hr
  unfold Li_copy at hm
  refine z_lv (lv' := [(0, .ref (ad x0)), (1, .ref (ad x1))]) [0, 1] rfl ?_
  refine z_aload_n (pc := 0) C d_Li_copy_0 rfl 1 rfl ?_
  obtain ⟨g1, hm⟩ := gd_s hm
  refine gC_Li_9 (pc := 1) C g1  d_Li_copy_1 ?_
  refine z_iconst (pc := 4) C d_Li_copy_4 ki_0 ?_
  refine z_aload_n (pc := 5) C d_Li_copy_5 rfl 0 rfl ?_
  obtain ⟨g2, hm⟩ := gd_s hm
  refine gC_Li_9 (pc := 6) C g2  d_Li_copy_6 ?_
  refine z_iconst (pc := 9) C d_Li_copy_9 ki_0 ?_
  refine z_aload_n (pc := 10) C d_Li_copy_10 rfl 1 rfl ?_
  refine gC_Li_13 (pc := 11) (v := (mi σ (100 * x1 + 1))) C g1 rfl d_Li_copy_11 ?_
  obtain ⟨g3, hm⟩ := gd_s hm
  obtain ⟨g4, hm⟩ := gd_s hm
  obtain ⟨q1_, q2_, q3_, q4_, q5_⟩ := cpG_s g3
  refine z_copyi (pc := 14) (q0 := ((lA x1))) (q1 := ((lA x0))) (t0 := (lA x1) - 19) (t1 := (lA x0) - 19) (f := (ma σ (lA x1))) (g := (ma σ (lA x0))) (ty := .byte) (σ' := (tA σ (lA x0) (va_cpy (ma σ (lA x1)) (ma σ (lA x0)) (0 : Int32).toNatClampNeg (0 : Int32).toNatClampNeg (mi σ (100 * x1 + 1)).toNatClampNeg))) C mC_23 mC_24 mC_25 mC_26 (arC_Li_0 g1) (arC_Li_0 g2) (atC_Li_0 g1) (atC_Li_0 g2) rfl q1_ q2_ q3_ q4_ q5_ (cpB_f g4) (by decide) (Nat.le_of_ble_eq_true rfl) (aSC_Li_0 g2) d_Li_copy_14 ?_
  refine z_aload_n (pc := 17) C d_Li_copy_17 rfl 0 rfl ?_
  refine z_aload_n (pc := 18) C d_Li_copy_18 rfl 1 rfl ?_
  refine gC_Li_13 (pc := 19) (v := (mi σ (100 * x1 + 1))) C g1 rfl d_Li_copy_19 ?_
  refine pC_Li_13 (pc := 22) C g2  d_Li_copy_22 ?_
  exact z_vretE (pc := 25) C hr hm d_Li_copy_25
