/-! Walks of Ar. Written by program (wip/gen). -/
set_option maxHeartbeats 4000000 in
set_option maxRecDepth 100000 in
theorem k_Ar_rangeCheck {l : Launch} {D : va_G} {ad : Nat → Nat} {cA : Nat → ClassId} {F : Nat} (hAD : ∀ σ, va_D (owC ad) (wdC ad cA σ)) {σ : zS} {x0 : Int32} {x1 : Int32} {x2 : Int32} {σ' : zS} (hm : Ar_rangeCheck F σ x0 x1 x2 = some σ') : kVC l D ad cA (sXC ad) y_Ar_rangeCheck bc_Ar_rangeCheck 3 0 [.int x0, .int x1, .int x2] σ σ' := by
  refine kV_of (by decide) hAD sXC_P (Nat.le_of_ble_eq_true rfl) ?_
  intro p e s m below meth c C hr
  unfold Ar_rangeCheck at hm
  refine z_lv (lv' := [(0, .int x0), (1, .int x1), (2, .int x2)]) [0, 1, 2] rfl ?_
  refine z_iload_n (pc := 0) C d_Ar_rangeCheck_0 rfl 1 rfl ?_
  refine z_iload_n (pc := 1) C d_Ar_rangeCheck_1 rfl 2 rfl ?_
  refine z_icmp_le (pc := 2) (tgt := 46) C d_Ar_rangeCheck_2 (by decide) (fun c1 => ?_) (fun c1 => ?_)
  · rw [if_pos c1] at hm
    refine z_iload_n (pc := 46) C d_Ar_rangeCheck_46 rfl 1 rfl ?_
    refine z_if_ge (pc := 47) (tgt := 59) C d_Ar_rangeCheck_47 (by decide) (fun c2 => ?_) (fun c2 => ?_)
    · rw [if_pos c2] at hm
      refine z_iload_n (pc := 59) C d_Ar_rangeCheck_59 rfl 2 rfl ?_
      refine z_iload_n (pc := 60) C d_Ar_rangeCheck_60 rfl 0 rfl ?_
      refine z_icmp_le (pc := 61) (tgt := 73) C d_Ar_rangeCheck_61 (by decide) (fun c3 => ?_) (fun c3 => ?_)
      · rw [if_pos c3] at hm
        exact z_vretE (pc := 73) C hr hm d_Ar_rangeCheck_73
      · rw [if_neg c3] at hm
        cases hm
    · rw [if_neg c2] at hm
      cases hm
  · rw [if_neg c1] at hm
    cases hm
set_option maxHeartbeats 4000000 in
set_option maxRecDepth 100000 in
theorem w_Ar_fill_10 {D : va_G} {ad : Nat → Nat} {cA : Nat → ClassId} {p : Program} {l : Launch} {e : Env} {s : State} {m : MethodId} {args : Array Value} {below : List Frame} {meth : Method} {c : Code} {F : Nat} (hAD : ∀ σ, va_D (owC ad) (wdC ad cA σ)) (C : CC D ad cA (sXC ad) p s m args meth c bc_Ar_fill "java/util/Arrays" 5) (hr : meth.sig.returnType = none) {σ' : zS} : ∀ (n : Nat) (σ : zS) (x0 : Nat) (x2 : Int32) (x3 : Int32) (x4 : Int32), Ar_fill_10 F n σ x0 x2 x3 x4 = some σ' → ZC D ad cA p l e (rmK 1) s m args below meth c 5 (qvC D ad cA below args s σ') 10 [(0, .ref (ad x0)), (2, .int x2), (3, .int x3), (4, .int x4)] [] σ := by
  intro n
  induction n with
  | zero => intro σ x0 x2 x3 x4 hm; cases hm
  | succ n h10 =>
    intro σ x0 x2 x3 x4 hm
    have hm : Ar_fill_b10 F (Ar_fill_10 F n) σ x0 x2 x3 x4 = some σ' := hm
    unfold Ar_fill_b10 at hm
    refine z_iload (pc := 10) C d_Ar_fill_10 3 rfl ?_
    refine z_iload_n (pc := 12) C d_Ar_fill_12 rfl 1 rfl ?_
    refine z_icmp_ge (pc := 13) (tgt := 27) C d_Ar_fill_13 (by decide) (fun c1 => ?_) (fun c1 => ?_)
    · rw [if_pos c1] at hm
      exact z_vretE (pc := 27) C hr hm d_Ar_fill_27
    · rw [if_neg c1] at hm
      refine z_aload_n (pc := 16) C d_Ar_fill_16 rfl 0 rfl ?_
      refine z_iload (pc := 17) C d_Ar_fill_17 3 rfl ?_
      refine z_iload_n (pc := 19) C d_Ar_fill_19 rfl 2 rfl ?_
      obtain ⟨g2, hm⟩ := gd_s hm
      obtain ⟨g3, hm⟩ := gd_s hm
      refine asC_isMa (pc := 20) C (x := x0) g2 g3 d_Ar_fill_20 ?_
      refine z_iinc (pc := 21) (lv' := [(0, .ref (ad x0)), (2, .int x2), (3, .int x3), (4, .int (x4 + (1 : Int32)))]) C d_Ar_fill_21 3 rfl (ii ki_1) (Nat.le_of_ble_eq_true rfl) [1, 2, 3, 0] rfl ?_
      refine z_goto (pc := 24) (tgt := 10) C d_Ar_fill_24 (by decide) ?_
      exact h10 (sa σ x0 x4.toNatClampNeg x3) x0 x2 x3 (x4 + (1 : Int32)) hm
set_option maxHeartbeats 4000000 in
set_option maxRecDepth 100000 in
theorem k_Ar_fill {l : Launch} {D : va_G} {ad : Nat → Nat} {cA : Nat → ClassId} {F : Nat} (hAD : ∀ σ, va_D (owC ad) (wdC ad cA σ)) {σ : zS} {x0 : Nat} {x1 : Int32} {x2 : Int32} {x3 : Int32} {σ' : zS} (hm : Ar_fill F σ x0 x1 x2 x3 = some σ') : kVC l D ad cA (sXC ad) y_Ar_fill bc_Ar_fill 5 1 [.ref (ad x0), .int x1, .int x2, .int x3] σ σ' := by
  refine kV_of (by decide) hAD sXC_P (Nat.le_of_ble_eq_true rfl) ?_
  intro p e s m below meth c C hr
  unfold Ar_fill at hm
  refine z_lv (lv' := [(0, .ref (ad x0)), (1, .int x1), (2, .int x2), (3, .int x3)]) [0, 1, 2, 3] rfl ?_
  refine z_aload_n (pc := 0) C d_Ar_fill_0 rfl 0 rfl ?_
  obtain ⟨g1, hm⟩ := gd_s hm
  refine z_alen (pc := 1) (q0 := x0) (t0 := x0 - 19) (v := (1713 : Int32)) C (arC_isMa g1) (atC_isMa g1) rfl d_Ar_fill_1 ?_
  refine z_iload_n (pc := 2) C d_Ar_fill_2 rfl 1 rfl ?_
  refine z_iload_n (pc := 3) C d_Ar_fill_3 rfl 2 rfl ?_
  obtain ⟨σ2, e3, hm⟩ := bv_s hm
  refine z_callSV (pc := 4) C (k_Ar_rangeCheck hAD e3) km_Ar_rangeCheck mC_0 rfl (kR_of (Nat.le_of_ble_eq_true rfl) (Nat.le_of_ble_eq_true rfl)) rfl (Nat.le_of_ble_eq_true rfl) d_Ar_fill_4 ?_
  refine z_iload_n (pc := 7) C d_Ar_fill_7 rfl 1 rfl ?_
  refine z_istore (pc := 8) (lv' := [(0, .ref (ad x0)), (1, .int x1), (2, .int x2), (3, .int x3), (4, .int x1)]) C d_Ar_fill_8 (Nat.le_of_ble_eq_true rfl) [1, 2, 3, 4, 0] rfl ?_
  refine z_lv (lv' := [(0, .ref (ad x0)), (2, .int x2), (3, .int x3), (4, .int x1)]) [0, 2, 3, 4] rfl ?_
  exact w_Ar_fill_10 hAD C hr F σ2 x0 x2 x3 x1 hm
