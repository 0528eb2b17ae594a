/-! Walks of Ro. Written by program (wip/gen). -/
set_option maxHeartbeats 4000000 in
set_option maxRecDepth 100000 in
theorem k_Ro_clear {l : Launch} {D : va_G} {ad : Nat → Nat} {cA : Nat → ClassId} {F : Nat} (hAD : ∀ σ, va_D (owC ad) (wdC ad cA σ)) {σ : zS} {x0 : Nat} {σ' : zS} (hm : Ro_clear F σ x0 = some σ') : kVC l D ad cA (sXC ad) y_Ro_clear bc_Ro_clear 1 0 [.ref (ad x0)] σ σ' := by
  refine kV_of (by decide) hAD sXC_P (Nat.le_of_ble_eq_true rfl) ?_
  intro p e s m below meth c C hr
  unfold Ro_clear at hm
  refine z_lv (lv' := [(0, .ref (ad x0))]) [0] rfl ?_
  refine z_aload_n (pc := 0) C d_Ro_clear_0 rfl 0 rfl ?_
  refine z_iconst (pc := 1) C d_Ro_clear_1 ki_0 ?_
  obtain ⟨g1, hm⟩ := gd_s hm
  refine pC_Ro_31 (pc := 2) C g1  d_Ro_clear_2 ?_
  refine z_aload_n (pc := 5) C d_Ro_clear_5 rfl 0 rfl ?_
  refine z_iconst (pc := 6) C d_Ro_clear_6 ki_0 ?_
  refine pC_Ro_35 (pc := 7) C g1  d_Ro_clear_7 ?_
  exact z_vretE (pc := 10) C hr hm d_Ro_clear_10
set_option maxHeartbeats 4000000 in
set_option maxRecDepth 100000 in
theorem w_Ro_isFull_15 {D : va_G} {ad : Nat → Nat} {cA : Nat → ClassId} {p : Program} {l : Launch} {e : Env} {s : State} {m : MethodId} {args : Array Value} {below : List Frame} {meth : Method} {c : Code} {F : Nat} (hAD : ∀ σ, va_D (owC ad) (wdC ad cA σ)) (C : CC D ad cA (sXC ad) p s m args meth c bc_Ro_isFull "KindRounds$Row" 1) (hr : meth.sig.returnType = some .boolean) {r : Int32} {σ' : zS} (σ : zS) (s0 : Int32) (hm : Ro_isFull_15 F σ s0 = some (r, σ')) : ZC D ad cA p l e (rmK 0) s m args below meth c 1 (qiC D ad cA below args s r σ') 15 [] [.int s0] σ := by
  unfold Ro_isFull_15 at hm
  obtain ⟨g1, hm⟩ := gd_s hm
  exact z_zretE (pc := 15) C hr g1 hm d_Ro_isFull_15
set_option maxHeartbeats 4000000 in
set_option maxRecDepth 100000 in
theorem k_Ro_isFull {l : Launch} {D : va_G} {ad : Nat → Nat} {cA : Nat → ClassId} {F : Nat} (hAD : ∀ σ, va_D (owC ad) (wdC ad cA σ)) {σ : zS} {x0 : Nat} {r : Int32} {σ' : zS} (hm : Ro_isFull F σ x0 = some (r, σ')) : kIC l D ad cA (sXC ad) y_Ro_isFull bc_Ro_isFull 1 .boolean 0 [.ref (ad x0)] σ r σ' := by
  refine kI_of (by decide) hAD sXC_P (Nat.le_of_ble_eq_true rfl) ?_
  intro p e s m below meth c C hr
  unfold Ro_isFull at hm
  refine z_lv (lv' := [(0, .ref (ad x0))]) [0] rfl ?_
  refine z_aload_n (pc := 0) C d_Ro_isFull_0 rfl 0 rfl ?_
  obtain ⟨g1, hm⟩ := gd_s hm
  refine gC_Ro_31 (pc := 1) (v := (mi σ (100 * x0 + 4))) C g1 rfl d_Ro_isFull_1 ?_
  refine z_sipush (pc := 4) C d_Ro_isFull_4 ks_200 ?_
  refine z_icmp_lt (pc := 7) (tgt := 14) C d_Ro_isFull_7 (by decide) (fun c2 => ?_) (fun c2 => ?_)
  · rw [if_pos c2] at hm
    refine z_iconst (pc := 14) C d_Ro_isFull_14 ki_0 ?_
    refine z_lv (lv' := []) [] rfl ?_
    exact w_Ro_isFull_15 hAD C hr σ (0 : Int32) hm
  · rw [if_neg c2] at hm
    refine z_iconst (pc := 10) C d_Ro_isFull_10 ki_1 ?_
    refine z_goto (pc := 11) (tgt := 15) C d_Ro_isFull_11 (by decide) ?_
    refine z_lv (lv' := []) [] rfl ?_
    exact w_Ro_isFull_15 hAD C hr σ (1 : Int32) hm
set_option maxHeartbeats 4000000 in
set_option maxRecDepth 100000 in
theorem k_Ro_beginTerm {l : Launch} {D : va_G} {ad : Nat → Nat} {cA : Nat → ClassId} {F : Nat} (hAD : ∀ σ, va_D (owC ad) (wdC ad cA σ)) {σ : zS} {x0 : Nat} {x1 : Int32} {r : Int32} {σ' : zS} (hm : Ro_beginTerm F σ x0 x1 = some (r, σ')) : kIC l D ad cA (sXC ad) y_Ro_beginTerm bc_Ro_beginTerm 2 .boolean 0 [.ref (ad x0), .int x1] σ r σ' := by
  refine kI_of (by decide) hAD sXC_P (Nat.le_of_ble_eq_true rfl) ?_
  intro p e s m below meth c C hr
  unfold Ro_beginTerm at hm
  refine z_lv (lv' := [(0, .ref (ad x0)), (1, .int x1)]) [0, 1] rfl ?_
  refine z_aload_n (pc := 0) C d_Ro_beginTerm_0 rfl 0 rfl ?_
  obtain ⟨g1, hm⟩ := gd_s hm
  refine gC_Ro_35 (pc := 1) (v := (mi σ (100 * x0 + 7))) C g1 rfl d_Ro_beginTerm_1 ?_
  refine z_sipush (pc := 4) C d_Ro_beginTerm_4 ks_200 ?_
  refine z_icmp_le (pc := 7) (tgt := 12) C d_Ro_beginTerm_7 (by decide) (fun c2 => ?_) (fun c2 => ?_)
  · rw [if_pos c2] at hm
    refine z_aload_n (pc := 12) C d_Ro_beginTerm_12 rfl 0 rfl ?_
    refine gC_Ro_25 (pc := 13) C g1  d_Ro_beginTerm_13 ?_
    refine z_aload_n (pc := 16) C d_Ro_beginTerm_16 rfl 0 rfl ?_
    refine gC_Ro_35 (pc := 17) (v := (mi σ (100 * x0 + 7))) C g1 rfl d_Ro_beginTerm_17 ?_
    refine z_aload_n (pc := 20) C d_Ro_beginTerm_20 rfl 0 rfl ?_
    refine gC_Ro_31 (pc := 21) (v := (mi σ (100 * x0 + 4))) C g1 rfl d_Ro_beginTerm_21 ?_
    obtain ⟨g3, hm⟩ := gd_s hm
    refine asC_Ro_4 (pc := 24) C (x := x0) g1 g3 d_Ro_beginTerm_24 ?_
    refine z_aload_n (pc := 25) C d_Ro_beginTerm_25 rfl 0 rfl ?_
    refine gC_Ro_28 (pc := 26) C g1  d_Ro_beginTerm_26 ?_
    refine z_aload_n (pc := 29) C d_Ro_beginTerm_29 rfl 0 rfl ?_
    refine gC_Ro_35 (pc := 30) (v := (mi σ (100 * x0 + 7))) C g1 rfl d_Ro_beginTerm_30 ?_
    refine z_iload_n (pc := 33) C d_Ro_beginTerm_33 rfl 1 rfl ?_
    refine asC_Ro_5 (pc := 34) C (x := x0) g1 g3 d_Ro_beginTerm_34 ?_
    refine z_aload_n (pc := 35) C d_Ro_beginTerm_35 rfl 0 rfl ?_
    refine z_dup (pc := 36) C d_Ro_beginTerm_36 rfl ?_
    refine gC_Ro_35 (pc := 37) (v := (mi σ (100 * x0 + 7))) C g1 rfl d_Ro_beginTerm_37 ?_
    refine z_iconst (pc := 40) C d_Ro_beginTerm_40 ki_1 ?_
    refine z_iadd (pc := 41) C d_Ro_beginTerm_41 ?_
    refine pC_Ro_35 (pc := 42) C g1  d_Ro_beginTerm_42 ?_
    refine z_iconst (pc := 45) C d_Ro_beginTerm_45 ki_1 ?_
    exact z_zretE (pc := 46) C hr (by decide) hm d_Ro_beginTerm_46
  · rw [if_neg c2] at hm
    refine z_iconst (pc := 10) C d_Ro_beginTerm_10 ki_0 ?_
    exact z_zretE (pc := 11) C hr (by decide) hm d_Ro_beginTerm_11
set_option maxHeartbeats 4000000 in
set_option maxRecDepth 100000 in
theorem w_Ro_termEnd_25 {D : va_G} {ad : Nat → Nat} {cA : Nat → ClassId} {p : Program} {l : Launch} {e : Env} {s : State} {m : MethodId} {args : Array Value} {below : List Frame} {meth : Method} {c : Code} {F : Nat} (hAD : ∀ σ, va_D (owC ad) (wdC ad cA σ)) (C : CC D ad cA (sXC ad) p s m args meth c bc_Ro_termEnd "KindRounds$Row" 2) (hr : meth.sig.returnType = some .int) {r : Int32} {σ' : zS} (σ : zS) (s0 : Int32) (hm : Ro_termEnd_25 F σ s0 = some (r, σ')) : ZC D ad cA p l e (rmK 0) s m args below meth c 2 (qiC D ad cA below args s r σ') 25 [] [.int s0] σ := by
  unfold Ro_termEnd_25 at hm
  exact z_iretE (pc := 25) C hr hm d_Ro_termEnd_25
set_option maxHeartbeats 4000000 in
set_option maxRecDepth 100000 in
theorem k_Ro_termEnd {l : Launch} {D : va_G} {ad : Nat → Nat} {cA : Nat → ClassId} {F : Nat} (hAD : ∀ σ, va_D (owC ad) (wdC ad cA σ)) {σ : zS} {x0 : Nat} {x1 : Int32} {r : Int32} {σ' : zS} (hm : Ro_termEnd F σ x0 x1 = some (r, σ')) : kIC l D ad cA (sXC ad) y_Ro_termEnd bc_Ro_termEnd 2 .int 0 [.ref (ad x0), .int x1] σ r σ' := by
  refine kI_of (by decide) hAD sXC_P (Nat.le_of_ble_eq_true rfl) ?_
  intro p e s m below meth c C hr
  unfold Ro_termEnd at hm
  refine z_lv (lv' := [(0, .ref (ad x0)), (1, .int x1)]) [0, 1] rfl ?_
  refine z_iload_n (pc := 0) C d_Ro_termEnd_0 rfl 1 rfl ?_
  refine z_iconst (pc := 1) C d_Ro_termEnd_1 ki_1 ?_
  refine z_iadd (pc := 2) C d_Ro_termEnd_2 ?_
  refine z_aload_n (pc := 3) C d_Ro_termEnd_3 rfl 0 rfl ?_
  obtain ⟨g1, hm⟩ := gd_s hm
  refine gC_Ro_35 (pc := 4) (v := (mi σ (100 * x0 + 7))) C g1 rfl d_Ro_termEnd_4 ?_
  refine z_icmp_ge (pc := 7) (tgt := 21) C d_Ro_termEnd_7 (by decide) (fun c2 => ?_) (fun c2 => ?_)
  · rw [if_pos c2] at hm
    refine z_aload_n (pc := 21) C d_Ro_termEnd_21 rfl 0 rfl ?_
    refine gC_Ro_31 (pc := 22) (v := (mi σ (100 * x0 + 4))) C g1 rfl d_Ro_termEnd_22 ?_
    refine z_lv (lv' := []) [] rfl ?_
    exact w_Ro_termEnd_25 hAD C hr σ (mi σ (100 * x0 + 4)) hm
  · rw [if_neg c2] at hm
    refine z_aload_n (pc := 10) C d_Ro_termEnd_10 rfl 0 rfl ?_
    refine gC_Ro_25 (pc := 11) C g1  d_Ro_termEnd_11 ?_
    refine z_iload_n (pc := 14) C d_Ro_termEnd_14 rfl 1 rfl ?_
    refine z_iconst (pc := 15) C d_Ro_termEnd_15 ki_1 ?_
    refine z_iadd (pc := 16) C d_Ro_termEnd_16 ?_
    obtain ⟨g3, hm⟩ := gd_s hm
    refine alC_Ro_4 (pc := 17) (v := (ma σ (rA x0 4) (x1 + (1 : Int32)).toNatClampNeg)) C (x := x0) g1 rfl g3 d_Ro_termEnd_17 ?_
    refine z_goto (pc := 18) (tgt := 25) C d_Ro_termEnd_18 (by decide) ?_
    refine z_lv (lv' := []) [] rfl ?_
    exact w_Ro_termEnd_25 hAD C hr σ (ma σ (rA x0 4) (x1 + (1 : Int32)).toNatClampNeg) hm
set_option maxHeartbeats 4000000 in
set_option maxRecDepth 100000 in
theorem w_Ro_termOf_2 {D : va_G} {ad : Nat → Nat} {cA : Nat → ClassId} {p : Program} {l : Launch} {e : Env} {s : State} {m : MethodId} {args : Array Value} {below : List Frame} {meth : Method} {c : Code} {F : Nat} (hAD : ∀ σ, va_D (owC ad) (wdC ad cA σ)) (C : CC D ad cA (sXC ad) p s m args meth c bc_Ro_termOf "KindRounds$Row" 3) (hr : meth.sig.returnType = some .int) {r : Int32} {σ' : zS} : ∀ (n : Nat) (σ : zS) (x0 : Nat) (x1 : Int32) (x2 : Int32), Ro_termOf_2 F n σ x0 x1 x2 = some (r, σ') → ZC D ad cA p l e (rmK 0) s m args below meth c 3 (qiC D ad cA below args s r σ') 2 [(0, .ref (ad x0)), (1, .int x1), (2, .int x2)] [] σ := by
  intro n
  induction n with
  | zero => intro σ x0 x1 x2 hm; cases hm
  | succ n h2 =>
    intro σ x0 x1 x2 hm
    have hm : Ro_termOf_b2 F (Ro_termOf_2 F n) σ x0 x1 x2 = some (r, σ') := hm
    unfold Ro_termOf_b2 at hm
    refine z_iload_n (pc := 2) C d_Ro_termOf_2 rfl 2 rfl ?_
    refine z_aload_n (pc := 3) C d_Ro_termOf_3 rfl 0 rfl ?_
    obtain ⟨g1, hm⟩ := gd_s hm
    refine gC_Ro_35 (pc := 4) (v := (mi σ (100 * x0 + 7))) C g1 rfl d_Ro_termOf_4 ?_
    refine z_icmp_ge (pc := 7) (tgt := 28) C d_Ro_termOf_7 (by decide) (fun c2 => ?_) (fun c2 => ?_)
    · rw [if_pos c2] at hm
      refine z_iconst (pc := 28) C d_Ro_termOf_28 ki_0 ?_
      exact z_iretE (pc := 29) C hr hm d_Ro_termOf_29
    · rw [if_neg c2] at hm
      refine z_aload_n (pc := 10) C d_Ro_termOf_10 rfl 0 rfl ?_
      refine gC_Ro_28 (pc := 11) C g1  d_Ro_termOf_11 ?_
      refine z_iload_n (pc := 14) C d_Ro_termOf_14 rfl 2 rfl ?_
      obtain ⟨g3, hm⟩ := gd_s hm
      refine alC_Ro_5 (pc := 15) (v := (ma σ (rA x0 5) x2.toNatClampNeg)) C (x := x0) g1 rfl g3 d_Ro_termOf_15 ?_
      refine z_iload_n (pc := 16) C d_Ro_termOf_16 rfl 1 rfl ?_
      refine z_icmp_ne (pc := 17) (tgt := 22) C d_Ro_termOf_17 (by decide) (fun c4 => ?_) (fun c4 => ?_)
      · rw [if_neg c4] at hm
        refine z_iinc (pc := 22) (lv' := [(0, .ref (ad x0)), (1, .int x1), (2, .int (x2 + (1 : Int32)))]) C d_Ro_termOf_22 2 rfl (ii ki_1) (Nat.le_of_ble_eq_true rfl) [1, 2, 0] rfl ?_
        refine z_goto (pc := 25) (tgt := 2) C d_Ro_termOf_25 (by decide) ?_
        exact h2 σ x0 x1 (x2 + (1 : Int32)) hm
      · rw [if_pos c4] at hm
        refine z_iload_n (pc := 20) C d_Ro_termOf_20 rfl 2 rfl ?_
        exact z_iretE (pc := 21) C hr hm d_Ro_termOf_21
set_option maxHeartbeats 4000000 in
set_option maxRecDepth 100000 in
theorem k_Ro_termOf {l : Launch} {D : va_G} {ad : Nat → Nat} {cA : Nat → ClassId} {F : Nat} (hAD : ∀ σ, va_D (owC ad) (wdC ad cA σ)) {σ : zS} {x0 : Nat} {x1 : Int32} {r : Int32} {σ' : zS} (hm : Ro_termOf F σ x0 x1 = some (r, σ')) : kIC l D ad cA (sXC ad) y_Ro_termOf bc_Ro_termOf 3 .int 0 [.ref (ad x0), .int x1] σ r σ' := by
  refine kI_of (by decide) hAD sXC_P (Nat.le_of_ble_eq_true rfl) ?_
  intro p e s m below meth c C hr
  unfold Ro_termOf at hm
  refine z_lv (lv' := [(0, .ref (ad x0)), (1, .int x1)]) [0, 1] rfl ?_
  refine z_iconst (pc := 0) C d_Ro_termOf_0 ki_0 ?_
  refine z_istore_n (pc := 1) (lv' := [(0, .ref (ad x0)), (1, .int x1), (2, .int (0 : Int32))]) C d_Ro_termOf_1 rfl (Nat.le_of_ble_eq_true rfl) [1, 2, 0] rfl ?_
  exact w_Ro_termOf_2 hAD C hr F σ x0 x1 (0 : Int32) hm
set_option maxHeartbeats 4000000 in
set_option maxRecDepth 100000 in
theorem k_Ro_add {l : Launch} {D : va_G} {ad : Nat → Nat} {cA : Nat → ClassId} {F : Nat} (hAD : ∀ σ, va_D (owC ad) (wdC ad cA σ)) {σ : zS} {x0 : Nat} {x1 : Int32} {x2 : Int64} {x4 : Int32} {x5 : Int32} {r : Int32} {σ' : zS} (hm : Ro_add F σ x0 x1 x2 x4 x5 = some (r, σ')) : kIC l D ad cA (sXC ad) y_Ro_add bc_Ro_add 6 .boolean 0 [.ref (ad x0), .int x1, .long x2, .int x4, .int x5] σ r σ' := by
  refine kI_of (by decide) hAD sXC_P (Nat.le_of_ble_eq_true rfl) ?_
  intro p e s m below meth c C hr
  unfold Ro_add at hm
  refine z_lv (lv' := [(0, .ref (ad x0)), (1, .int x1), (2, .long x2), (4, .int x4), (5, .int x5)]) [0, 1, 2, 3, 4] rfl ?_
  refine z_aload_n (pc := 0) C d_Ro_add_0 rfl 0 rfl ?_
  obtain ⟨g1, hm⟩ := gd_s hm
  refine gC_Ro_31 (pc := 1) (v := (mi σ (100 * x0 + 4))) C g1 rfl d_Ro_add_1 ?_
  refine z_sipush (pc := 4) C d_Ro_add_4 ks_200 ?_
  refine z_icmp_lt (pc := 7) (tgt := 12) C d_Ro_add_7 (by decide) (fun c2 => ?_) (fun c2 => ?_)
  · rw [if_pos c2] at hm
    refine z_aload_n (pc := 12) C d_Ro_add_12 rfl 0 rfl ?_
    refine gC_Ro_9 (pc := 13) C g1  d_Ro_add_13 ?_
    refine z_aload_n (pc := 16) C d_Ro_add_16 rfl 0 rfl ?_
    refine gC_Ro_31 (pc := 17) (v := (mi σ (100 * x0 + 4))) C g1 rfl d_Ro_add_17 ?_
    refine z_iload_n (pc := 20) C d_Ro_add_20 rfl 1 rfl ?_
    obtain ⟨g3, hm⟩ := gd_s hm
    refine asC_Ro_0 (pc := 21) C (x := x0) g1 g3 d_Ro_add_21 ?_
    refine z_aload_n (pc := 22) C d_Ro_add_22 rfl 0 rfl ?_
    refine gC_Ro_15 (pc := 23) C g1  d_Ro_add_23 ?_
    refine z_aload_n (pc := 26) C d_Ro_add_26 rfl 0 rfl ?_
    refine gC_Ro_31 (pc := 27) (v := (mi σ (100 * x0 + 4))) C g1 rfl d_Ro_add_27 ?_
    refine z_lload_n (pc := 30) C d_Ro_add_30 rfl 2 rfl ?_
    refine asC_Ro_1 (pc := 31) C (x := x0) g1 g3 d_Ro_add_31 ?_
    refine z_aload_n (pc := 32) C d_Ro_add_32 rfl 0 rfl ?_
    refine gC_Ro_19 (pc := 33) C g1  d_Ro_add_33 ?_
    refine z_aload_n (pc := 36) C d_Ro_add_36 rfl 0 rfl ?_
    refine gC_Ro_31 (pc := 37) (v := (mi σ (100 * x0 + 4))) C g1 rfl d_Ro_add_37 ?_
    refine z_iload (pc := 40) C d_Ro_add_40 3 rfl ?_
    refine asC_Ro_2 (pc := 42) C (x := x0) g1 g3 d_Ro_add_42 ?_
    refine z_aload_n (pc := 43) C d_Ro_add_43 rfl 0 rfl ?_
    refine gC_Ro_22 (pc := 44) C g1  d_Ro_add_44 ?_
    refine z_aload_n (pc := 47) C d_Ro_add_47 rfl 0 rfl ?_
    refine gC_Ro_31 (pc := 48) (v := (mi σ (100 * x0 + 4))) C g1 rfl d_Ro_add_48 ?_
    refine z_iload (pc := 51) C d_Ro_add_51 4 rfl ?_
    refine asC_Ro_3 (pc := 53) C (x := x0) g1 g3 d_Ro_add_53 ?_
    refine z_aload_n (pc := 54) C d_Ro_add_54 rfl 0 rfl ?_
    refine z_dup (pc := 55) C d_Ro_add_55 rfl ?_
    refine gC_Ro_31 (pc := 56) (v := (mi σ (100 * x0 + 4))) C g1 rfl d_Ro_add_56 ?_
    refine z_iconst (pc := 59) C d_Ro_add_59 ki_1 ?_
    refine z_iadd (pc := 60) C d_Ro_add_60 ?_
    refine pC_Ro_31 (pc := 61) C g1  d_Ro_add_61 ?_
    refine z_iconst (pc := 64) C d_Ro_add_64 ki_1 ?_
    exact z_zretE (pc := 65) C hr (by decide) hm d_Ro_add_65
  · rw [if_neg c2] at hm
    refine z_iconst (pc := 10) C d_Ro_add_10 ki_0 ?_
    exact z_zretE (pc := 11) C hr (by decide) hm d_Ro_add_11
set_option maxHeartbeats 4000000 in
set_option maxRecDepth 100000 in
theorem w_Ro_insertArrow_18 {D : va_G} {ad : Nat → Nat} {cA : Nat → ClassId} {p : Program} {l : Launch} {e : Env} {s : State} {m : MethodId} {args : Array Value} {below : List Frame} {meth : Method} {c : Code} {F : Nat} (hAD : ∀ σ, va_D (owC ad) (wdC ad cA σ)) (C : CC D ad cA (sXC ad) p s m args meth c bc_Ro_insertArrow "KindRounds$Row" 3) (hr : meth.sig.returnType = none) {σ' : zS} (σ : zS) (hm : Ro_insertArrow_18 F σ = some σ') : ZC D ad cA p l e (rmK 2) s m args below meth c 3 (qvC D ad cA below args s σ') 18 [] [] σ := by
  unfold Ro_insertArrow_18 at hm
  exact z_vretE (pc := 18) C hr hm d_Ro_insertArrow_18
set_option maxHeartbeats 4000000 in
set_option maxRecDepth 100000 in
theorem k_Ro_insertArrow {l : Launch} {D : va_G} {ad : Nat → Nat} {cA : Nat → ClassId} {F : Nat} (hAD : ∀ σ, va_D (owC ad) (wdC ad cA σ)) {σ : zS} {x0 : Nat} {x1 : Int32} {σ' : zS} (hm : Ro_insertArrow F σ x0 x1 = some σ') : kVC l D ad cA (sXC ad) y_Ro_insertArrow bc_Ro_insertArrow 3 2 [.ref (ad x0), .int x1] σ σ' := by
  refine kV_of (by decide) hAD sXC_P (Nat.le_of_ble_eq_true rfl) ?_
  intro p e s m below meth c C hr
  unfold Ro_insertArrow at hm
  refine z_lv (lv' := [(0, .ref (ad x0)), (1, .int x1)]) [0, 1] rfl ?_
  refine z_aload_n (pc := 0) C d_Ro_insertArrow_0 rfl 0 rfl ?_
  obtain ⟨g1, hm⟩ := gd_s hm
  refine gC_Ro_31 (pc := 1) (v := (mi σ (100 * x0 + 4))) C g1 rfl d_Ro_insertArrow_1 ?_
  refine z_iload_n (pc := 4) C d_Ro_insertArrow_4 rfl 1 rfl ?_
  refine z_isub (pc := 5) C d_Ro_insertArrow_5 ?_
  refine z_istore_n (pc := 6) (lv' := [(0, .ref (ad x0)), (1, .int x1), (2, .int ((mi σ (100 * x0 + 4)) - x1))]) C d_Ro_insertArrow_6 rfl (Nat.le_of_ble_eq_true rfl) [1, 2, 0] rfl ?_
  refine z_aload_n (pc := 7) C d_Ro_insertArrow_7 rfl 0 rfl ?_
  obtain ⟨r3, σ2, e4, hm⟩ := bi_s hm
  refine z_callI (pc := 8) C (k_Ro_isFull hAD e4) km_Ro_isFull mC_74 rfl rfl (oC_Ro g1) rfl (kR_of (Nat.le_of_ble_eq_true rfl) (Nat.le_of_ble_eq_true rfl)) rfl (Nat.le_of_ble_eq_true rfl) d_Ro_insertArrow_8 ?_
  refine z_if_ne (pc := 11) (tgt := 18) C d_Ro_insertArrow_11 (by decide) (fun c5 => ?_) (fun c5 => ?_)
  · rw [if_neg c5] at hm
    refine z_lv (lv' := []) [] rfl ?_
    exact w_Ro_insertArrow_18 hAD C hr σ2 hm
  · rw [if_pos c5] at hm
    refine z_iload_n (pc := 14) C d_Ro_insertArrow_14 rfl 2 rfl ?_
    refine z_if_gt (pc := 15) (tgt := 19) C d_Ro_insertArrow_15 (by decide) (fun c6 => ?_) (fun c6 => ?_)
    · rw [if_pos c6] at hm
      refine z_aload_n (pc := 19) C d_Ro_insertArrow_19 rfl 0 rfl ?_
      refine gC_Ro_9 (pc := 20) C g1  d_Ro_insertArrow_20 ?_
      refine z_iload_n (pc := 23) C d_Ro_insertArrow_23 rfl 1 rfl ?_
      refine z_aload_n (pc := 24) C d_Ro_insertArrow_24 rfl 0 rfl ?_
      refine gC_Ro_9 (pc := 25) C g1  d_Ro_insertArrow_25 ?_
      refine z_iload_n (pc := 28) C d_Ro_insertArrow_28 rfl 1 rfl ?_
      refine z_iconst (pc := 29) C d_Ro_insertArrow_29 ki_1 ?_
      refine z_iadd (pc := 30) C d_Ro_insertArrow_30 ?_
      refine z_iload_n (pc := 31) C d_Ro_insertArrow_31 rfl 2 rfl ?_
      obtain ⟨g7, hm⟩ := gd_s hm
      obtain ⟨q1_, q2_, q3_, q4_, q5_⟩ := cpG_s g7
      refine z_copyi (pc := 32) (q0 := ((rA x0 0))) (q1 := ((rA x0 0))) (t0 := (rA x0 0) - 19) (t1 := (rA x0 0) - 19) (f := (ma σ2 (rA x0 0))) (g := (ma σ2 (rA x0 0))) (ty := .int) (σ' := (tA σ2 (rA x0 0) (va_cpy (ma σ2 (rA x0 0)) (ma σ2 (rA x0 0)) x1.toNatClampNeg (x1 + (1 : Int32)).toNatClampNeg ((mi σ (100 * x0 + 4)) - x1).toNatClampNeg))) C mC_75 mC_24 mC_25 mC_26 (arC_Ro_0 g1) (arC_Ro_0 g1) (atC_Ro_0 g1) (atC_Ro_0 g1) rfl q1_ q2_ q3_ q4_ q5_ (fun _ _ => rfl) (by decide) (Nat.le_of_ble_eq_true rfl) (aSC_Ro_0 g1) d_Ro_insertArrow_32 ?_
      refine z_aload_n (pc := 35) C d_Ro_insertArrow_35 rfl 0 rfl ?_
      refine gC_Ro_15 (pc := 36) C g1  d_Ro_insertArrow_36 ?_
      refine z_iload_n (pc := 39) C d_Ro_insertArrow_39 rfl 1 rfl ?_
      refine z_aload_n (pc := 40) C d_Ro_insertArrow_40 rfl 0 rfl ?_
      refine gC_Ro_15 (pc := 41) C g1  d_Ro_insertArrow_41 ?_
      refine z_iload_n (pc := 44) C d_Ro_insertArrow_44 rfl 1 rfl ?_
      refine z_iconst (pc := 45) C d_Ro_insertArrow_45 ki_1 ?_
      refine z_iadd (pc := 46) C d_Ro_insertArrow_46 ?_
      refine z_iload_n (pc := 47) C d_Ro_insertArrow_47 rfl 2 rfl ?_
      obtain ⟨q1_, q2_, q3_, q4_, q5_⟩ := cpG_s g7
      refine z_copyl (pc := 48) (q0 := ((rA x0 1))) (q1 := ((rA x0 1))) (t0 := (rA x0 1) - 19) (t1 := (rA x0 1) - 19) (f := (mb σ2 (rA x0 1))) (g := (mb σ2 (rA x0 1))) (ty := .long) (σ' := (tB (tA σ2 (rA x0 0) (va_cpy (ma σ2 (rA x0 0)) (ma σ2 (rA x0 0)) x1.toNatClampNeg (x1 + (1 : Int32)).toNatClampNeg ((mi σ (100 * x0 + 4)) - x1).toNatClampNeg)) (rA x0 1) (va_cpy (mb σ2 (rA x0 1)) (mb σ2 (rA x0 1)) x1.toNatClampNeg (x1 + (1 : Int32)).toNatClampNeg ((mi σ (100 * x0 + 4)) - x1).toNatClampNeg))) C mC_75 mC_24 mC_25 mC_26 (arC_Ro_1 g1) (arC_Ro_1 g1) (atC_Ro_1 g1) (atC_Ro_1 g1) rfl q1_ q2_ q3_ q4_ q5_ (fun _ _ => rfl) (by decide) (Nat.le_of_ble_eq_true rfl) (aSC_Ro_1 g1) d_Ro_insertArrow_48 ?_
      refine z_aload_n (pc := 51) C d_Ro_insertArrow_51 rfl 0 rfl ?_
      refine gC_Ro_19 (pc := 52) C g1  d_Ro_insertArrow_52 ?_
      refine z_iload_n (pc := 55) C d_Ro_insertArrow_55 rfl 1 rfl ?_
      refine z_aload_n (pc := 56) C d_Ro_insertArrow_56 rfl 0 rfl ?_
      refine gC_Ro_19 (pc := 57) C g1  d_Ro_insertArrow_57 ?_
      refine z_iload_n (pc := 60) C d_Ro_insertArrow_60 rfl 1 rfl ?_
      refine z_iconst (pc := 61) C d_Ro_insertArrow_61 ki_1 ?_
      refine z_iadd (pc := 62) C d_Ro_insertArrow_62 ?_
      refine z_iload_n (pc := 63) C d_Ro_insertArrow_63 rfl 2 rfl ?_
      obtain ⟨q1_, q2_, q3_, q4_, q5_⟩ := cpG_s g7
      refine z_copyi (pc := 64) (q0 := ((rA x0 2))) (q1 := ((rA x0 2))) (t0 := (rA x0 2) - 19) (t1 := (rA x0 2) - 19) (f := (ma (tA σ2 (rA x0 0) (va_cpy (ma σ2 (rA x0 0)) (ma σ2 (rA x0 0)) x1.toNatClampNeg (x1 + (1 : Int32)).toNatClampNeg ((mi σ (100 * x0 + 4)) - x1).toNatClampNeg)) (rA x0 2))) (g := (ma (tA σ2 (rA x0 0) (va_cpy (ma σ2 (rA x0 0)) (ma σ2 (rA x0 0)) x1.toNatClampNeg (x1 + (1 : Int32)).toNatClampNeg ((mi σ (100 * x0 + 4)) - x1).toNatClampNeg)) (rA x0 2))) (ty := .int) (σ' := (tA (tB (tA σ2 (rA x0 0) (va_cpy (ma σ2 (rA x0 0)) (ma σ2 (rA x0 0)) x1.toNatClampNeg (x1 + (1 : Int32)).toNatClampNeg ((mi σ (100 * x0 + 4)) - x1).toNatClampNeg)) (rA x0 1) (va_cpy (mb σ2 (rA x0 1)) (mb σ2 (rA x0 1)) x1.toNatClampNeg (x1 + (1 : Int32)).toNatClampNeg ((mi σ (100 * x0 + 4)) - x1).toNatClampNeg)) (rA x0 2) (va_cpy (ma (tA σ2 (rA x0 0) (va_cpy (ma σ2 (rA x0 0)) (ma σ2 (rA x0 0)) x1.toNatClampNeg (x1 + (1 : Int32)).toNatClampNeg ((mi σ (100 * x0 + 4)) - x1).toNatClampNeg)) (rA x0 2)) (ma (tA σ2 (rA x0 0) (va_cpy (ma σ2 (rA x0 0)) (ma σ2 (rA x0 0)) x1.toNatClampNeg (x1 + (1 : Int32)).toNatClampNeg ((mi σ (100 * x0 + 4)) - x1).toNatClampNeg)) (rA x0 2)) x1.toNatClampNeg (x1 + (1 : Int32)).toNatClampNeg ((mi σ (100 * x0 + 4)) - x1).toNatClampNeg))) C mC_75 mC_24 mC_25 mC_26 (arC_Ro_2 g1) (arC_Ro_2 g1) (atC_Ro_2 g1) (atC_Ro_2 g1) rfl q1_ q2_ q3_ q4_ q5_ (fun _ _ => rfl) (by decide) (Nat.le_of_ble_eq_true rfl) (aSC_Ro_2 g1) d_Ro_insertArrow_64 ?_
      refine z_aload_n (pc := 67) C d_Ro_insertArrow_67 rfl 0 rfl ?_
      refine gC_Ro_22 (pc := 68) C g1  d_Ro_insertArrow_68 ?_
      refine z_iload_n (pc := 71) C d_Ro_insertArrow_71 rfl 1 rfl ?_
      refine z_aload_n (pc := 72) C d_Ro_insertArrow_72 rfl 0 rfl ?_
      refine gC_Ro_22 (pc := 73) C g1  d_Ro_insertArrow_73 ?_
      refine z_iload_n (pc := 76) C d_Ro_insertArrow_76 rfl 1 rfl ?_
      refine z_iconst (pc := 77) C d_Ro_insertArrow_77 ki_1 ?_
      refine z_iadd (pc := 78) C d_Ro_insertArrow_78 ?_
      refine z_iload_n (pc := 79) C d_Ro_insertArrow_79 rfl 2 rfl ?_
      obtain ⟨q1_, q2_, q3_, q4_, q5_⟩ := cpG_s g7
      refine z_copyi (pc := 80) (q0 := ((rA x0 3))) (q1 := ((rA x0 3))) (t0 := (rA x0 3) - 19) (t1 := (rA x0 3) - 19) (f := (ma (tA (tB (tA σ2 (rA x0 0) (va_cpy (ma σ2 (rA x0 0)) (ma σ2 (rA x0 0)) x1.toNatClampNeg (x1 + (1 : Int32)).toNatClampNeg ((mi σ (100 * x0 + 4)) - x1).toNatClampNeg)) (rA x0 1) (va_cpy (mb σ2 (rA x0 1)) (mb σ2 (rA x0 1)) x1.toNatClampNeg (x1 + (1 : Int32)).toNatClampNeg ((mi σ (100 * x0 + 4)) - x1).toNatClampNeg)) (rA x0 2) (va_cpy (ma (tA σ2 (rA x0 0) (va_cpy (ma σ2 (rA x0 0)) (ma σ2 (rA x0 0)) x1.toNatClampNeg (x1 + (1 : Int32)).toNatClampNeg ((mi σ (100 * x0 + 4)) - x1).toNatClampNeg)) (rA x0 2)) (ma (tA σ2 (rA x0 0) (va_cpy (ma σ2 (rA x0 0)) (ma σ2 (rA x0 0)) x1.toNatClampNeg (x1 + (1 : Int32)).toNatClampNeg ((mi σ (100 * x0 + 4)) - x1).toNatClampNeg)) (rA x0 2)) x1.toNatClampNeg (x1 + (1 : Int32)).toNatClampNeg ((mi σ (100 * x0 + 4)) - x1).toNatClampNeg)) (rA x0 3))) (g := (ma (tA (tB (tA σ2 (rA x0 0) (va_cpy (ma σ2 (rA x0 0)) (ma σ2 (rA x0 0)) x1.toNatClampNeg (x1 + (1 : Int32)).toNatClampNeg ((mi σ (100 * x0 + 4)) - x1).toNatClampNeg)) (rA x0 1) (va_cpy (mb σ2 (rA x0 1)) (mb σ2 (rA x0 1)) x1.toNatClampNeg (x1 + (1 : Int32)).toNatClampNeg ((mi σ (100 * x0 + 4)) - x1).toNatClampNeg)) (rA x0 2) (va_cpy (ma (tA σ2 (rA x0 0) (va_cpy (ma σ2 (rA x0 0)) (ma σ2 (rA x0 0)) x1.toNatClampNeg (x1 + (1 : Int32)).toNatClampNeg ((mi σ (100 * x0 + 4)) - x1).toNatClampNeg)) (rA x0 2)) (ma (tA σ2 (rA x0 0) (va_cpy (ma σ2 (rA x0 0)) (ma σ2 (rA x0 0)) x1.toNatClampNeg (x1 + (1 : Int32)).toNatClampNeg ((mi σ (100 * x0 + 4)) - x1).toNatClampNeg)) (rA x0 2)) x1.toNatClampNeg (x1 + (1 : Int32)).toNatClampNeg ((mi σ (100 * x0 + 4)) - x1).toNatClampNeg)) (rA x0 3))) (ty := .int) (σ' := (tA (tA (tB (tA σ2 (rA x0 0) (va_cpy (ma σ2 (rA x0 0)) (ma σ2 (rA x0 0)) x1.toNatClampNeg (x1 + (1 : Int32)).toNatClampNeg ((mi σ (100 * x0 + 4)) - x1).toNatClampNeg)) (rA x0 1) (va_cpy (mb σ2 (rA x0 1)) (mb σ2 (rA x0 1)) x1.toNatClampNeg (x1 + (1 : Int32)).toNatClampNeg ((mi σ (100 * x0 + 4)) - x1).toNatClampNeg)) (rA x0 2) (va_cpy (ma (tA σ2 (rA x0 0) (va_cpy (ma σ2 (rA x0 0)) (ma σ2 (rA x0 0)) x1.toNatClampNeg (x1 + (1 : Int32)).toNatClampNeg ((mi σ (100 * x0 + 4)) - x1).toNatClampNeg)) (rA x0 2)) (ma (tA σ2 (rA x0 0) (va_cpy (ma σ2 (rA x0 0)) (ma σ2 (rA x0 0)) x1.toNatClampNeg (x1 + (1 : Int32)).toNatClampNeg ((mi σ (100 * x0 + 4)) - x1).toNatClampNeg)) (rA x0 2)) x1.toNatClampNeg (x1 + (1 : Int32)).toNatClampNeg ((mi σ (100 * x0 + 4)) - x1).toNatClampNeg)) (rA x0 3) (va_cpy (ma (tA (tB (tA σ2 (rA x0 0) (va_cpy (ma σ2 (rA x0 0)) (ma σ2 (rA x0 0)) x1.toNatClampNeg (x1 + (1 : Int32)).toNatClampNeg ((mi σ (100 * x0 + 4)) - x1).toNatClampNeg)) (rA x0 1) (va_cpy (mb σ2 (rA x0 1)) (mb σ2 (rA x0 1)) x1.toNatClampNeg (x1 + (1 : Int32)).toNatClampNeg ((mi σ (100 * x0 + 4)) - x1).toNatClampNeg)) (rA x0 2) (va_cpy (ma (tA σ2 (rA x0 0) (va_cpy (ma σ2 (rA x0 0)) (ma σ2 (rA x0 0)) x1.toNatClampNeg (x1 + (1 : Int32)).toNatClampNeg ((mi σ (100 * x0 + 4)) - x1).toNatClampNeg)) (rA x0 2)) (ma (tA σ2 (rA x0 0) (va_cpy (ma σ2 (rA x0 0)) (ma σ2 (rA x0 0)) x1.toNatClampNeg (x1 + (1 : Int32)).toNatClampNeg ((mi σ (100 * x0 + 4)) - x1).toNatClampNeg)) (rA x0 2)) x1.toNatClampNeg (x1 + (1 : Int32)).toNatClampNeg ((mi σ (100 * x0 + 4)) - x1).toNatClampNeg)) (rA x0 3)) (ma (tA (tB (tA σ2 (rA x0 0) (va_cpy (ma σ2 (rA x0 0)) (ma σ2 (rA x0 0)) x1.toNatClampNeg (x1 + (1 : Int32)).toNatClampNeg ((mi σ (100 * x0 + 4)) - x1).toNatClampNeg)) (rA x0 1) (va_cpy (mb σ2 (rA x0 1)) (mb σ2 (rA x0 1)) x1.toNatClampNeg (x1 + (1 : Int32)).toNatClampNeg ((mi σ (100 * x0 + 4)) - x1).toNatClampNeg)) (rA x0 2) (va_cpy (ma (tA σ2 (rA x0 0) (va_cpy (ma σ2 (rA x0 0)) (ma σ2 (rA x0 0)) x1.toNatClampNeg (x1 + (1 : Int32)).toNatClampNeg ((mi σ (100 * x0 + 4)) - x1).toNatClampNeg)) (rA x0 2)) (ma (tA σ2 (rA x0 0) (va_cpy (ma σ2 (rA x0 0)) (ma σ2 (rA x0 0)) x1.toNatClampNeg (x1 + (1 : Int32)).toNatClampNeg ((mi σ (100 * x0 + 4)) - x1).toNatClampNeg)) (rA x0 2)) x1.toNatClampNeg (x1 + (1 : Int32)).toNatClampNeg ((mi σ (100 * x0 + 4)) - x1).toNatClampNeg)) (rA x0 3)) x1.toNatClampNeg (x1 + (1 : Int32)).toNatClampNeg ((mi σ (100 * x0 + 4)) - x1).toNatClampNeg))) C mC_75 mC_24 mC_25 mC_26 (arC_Ro_3 g1) (arC_Ro_3 g1) (atC_Ro_3 g1) (atC_Ro_3 g1) rfl q1_ q2_ q3_ q4_ q5_ (fun _ _ => rfl) (by decide) (Nat.le_of_ble_eq_true rfl) (aSC_Ro_3 g1) d_Ro_insertArrow_80 ?_
      refine z_aload_n (pc := 83) C d_Ro_insertArrow_83 rfl 0 rfl ?_
      refine gC_Ro_9 (pc := 84) C g1  d_Ro_insertArrow_84 ?_
      refine z_iload_n (pc := 87) C d_Ro_insertArrow_87 rfl 1 rfl ?_
      refine z_bipush (pc := 88) C d_Ro_insertArrow_88 kb_45 ?_
      obtain ⟨g8, hm⟩ := gd_s hm
      refine asC_Ro_0 (pc := 90) C (x := x0) g1 g8 d_Ro_insertArrow_90 ?_
      refine z_aload_n (pc := 91) C d_Ro_insertArrow_91 rfl 0 rfl ?_
      refine gC_Ro_15 (pc := 92) C g1  d_Ro_insertArrow_92 ?_
      refine z_iload_n (pc := 95) C d_Ro_insertArrow_95 rfl 1 rfl ?_
      refine z_lconst (pc := 96) C d_Ro_insertArrow_96 rfl ?_
      refine asC_Ro_1 (pc := 97) C (x := x0) g1 g8 d_Ro_insertArrow_97 ?_
      refine z_aload_n (pc := 98) C d_Ro_insertArrow_98 rfl 0 rfl ?_
      refine gC_Ro_19 (pc := 99) C g1  d_Ro_insertArrow_99 ?_
      refine z_iload_n (pc := 102) C d_Ro_insertArrow_102 rfl 1 rfl ?_
      refine z_iconst (pc := 103) C d_Ro_insertArrow_103 ki_2 ?_
      refine asC_Ro_2 (pc := 104) C (x := x0) g1 g8 d_Ro_insertArrow_104 ?_
      refine z_aload_n (pc := 105) C d_Ro_insertArrow_105 rfl 0 rfl ?_
      refine z_dup (pc := 106) C d_Ro_insertArrow_106 rfl ?_
      refine gC_Ro_31 (pc := 107) (v := (mi σ2 (100 * x0 + 4))) C g1 rfl d_Ro_insertArrow_107 ?_
      refine z_iconst (pc := 110) C d_Ro_insertArrow_110 ki_1 ?_
      refine z_iadd (pc := 111) C d_Ro_insertArrow_111 ?_
      refine pC_Ro_31 (pc := 112) C g1  d_Ro_insertArrow_112 ?_
      exact z_vretE (pc := 115) C hr hm d_Ro_insertArrow_115
    · rw [if_neg c6] at hm
      refine z_lv (lv' := []) [] rfl ?_
      exact w_Ro_insertArrow_18 hAD C hr σ2 hm
set_option maxHeartbeats 4000000 in
set_option maxRecDepth 100000 in
theorem w_Ro_fixedOf_29 {D : va_G} {ad : Nat → Nat} {cA : Nat → ClassId} {p : Program} {l : Launch} {e : Env} {s : State} {m : MethodId} {args : Array Value} {below : List Frame} {meth : Method} {c : Code} {F : Nat} (hAD : ∀ σ, va_D (owC ad) (wdC ad cA σ)) (C : CC D ad cA (sXC ad) p s m args meth c bc_Ro_fixedOf "KindRounds$Row" 2) (hr : meth.sig.returnType = some .int) {r : Int32} {σ' : zS} (σ : zS) (s0 : Int32) (hm : Ro_fixedOf_29 F σ s0 = some (r, σ')) : ZC D ad cA p l e (rmK 0) s m args below meth c 2 (qiC D ad cA below args s r σ') 29 [] [.int s0] σ := by
  unfold Ro_fixedOf_29 at hm
  exact z_iretE (pc := 29) C hr hm d_Ro_fixedOf_29
set_option maxHeartbeats 4000000 in
set_option maxRecDepth 100000 in
theorem k_Ro_fixedOf {l : Launch} {D : va_G} {ad : Nat → Nat} {cA : Nat → ClassId} {F : Nat} (hAD : ∀ σ, va_D (owC ad) (wdC ad cA σ)) {σ : zS} {x0 : Nat} {x1 : Int32} {r : Int32} {σ' : zS} (hm : Ro_fixedOf F σ x0 x1 = some (r, σ')) : kIC l D ad cA (sXC ad) y_Ro_fixedOf bc_Ro_fixedOf 2 .int 0 [.ref (ad x0), .int x1] σ r σ' := by
  refine kI_of (by decide) hAD sXC_P (Nat.le_of_ble_eq_true rfl) ?_
  intro p e s m below meth c C hr
  unfold Ro_fixedOf at hm
  refine z_lv (lv' := [(0, .ref (ad x0)), (1, .int x1)]) [0, 1] rfl ?_
  refine z_aload_n (pc := 0) C d_Ro_fixedOf_0 rfl 0 rfl ?_
  obtain ⟨g1, hm⟩ := gd_s hm
  refine gC_Ro_9 (pc := 1) C g1  d_Ro_fixedOf_1 ?_
  refine z_iload_n (pc := 4) C d_Ro_fixedOf_4 rfl 1 rfl ?_
  obtain ⟨g2, hm⟩ := gd_s hm
  refine alC_Ro_0 (pc := 5) (v := (ma σ (rA x0 0) x1.toNatClampNeg)) C (x := x0) g1 rfl g2 d_Ro_fixedOf_5 ?_
  refine z_bipush (pc := 6) C d_Ro_fixedOf_6 kb_45 ?_
  refine z_icmp_ne (pc := 8) (tgt := 13) C d_Ro_fixedOf_8 (by decide) (fun c3 => ?_) (fun c3 => ?_)
  · rw [if_neg c3] at hm
    refine z_aload_n (pc := 13) C d_Ro_fixedOf_13 rfl 0 rfl ?_
    refine gC_Ro_9 (pc := 14) C g1  d_Ro_fixedOf_14 ?_
    refine z_iload_n (pc := 17) C d_Ro_fixedOf_17 rfl 1 rfl ?_
    refine alC_Ro_0 (pc := 18) (v := (ma σ (rA x0 0) x1.toNatClampNeg)) C (x := x0) g1 rfl g2 d_Ro_fixedOf_18 ?_
    refine z_bipush (pc := 19) C d_Ro_fixedOf_19 kb_91 ?_
    refine z_icmp_ne (pc := 21) (tgt := 28) C d_Ro_fixedOf_21 (by decide) (fun c4 => ?_) (fun c4 => ?_)
    · rw [if_neg c4] at hm
      refine z_iconst (pc := 28) C d_Ro_fixedOf_28 ki_0 ?_
      refine z_lv (lv' := []) [] rfl ?_
      exact w_Ro_fixedOf_29 hAD C hr σ (0 : Int32) hm
    · rw [if_pos c4] at hm
      refine z_iconst (pc := 24) C d_Ro_fixedOf_24 ki_1 ?_
      refine z_goto (pc := 25) (tgt := 29) C d_Ro_fixedOf_25 (by decide) ?_
      refine z_lv (lv' := []) [] rfl ?_
      exact w_Ro_fixedOf_29 hAD C hr σ (1 : Int32) hm
  · rw [if_pos c3] at hm
    refine z_iconst (pc := 11) C d_Ro_fixedOf_11 ki_2 ?_
    exact z_iretE (pc := 12) C hr hm d_Ro_fixedOf_12
set_option maxHeartbeats 4000000 in
set_option maxRecDepth 100000 in
theorem w_Ro_endOf_33 {D : va_G} {ad : Nat → Nat} {cA : Nat → ClassId} {p : Program} {l : Launch} {e : Env} {s : State} {m : MethodId} {args : Array Value} {below : List Frame} {meth : Method} {c : Code} {F : Nat} (hAD : ∀ σ, va_D (owC ad) (wdC ad cA σ)) (C : CC D ad cA (sXC ad) p s m args meth c bc_Ro_endOf "KindRounds$Row" 4) (hr : meth.sig.returnType = some .int) {r : Int32} {σ' : zS} (σ : zS) (x3 : Int32) (hm : Ro_endOf_33 F σ x3 = some (r, σ')) : ZC D ad cA p l e (rmK 0) s m args below meth c 4 (qiC D ad cA below args s r σ') 33 [(3, .int x3)] [] σ := by
  unfold Ro_endOf_33 at hm
  refine z_iload_n (pc := 33) C d_Ro_endOf_33 rfl 0 rfl ?_
  exact z_iretE (pc := 34) C hr hm d_Ro_endOf_34
set_option maxHeartbeats 4000000 in
set_option maxRecDepth 100000 in
theorem w_Ro_endOf_4 {D : va_G} {ad : Nat → Nat} {cA : Nat → ClassId} {p : Program} {l : Launch} {e : Env} {s : State} {m : MethodId} {args : Array Value} {below : List Frame} {meth : Method} {c : Code} {F : Nat} (hAD : ∀ σ, va_D (owC ad) (wdC ad cA σ)) (C : CC D ad cA (sXC ad) p s m args meth c bc_Ro_endOf "KindRounds$Row" 4) (hr : meth.sig.returnType = some .int) {r : Int32} {σ' : zS} : ∀ (n : Nat) (σ : zS) (x0 : Nat) (x2 : Int32) (x3 : Int32), Ro_endOf_4 F n σ x0 x2 x3 = some (r, σ') → ZC D ad cA p l e (rmK 0) s m args below meth c 4 (qiC D ad cA below args s r σ') 4 [(0, .ref (ad x0)), (2, .int x2), (3, .int x3)] [] σ := by
  intro n
  induction n with
  | zero => intro σ x0 x2 x3 hm; cases hm
  | succ n h4 =>
    intro σ x0 x2 x3 hm
    have hm : Ro_endOf_b4 F (Ro_endOf_4 F n) σ x0 x2 x3 = some (r, σ') := hm
    unfold Ro_endOf_b4 at hm
    refine z_iload_n (pc := 4) C d_Ro_endOf_4 rfl 2 rfl ?_
    refine z_aload_n (pc := 5) C d_Ro_endOf_5 rfl 0 rfl ?_
    obtain ⟨g1, hm⟩ := gd_s hm
    refine gC_Ro_31 (pc := 6) (v := (mi σ (100 * x0 + 4))) C g1 rfl d_Ro_endOf_6 ?_
    refine z_icmp_ge (pc := 9) (tgt := 33) C d_Ro_endOf_9 (by decide) (fun c2 => ?_) (fun c2 => ?_)
    · rw [if_pos c2] at hm
      refine z_lv (lv' := [(3, .int x3)]) [2] rfl ?_
      exact w_Ro_endOf_33 hAD C hr σ x3 hm
    · rw [if_neg c2] at hm
      refine z_iload_n (pc := 12) C d_Ro_endOf_12 rfl 1 rfl ?_
      refine z_if_le (pc := 13) (tgt := 33) C d_Ro_endOf_13 (by decide) (fun c3 => ?_) (fun c3 => ?_)
      · rw [if_pos c3] at hm
        refine z_lv (lv' := [(3, .int x3)]) [2] rfl ?_
        exact w_Ro_endOf_33 hAD C hr σ x3 hm
      · rw [if_neg c3] at hm
        refine z_iload_n (pc := 16) C d_Ro_endOf_16 rfl 1 rfl ?_
        refine z_aload_n (pc := 17) C d_Ro_endOf_17 rfl 0 rfl ?_
        refine gC_Ro_19 (pc := 18) C g1  d_Ro_endOf_18 ?_
        refine z_iload_n (pc := 21) C d_Ro_endOf_21 rfl 2 rfl ?_
        obtain ⟨g4, hm⟩ := gd_s hm
        refine alC_Ro_2 (pc := 22) (v := (ma σ (rA x0 2) x3.toNatClampNeg)) C (x := x0) g1 rfl g4 d_Ro_endOf_22 ?_
        refine z_iconst (pc := 23) C d_Ro_endOf_23 ki_1 ?_
        refine z_isub (pc := 24) C d_Ro_endOf_24 ?_
        refine z_iadd (pc := 25) C d_Ro_endOf_25 ?_
        refine z_istore_n (pc := 26) (lv' := [(0, .ref (ad x0)), (2, .int (x2 + ((ma σ (rA x0 2) x3.toNatClampNeg) - (1 : Int32)))), (3, .int x3)]) C d_Ro_endOf_26 rfl (Nat.le_of_ble_eq_true rfl) [1, 0, 2] rfl ?_
        refine z_iinc (pc := 27) (lv' := [(0, .ref (ad x0)), (2, .int (x2 + ((ma σ (rA x0 2) x3.toNatClampNeg) - (1 : Int32)))), (3, .int (x3 + (1 : Int32)))]) C d_Ro_endOf_27 2 rfl (ii ki_1) (Nat.le_of_ble_eq_true rfl) [1, 2, 0] rfl ?_
        refine z_goto (pc := 30) (tgt := 4) C d_Ro_endOf_30 (by decide) ?_
        exact h4 σ x0 (x2 + ((ma σ (rA x0 2) x3.toNatClampNeg) - (1 : Int32))) (x3 + (1 : Int32)) hm
set_option maxHeartbeats 4000000 in
set_option maxRecDepth 100000 in
theorem k_Ro_endOf {l : Launch} {D : va_G} {ad : Nat → Nat} {cA : Nat → ClassId} {F : Nat} (hAD : ∀ σ, va_D (owC ad) (wdC ad cA σ)) {σ : zS} {x0 : Nat} {x1 : Int32} {r : Int32} {σ' : zS} (hm : Ro_endOf F σ x0 x1 = some (r, σ')) : kIC l D ad cA (sXC ad) y_Ro_endOf bc_Ro_endOf 4 .int 0 [.ref (ad x0), .int x1] σ r σ' := by
  refine kI_of (by decide) hAD sXC_P (Nat.le_of_ble_eq_true rfl) ?_
  intro p e s m below meth c C hr
  unfold Ro_endOf at hm
  refine z_lv (lv' := [(0, .ref (ad x0)), (1, .int x1)]) [0, 1] rfl ?_
  refine z_iconst (pc := 0) C d_Ro_endOf_0 ki_1 ?_
  refine z_istore_n (pc := 1) (lv' := [(0, .ref (ad x0)), (1, .int x1), (2, .int (1 : Int32))]) C d_Ro_endOf_1 rfl (Nat.le_of_ble_eq_true rfl) [1, 2, 0] rfl ?_
  refine z_iload_n (pc := 2) C d_Ro_endOf_2 rfl 1 rfl ?_
  refine z_istore_n (pc := 3) (lv' := [(0, .ref (ad x0)), (1, .int x1), (2, .int (1 : Int32)), (3, .int x1)]) C d_Ro_endOf_3 rfl (Nat.le_of_ble_eq_true rfl) [1, 2, 3, 0] rfl ?_
  refine z_lv (lv' := [(0, .ref (ad x0)), (2, .int (1 : Int32)), (3, .int x1)]) [0, 2, 3] rfl ?_
  exact w_Ro_endOf_4 hAD C hr F σ x0 (1 : Int32) x1 hm
set_option maxHeartbeats 4000000 in
set_option maxRecDepth 100000 in
theorem w_Ro_isLike_69 {D : va_G} {ad : Nat → Nat} {cA : Nat → ClassId} {p : Program} {l : Launch} {e : Env} {s : State} {m : MethodId} {args : Array Value} {below : List Frame} {meth : Method} {c : Code} {F : Nat} (hAD : ∀ σ, va_D (owC ad) (wdC ad cA σ)) (C : CC D ad cA (sXC ad) p s m args meth c bc_Ro_isLike "KindRounds$Row" 3) (hr : meth.sig.returnType = some .boolean) {r : Int32} {σ' : zS} (σ : zS) (hm : Ro_isLike_69 F σ = some (r, σ')) : ZC D ad cA p l e (rmK 0) s m args below meth c 3 (qiC D ad cA below args s r σ') 69 [] [] σ := by
  unfold Ro_isLike_69 at hm
  refine z_iconst (pc := 69) C d_Ro_isLike_69 ki_0 ?_
  exact z_zretE (pc := 70) C hr (by decide) hm d_Ro_isLike_70
set_option maxHeartbeats 4000000 in
set_option maxRecDepth 100000 in
theorem w_Ro_isLike_15 {D : va_G} {ad : Nat → Nat} {cA : Nat → ClassId} {p : Program} {l : Launch} {e : Env} {s : State} {m : MethodId} {args : Array Value} {below : List Frame} {meth : Method} {c : Code} {F : Nat} (hAD : ∀ σ, va_D (owC ad) (wdC ad cA σ)) (C : CC D ad cA (sXC ad) p s m args meth c bc_Ro_isLike "KindRounds$Row" 3) (hr : meth.sig.returnType = some .boolean) {r : Int32} {σ' : zS} : ∀ (n : Nat) (σ : zS) (x0 : Nat) (x1 : Nat) (x2 : Int32), Ro_isLike_15 F n σ x0 x1 x2 = some (r, σ') → ZC D ad cA p l e (rmK 0) s m args below meth c 3 (qiC D ad cA below args s r σ') 15 [(0, .ref (ad x0)), (1, .ref (ad x1)), (2, .int x2)] [] σ := by
  intro n
  induction n with
  | zero => intro σ x0 x1 x2 hm; cases hm
  | succ n h15 =>
    intro σ x0 x1 x2 hm
    have hm : Ro_isLike_b15 F (Ro_isLike_15 F n) σ x0 x1 x2 = some (r, σ') := hm
    unfold Ro_isLike_b15 at hm
    refine z_iload_n (pc := 15) C d_Ro_isLike_15 rfl 2 rfl ?_
    refine z_aload_n (pc := 16) C d_Ro_isLike_16 rfl 0 rfl ?_
    obtain ⟨g1, hm⟩ := gd_s hm
    refine gC_Ro_31 (pc := 17) (v := (mi σ (100 * x0 + 4))) C g1 rfl d_Ro_isLike_17 ?_
    refine z_icmp_ge (pc := 20) (tgt := 77) C d_Ro_isLike_20 (by decide) (fun c2 => ?_) (fun c2 => ?_)
    · rw [if_pos c2] at hm
      refine z_iconst (pc := 77) C d_Ro_isLike_77 ki_1 ?_
      exact z_zretE (pc := 78) C hr (by decide) hm d_Ro_isLike_78
    · rw [if_neg c2] at hm
      refine z_aload_n (pc := 23) C d_Ro_isLike_23 rfl 0 rfl ?_
      refine gC_Ro_9 (pc := 24) C g1  d_Ro_isLike_24 ?_
      refine z_iload_n (pc := 27) C d_Ro_isLike_27 rfl 2 rfl ?_
      obtain ⟨g3, hm⟩ := gd_s hm
      refine alC_Ro_0 (pc := 28) (v := (ma σ (rA x0 0) x2.toNatClampNeg)) C (x := x0) g1 rfl g3 d_Ro_isLike_28 ?_
      refine z_aload_n (pc := 29) C d_Ro_isLike_29 rfl 1 rfl ?_
      obtain ⟨g4, hm⟩ := gd_s hm
      refine gC_Ro_9 (pc := 30) C g4  d_Ro_isLike_30 ?_
      refine z_iload_n (pc := 33) C d_Ro_isLike_33 rfl 2 rfl ?_
      refine alC_Ro_0 (pc := 34) (v := (ma σ (rA x1 0) x2.toNatClampNeg)) C (x := x1) g4 rfl g3 d_Ro_isLike_34 ?_
      refine z_icmp_ne (pc := 35) (tgt := 69) C d_Ro_isLike_35 (by decide) (fun c5 => ?_) (fun c5 => ?_)
      · rw [if_neg c5] at hm
        refine z_lv (lv' := []) [] rfl ?_
        exact w_Ro_isLike_69 hAD C hr σ hm
      · rw [if_pos c5] at hm
        refine z_aload_n (pc := 38) C d_Ro_isLike_38 rfl 0 rfl ?_
        refine gC_Ro_15 (pc := 39) C g1  d_Ro_isLike_39 ?_
        refine z_iload_n (pc := 42) C d_Ro_isLike_42 rfl 2 rfl ?_
        refine alC_Ro_1 (pc := 43) (v := (mb σ (rA x0 1) x2.toNatClampNeg)) C (x := x0) g1 rfl g3 d_Ro_isLike_43 ?_
        refine z_aload_n (pc := 44) C d_Ro_isLike_44 rfl 1 rfl ?_
        refine gC_Ro_15 (pc := 45) C g4  d_Ro_isLike_45 ?_
        refine z_iload_n (pc := 48) C d_Ro_isLike_48 rfl 2 rfl ?_
        refine alC_Ro_1 (pc := 49) (v := (mb σ (rA x1 1) x2.toNatClampNeg)) C (x := x1) g4 rfl g3 d_Ro_isLike_49 ?_
        refine z_lcmp (pc := 50) C d_Ro_isLike_50 ?_
        refine z_if_ne (pc := 51) (tgt := 69) C d_Ro_isLike_51 (by decide) (fun c6 => ?_) (fun c6 => ?_)
        · rw [if_neg c6] at hm
          refine z_lv (lv' := []) [] rfl ?_
          exact w_Ro_isLike_69 hAD C hr σ hm
        · rw [if_pos c6] at hm
          refine z_aload_n (pc := 54) C d_Ro_isLike_54 rfl 0 rfl ?_
          refine gC_Ro_19 (pc := 55) C g1  d_Ro_isLike_55 ?_
          refine z_iload_n (pc := 58) C d_Ro_isLike_58 rfl 2 rfl ?_
          refine alC_Ro_2 (pc := 59) (v := (ma σ (rA x0 2) x2.toNatClampNeg)) C (x := x0) g1 rfl g3 d_Ro_isLike_59 ?_
          refine z_aload_n (pc := 60) C d_Ro_isLike_60 rfl 1 rfl ?_
          refine gC_Ro_19 (pc := 61) C g4  d_Ro_isLike_61 ?_
          refine z_iload_n (pc := 64) C d_Ro_isLike_64 rfl 2 rfl ?_
          refine alC_Ro_2 (pc := 65) (v := (ma σ (rA x1 2) x2.toNatClampNeg)) C (x := x1) g4 rfl g3 d_Ro_isLike_65 ?_
          refine z_icmp_eq (pc := 66) (tgt := 71) C d_Ro_isLike_66 (by decide) (fun c7 => ?_) (fun c7 => ?_)
          · rw [if_pos c7] at hm
            refine z_iinc (pc := 71) (lv' := [(0, .ref (ad x0)), (1, .ref (ad x1)), (2, .int (x2 + (1 : Int32)))]) C d_Ro_isLike_71 2 rfl (ii ki_1) (Nat.le_of_ble_eq_true rfl) [1, 2, 0] rfl ?_
            refine z_goto (pc := 74) (tgt := 15) C d_Ro_isLike_74 (by decide) ?_
            exact h15 σ x0 x1 (x2 + (1 : Int32)) hm
          · rw [if_neg c7] at hm
            refine z_lv (lv' := []) [] rfl ?_
            exact w_Ro_isLike_69 hAD C hr σ hm
set_option maxHeartbeats 4000000 in
set_option maxRecDepth 100000 in
theorem k_Ro_isLike {l : Launch} {D : va_G} {ad : Nat → Nat} {cA : Nat → ClassId} {F : Nat} (hAD : ∀ σ, va_D (owC ad) (wdC ad cA σ)) {σ : zS} {x0 : Nat} {x1 : Nat} {r : Int32} {σ' : zS} (hm : Ro_isLike F σ x0 x1 = some (r, σ')) : kIC l D ad cA (sXC ad) y_Ro_isLike bc_Ro_isLike 3 .boolean 0 [.ref (ad x0), .ref (ad x1)] σ r σ' := by
  refine kI_of (by decide) hAD sXC_P (Nat.le_of_ble_eq_true rfl) ?_
  intro p e s m below meth c C hr
  unfold Ro_isLike at hm
  refine z_lv (lv' := [(0, .ref (ad x0)), (1, .ref (ad x1))]) [0, 1] rfl ?_
  refine z_aload_n (pc := 0) C d_Ro_isLike_0 rfl 0 rfl ?_
  obtain ⟨g1, hm⟩ := gd_s hm
  refine gC_Ro_31 (pc := 1) (v := (mi σ (100 * x0 + 4))) C g1 rfl d_Ro_isLike_1 ?_
  refine z_aload_n (pc := 4) C d_Ro_isLike_4 rfl 1 rfl ?_
  obtain ⟨g2, hm⟩ := gd_s hm
  refine gC_Ro_31 (pc := 5) (v := (mi σ (100 * x1 + 4))) C g2 rfl d_Ro_isLike_5 ?_
  refine z_icmp_eq (pc := 8) (tgt := 13) C d_Ro_isLike_8 (by decide) (fun c3 => ?_) (fun c3 => ?_)
  · rw [if_pos c3] at hm
    refine z_iconst (pc := 13) C d_Ro_isLike_13 ki_0 ?_
    refine z_istore_n (pc := 14) (lv' := [(0, .ref (ad x0)), (1, .ref (ad x1)), (2, .int (0 : Int32))]) C d_Ro_isLike_14 rfl (Nat.le_of_ble_eq_true rfl) [1, 2, 0] rfl ?_
    exact w_Ro_isLike_15 hAD C hr F σ x0 x1 (0 : Int32) hm
  · rw [if_neg c3] at hm
    refine z_iconst (pc := 11) C d_Ro_isLike_11 ki_0 ?_
    exact z_zretE (pc := 12) C hr (by decide) hm d_Ro_isLike_12
