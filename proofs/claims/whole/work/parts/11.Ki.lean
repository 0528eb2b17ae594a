/-! Walks of Ki. Written by program (wip/gen). -/
set_option maxHeartbeats 4000000 in
set_option maxRecDepth 100000 in
theorem k_Ki_clear {l : Launch} {D : va_G} {ad : Nat → Nat} {cA : Nat → ClassId} {F : Nat} (hAD : ∀ σ, va_D (owC ad) (wdC ad cA σ)) {σ : zS} {σ' : zS} (hm : Ki_clear F σ = some σ') : kVC l D ad cA (sXC ad) y_Ki_clear bc_Ki_clear 1 0 [.ref (ad 3)] σ σ' := by
  refine kV_of (by decide) hAD sXC_P (Nat.le_of_ble_eq_true rfl) ?_
  intro p e s m below meth c C hr
  unfold Ki_clear at hm
  refine z_lv (lv' := [(0, .ref (ad 3))]) [0] rfl ?_
  refine z_aload_n (pc := 0) C d_Ki_clear_0 rfl 0 rfl ?_
  refine z_iconst (pc := 1) C d_Ki_clear_1 ki_1 ?_
  refine pC_Ki_30 (pc := 2) C  d_Ki_clear_2 ?_
  refine z_aload_n (pc := 5) C d_Ki_clear_5 rfl 0 rfl ?_
  refine z_aload_n (pc := 6) C d_Ki_clear_6 rfl 0 rfl ?_
  refine gC_Ki_30 (pc := 7) (v := (1 : Int32)) C rfl d_Ki_clear_7 ?_
  refine pC_Ki_34 (pc := 10) C  d_Ki_clear_10 ?_
  exact z_vretE (pc := 13) C hr hm d_Ki_clear_13
set_option maxHeartbeats 4000000 in
set_option maxRecDepth 100000 in
theorem k_Ki_makeOpen {l : Launch} {D : va_G} {ad : Nat → Nat} {cA : Nat → ClassId} {F : Nat} (hAD : ∀ σ, va_D (owC ad) (wdC ad cA σ)) {σ : zS} {r : Int32} {σ' : zS} (hm : Ki_makeOpen F σ = some (r, σ')) : kIC l D ad cA (sXC ad) y_Ki_makeOpen bc_Ki_makeOpen 1 .int 0 [.ref (ad 3)] σ r σ' := by
  refine kI_of (by decide) hAD sXC_P (Nat.le_of_ble_eq_true rfl) ?_
  intro p e s m below meth c C hr
  unfold Ki_makeOpen at hm
  refine z_lv (lv' := [(0, .ref (ad 3))]) [0] rfl ?_
  refine z_aload_n (pc := 0) C d_Ki_makeOpen_0 rfl 0 rfl ?_
  refine gC_Ki_30 (pc := 1) (v := (gi σ 306)) C rfl d_Ki_makeOpen_1 ?_
  refine z_sipush (pc := 4) C d_Ki_makeOpen_4 ks_1713 ?_
  refine z_icmp_lt (pc := 7) (tgt := 12) C d_Ki_makeOpen_7 (by decide) (fun c1 => ?_) (fun c1 => ?_)
  · rw [if_pos c1] at hm
    refine z_aload_n (pc := 12) C d_Ki_makeOpen_12 rfl 0 rfl ?_
    refine gC_Ki_11 (pc := 13) C  d_Ki_makeOpen_13 ?_
    refine z_aload_n (pc := 16) C d_Ki_makeOpen_16 rfl 0 rfl ?_
    refine gC_Ki_30 (pc := 17) (v := (gi σ 306)) C rfl d_Ki_makeOpen_17 ?_
    refine z_iconst (pc := 20) C d_Ki_makeOpen_20 ki_m1 ?_
    obtain ⟨g2, hm⟩ := gd_s hm
    refine asC_23 (pc := 21) C  g2 d_Ki_makeOpen_21 ?_
    refine z_aload_n (pc := 22) C d_Ki_makeOpen_22 rfl 0 rfl ?_
    refine gC_Ki_18 (pc := 23) C  d_Ki_makeOpen_23 ?_
    refine z_aload_n (pc := 26) C d_Ki_makeOpen_26 rfl 0 rfl ?_
    refine gC_Ki_30 (pc := 27) (v := (gi σ 306)) C rfl d_Ki_makeOpen_27 ?_
    refine z_iconst (pc := 30) C d_Ki_makeOpen_30 ki_m1 ?_
    refine asC_25 (pc := 31) C  g2 d_Ki_makeOpen_31 ?_
    refine z_aload_n (pc := 32) C d_Ki_makeOpen_32 rfl 0 rfl ?_
    refine z_dup (pc := 33) C d_Ki_makeOpen_33 rfl ?_
    refine gC_Ki_30 (pc := 34) (v := (gi σ 306)) C rfl d_Ki_makeOpen_34 ?_
    refine z_iconst (pc := 37) C d_Ki_makeOpen_37 ki_1 ?_
    refine z_iadd (pc := 38) C d_Ki_makeOpen_38 ?_
    refine pC_Ki_30 (pc := 39) C  d_Ki_makeOpen_39 ?_
    refine z_aload_n (pc := 42) C d_Ki_makeOpen_42 rfl 0 rfl ?_
    refine gC_Ki_30 (pc := 43) (v := ((gi σ 306) + (1 : Int32))) C rfl d_Ki_makeOpen_43 ?_
    refine z_iconst (pc := 46) C d_Ki_makeOpen_46 ki_1 ?_
    refine z_isub (pc := 47) C d_Ki_makeOpen_47 ?_
    exact z_iretE (pc := 48) C hr hm d_Ki_makeOpen_48
  · rw [if_neg c1] at hm
    refine z_iconst (pc := 10) C d_Ki_makeOpen_10 ki_0 ?_
    exact z_iretE (pc := 11) C hr hm d_Ki_makeOpen_11
set_option maxHeartbeats 4000000 in
set_option maxRecDepth 100000 in
theorem k_Ki_makeArrow {l : Launch} {D : va_G} {ad : Nat → Nat} {cA : Nat → ClassId} {F : Nat} (hAD : ∀ σ, va_D (owC ad) (wdC ad cA σ)) {σ : zS} {x1 : Int32} {x2 : Int32} {r : Int32} {σ' : zS} (hm : Ki_makeArrow F σ x1 x2 = some (r, σ')) : kIC l D ad cA (sXC ad) y_Ki_makeArrow bc_Ki_makeArrow 3 .int 0 [.ref (ad 3), .int x1, .int x2] σ r σ' := by
  refine kI_of (by decide) hAD sXC_P (Nat.le_of_ble_eq_true rfl) ?_
  intro p e s m below meth c C hr
  unfold Ki_makeArrow at hm
  refine z_lv (lv' := [(0, .ref (ad 3)), (1, .int x1), (2, .int x2)]) [0, 1, 2] rfl ?_
  refine z_aload_n (pc := 0) C d_Ki_makeArrow_0 rfl 0 rfl ?_
  refine gC_Ki_30 (pc := 1) (v := (gi σ 306)) C rfl d_Ki_makeArrow_1 ?_
  refine z_sipush (pc := 4) C d_Ki_makeArrow_4 ks_1713 ?_
  refine z_icmp_lt (pc := 7) (tgt := 12) C d_Ki_makeArrow_7 (by decide) (fun c1 => ?_) (fun c1 => ?_)
  · rw [if_pos c1] at hm
    refine z_aload_n (pc := 12) C d_Ki_makeArrow_12 rfl 0 rfl ?_
    refine gC_Ki_11 (pc := 13) C  d_Ki_makeArrow_13 ?_
    refine z_aload_n (pc := 16) C d_Ki_makeArrow_16 rfl 0 rfl ?_
    refine gC_Ki_30 (pc := 17) (v := (gi σ 306)) C rfl d_Ki_makeArrow_17 ?_
    refine z_iload_n (pc := 20) C d_Ki_makeArrow_20 rfl 1 rfl ?_
    obtain ⟨g2, hm⟩ := gd_s hm
    refine asC_23 (pc := 21) C  g2 d_Ki_makeArrow_21 ?_
    refine z_aload_n (pc := 22) C d_Ki_makeArrow_22 rfl 0 rfl ?_
    refine gC_Ki_15 (pc := 23) C  d_Ki_makeArrow_23 ?_
    refine z_aload_n (pc := 26) C d_Ki_makeArrow_26 rfl 0 rfl ?_
    refine gC_Ki_30 (pc := 27) (v := (gi σ 306)) C rfl d_Ki_makeArrow_27 ?_
    refine z_iload_n (pc := 30) C d_Ki_makeArrow_30 rfl 2 rfl ?_
    refine asC_24 (pc := 31) C  g2 d_Ki_makeArrow_31 ?_
    refine z_aload_n (pc := 32) C d_Ki_makeArrow_32 rfl 0 rfl ?_
    refine gC_Ki_18 (pc := 33) C  d_Ki_makeArrow_33 ?_
    refine z_aload_n (pc := 36) C d_Ki_makeArrow_36 rfl 0 rfl ?_
    refine gC_Ki_30 (pc := 37) (v := (gi σ 306)) C rfl d_Ki_makeArrow_37 ?_
    refine z_iconst (pc := 40) C d_Ki_makeArrow_40 ki_m1 ?_
    refine asC_25 (pc := 41) C  g2 d_Ki_makeArrow_41 ?_
    refine z_aload_n (pc := 42) C d_Ki_makeArrow_42 rfl 0 rfl ?_
    refine z_dup (pc := 43) C d_Ki_makeArrow_43 rfl ?_
    refine gC_Ki_30 (pc := 44) (v := (gi σ 306)) C rfl d_Ki_makeArrow_44 ?_
    refine z_iconst (pc := 47) C d_Ki_makeArrow_47 ki_1 ?_
    refine z_iadd (pc := 48) C d_Ki_makeArrow_48 ?_
    refine pC_Ki_30 (pc := 49) C  d_Ki_makeArrow_49 ?_
    refine z_aload_n (pc := 52) C d_Ki_makeArrow_52 rfl 0 rfl ?_
    refine gC_Ki_30 (pc := 53) (v := ((gi σ 306) + (1 : Int32))) C rfl d_Ki_makeArrow_53 ?_
    refine z_iconst (pc := 56) C d_Ki_makeArrow_56 ki_1 ?_
    refine z_isub (pc := 57) C d_Ki_makeArrow_57 ?_
    exact z_iretE (pc := 58) C hr hm d_Ki_makeArrow_58
  · rw [if_neg c1] at hm
    refine z_iconst (pc := 10) C d_Ki_makeArrow_10 ki_0 ?_
    exact z_iretE (pc := 11) C hr hm d_Ki_makeArrow_11
set_option maxHeartbeats 4000000 in
set_option maxRecDepth 100000 in
theorem w_Ki_find_34 {D : va_G} {ad : Nat → Nat} {cA : Nat → ClassId} {p : Program} {l : Launch} {e : Env} {s : State} {m : MethodId} {args : Array Value} {below : List Frame} {meth : Method} {c : Code} {F : Nat} (hAD : ∀ σ, va_D (owC ad) (wdC ad cA σ)) (C : CC D ad cA (sXC ad) p s m args meth c bc_Ki_find "KindRounds$Kinds" 4) (hr : meth.sig.returnType = some .int) {r : Int32} {σ' : zS} (σ : zS) (x2 : Int32) (hm : Ki_find_34 F σ x2 = some (r, σ')) : ZC D ad cA p l e (rmK 0) s m args below meth c 4 (qiC D ad cA below args s r σ') 34 [(2, .int x2)] [] σ := by
  unfold Ki_find_34 at hm
  refine z_iload_n (pc := 34) C d_Ki_find_34 rfl 0 rfl ?_
  exact z_iretE (pc := 35) C hr hm d_Ki_find_35
set_option maxHeartbeats 4000000 in
set_option maxRecDepth 100000 in
theorem w_Ki_find_4 {D : va_G} {ad : Nat → Nat} {cA : Nat → ClassId} {p : Program} {l : Launch} {e : Env} {s : State} {m : MethodId} {args : Array Value} {below : List Frame} {meth : Method} {c : Code} {F : Nat} (hAD : ∀ σ, va_D (owC ad) (wdC ad cA σ)) (C : CC D ad cA (sXC ad) p s m args meth c bc_Ki_find "KindRounds$Kinds" 4) (hr : meth.sig.returnType = some .int) {r : Int32} {σ' : zS} : ∀ (n : Nat) (σ : zS) (x2 : Int32) (x3 : Int32), Ki_find_4 F n σ x2 x3 = some (r, σ') → ZC D ad cA p l e (rmK 0) s m args below meth c 4 (qiC D ad cA below args s r σ') 4 [(0, .ref (ad 3)), (2, .int x2), (3, .int x3)] [] σ := by
  intro n
  induction n with
  | zero => intro σ x2 x3 hm; cases hm
  | succ n h4 =>
    intro σ x2 x3 hm
    have hm : Ki_find_b4 F (Ki_find_4 F n) σ x2 x3 = some (r, σ') := hm
    unfold Ki_find_b4 at hm
    refine z_iload_n (pc := 4) C d_Ki_find_4 rfl 2 rfl ?_
    refine z_sipush (pc := 5) C d_Ki_find_5 ks_1713 ?_
    refine z_icmp_ge (pc := 8) (tgt := 34) C d_Ki_find_8 (by decide) (fun c1 => ?_) (fun c1 => ?_)
    · rw [if_pos c1] at hm
      refine z_lv (lv' := [(2, .int x2)]) [1] rfl ?_
      exact w_Ki_find_34 hAD C hr σ x2 hm
    · rw [if_neg c1] at hm
      refine z_aload_n (pc := 11) C d_Ki_find_11 rfl 0 rfl ?_
      refine gC_Ki_18 (pc := 12) C  d_Ki_find_12 ?_
      refine z_iload_n (pc := 15) C d_Ki_find_15 rfl 1 rfl ?_
      obtain ⟨g2, hm⟩ := gd_s hm
      refine alC_25 (pc := 16) (v := (ga σ 25 x2.toNatClampNeg)) C  rfl g2 d_Ki_find_16 ?_
      refine z_iconst (pc := 17) C d_Ki_find_17 ki_m1 ?_
      refine z_icmp_eq (pc := 18) (tgt := 34) C d_Ki_find_18 (by decide) (fun c3 => ?_) (fun c3 => ?_)
      · rw [if_pos c3] at hm
        refine z_lv (lv' := [(2, .int x2)]) [1] rfl ?_
        exact w_Ki_find_34 hAD C hr σ x2 hm
      · rw [if_neg c3] at hm
        refine z_aload_n (pc := 21) C d_Ki_find_21 rfl 0 rfl ?_
        refine gC_Ki_18 (pc := 22) C  d_Ki_find_22 ?_
        refine z_iload_n (pc := 25) C d_Ki_find_25 rfl 1 rfl ?_
        refine alC_25 (pc := 26) (v := (ga σ 25 x2.toNatClampNeg)) C  rfl g2 d_Ki_find_26 ?_
        refine z_istore_n (pc := 27) (lv' := [(0, .ref (ad 3)), (2, .int (ga σ 25 x2.toNatClampNeg)), (3, .int x3)]) C d_Ki_find_27 rfl (Nat.le_of_ble_eq_true rfl) [1, 0, 2] rfl ?_
        refine z_iinc (pc := 28) (lv' := [(0, .ref (ad 3)), (2, .int (ga σ 25 x2.toNatClampNeg)), (3, .int (x3 + (1 : Int32)))]) C d_Ki_find_28 2 rfl (ii ki_1) (Nat.le_of_ble_eq_true rfl) [1, 2, 0] rfl ?_
        refine z_goto (pc := 31) (tgt := 4) C d_Ki_find_31 (by decide) ?_
        exact h4 σ (ga σ 25 x2.toNatClampNeg) (x3 + (1 : Int32)) hm
set_option maxHeartbeats 4000000 in
set_option maxRecDepth 100000 in
theorem k_Ki_find {l : Launch} {D : va_G} {ad : Nat → Nat} {cA : Nat → ClassId} {F : Nat} (hAD : ∀ σ, va_D (owC ad) (wdC ad cA σ)) {σ : zS} {x1 : Int32} {r : Int32} {σ' : zS} (hm : Ki_find F σ x1 = some (r, σ')) : kIC l D ad cA (sXC ad) y_Ki_find bc_Ki_find 4 .int 0 [.ref (ad 3), .int x1] σ r σ' := by
  refine kI_of (by decide) hAD sXC_P (Nat.le_of_ble_eq_true rfl) ?_
  intro p e s m below meth c C hr
  unfold Ki_find at hm
  refine z_lv (lv' := [(0, .ref (ad 3)), (1, .int x1)]) [0, 1] rfl ?_
  refine z_iload_n (pc := 0) C d_Ki_find_0 rfl 1 rfl ?_
  refine z_istore_n (pc := 1) (lv' := [(0, .ref (ad 3)), (1, .int x1), (2, .int x1)]) C d_Ki_find_1 rfl (Nat.le_of_ble_eq_true rfl) [1, 2, 0] rfl ?_
  refine z_iconst (pc := 2) C d_Ki_find_2 ki_0 ?_
  refine z_istore_n (pc := 3) (lv' := [(0, .ref (ad 3)), (1, .int x1), (2, .int x1), (3, .int (0 : Int32))]) C d_Ki_find_3 rfl (Nat.le_of_ble_eq_true rfl) [1, 2, 3, 0] rfl ?_
  refine z_lv (lv' := [(0, .ref (ad 3)), (2, .int x1), (3, .int (0 : Int32))]) [0, 2, 3] rfl ?_
  exact w_Ki_find_4 hAD C hr F σ x1 (0 : Int32) hm
set_option maxHeartbeats 4000000 in
set_option maxRecDepth 100000 in
theorem w_Ki_isOpen_19 {D : va_G} {ad : Nat → Nat} {cA : Nat → ClassId} {p : Program} {l : Launch} {e : Env} {s : State} {m : MethodId} {args : Array Value} {below : List Frame} {meth : Method} {c : Code} {F : Nat} (hAD : ∀ σ, va_D (owC ad) (wdC ad cA σ)) (C : CC D ad cA (sXC ad) p s m args meth c bc_Ki_isOpen "KindRounds$Kinds" 2) (hr : meth.sig.returnType = some .boolean) {r : Int32} {σ' : zS} (σ : zS) (s0 : Int32) (hm : Ki_isOpen_19 F σ s0 = some (r, σ')) : ZC D ad cA p l e (rmK 0) s m args below meth c 2 (qiC D ad cA below args s r σ') 19 [] [.int s0] σ := by
  unfold Ki_isOpen_19 at hm
  obtain ⟨g1, hm⟩ := gd_s hm
  exact z_zretE (pc := 19) C hr g1 hm d_Ki_isOpen_19
set_option maxHeartbeats 4000000 in
set_option maxRecDepth 100000 in
theorem w_Ki_isOpen_18 {D : va_G} {ad : Nat → Nat} {cA : Nat → ClassId} {p : Program} {l : Launch} {e : Env} {s : State} {m : MethodId} {args : Array Value} {below : List Frame} {meth : Method} {c : Code} {F : Nat} (hAD : ∀ σ, va_D (owC ad) (wdC ad cA σ)) (C : CC D ad cA (sXC ad) p s m args meth c bc_Ki_isOpen "KindRounds$Kinds" 2) (hr : meth.sig.returnType = some .boolean) {r : Int32} {σ' : zS} (σ : zS) (hm : Ki_isOpen_18 F σ = some (r, σ')) : ZC D ad cA p l e (rmK 0) s m args below meth c 2 (qiC D ad cA below args s r σ') 18 [] [] σ := by
  unfold Ki_isOpen_18 at hm
  refine z_iconst (pc := 18) C d_Ki_isOpen_18 ki_0 ?_
  exact w_Ki_isOpen_19 hAD C hr σ (0 : Int32) hm
set_option maxHeartbeats 4000000 in
set_option maxRecDepth 100000 in
theorem k_Ki_isOpen {l : Launch} {D : va_G} {ad : Nat → Nat} {cA : Nat → ClassId} {F : Nat} (hAD : ∀ σ, va_D (owC ad) (wdC ad cA σ)) {σ : zS} {x1 : Int32} {r : Int32} {σ' : zS} (hm : Ki_isOpen F σ x1 = some (r, σ')) : kIC l D ad cA (sXC ad) y_Ki_isOpen bc_Ki_isOpen 2 .boolean 0 [.ref (ad 3), .int x1] σ r σ' := by
  refine kI_of (by decide) hAD sXC_P (Nat.le_of_ble_eq_true rfl) ?_
  intro p e s m below meth c C hr
  unfold Ki_isOpen at hm
  refine z_lv (lv' := [(0, .ref (ad 3)), (1, .int x1)]) [0, 1] rfl ?_
  refine z_iload_n (pc := 0) C d_Ki_isOpen_0 rfl 1 rfl ?_
  refine z_if_eq (pc := 1) (tgt := 18) C d_Ki_isOpen_1 (by decide) (fun c1 => ?_) (fun c1 => ?_)
  · rw [if_pos c1] at hm
    refine z_lv (lv' := []) [] rfl ?_
    exact w_Ki_isOpen_18 hAD C hr σ hm
  · rw [if_neg c1] at hm
    refine z_aload_n (pc := 4) C d_Ki_isOpen_4 rfl 0 rfl ?_
    refine gC_Ki_11 (pc := 5) C  d_Ki_isOpen_5 ?_
    refine z_iload_n (pc := 8) C d_Ki_isOpen_8 rfl 1 rfl ?_
    obtain ⟨g2, hm⟩ := gd_s hm
    refine alC_23 (pc := 9) (v := (ga σ 23 x1.toNatClampNeg)) C  rfl g2 d_Ki_isOpen_9 ?_
    refine z_iconst (pc := 10) C d_Ki_isOpen_10 ki_m1 ?_
    refine z_icmp_ne (pc := 11) (tgt := 18) C d_Ki_isOpen_11 (by decide) (fun c3 => ?_) (fun c3 => ?_)
    · rw [if_neg c3] at hm
      refine z_lv (lv' := []) [] rfl ?_
      exact w_Ki_isOpen_18 hAD C hr σ hm
    · rw [if_pos c3] at hm
      refine z_iconst (pc := 14) C d_Ki_isOpen_14 ki_1 ?_
      refine z_goto (pc := 15) (tgt := 19) C d_Ki_isOpen_15 (by decide) ?_
      refine z_lv (lv' := []) [] rfl ?_
      exact w_Ki_isOpen_19 hAD C hr σ (1 : Int32) hm
set_option maxHeartbeats 4000000 in
set_option maxRecDepth 100000 in
theorem w_Ki_isArrow_19 {D : va_G} {ad : Nat → Nat} {cA : Nat → ClassId} {p : Program} {l : Launch} {e : Env} {s : State} {m : MethodId} {args : Array Value} {below : List Frame} {meth : Method} {c : Code} {F : Nat} (hAD : ∀ σ, va_D (owC ad) (wdC ad cA σ)) (C : CC D ad cA (sXC ad) p s m args meth c bc_Ki_isArrow "KindRounds$Kinds" 2) (hr : meth.sig.returnType = some .boolean) {r : Int32} {σ' : zS} (σ : zS) (s0 : Int32) (hm : Ki_isArrow_19 F σ s0 = some (r, σ')) : ZC D ad cA p l e (rmK 0) s m args below meth c 2 (qiC D ad cA below args s r σ') 19 [] [.int s0] σ := by
  unfold Ki_isArrow_19 at hm
  obtain ⟨g1, hm⟩ := gd_s hm
  exact z_zretE (pc := 19) C hr g1 hm d_Ki_isArrow_19
set_option maxHeartbeats 4000000 in
set_option maxRecDepth 100000 in
theorem w_Ki_isArrow_18 {D : va_G} {ad : Nat → Nat} {cA : Nat → ClassId} {p : Program} {l : Launch} {e : Env} {s : State} {m : MethodId} {args : Array Value} {below : List Frame} {meth : Method} {c : Code} {F : Nat} (hAD : ∀ σ, va_D (owC ad) (wdC ad cA σ)) (C : CC D ad cA (sXC ad) p s m args meth c bc_Ki_isArrow "KindRounds$Kinds" 2) (hr : meth.sig.returnType = some .boolean) {r : Int32} {σ' : zS} (σ : zS) (hm : Ki_isArrow_18 F σ = some (r, σ')) : ZC D ad cA p l e (rmK 0) s m args below meth c 2 (qiC D ad cA below args s r σ') 18 [] [] σ := by
  unfold Ki_isArrow_18 at hm
  refine z_iconst (pc := 18) C d_Ki_isArrow_18 ki_0 ?_
  exact w_Ki_isArrow_19 hAD C hr σ (0 : Int32) hm
set_option maxHeartbeats 4000000 in
set_option maxRecDepth 100000 in
theorem k_Ki_isArrow {l : Launch} {D : va_G} {ad : Nat → Nat} {cA : Nat → ClassId} {F : Nat} (hAD : ∀ σ, va_D (owC ad) (wdC ad cA σ)) {σ : zS} {x1 : Int32} {r : Int32} {σ' : zS} (hm : Ki_isArrow F σ x1 = some (r, σ')) : kIC l D ad cA (sXC ad) y_Ki_isArrow bc_Ki_isArrow 2 .boolean 0 [.ref (ad 3), .int x1] σ r σ' := by
  refine kI_of (by decide) hAD sXC_P (Nat.le_of_ble_eq_true rfl) ?_
  intro p e s m below meth c C hr
  unfold Ki_isArrow at hm
  refine z_lv (lv' := [(0, .ref (ad 3)), (1, .int x1)]) [0, 1] rfl ?_
  refine z_iload_n (pc := 0) C d_Ki_isArrow_0 rfl 1 rfl ?_
  refine z_if_eq (pc := 1) (tgt := 18) C d_Ki_isArrow_1 (by decide) (fun c1 => ?_) (fun c1 => ?_)
  · rw [if_pos c1] at hm
    refine z_lv (lv' := []) [] rfl ?_
    exact w_Ki_isArrow_18 hAD C hr σ hm
  · rw [if_neg c1] at hm
    refine z_aload_n (pc := 4) C d_Ki_isArrow_4 rfl 0 rfl ?_
    refine gC_Ki_11 (pc := 5) C  d_Ki_isArrow_5 ?_
    refine z_iload_n (pc := 8) C d_Ki_isArrow_8 rfl 1 rfl ?_
    obtain ⟨g2, hm⟩ := gd_s hm
    refine alC_23 (pc := 9) (v := (ga σ 23 x1.toNatClampNeg)) C  rfl g2 d_Ki_isArrow_9 ?_
    refine z_iconst (pc := 10) C d_Ki_isArrow_10 ki_m1 ?_
    refine z_icmp_eq (pc := 11) (tgt := 18) C d_Ki_isArrow_11 (by decide) (fun c3 => ?_) (fun c3 => ?_)
    · rw [if_pos c3] at hm
      refine z_lv (lv' := []) [] rfl ?_
      exact w_Ki_isArrow_18 hAD C hr σ hm
    · rw [if_neg c3] at hm
      refine z_iconst (pc := 14) C d_Ki_isArrow_14 ki_1 ?_
      refine z_goto (pc := 15) (tgt := 19) C d_Ki_isArrow_15 (by decide) ?_
      refine z_lv (lv' := []) [] rfl ?_
      exact w_Ki_isArrow_19 hAD C hr σ (1 : Int32) hm
set_option maxHeartbeats 4000000 in
set_option maxRecDepth 100000 in
theorem w_Ki_push_32 {D : va_G} {ad : Nat → Nat} {cA : Nat → ClassId} {p : Program} {l : Launch} {e : Env} {s : State} {m : MethodId} {args : Array Value} {below : List Frame} {meth : Method} {c : Code} {F : Nat} (hAD : ∀ σ, va_D (owC ad) (wdC ad cA σ)) (C : CC D ad cA (sXC ad) p s m args meth c bc_Ki_push "KindRounds$Kinds" 2) (hr : meth.sig.returnType = none) {σ' : zS} (σ : zS) (hm : Ki_push_32 F σ = some σ') : ZC D ad cA p l e (rmK 0) s m args below meth c 2 (qvC D ad cA below args s σ') 32 [] [] σ := by
  unfold Ki_push_32 at hm
  exact z_vretE (pc := 32) C hr hm d_Ki_push_32
set_option maxHeartbeats 4000000 in
set_option maxRecDepth 100000 in
theorem k_Ki_push {l : Launch} {D : va_G} {ad : Nat → Nat} {cA : Nat → ClassId} {F : Nat} (hAD : ∀ σ, va_D (owC ad) (wdC ad cA σ)) {σ : zS} {x1 : Int32} {σ' : zS} (hm : Ki_push F σ x1 = some σ') : kVC l D ad cA (sXC ad) y_Ki_push bc_Ki_push 2 0 [.ref (ad 3), .int x1] σ σ' := by
  refine kV_of (by decide) hAD sXC_P (Nat.le_of_ble_eq_true rfl) ?_
  intro p e s m below meth c C hr
  unfold Ki_push at hm
  refine z_lv (lv' := [(0, .ref (ad 3)), (1, .int x1)]) [0, 1] rfl ?_
  refine z_aload_n (pc := 0) C d_Ki_push_0 rfl 0 rfl ?_
  refine gC_Ki_37 (pc := 1) (v := (gi σ 309)) C rfl d_Ki_push_1 ?_
  refine z_aload_n (pc := 4) C d_Ki_push_4 rfl 0 rfl ?_
  refine gC_Ki_27 (pc := 5) C  d_Ki_push_5 ?_
  refine z_alen (pc := 8) (q0 := 28) (t0 := 9) (v := (3434 : Int32)) C rfl rfl rfl d_Ki_push_8 ?_
  refine z_icmp_ge (pc := 9) (tgt := 32) C d_Ki_push_9 (by decide) (fun c1 => ?_) (fun c1 => ?_)
  · rw [if_pos c1] at hm
    refine z_lv (lv' := []) [] rfl ?_
    exact w_Ki_push_32 hAD C hr σ hm
  · rw [if_neg c1] at hm
    refine z_aload_n (pc := 12) C d_Ki_push_12 rfl 0 rfl ?_
    refine gC_Ki_27 (pc := 13) C  d_Ki_push_13 ?_
    refine z_aload_n (pc := 16) C d_Ki_push_16 rfl 0 rfl ?_
    refine gC_Ki_37 (pc := 17) (v := (gi σ 309)) C rfl d_Ki_push_17 ?_
    refine z_iload_n (pc := 20) C d_Ki_push_20 rfl 1 rfl ?_
    obtain ⟨g2, hm⟩ := gd_s hm
    refine asC_28 (pc := 21) C  g2 d_Ki_push_21 ?_
    refine z_aload_n (pc := 22) C d_Ki_push_22 rfl 0 rfl ?_
    refine z_dup (pc := 23) C d_Ki_push_23 rfl ?_
    refine gC_Ki_37 (pc := 24) (v := (gi σ 309)) C rfl d_Ki_push_24 ?_
    refine z_iconst (pc := 27) C d_Ki_push_27 ki_1 ?_
    refine z_iadd (pc := 28) C d_Ki_push_28 ?_
    refine pC_Ki_37 (pc := 29) C  d_Ki_push_29 ?_
    refine z_lv (lv' := []) [] rfl ?_
    exact w_Ki_push_32 hAD C hr (si (sa σ 28 (gi σ 309).toNatClampNeg x1) 309 ((gi σ 309) + (1 : Int32))) hm
set_option maxHeartbeats 4000000 in
set_option maxRecDepth 100000 in
theorem k_Ki_pop {l : Launch} {D : va_G} {ad : Nat → Nat} {cA : Nat → ClassId} {F : Nat} (hAD : ∀ σ, va_D (owC ad) (wdC ad cA σ)) {σ : zS} {r : Int32} {σ' : zS} (hm : Ki_pop F σ = some (r, σ')) : kIC l D ad cA (sXC ad) y_Ki_pop bc_Ki_pop 1 .int 0 [.ref (ad 3)] σ r σ' := by
  refine kI_of (by decide) hAD sXC_P (Nat.le_of_ble_eq_true rfl) ?_
  intro p e s m below meth c C hr
  unfold Ki_pop at hm
  refine z_lv (lv' := [(0, .ref (ad 3))]) [0] rfl ?_
  refine z_aload_n (pc := 0) C d_Ki_pop_0 rfl 0 rfl ?_
  refine gC_Ki_37 (pc := 1) (v := (gi σ 309)) C rfl d_Ki_pop_1 ?_
  refine z_if_ne (pc := 4) (tgt := 9) C d_Ki_pop_4 (by decide) (fun c1 => ?_) (fun c1 => ?_)
  · rw [if_neg c1] at hm
    refine z_aload_n (pc := 9) C d_Ki_pop_9 rfl 0 rfl ?_
    refine z_dup (pc := 10) C d_Ki_pop_10 rfl ?_
    refine gC_Ki_37 (pc := 11) (v := (gi σ 309)) C rfl d_Ki_pop_11 ?_
    refine z_iconst (pc := 14) C d_Ki_pop_14 ki_1 ?_
    refine z_isub (pc := 15) C d_Ki_pop_15 ?_
    refine pC_Ki_37 (pc := 16) C  d_Ki_pop_16 ?_
    refine z_aload_n (pc := 19) C d_Ki_pop_19 rfl 0 rfl ?_
    refine gC_Ki_27 (pc := 20) C  d_Ki_pop_20 ?_
    refine z_aload_n (pc := 23) C d_Ki_pop_23 rfl 0 rfl ?_
    refine gC_Ki_37 (pc := 24) (v := ((gi σ 309) - (1 : Int32))) C rfl d_Ki_pop_24 ?_
    obtain ⟨g2, hm⟩ := gd_s hm
    refine alC_28 (pc := 27) (v := (ga σ 28 ((gi σ 309) - (1 : Int32)).toNatClampNeg)) C  rfl g2 d_Ki_pop_27 ?_
    exact z_iretE (pc := 28) C hr hm d_Ki_pop_28
  · rw [if_pos c1] at hm
    refine z_iconst (pc := 7) C d_Ki_pop_7 ki_0 ?_
    exact z_iretE (pc := 8) C hr hm d_Ki_pop_8
set_option maxHeartbeats 4000000 in
set_option maxRecDepth 100000 in
theorem k_Ki_clearMarks {l : Launch} {D : va_G} {ad : Nat → Nat} {cA : Nat → ClassId} {F : Nat} (hAD : ∀ σ, va_D (owC ad) (wdC ad cA σ)) {σ : zS} {σ' : zS} (hm : Ki_clearMarks F σ = some σ') : kVC l D ad cA (sXC ad) y_Ki_clearMarks bc_Ki_clearMarks 1 2 [.ref (ad 3)] σ σ' := by
  refine kV_of (by decide) hAD sXC_P (Nat.le_of_ble_eq_true rfl) ?_
  intro p e s m below meth c C hr
  unfold Ki_clearMarks at hm
  refine z_lv (lv' := [(0, .ref (ad 3))]) [0] rfl ?_
  refine z_aload_n (pc := 0) C d_Ki_clearMarks_0 rfl 0 rfl ?_
  refine gC_Ki_21 (pc := 1) C  d_Ki_clearMarks_1 ?_
  refine z_iconst (pc := 4) C d_Ki_clearMarks_4 ki_0 ?_
  refine z_aload_n (pc := 5) C d_Ki_clearMarks_5 rfl 0 rfl ?_
  refine gC_Ki_30 (pc := 6) (v := (gi σ 306)) C rfl d_Ki_clearMarks_6 ?_
  refine z_iconst (pc := 9) C d_Ki_clearMarks_9 ki_0 ?_
  obtain ⟨σ1, e2, hm⟩ := bv_s hm
  refine z_callSV (pc := 10) C (k_Ar_fill hAD e2) km_Ar_fill mC_55 rfl (kR_of (Nat.le_of_ble_eq_true rfl) (Nat.le_of_ble_eq_true rfl)) rfl (Nat.le_of_ble_eq_true rfl) d_Ki_clearMarks_10 ?_
  exact z_vretE (pc := 13) C hr hm d_Ki_clearMarks_13
set_option maxHeartbeats 4000000 in
set_option maxRecDepth 100000 in
theorem w_Ki_hasRing_153 {D : va_G} {ad : Nat → Nat} {cA : Nat → ClassId} {p : Program} {l : Launch} {e : Env} {s : State} {m : MethodId} {args : Array Value} {below : List Frame} {meth : Method} {c : Code} {F : Nat} (hAD : ∀ σ, va_D (owC ad) (wdC ad cA σ)) (C : CC D ad cA (sXC ad) p s m args meth c bc_Ki_hasRing "KindRounds$Kinds" 6) (hr : meth.sig.returnType = some .boolean) {r : Int32} {σ' : zS} (σ : zS) (hm : Ki_hasRing_153 F σ = some (r, σ')) : ZC D ad cA p l e (rmK 3) s m args below meth c 6 (qiC D ad cA below args s r σ') 153 [] [] σ := by
  unfold Ki_hasRing_153 at hm
  refine z_iconst (pc := 153) C d_Ki_hasRing_153 ki_0 ?_
  exact z_zretE (pc := 154) C hr (by decide) hm d_Ki_hasRing_154
set_option maxHeartbeats 4000000 in
set_option maxRecDepth 100000 in
theorem w_Ki_hasRing_147 {D : va_G} {ad : Nat → Nat} {cA : Nat → ClassId} {p : Program} {l : Launch} {e : Env} {s : State} {m : MethodId} {args : Array Value} {below : List Frame} {meth : Method} {c : Code} {F : Nat} (hAD : ∀ σ, va_D (owC ad) (wdC ad cA σ)) (C : CC D ad cA (sXC ad) p s m args meth c bc_Ki_hasRing "KindRounds$Kinds" 6) (hr : meth.sig.returnType = some .boolean) {r : Int32} {σ' : zS} (rc20 : zS → Int32 → Option (Int32 × zS)) (h20 : ∀ σ x2, rc20 σ x2 = some (r, σ') → ZC D ad cA p l e (rmK 3) s m args below meth c 6 (qiC D ad cA below args s r σ') 20 [(0, .ref (ad 3)), (2, .int x2)] [] σ) (σ : zS) (x2 : Int32) (hm : Ki_hasRing_147 F rc20 σ x2 = some (r, σ')) : ZC D ad cA p l e (rmK 3) s m args below meth c 6 (qiC D ad cA below args s r σ') 147 [(0, .ref (ad 3)), (2, .int x2)] [] σ := by
  unfold Ki_hasRing_147 at hm
  refine z_iinc (pc := 147) (lv' := [(0, .ref (ad 3)), (2, .int (x2 + (1 : Int32)))]) C d_Ki_hasRing_147 1 rfl (ii ki_1) (Nat.le_of_ble_eq_true rfl) [1, 0] rfl ?_
  refine z_goto (pc := 150) (tgt := 20) C d_Ki_hasRing_150 (by decide) ?_
  exact h20 σ (x2 + (1 : Int32)) hm
set_option maxHeartbeats 4000000 in
set_option maxRecDepth 100000 in
theorem w_Ki_hasRing_128 {D : va_G} {ad : Nat → Nat} {cA : Nat → ClassId} {p : Program} {l : Launch} {e : Env} {s : State} {m : MethodId} {args : Array Value} {below : List Frame} {meth : Method} {c : Code} {F : Nat} (hAD : ∀ σ, va_D (owC ad) (wdC ad cA σ)) (C : CC D ad cA (sXC ad) p s m args meth c bc_Ki_hasRing "KindRounds$Kinds" 6) (hr : meth.sig.returnType = some .boolean) {r : Int32} {σ' : zS} (σ : zS) (hm : Ki_hasRing_128 F σ = some (r, σ')) : ZC D ad cA p l e (rmK 3) s m args below meth c 6 (qiC D ad cA below args s r σ') 128 [] [] σ := by
  unfold Ki_hasRing_128 at hm
  refine z_iconst (pc := 128) C d_Ki_hasRing_128 ki_1 ?_
  exact z_zretE (pc := 129) C hr (by decide) hm d_Ki_hasRing_129
set_option maxHeartbeats 4000000 in
set_option maxRecDepth 100000 in
theorem w_Ki_hasRing_20 {D : va_G} {ad : Nat → Nat} {cA : Nat → ClassId} {p : Program} {l : Launch} {e : Env} {s : State} {m : MethodId} {args : Array Value} {below : List Frame} {meth : Method} {c : Code} {F : Nat} (hAD : ∀ σ, va_D (owC ad) (wdC ad cA σ)) (C : CC D ad cA (sXC ad) p s m args meth c bc_Ki_hasRing "KindRounds$Kinds" 6) (hr : meth.sig.returnType = some .boolean) {r : Int32} {σ' : zS} : ∀ (n : Nat) (σ : zS) (x2 : Int32), Ki_hasRing_20 F n σ x2 = some (r, σ') → ZC D ad cA p l e (rmK 3) s m args below meth c 6 (qiC D ad cA below args s r σ') 20 [(0, .ref (ad 3)), (2, .int x2)] [] σ := by
  intro n
  induction n with
  | zero => intro σ x2 hm; cases hm
  | succ n h20 =>
    intro σ x2 hm
    have hm : Ki_hasRing_b20 F (Ki_hasRing_20 F n) σ x2 = some (r, σ') := hm
    unfold Ki_hasRing_b20 at hm
    refine z_iload_n (pc := 20) C d_Ki_hasRing_20 rfl 1 rfl ?_
    refine z_ldc (pc := 21) C mC_39 d_Ki_hasRing_21 ?_
    refine z_icmp_ge (pc := 23) (tgt := 153) C d_Ki_hasRing_23 (by decide) (fun c1 => ?_) (fun c1 => ?_)
    · rw [if_pos c1] at hm
      refine z_lv (lv' := []) [] rfl ?_
      exact w_Ki_hasRing_153 hAD C hr σ hm
    · rw [if_neg c1] at hm
      refine z_aload_n (pc := 26) C d_Ki_hasRing_26 rfl 0 rfl ?_
      refine gC_Ki_37 (pc := 27) (v := (gi σ 309)) C rfl d_Ki_hasRing_27 ?_
      refine z_if_le (pc := 30) (tgt := 153) C d_Ki_hasRing_30 (by decide) (fun c2 => ?_) (fun c2 => ?_)
      · rw [if_pos c2] at hm
        refine z_lv (lv' := []) [] rfl ?_
        exact w_Ki_hasRing_153 hAD C hr σ hm
      · rw [if_neg c2] at hm
        refine z_aload_n (pc := 33) C d_Ki_hasRing_33 rfl 0 rfl ?_
        obtain ⟨r4, σ3, e5, hm⟩ := bi_s hm
        refine z_callI (pc := 34) C (k_Ki_pop hAD e5) km_Ki_pop mC_40 rfl rfl oC_3 rfl (kR_of (Nat.le_of_ble_eq_true rfl) (Nat.le_of_ble_eq_true rfl)) rfl (Nat.le_of_ble_eq_true rfl) d_Ki_hasRing_34 ?_
        refine z_istore_n (pc := 37) (lv' := [(0, .ref (ad 3)), (2, .int x2), (3, .int r4)]) C d_Ki_hasRing_37 rfl (Nat.le_of_ble_eq_true rfl) [1, 2, 0] rfl ?_
        refine z_aload_n (pc := 38) C d_Ki_hasRing_38 rfl 0 rfl ?_
        refine gC_Ki_21 (pc := 39) C  d_Ki_hasRing_39 ?_
        refine z_iload_n (pc := 42) C d_Ki_hasRing_42 rfl 2 rfl ?_
        obtain ⟨g6, hm⟩ := gd_s hm
        refine alC_26 (pc := 43) (v := (ga σ3 26 r4.toNatClampNeg)) C  rfl g6 d_Ki_hasRing_43 ?_
        refine z_iconst (pc := 44) C d_Ki_hasRing_44 ki_1 ?_
        refine z_icmp_ne (pc := 45) (tgt := 58) C d_Ki_hasRing_45 (by decide) (fun c7 => ?_) (fun c7 => ?_)
        · rw [if_neg c7] at hm
          refine z_aload_n (pc := 58) C d_Ki_hasRing_58 rfl 0 rfl ?_
          refine gC_Ki_21 (pc := 59) C  d_Ki_hasRing_59 ?_
          refine z_iload_n (pc := 62) C d_Ki_hasRing_62 rfl 2 rfl ?_
          refine alC_26 (pc := 63) (v := (ga σ3 26 r4.toNatClampNeg)) C  rfl g6 d_Ki_hasRing_63 ?_
          refine z_if_ne (pc := 64) (tgt := 147) C d_Ki_hasRing_64 (by decide) (fun c8 => ?_) (fun c8 => ?_)
          · rw [if_neg c8] at hm
            refine z_lv (lv' := [(0, .ref (ad 3)), (2, .int x2)]) [0, 1] rfl ?_
            exact w_Ki_hasRing_147 hAD C hr _ h20 σ3 x2 hm
          · rw [if_pos c8] at hm
            refine z_aload_n (pc := 67) C d_Ki_hasRing_67 rfl 0 rfl ?_
            refine z_iload_n (pc := 68) C d_Ki_hasRing_68 rfl 2 rfl ?_
            obtain ⟨r10, σ9, e11, hm⟩ := bi_s hm
            refine z_callI (pc := 69) C (k_Ki_isArrow hAD e11) km_Ki_isArrow mC_52 rfl rfl oC_3 rfl (kR_of (Nat.le_of_ble_eq_true rfl) (Nat.le_of_ble_eq_true rfl)) rfl (Nat.le_of_ble_eq_true rfl) d_Ki_hasRing_69 ?_
            refine z_if_eq (pc := 72) (tgt := 147) C d_Ki_hasRing_72 (by decide) (fun c12 => ?_) (fun c12 => ?_)
            · rw [if_pos c12] at hm
              refine z_lv (lv' := [(0, .ref (ad 3)), (2, .int x2)]) [0, 1] rfl ?_
              exact w_Ki_hasRing_147 hAD C hr _ h20 σ9 x2 hm
            · rw [if_neg c12] at hm
              refine z_aload_n (pc := 75) C d_Ki_hasRing_75 rfl 0 rfl ?_
              refine gC_Ki_21 (pc := 76) C  d_Ki_hasRing_76 ?_
              refine z_iload_n (pc := 79) C d_Ki_hasRing_79 rfl 2 rfl ?_
              refine z_iconst (pc := 80) C d_Ki_hasRing_80 ki_1 ?_
              refine asC_26 (pc := 81) C  g6 d_Ki_hasRing_81 ?_
              refine z_aload_n (pc := 82) C d_Ki_hasRing_82 rfl 0 rfl ?_
              refine z_aload_n (pc := 83) C d_Ki_hasRing_83 rfl 0 rfl ?_
              refine gC_Ki_11 (pc := 84) C  d_Ki_hasRing_84 ?_
              refine z_iload_n (pc := 87) C d_Ki_hasRing_87 rfl 2 rfl ?_
              refine alC_23 (pc := 88) (v := (ga σ9 23 r4.toNatClampNeg)) C  rfl g6 d_Ki_hasRing_88 ?_
              obtain ⟨r14, σ13, e15, hm⟩ := bi_s hm
              refine z_callI (pc := 89) C (k_Ki_find hAD e15) km_Ki_find mC_41 rfl rfl oC_3 rfl (kR_of (Nat.le_of_ble_eq_true rfl) (Nat.le_of_ble_eq_true rfl)) rfl (Nat.le_of_ble_eq_true rfl) d_Ki_hasRing_89 ?_
              refine z_istore (pc := 92) (lv' := [(0, .ref (ad 3)), (2, .int x2), (3, .int r4), (4, .int r14)]) C d_Ki_hasRing_92 (Nat.le_of_ble_eq_true rfl) [1, 2, 3, 0] rfl ?_
              refine z_aload_n (pc := 94) C d_Ki_hasRing_94 rfl 0 rfl ?_
              refine z_aload_n (pc := 95) C d_Ki_hasRing_95 rfl 0 rfl ?_
              refine gC_Ki_15 (pc := 96) C  d_Ki_hasRing_96 ?_
              refine z_iload_n (pc := 99) C d_Ki_hasRing_99 rfl 2 rfl ?_
              refine alC_24 (pc := 100) (v := (ga σ13 24 r4.toNatClampNeg)) C  rfl g6 d_Ki_hasRing_100 ?_
              obtain ⟨r17, σ16, e18, hm⟩ := bi_s hm
              refine z_callI (pc := 101) C (k_Ki_find hAD e18) km_Ki_find mC_41 rfl rfl oC_3 rfl (kR_of (Nat.le_of_ble_eq_true rfl) (Nat.le_of_ble_eq_true rfl)) rfl (Nat.le_of_ble_eq_true rfl) d_Ki_hasRing_101 ?_
              refine z_istore (pc := 104) (lv' := [(0, .ref (ad 3)), (2, .int x2), (3, .int r4), (4, .int r14), (5, .int r17)]) C d_Ki_hasRing_104 (Nat.le_of_ble_eq_true rfl) [1, 2, 3, 4, 0] rfl ?_
              refine z_aload_n (pc := 106) C d_Ki_hasRing_106 rfl 0 rfl ?_
              refine gC_Ki_21 (pc := 107) C  d_Ki_hasRing_107 ?_
              refine z_iload (pc := 110) C d_Ki_hasRing_110 3 rfl ?_
              obtain ⟨g19, hm⟩ := gd_s hm
              refine alC_26 (pc := 112) (v := (ga σ16 26 r14.toNatClampNeg)) C  rfl g19 d_Ki_hasRing_112 ?_
              refine z_iconst (pc := 113) C d_Ki_hasRing_113 ki_1 ?_
              refine z_icmp_eq (pc := 114) (tgt := 128) C d_Ki_hasRing_114 (by decide) (fun c20 => ?_) (fun c20 => ?_)
              · rw [if_pos c20] at hm
                refine z_lv (lv' := []) [] rfl ?_
                exact w_Ki_hasRing_128 hAD C hr σ16 hm
              · rw [if_neg c20] at hm
                refine z_aload_n (pc := 117) C d_Ki_hasRing_117 rfl 0 rfl ?_
                refine gC_Ki_21 (pc := 118) C  d_Ki_hasRing_118 ?_
                refine z_iload (pc := 121) C d_Ki_hasRing_121 4 rfl ?_
                obtain ⟨g21, hm⟩ := gd_s hm
                refine alC_26 (pc := 123) (v := (ga σ16 26 r17.toNatClampNeg)) C  rfl g21 d_Ki_hasRing_123 ?_
                refine z_iconst (pc := 124) C d_Ki_hasRing_124 ki_1 ?_
                refine z_icmp_ne (pc := 125) (tgt := 130) C d_Ki_hasRing_125 (by decide) (fun c22 => ?_) (fun c22 => ?_)
                · rw [if_neg c22] at hm
                  refine z_aload_n (pc := 130) C d_Ki_hasRing_130 rfl 0 rfl ?_
                  refine z_iload_n (pc := 131) C d_Ki_hasRing_131 rfl 2 rfl ?_
                  obtain ⟨σ23, e24, hm⟩ := bv_s hm
                  refine z_callV (pc := 132) C (k_Ki_push hAD e24) km_Ki_push mC_50 rfl rfl oC_3 rfl (kR_of (Nat.le_of_ble_eq_true rfl) (Nat.le_of_ble_eq_true rfl)) rfl (Nat.le_of_ble_eq_true rfl) d_Ki_hasRing_132 ?_
                  refine z_aload_n (pc := 135) C d_Ki_hasRing_135 rfl 0 rfl ?_
                  refine z_iload (pc := 136) C d_Ki_hasRing_136 4 rfl ?_
                  obtain ⟨σ25, e26, hm⟩ := bv_s hm
                  refine z_callV (pc := 138) C (k_Ki_push hAD e26) km_Ki_push mC_50 rfl rfl oC_3 rfl (kR_of (Nat.le_of_ble_eq_true rfl) (Nat.le_of_ble_eq_true rfl)) rfl (Nat.le_of_ble_eq_true rfl) d_Ki_hasRing_138 ?_
                  refine z_aload_n (pc := 141) C d_Ki_hasRing_141 rfl 0 rfl ?_
                  refine z_iload (pc := 142) C d_Ki_hasRing_142 3 rfl ?_
                  obtain ⟨σ27, e28, hm⟩ := bv_s hm
                  refine z_callV (pc := 144) C (k_Ki_push hAD e28) km_Ki_push mC_50 rfl rfl oC_3 rfl (kR_of (Nat.le_of_ble_eq_true rfl) (Nat.le_of_ble_eq_true rfl)) rfl (Nat.le_of_ble_eq_true rfl) d_Ki_hasRing_144 ?_
                  refine z_lv (lv' := [(0, .ref (ad 3)), (2, .int x2)]) [0, 1] rfl ?_
                  exact w_Ki_hasRing_147 hAD C hr _ h20 σ27 x2 hm
                · rw [if_pos c22] at hm
                  refine z_lv (lv' := []) [] rfl ?_
                  exact w_Ki_hasRing_128 hAD C hr σ16 hm
        · rw [if_pos c7] at hm
          refine z_aload_n (pc := 48) C d_Ki_hasRing_48 rfl 0 rfl ?_
          refine gC_Ki_21 (pc := 49) C  d_Ki_hasRing_49 ?_
          refine z_iload_n (pc := 52) C d_Ki_hasRing_52 rfl 2 rfl ?_
          refine z_iconst (pc := 53) C d_Ki_hasRing_53 ki_2 ?_
          refine asC_26 (pc := 54) C  g6 d_Ki_hasRing_54 ?_
          refine z_goto (pc := 55) (tgt := 147) C d_Ki_hasRing_55 (by decide) ?_
          refine z_lv (lv' := [(0, .ref (ad 3)), (2, .int x2)]) [0, 1] rfl ?_
          exact w_Ki_hasRing_147 hAD C hr _ h20 (sa σ3 26 r4.toNatClampNeg (2 : Int32)) x2 hm
set_option maxHeartbeats 4000000 in
set_option maxRecDepth 100000 in
theorem k_Ki_hasRing {l : Launch} {D : va_G} {ad : Nat → Nat} {cA : Nat → ClassId} {F : Nat} (hAD : ∀ σ, va_D (owC ad) (wdC ad cA σ)) {σ : zS} {x1 : Int32} {r : Int32} {σ' : zS} (hm : Ki_hasRing F σ x1 = some (r, σ')) : kIC l D ad cA (sXC ad) y_Ki_hasRing bc_Ki_hasRing 6 .boolean 3 [.ref (ad 3), .int x1] σ r σ' := by
  refine kI_of (by decide) hAD sXC_P (Nat.le_of_ble_eq_true rfl) ?_
  intro p e s m below meth c C hr
  unfold Ki_hasRing at hm
  refine z_lv (lv' := [(0, .ref (ad 3)), (1, .int x1)]) [0, 1] rfl ?_
  refine z_aload_n (pc := 0) C d_Ki_hasRing_0 rfl 0 rfl ?_
  obtain ⟨σ1, e2, hm⟩ := bv_s hm
  refine z_callV (pc := 1) C (k_Ki_clearMarks hAD e2) km_Ki_clearMarks mC_56 rfl rfl oC_3 rfl (kR_of (Nat.le_of_ble_eq_true rfl) (Nat.le_of_ble_eq_true rfl)) rfl (Nat.le_of_ble_eq_true rfl) d_Ki_hasRing_1 ?_
  refine z_aload_n (pc := 4) C d_Ki_hasRing_4 rfl 0 rfl ?_
  refine z_iconst (pc := 5) C d_Ki_hasRing_5 ki_0 ?_
  refine pC_Ki_37 (pc := 6) C  d_Ki_hasRing_6 ?_
  refine z_aload_n (pc := 9) C d_Ki_hasRing_9 rfl 0 rfl ?_
  refine z_aload_n (pc := 10) C d_Ki_hasRing_10 rfl 0 rfl ?_
  refine z_iload_n (pc := 11) C d_Ki_hasRing_11 rfl 1 rfl ?_
  obtain ⟨r4, σ3, e5, hm⟩ := bi_s hm
  refine z_callI (pc := 12) C (k_Ki_find hAD e5) km_Ki_find mC_41 rfl rfl oC_3 rfl (kR_of (Nat.le_of_ble_eq_true rfl) (Nat.le_of_ble_eq_true rfl)) rfl (Nat.le_of_ble_eq_true rfl) d_Ki_hasRing_12 ?_
  obtain ⟨σ6, e7, hm⟩ := bv_s hm
  refine z_callV (pc := 15) C (k_Ki_push hAD e7) km_Ki_push mC_50 rfl rfl oC_3 rfl (kR_of (Nat.le_of_ble_eq_true rfl) (Nat.le_of_ble_eq_true rfl)) rfl (Nat.le_of_ble_eq_true rfl) d_Ki_hasRing_15 ?_
  refine z_iconst (pc := 18) C d_Ki_hasRing_18 ki_0 ?_
  refine z_istore_n (pc := 19) (lv' := [(0, .ref (ad 3)), (1, .int x1), (2, .int (0 : Int32))]) C d_Ki_hasRing_19 rfl (Nat.le_of_ble_eq_true rfl) [1, 2, 0] rfl ?_
  refine z_lv (lv' := [(0, .ref (ad 3)), (2, .int (0 : Int32))]) [0, 2] rfl ?_
  exact w_Ki_hasRing_20 hAD C hr F σ6 (0 : Int32) hm
set_option maxHeartbeats 4000000 in
set_option maxRecDepth 100000 in
theorem w_Ki_join_37 {D : va_G} {ad : Nat → Nat} {cA : Nat → ClassId} {p : Program} {l : Launch} {e : Env} {s : State} {m : MethodId} {args : Array Value} {below : List Frame} {meth : Method} {c : Code} {F : Nat} (hAD : ∀ σ, va_D (owC ad) (wdC ad cA σ)) (C : CC D ad cA (sXC ad) p s m args meth c bc_Ki_join "KindRounds$Kinds" 3) (hr : meth.sig.returnType = none) {σ' : zS} (σ : zS) (hm : Ki_join_37 F σ = some σ') : ZC D ad cA p l e (rmK 0) s m args below meth c 3 (qvC D ad cA below args s σ') 37 [] [] σ := by
  unfold Ki_join_37 at hm
  exact z_vretE (pc := 37) C hr hm d_Ki_join_37
set_option maxHeartbeats 4000000 in
set_option maxRecDepth 100000 in
theorem k_Ki_join {l : Launch} {D : va_G} {ad : Nat → Nat} {cA : Nat → ClassId} {F : Nat} (hAD : ∀ σ, va_D (owC ad) (wdC ad cA σ)) {σ : zS} {x1 : Int32} {x2 : Int32} {σ' : zS} (hm : Ki_join F σ x1 x2 = some σ') : kVC l D ad cA (sXC ad) y_Ki_join bc_Ki_join 3 0 [.ref (ad 3), .int x1, .int x2] σ σ' := by
  refine kV_of (by decide) hAD sXC_P (Nat.le_of_ble_eq_true rfl) ?_
  intro p e s m below meth c C hr
  unfold Ki_join at hm
  refine z_lv (lv' := [(0, .ref (ad 3)), (1, .int x1), (2, .int x2)]) [0, 1, 2] rfl ?_
  refine z_aload_n (pc := 0) C d_Ki_join_0 rfl 0 rfl ?_
  refine gC_Ki_18 (pc := 1) C  d_Ki_join_1 ?_
  refine z_iload_n (pc := 4) C d_Ki_join_4 rfl 1 rfl ?_
  refine z_iload_n (pc := 5) C d_Ki_join_5 rfl 2 rfl ?_
  obtain ⟨g1, hm⟩ := gd_s hm
  refine asC_25 (pc := 6) C  g1 d_Ki_join_6 ?_
  refine z_aload_n (pc := 7) C d_Ki_join_7 rfl 0 rfl ?_
  refine gC_Ki_40 (pc := 8) (v := (gi σ 308)) C rfl d_Ki_join_8 ?_
  refine z_sipush (pc := 11) C d_Ki_join_11 ks_1713 ?_
  refine z_icmp_ge (pc := 14) (tgt := 37) C d_Ki_join_14 (by decide) (fun c2 => ?_) (fun c2 => ?_)
  · rw [if_pos c2] at hm
    refine z_lv (lv' := []) [] rfl ?_
    exact w_Ki_join_37 hAD C hr (sa σ 25 x1.toNatClampNeg x2) hm
  · rw [if_neg c2] at hm
    refine z_aload_n (pc := 17) C d_Ki_join_17 rfl 0 rfl ?_
    refine gC_Ki_24 (pc := 18) C  d_Ki_join_18 ?_
    refine z_aload_n (pc := 21) C d_Ki_join_21 rfl 0 rfl ?_
    refine gC_Ki_40 (pc := 22) (v := (gi σ 308)) C rfl d_Ki_join_22 ?_
    refine z_iload_n (pc := 25) C d_Ki_join_25 rfl 1 rfl ?_
    obtain ⟨g3, hm⟩ := gd_s hm
    refine asC_27 (pc := 26) C  g3 d_Ki_join_26 ?_
    refine z_aload_n (pc := 27) C d_Ki_join_27 rfl 0 rfl ?_
    refine z_dup (pc := 28) C d_Ki_join_28 rfl ?_
    refine gC_Ki_40 (pc := 29) (v := (gi σ 308)) C rfl d_Ki_join_29 ?_
    refine z_iconst (pc := 32) C d_Ki_join_32 ki_1 ?_
    refine z_iadd (pc := 33) C d_Ki_join_33 ?_
    refine pC_Ki_40 (pc := 34) C  d_Ki_join_34 ?_
    refine z_lv (lv' := []) [] rfl ?_
    exact w_Ki_join_37 hAD C hr (si (sa (sa σ 25 x1.toNatClampNeg x2) 27 (gi σ 308).toNatClampNeg x1) 308 ((gi σ 308) + (1 : Int32))) hm
set_option maxHeartbeats 4000000 in
set_option maxRecDepth 100000 in
theorem w_Ki_merge_55 {D : va_G} {ad : Nat → Nat} {cA : Nat → ClassId} {p : Program} {l : Launch} {e : Env} {s : State} {m : MethodId} {args : Array Value} {below : List Frame} {meth : Method} {c : Code} {F : Nat} (hAD : ∀ σ, va_D (owC ad) (wdC ad cA σ)) (C : CC D ad cA (sXC ad) p s m args meth c bc_Ki_merge "KindRounds$Kinds" 3) (hr : meth.sig.returnType = some .boolean) {r : Int32} {σ' : zS} (σ : zS) (hm : Ki_merge_55 F σ = some (r, σ')) : ZC D ad cA p l e (rmK 1) s m args below meth c 3 (qiC D ad cA below args s r σ') 55 [] [] σ := by
  unfold Ki_merge_55 at hm
  refine z_iconst (pc := 55) C d_Ki_merge_55 ki_0 ?_
  exact z_zretE (pc := 56) C hr (by decide) hm d_Ki_merge_56
set_option maxHeartbeats 4000000 in
set_option maxRecDepth 100000 in
theorem k_Ki_merge {l : Launch} {D : va_G} {ad : Nat → Nat} {cA : Nat → ClassId} {F : Nat} (hAD : ∀ σ, va_D (owC ad) (wdC ad cA σ)) {σ : zS} {x1 : Int32} {x2 : Int32} {r : Int32} {σ' : zS} (hm : Ki_merge F σ x1 x2 = some (r, σ')) : kIC l D ad cA (sXC ad) y_Ki_merge bc_Ki_merge 3 .boolean 1 [.ref (ad 3), .int x1, .int x2] σ r σ' := by
  refine kI_of (by decide) hAD sXC_P (Nat.le_of_ble_eq_true rfl) ?_
  intro p e s m below meth c C hr
  unfold Ki_merge at hm
  refine z_lv (lv' := [(0, .ref (ad 3)), (1, .int x1), (2, .int x2)]) [0, 1, 2] rfl ?_
  refine z_iload_n (pc := 0) C d_Ki_merge_0 rfl 1 rfl ?_
  refine z_iload_n (pc := 1) C d_Ki_merge_1 rfl 2 rfl ?_
  refine z_icmp_ne (pc := 2) (tgt := 7) C d_Ki_merge_2 (by decide) (fun c1 => ?_) (fun c1 => ?_)
  · rw [if_neg c1] at hm
    refine z_aload_n (pc := 7) C d_Ki_merge_7 rfl 0 rfl ?_
    refine z_iload_n (pc := 8) C d_Ki_merge_8 rfl 2 rfl ?_
    obtain ⟨r3, σ2, e4, hm⟩ := bi_s hm
    refine z_callI (pc := 9) C (k_Ki_isOpen hAD e4) km_Ki_isOpen mC_51 rfl rfl oC_3 rfl (kR_of (Nat.le_of_ble_eq_true rfl) (Nat.le_of_ble_eq_true rfl)) rfl (Nat.le_of_ble_eq_true rfl) d_Ki_merge_9 ?_
    refine z_if_eq (pc := 12) (tgt := 23) C d_Ki_merge_12 (by decide) (fun c5 => ?_) (fun c5 => ?_)
    · rw [if_pos c5] at hm
      refine z_aload_n (pc := 23) C d_Ki_merge_23 rfl 0 rfl ?_
      refine z_iload_n (pc := 24) C d_Ki_merge_24 rfl 1 rfl ?_
      obtain ⟨r7, σ6, e8, hm⟩ := bi_s hm
      refine z_callI (pc := 25) C (k_Ki_isOpen hAD e8) km_Ki_isOpen mC_51 rfl rfl oC_3 rfl (kR_of (Nat.le_of_ble_eq_true rfl) (Nat.le_of_ble_eq_true rfl)) rfl (Nat.le_of_ble_eq_true rfl) d_Ki_merge_25 ?_
      refine z_if_eq (pc := 28) (tgt := 39) C d_Ki_merge_28 (by decide) (fun c9 => ?_) (fun c9 => ?_)
      · rw [if_pos c9] at hm
        refine z_aload_n (pc := 39) C d_Ki_merge_39 rfl 0 rfl ?_
        refine z_iload_n (pc := 40) C d_Ki_merge_40 rfl 1 rfl ?_
        obtain ⟨r11, σ10, e12, hm⟩ := bi_s hm
        refine z_callI (pc := 41) C (k_Ki_isArrow hAD e12) km_Ki_isArrow mC_52 rfl rfl oC_3 rfl (kR_of (Nat.le_of_ble_eq_true rfl) (Nat.le_of_ble_eq_true rfl)) rfl (Nat.le_of_ble_eq_true rfl) d_Ki_merge_41 ?_
        refine z_if_eq (pc := 44) (tgt := 55) C d_Ki_merge_44 (by decide) (fun c13 => ?_) (fun c13 => ?_)
        · rw [if_pos c13] at hm
          refine z_lv (lv' := []) [] rfl ?_
          exact w_Ki_merge_55 hAD C hr σ10 hm
        · rw [if_neg c13] at hm
          refine z_aload_n (pc := 47) C d_Ki_merge_47 rfl 0 rfl ?_
          refine z_iload_n (pc := 48) C d_Ki_merge_48 rfl 2 rfl ?_
          obtain ⟨r15, σ14, e16, hm⟩ := bi_s hm
          refine z_callI (pc := 49) C (k_Ki_isArrow hAD e16) km_Ki_isArrow mC_52 rfl rfl oC_3 rfl (kR_of (Nat.le_of_ble_eq_true rfl) (Nat.le_of_ble_eq_true rfl)) rfl (Nat.le_of_ble_eq_true rfl) d_Ki_merge_49 ?_
          refine z_if_ne (pc := 52) (tgt := 57) C d_Ki_merge_52 (by decide) (fun c17 => ?_) (fun c17 => ?_)
          · rw [if_neg c17] at hm
            refine z_aload_n (pc := 57) C d_Ki_merge_57 rfl 0 rfl ?_
            refine z_iload_n (pc := 58) C d_Ki_merge_58 rfl 2 rfl ?_
            refine z_iload_n (pc := 59) C d_Ki_merge_59 rfl 1 rfl ?_
            obtain ⟨σ18, e19, hm⟩ := bv_s hm
            refine z_callV (pc := 60) C (k_Ki_join hAD e19) km_Ki_join mC_53 rfl rfl oC_3 rfl (kR_of (Nat.le_of_ble_eq_true rfl) (Nat.le_of_ble_eq_true rfl)) rfl (Nat.le_of_ble_eq_true rfl) d_Ki_merge_60 ?_
            refine z_aload_n (pc := 63) C d_Ki_merge_63 rfl 0 rfl ?_
            refine z_aload_n (pc := 64) C d_Ki_merge_64 rfl 0 rfl ?_
            refine gC_Ki_11 (pc := 65) C  d_Ki_merge_65 ?_
            refine z_iload_n (pc := 68) C d_Ki_merge_68 rfl 1 rfl ?_
            obtain ⟨g20, hm⟩ := gd_s hm
            refine alC_23 (pc := 69) (v := (ga σ18 23 x1.toNatClampNeg)) C  rfl g20 d_Ki_merge_69 ?_
            obtain ⟨σ21, e22, hm⟩ := bv_s hm
            refine z_callV (pc := 70) C (k_Ki_push hAD e22) km_Ki_push mC_50 rfl rfl oC_3 rfl (kR_of (Nat.le_of_ble_eq_true rfl) (Nat.le_of_ble_eq_true rfl)) rfl (Nat.le_of_ble_eq_true rfl) d_Ki_merge_70 ?_
            refine z_aload_n (pc := 73) C d_Ki_merge_73 rfl 0 rfl ?_
            refine z_aload_n (pc := 74) C d_Ki_merge_74 rfl 0 rfl ?_
            refine gC_Ki_11 (pc := 75) C  d_Ki_merge_75 ?_
            refine z_iload_n (pc := 78) C d_Ki_merge_78 rfl 2 rfl ?_
            obtain ⟨g23, hm⟩ := gd_s hm
            refine alC_23 (pc := 79) (v := (ga σ21 23 x2.toNatClampNeg)) C  rfl g23 d_Ki_merge_79 ?_
            obtain ⟨σ24, e25, hm⟩ := bv_s hm
            refine z_callV (pc := 80) C (k_Ki_push hAD e25) km_Ki_push mC_50 rfl rfl oC_3 rfl (kR_of (Nat.le_of_ble_eq_true rfl) (Nat.le_of_ble_eq_true rfl)) rfl (Nat.le_of_ble_eq_true rfl) d_Ki_merge_80 ?_
            refine z_aload_n (pc := 83) C d_Ki_merge_83 rfl 0 rfl ?_
            refine z_aload_n (pc := 84) C d_Ki_merge_84 rfl 0 rfl ?_
            refine gC_Ki_15 (pc := 85) C  d_Ki_merge_85 ?_
            refine z_iload_n (pc := 88) C d_Ki_merge_88 rfl 1 rfl ?_
            refine alC_24 (pc := 89) (v := (ga σ24 24 x1.toNatClampNeg)) C  rfl g20 d_Ki_merge_89 ?_
            obtain ⟨σ26, e27, hm⟩ := bv_s hm
            refine z_callV (pc := 90) C (k_Ki_push hAD e27) km_Ki_push mC_50 rfl rfl oC_3 rfl (kR_of (Nat.le_of_ble_eq_true rfl) (Nat.le_of_ble_eq_true rfl)) rfl (Nat.le_of_ble_eq_true rfl) d_Ki_merge_90 ?_
            refine z_aload_n (pc := 93) C d_Ki_merge_93 rfl 0 rfl ?_
            refine z_aload_n (pc := 94) C d_Ki_merge_94 rfl 0 rfl ?_
            refine gC_Ki_15 (pc := 95) C  d_Ki_merge_95 ?_
            refine z_iload_n (pc := 98) C d_Ki_merge_98 rfl 2 rfl ?_
            refine alC_24 (pc := 99) (v := (ga σ26 24 x2.toNatClampNeg)) C  rfl g23 d_Ki_merge_99 ?_
            obtain ⟨σ28, e29, hm⟩ := bv_s hm
            refine z_callV (pc := 100) C (k_Ki_push hAD e29) km_Ki_push mC_50 rfl rfl oC_3 rfl (kR_of (Nat.le_of_ble_eq_true rfl) (Nat.le_of_ble_eq_true rfl)) rfl (Nat.le_of_ble_eq_true rfl) d_Ki_merge_100 ?_
            refine z_iconst (pc := 103) C d_Ki_merge_103 ki_1 ?_
            exact z_zretE (pc := 104) C hr (by decide) hm d_Ki_merge_104
          · rw [if_pos c17] at hm
            refine z_lv (lv' := []) [] rfl ?_
            exact w_Ki_merge_55 hAD C hr σ14 hm
      · rw [if_neg c9] at hm
        refine z_aload_n (pc := 31) C d_Ki_merge_31 rfl 0 rfl ?_
        refine z_iload_n (pc := 32) C d_Ki_merge_32 rfl 1 rfl ?_
        refine z_iload_n (pc := 33) C d_Ki_merge_33 rfl 2 rfl ?_
        obtain ⟨σ30, e31, hm⟩ := bv_s hm
        refine z_callV (pc := 34) C (k_Ki_join hAD e31) km_Ki_join mC_53 rfl rfl oC_3 rfl (kR_of (Nat.le_of_ble_eq_true rfl) (Nat.le_of_ble_eq_true rfl)) rfl (Nat.le_of_ble_eq_true rfl) d_Ki_merge_34 ?_
        refine z_iconst (pc := 37) C d_Ki_merge_37 ki_1 ?_
        exact z_zretE (pc := 38) C hr (by decide) hm d_Ki_merge_38
    · rw [if_neg c5] at hm
      refine z_aload_n (pc := 15) C d_Ki_merge_15 rfl 0 rfl ?_
      refine z_iload_n (pc := 16) C d_Ki_merge_16 rfl 2 rfl ?_
      refine z_iload_n (pc := 17) C d_Ki_merge_17 rfl 1 rfl ?_
      obtain ⟨σ32, e33, hm⟩ := bv_s hm
      refine z_callV (pc := 18) C (k_Ki_join hAD e33) km_Ki_join mC_53 rfl rfl oC_3 rfl (kR_of (Nat.le_of_ble_eq_true rfl) (Nat.le_of_ble_eq_true rfl)) rfl (Nat.le_of_ble_eq_true rfl) d_Ki_merge_18 ?_
      refine z_iconst (pc := 21) C d_Ki_merge_21 ki_1 ?_
      exact z_zretE (pc := 22) C hr (by decide) hm d_Ki_merge_22
  · rw [if_pos c1] at hm
    refine z_iconst (pc := 5) C d_Ki_merge_5 ki_1 ?_
    exact z_zretE (pc := 6) C hr (by decide) hm d_Ki_merge_6
set_option maxHeartbeats 4000000 in
set_option maxRecDepth 100000 in
theorem w_Ki_unify_105 {D : va_G} {ad : Nat → Nat} {cA : Nat → ClassId} {p : Program} {l : Launch} {e : Env} {s : State} {m : MethodId} {args : Array Value} {below : List Frame} {meth : Method} {c : Code} {F : Nat} (hAD : ∀ σ, va_D (owC ad) (wdC ad cA σ)) (C : CC D ad cA (sXC ad) p s m args meth c bc_Ki_unify "KindRounds$Kinds" 7) (hr : meth.sig.returnType = some .boolean) {r : Int32} {σ' : zS} : ∀ (n : Nat) (σ : zS) (x4 : Int32), Ki_unify_105 F n σ x4 = some (r, σ') → ZC D ad cA p l e (rmK 4) s m args below meth c 7 (qiC D ad cA below args s r σ') 105 [(0, .ref (ad 3)), (4, .int x4)] [] σ := by
  intro n
  induction n with
  | zero => intro σ x4 hm; cases hm
  | succ n h105 =>
    intro σ x4 hm
    have hm : Ki_unify_b105 F (Ki_unify_105 F n) σ x4 = some (r, σ') := hm
    unfold Ki_unify_b105 at hm
    refine z_iload (pc := 105) C d_Ki_unify_105 1 rfl ?_
    refine z_aload_n (pc := 107) C d_Ki_unify_107 rfl 0 rfl ?_
    refine gC_Ki_40 (pc := 108) (v := (gi σ 308)) C rfl d_Ki_unify_108 ?_
    refine z_icmp_ge (pc := 111) (tgt := 133) C d_Ki_unify_111 (by decide) (fun c1 => ?_) (fun c1 => ?_)
    · rw [if_pos c1] at hm
      refine z_iconst (pc := 133) C d_Ki_unify_133 ki_0 ?_
      exact z_zretE (pc := 134) C hr (by decide) hm d_Ki_unify_134
    · rw [if_neg c1] at hm
      refine z_aload_n (pc := 114) C d_Ki_unify_114 rfl 0 rfl ?_
      refine gC_Ki_18 (pc := 115) C  d_Ki_unify_115 ?_
      refine z_aload_n (pc := 118) C d_Ki_unify_118 rfl 0 rfl ?_
      refine gC_Ki_24 (pc := 119) C  d_Ki_unify_119 ?_
      refine z_iload (pc := 122) C d_Ki_unify_122 1 rfl ?_
      obtain ⟨g2, hm⟩ := gd_s hm
      refine alC_27 (pc := 124) (v := (ga σ 27 x4.toNatClampNeg)) C  rfl g2 d_Ki_unify_124 ?_
      refine z_iconst (pc := 125) C d_Ki_unify_125 ki_m1 ?_
      obtain ⟨g3, hm⟩ := gd_s hm
      refine asC_25 (pc := 126) C  g3 d_Ki_unify_126 ?_
      refine z_iinc (pc := 127) (lv' := [(0, .ref (ad 3)), (4, .int (x4 + (1 : Int32)))]) C d_Ki_unify_127 1 rfl (ii ki_1) (Nat.le_of_ble_eq_true rfl) [1, 0] rfl ?_
      refine z_goto (pc := 130) (tgt := 105) C d_Ki_unify_130 (by decide) ?_
      exact h105 (sa σ 25 (ga σ 27 x4.toNatClampNeg).toNatClampNeg (-1 : Int32)) (x4 + (1 : Int32)) hm
set_option maxHeartbeats 4000000 in
set_option maxRecDepth 100000 in
theorem w_Ki_unify_102 {D : va_G} {ad : Nat → Nat} {cA : Nat → ClassId} {p : Program} {l : Launch} {e : Env} {s : State} {m : MethodId} {args : Array Value} {below : List Frame} {meth : Method} {c : Code} {F : Nat} (hAD : ∀ σ, va_D (owC ad) (wdC ad cA σ)) (C : CC D ad cA (sXC ad) p s m args meth c bc_Ki_unify "KindRounds$Kinds" 7) (hr : meth.sig.returnType = some .boolean) {r : Int32} {σ' : zS} (σ : zS) (hm : Ki_unify_102 F σ = some (r, σ')) : ZC D ad cA p l e (rmK 4) s m args below meth c 7 (qiC D ad cA below args s r σ') 102 [(0, .ref (ad 3))] [] σ := by
  unfold Ki_unify_102 at hm
  refine z_iconst (pc := 102) C d_Ki_unify_102 ki_0 ?_
  refine z_istore (pc := 103) (lv' := [(0, .ref (ad 3)), (4, .int (0 : Int32))]) C d_Ki_unify_103 (Nat.le_of_ble_eq_true rfl) [1, 0] rfl ?_
  exact w_Ki_unify_105 hAD C hr F σ (0 : Int32) hm
set_option maxHeartbeats 4000000 in
set_option maxRecDepth 100000 in
theorem w_Ki_unify_88 {D : va_G} {ad : Nat → Nat} {cA : Nat → ClassId} {p : Program} {l : Launch} {e : Env} {s : State} {m : MethodId} {args : Array Value} {below : List Frame} {meth : Method} {c : Code} {F : Nat} (hAD : ∀ σ, va_D (owC ad) (wdC ad cA σ)) (C : CC D ad cA (sXC ad) p s m args meth c bc_Ki_unify "KindRounds$Kinds" 7) (hr : meth.sig.returnType = some .boolean) {r : Int32} {σ' : zS} (σ : zS) (x1 : Int32) (x3 : Int32) (hm : Ki_unify_88 F σ x1 x3 = some (r, σ')) : ZC D ad cA p l e (rmK 4) s m args below meth c 7 (qiC D ad cA below args s r σ') 88 [(0, .ref (ad 3)), (1, .int x1), (3, .int x3)] [] σ := by
  unfold Ki_unify_88 at hm
  refine z_iload_n (pc := 88) C d_Ki_unify_88 rfl 2 rfl ?_
  refine z_if_eq (pc := 89) (tgt := 102) C d_Ki_unify_89 (by decide) (fun c1 => ?_) (fun c1 => ?_)
  · rw [if_pos c1] at hm
    refine z_lv (lv' := [(0, .ref (ad 3))]) [0] rfl ?_
    exact w_Ki_unify_102 hAD C hr σ hm
  · rw [if_neg c1] at hm
    refine z_aload_n (pc := 92) C d_Ki_unify_92 rfl 0 rfl ?_
    refine z_iload_n (pc := 93) C d_Ki_unify_93 rfl 1 rfl ?_
    obtain ⟨r3, σ2, e4, hm⟩ := bi_s hm
    refine z_callI (pc := 94) C (k_Ki_hasRing hAD e4) km_Ki_hasRing mC_38 rfl rfl oC_3 rfl (kR_of (Nat.le_of_ble_eq_true rfl) (Nat.le_of_ble_eq_true rfl)) rfl (Nat.le_of_ble_eq_true rfl) d_Ki_unify_94 ?_
    refine z_if_ne (pc := 97) (tgt := 102) C d_Ki_unify_97 (by decide) (fun c5 => ?_) (fun c5 => ?_)
    · rw [if_neg c5] at hm
      refine z_lv (lv' := [(0, .ref (ad 3))]) [0] rfl ?_
      exact w_Ki_unify_102 hAD C hr σ2 hm
    · rw [if_pos c5] at hm
      refine z_iconst (pc := 100) C d_Ki_unify_100 ki_1 ?_
      exact z_zretE (pc := 101) C hr (by decide) hm d_Ki_unify_101
set_option maxHeartbeats 4000000 in
set_option maxRecDepth 100000 in
theorem w_Ki_unify_25 {D : va_G} {ad : Nat → Nat} {cA : Nat → ClassId} {p : Program} {l : Launch} {e : Env} {s : State} {m : MethodId} {args : Array Value} {below : List Frame} {meth : Method} {c : Code} {F : Nat} (hAD : ∀ σ, va_D (owC ad) (wdC ad cA σ)) (C : CC D ad cA (sXC ad) p s m args meth c bc_Ki_unify "KindRounds$Kinds" 7) (hr : meth.sig.returnType = some .boolean) {r : Int32} {σ' : zS} : ∀ (n : Nat) (σ : zS) (x1 : Int32) (x3 : Int32) (x4 : Int32), Ki_unify_25 F n σ x1 x3 x4 = some (r, σ') → ZC D ad cA p l e (rmK 4) s m args below meth c 7 (qiC D ad cA below args s r σ') 25 [(0, .ref (ad 3)), (1, .int x1), (3, .int x3), (4, .int x4)] [] σ := by
  intro n
  induction n with
  | zero => intro σ x1 x3 x4 hm; cases hm
  | succ n h25 =>
    intro σ x1 x3 x4 hm
    have hm : Ki_unify_b25 F (Ki_unify_25 F n) σ x1 x3 x4 = some (r, σ') := hm
    unfold Ki_unify_b25 at hm
    refine z_iload (pc := 25) C d_Ki_unify_25 3 rfl ?_
    refine z_ldc (pc := 27) C mC_39 d_Ki_unify_27 ?_
    refine z_icmp_ge (pc := 29) (tgt := 88) C d_Ki_unify_29 (by decide) (fun c1 => ?_) (fun c1 => ?_)
    · rw [if_pos c1] at hm
      refine z_lv (lv' := [(0, .ref (ad 3)), (1, .int x1), (3, .int x3)]) [0, 1, 2] rfl ?_
      exact w_Ki_unify_88 hAD C hr σ x1 x3 hm
    · rw [if_neg c1] at hm
      refine z_aload_n (pc := 32) C d_Ki_unify_32 rfl 0 rfl ?_
      refine gC_Ki_37 (pc := 33) (v := (gi σ 309)) C rfl d_Ki_unify_33 ?_
      refine z_if_le (pc := 36) (tgt := 88) C d_Ki_unify_36 (by decide) (fun c2 => ?_) (fun c2 => ?_)
      · rw [if_pos c2] at hm
        refine z_lv (lv' := [(0, .ref (ad 3)), (1, .int x1), (3, .int x3)]) [0, 1, 2] rfl ?_
        exact w_Ki_unify_88 hAD C hr σ x1 x3 hm
      · rw [if_neg c2] at hm
        refine z_iload_n (pc := 39) C d_Ki_unify_39 rfl 2 rfl ?_
        refine z_if_eq (pc := 40) (tgt := 88) C d_Ki_unify_40 (by decide) (fun c3 => ?_) (fun c3 => ?_)
        · rw [if_pos c3] at hm
          refine z_lv (lv' := [(0, .ref (ad 3)), (1, .int x1), (3, .int x3)]) [0, 1, 2] rfl ?_
          exact w_Ki_unify_88 hAD C hr σ x1 x3 hm
        · rw [if_neg c3] at hm
          refine z_aload_n (pc := 43) C d_Ki_unify_43 rfl 0 rfl ?_
          refine z_aload_n (pc := 44) C d_Ki_unify_44 rfl 0 rfl ?_
          obtain ⟨r5, σ4, e6, hm⟩ := bi_s hm
          refine z_callI (pc := 45) C (k_Ki_pop hAD e6) km_Ki_pop mC_40 rfl rfl oC_3 rfl (kR_of (Nat.le_of_ble_eq_true rfl) (Nat.le_of_ble_eq_true rfl)) rfl (Nat.le_of_ble_eq_true rfl) d_Ki_unify_45 ?_
          obtain ⟨r8, σ7, e9, hm⟩ := bi_s hm
          refine z_callI (pc := 48) C (k_Ki_find hAD e9) km_Ki_find mC_41 rfl rfl oC_3 rfl (kR_of (Nat.le_of_ble_eq_true rfl) (Nat.le_of_ble_eq_true rfl)) rfl (Nat.le_of_ble_eq_true rfl) d_Ki_unify_48 ?_
          refine z_istore (pc := 51) (lv' := [(0, .ref (ad 3)), (1, .int x1), (3, .int x3), (4, .int x4), (5, .int r8)]) C d_Ki_unify_51 (Nat.le_of_ble_eq_true rfl) [1, 2, 3, 4, 0] rfl ?_
          refine z_aload_n (pc := 53) C d_Ki_unify_53 rfl 0 rfl ?_
          refine z_aload_n (pc := 54) C d_Ki_unify_54 rfl 0 rfl ?_
          obtain ⟨r11, σ10, e12, hm⟩ := bi_s hm
          refine z_callI (pc := 55) C (k_Ki_pop hAD e12) km_Ki_pop mC_40 rfl rfl oC_3 rfl (kR_of (Nat.le_of_ble_eq_true rfl) (Nat.le_of_ble_eq_true rfl)) rfl (Nat.le_of_ble_eq_true rfl) d_Ki_unify_55 ?_
          obtain ⟨r14, σ13, e15, hm⟩ := bi_s hm
          refine z_callI (pc := 58) C (k_Ki_find hAD e15) km_Ki_find mC_41 rfl rfl oC_3 rfl (kR_of (Nat.le_of_ble_eq_true rfl) (Nat.le_of_ble_eq_true rfl)) rfl (Nat.le_of_ble_eq_true rfl) d_Ki_unify_58 ?_
          refine z_istore (pc := 61) (lv' := [(0, .ref (ad 3)), (1, .int x1), (3, .int x3), (4, .int x4), (5, .int r8), (6, .int r14)]) C d_Ki_unify_61 (Nat.le_of_ble_eq_true rfl) [1, 2, 3, 4, 5, 0] rfl ?_
          refine z_aload_n (pc := 63) C d_Ki_unify_63 rfl 0 rfl ?_
          refine z_iload (pc := 64) C d_Ki_unify_64 4 rfl ?_
          refine z_iload (pc := 66) C d_Ki_unify_66 5 rfl ?_
          refine z_mmin (pc := 68) C mC_42 mC_43 mC_44 mC_45 (by decide) (Nat.le_of_ble_eq_true rfl) d_Ki_unify_68 ?_
          refine z_iload (pc := 71) C d_Ki_unify_71 4 rfl ?_
          refine z_iload (pc := 73) C d_Ki_unify_73 5 rfl ?_
          refine z_mmax (pc := 75) C mC_46 mC_47 mC_44 mC_48 (by decide) (Nat.le_of_ble_eq_true rfl) d_Ki_unify_75 ?_
          obtain ⟨r17, σ16, e18, hm⟩ := bi_s hm
          refine z_callI (pc := 78) C (k_Ki_merge hAD e18) km_Ki_merge mC_49 rfl rfl oC_3 rfl (kR_of (Nat.le_of_ble_eq_true rfl) (Nat.le_of_ble_eq_true rfl)) rfl (Nat.le_of_ble_eq_true rfl) d_Ki_unify_78 ?_
          refine z_istore_n (pc := 81) (lv' := [(0, .ref (ad 3)), (1, .int x1), (3, .int r17), (4, .int x4), (5, .int r8), (6, .int r14)]) C d_Ki_unify_81 rfl (Nat.le_of_ble_eq_true rfl) [1, 2, 0, 3, 4, 5] rfl ?_
          refine z_iinc (pc := 82) (lv' := [(0, .ref (ad 3)), (1, .int x1), (3, .int r17), (4, .int (x4 + (1 : Int32))), (5, .int r8), (6, .int r14)]) C d_Ki_unify_82 3 rfl (ii ki_1) (Nat.le_of_ble_eq_true rfl) [1, 2, 3, 0, 4, 5] rfl ?_
          refine z_goto (pc := 85) (tgt := 25) C d_Ki_unify_85 (by decide) ?_
          refine z_lv (lv' := [(0, .ref (ad 3)), (1, .int x1), (3, .int r17), (4, .int (x4 + (1 : Int32)))]) [0, 1, 2, 3] rfl ?_
          exact h25 σ16 x1 r17 (x4 + (1 : Int32)) hm
set_option maxHeartbeats 4000000 in
set_option maxRecDepth 100000 in
theorem k_Ki_unify {l : Launch} {D : va_G} {ad : Nat → Nat} {cA : Nat → ClassId} {F : Nat} (hAD : ∀ σ, va_D (owC ad) (wdC ad cA σ)) {σ : zS} {x1 : Int32} {x2 : Int32} {r : Int32} {σ' : zS} (hm : Ki_unify F σ x1 x2 = some (r, σ')) : kIC l D ad cA (sXC ad) y_Ki_unify bc_Ki_unify 7 .boolean 4 [.ref (ad 3), .int x1, .int x2] σ r σ' := by
  refine kI_of (by decide) hAD sXC_P (Nat.le_of_ble_eq_true rfl) ?_
  intro p e s m below meth c C hr
  unfold Ki_unify at hm
  refine z_lv (lv' := [(0, .ref (ad 3)), (1, .int x1), (2, .int x2)]) [0, 1, 2] rfl ?_
  refine z_aload_n (pc := 0) C d_Ki_unify_0 rfl 0 rfl ?_
  refine z_iconst (pc := 1) C d_Ki_unify_1 ki_0 ?_
  refine pC_Ki_40 (pc := 2) C  d_Ki_unify_2 ?_
  refine z_aload_n (pc := 5) C d_Ki_unify_5 rfl 0 rfl ?_
  refine z_iconst (pc := 6) C d_Ki_unify_6 ki_0 ?_
  refine pC_Ki_37 (pc := 7) C  d_Ki_unify_7 ?_
  refine z_aload_n (pc := 10) C d_Ki_unify_10 rfl 0 rfl ?_
  refine z_iload_n (pc := 11) C d_Ki_unify_11 rfl 1 rfl ?_
  obtain ⟨σ1, e2, hm⟩ := bv_s hm
  refine z_callV (pc := 12) C (k_Ki_push hAD e2) km_Ki_push mC_50 rfl rfl oC_3 rfl (kR_of (Nat.le_of_ble_eq_true rfl) (Nat.le_of_ble_eq_true rfl)) rfl (Nat.le_of_ble_eq_true rfl) d_Ki_unify_12 ?_
  refine z_aload_n (pc := 15) C d_Ki_unify_15 rfl 0 rfl ?_
  refine z_iload_n (pc := 16) C d_Ki_unify_16 rfl 2 rfl ?_
  obtain ⟨σ3, e4, hm⟩ := bv_s hm
  refine z_callV (pc := 17) C (k_Ki_push hAD e4) km_Ki_push mC_50 rfl rfl oC_3 rfl (kR_of (Nat.le_of_ble_eq_true rfl) (Nat.le_of_ble_eq_true rfl)) rfl (Nat.le_of_ble_eq_true rfl) d_Ki_unify_17 ?_
  refine z_iconst (pc := 20) C d_Ki_unify_20 ki_1 ?_
  refine z_istore_n (pc := 21) (lv' := [(0, .ref (ad 3)), (1, .int x1), (2, .int x2), (3, .int (1 : Int32))]) C d_Ki_unify_21 rfl (Nat.le_of_ble_eq_true rfl) [1, 2, 3, 0] rfl ?_
  refine z_iconst (pc := 22) C d_Ki_unify_22 ki_0 ?_
  refine z_istore (pc := 23) (lv' := [(0, .ref (ad 3)), (1, .int x1), (2, .int x2), (3, .int (1 : Int32)), (4, .int (0 : Int32))]) C d_Ki_unify_23 (Nat.le_of_ble_eq_true rfl) [1, 2, 3, 4, 0] rfl ?_
  refine z_lv (lv' := [(0, .ref (ad 3)), (1, .int x1), (3, .int (1 : Int32)), (4, .int (0 : Int32))]) [0, 1, 3, 4] rfl ?_
  exact w_Ki_unify_25 hAD C hr F σ3 x1 (1 : Int32) (0 : Int32) hm
set_option maxHeartbeats 4000000 in
set_option maxRecDepth 100000 in
theorem w_Ki_letter_131 {D : va_G} {ad : Nat → Nat} {cA : Nat → ClassId} {p : Program} {l : Launch} {e : Env} {s : State} {m : MethodId} {args : Array Value} {below : List Frame} {meth : Method} {c : Code} {F : Nat} (hAD : ∀ σ, va_D (owC ad) (wdC ad cA σ)) (C : CC D ad cA (sXC ad) p s m args meth c bc_Ki_letter "KindRounds$Kinds" 5) (hr : meth.sig.returnType = some .int) {r : Int32} {σ' : zS} (σ : zS) (x2 : Int32) (hm : Ki_letter_131 F σ x2 = some (r, σ')) : ZC D ad cA p l e (rmK 1) s m args below meth c 5 (qiC D ad cA below args s r σ') 131 [(0, .ref (ad 3)), (2, .int x2)] [] σ := by
  unfold Ki_letter_131 at hm
  refine z_aload_n (pc := 131) C d_Ki_letter_131 rfl 0 rfl ?_
  refine gC_Ki_92 (pc := 132) (v := (gi σ 310)) C rfl d_Ki_letter_132 ?_
  refine z_iload_n (pc := 135) C d_Ki_letter_135 rfl 1 rfl ?_
  refine z_isub (pc := 136) C d_Ki_letter_136 ?_
  exact z_iretE (pc := 137) C hr hm d_Ki_letter_137
set_option maxHeartbeats 4000000 in
set_option maxRecDepth 100000 in
theorem w_Ki_letter_125 {D : va_G} {ad : Nat → Nat} {cA : Nat → ClassId} {p : Program} {l : Launch} {e : Env} {s : State} {m : MethodId} {args : Array Value} {below : List Frame} {meth : Method} {c : Code} {F : Nat} (hAD : ∀ σ, va_D (owC ad) (wdC ad cA σ)) (C : CC D ad cA (sXC ad) p s m args meth c bc_Ki_letter "KindRounds$Kinds" 5) (hr : meth.sig.returnType = some .int) {r : Int32} {σ' : zS} (rc17 : zS → Int32 → Int32 → Option (Int32 × zS)) (h17 : ∀ σ x2 x3, rc17 σ x2 x3 = some (r, σ') → ZC D ad cA p l e (rmK 1) s m args below meth c 5 (qiC D ad cA below args s r σ') 17 [(0, .ref (ad 3)), (2, .int x2), (3, .int x3)] [] σ) (σ : zS) (x2 : Int32) (x3 : Int32) (hm : Ki_letter_125 F rc17 σ x2 x3 = some (r, σ')) : ZC D ad cA p l e (rmK 1) s m args below meth c 5 (qiC D ad cA below args s r σ') 125 [(0, .ref (ad 3)), (2, .int x2), (3, .int x3)] [] σ := by
  unfold Ki_letter_125 at hm
  refine z_iinc (pc := 125) (lv' := [(0, .ref (ad 3)), (2, .int x2), (3, .int (x3 + (1 : Int32)))]) C d_Ki_letter_125 2 rfl (ii ki_1) (Nat.le_of_ble_eq_true rfl) [1, 2, 0] rfl ?_
  refine z_goto (pc := 128) (tgt := 17) C d_Ki_letter_128 (by decide) ?_
  exact h17 σ x2 (x3 + (1 : Int32)) hm
set_option maxHeartbeats 4000000 in
set_option maxRecDepth 100000 in
theorem w_Ki_letter_17 {D : va_G} {ad : Nat → Nat} {cA : Nat → ClassId} {p : Program} {l : Launch} {e : Env} {s : State} {m : MethodId} {args : Array Value} {below : List Frame} {meth : Method} {c : Code} {F : Nat} (hAD : ∀ σ, va_D (owC ad) (wdC ad cA σ)) (C : CC D ad cA (sXC ad) p s m args meth c bc_Ki_letter "KindRounds$Kinds" 5) (hr : meth.sig.returnType = some .int) {r : Int32} {σ' : zS} : ∀ (n : Nat) (σ : zS) (x2 : Int32) (x3 : Int32), Ki_letter_17 F n σ x2 x3 = some (r, σ') → ZC D ad cA p l e (rmK 1) s m args below meth c 5 (qiC D ad cA below args s r σ') 17 [(0, .ref (ad 3)), (2, .int x2), (3, .int x3)] [] σ := by
  intro n
  induction n with
  | zero => intro σ x2 x3 hm; cases hm
  | succ n h17 =>
    intro σ x2 x3 hm
    have hm : Ki_letter_b17 F (Ki_letter_17 F n) σ x2 x3 = some (r, σ') := hm
    unfold Ki_letter_b17 at hm
    refine z_iload_n (pc := 17) C d_Ki_letter_17 rfl 2 rfl ?_
    refine z_ldc (pc := 18) C mC_39 d_Ki_letter_18 ?_
    refine z_icmp_ge (pc := 20) (tgt := 131) C d_Ki_letter_20 (by decide) (fun c1 => ?_) (fun c1 => ?_)
    · rw [if_pos c1] at hm
      refine z_lv (lv' := [(0, .ref (ad 3)), (2, .int x2)]) [0, 1] rfl ?_
      exact w_Ki_letter_131 hAD C hr σ x2 hm
    · rw [if_neg c1] at hm
      refine z_aload_n (pc := 23) C d_Ki_letter_23 rfl 0 rfl ?_
      refine gC_Ki_37 (pc := 24) (v := (gi σ 309)) C rfl d_Ki_letter_24 ?_
      refine z_if_le (pc := 27) (tgt := 131) C d_Ki_letter_27 (by decide) (fun c2 => ?_) (fun c2 => ?_)
      · rw [if_pos c2] at hm
        refine z_lv (lv' := [(0, .ref (ad 3)), (2, .int x2)]) [0, 1] rfl ?_
        exact w_Ki_letter_131 hAD C hr σ x2 hm
      · rw [if_neg c2] at hm
        refine z_aload_n (pc := 30) C d_Ki_letter_30 rfl 0 rfl ?_
        refine z_aload_n (pc := 31) C d_Ki_letter_31 rfl 0 rfl ?_
        obtain ⟨r4, σ3, e5, hm⟩ := bi_s hm
        refine z_callI (pc := 32) C (k_Ki_pop hAD e5) km_Ki_pop mC_40 rfl rfl oC_3 rfl (kR_of (Nat.le_of_ble_eq_true rfl) (Nat.le_of_ble_eq_true rfl)) rfl (Nat.le_of_ble_eq_true rfl) d_Ki_letter_32 ?_
        obtain ⟨r7, σ6, e8, hm⟩ := bi_s hm
        refine z_callI (pc := 35) C (k_Ki_find hAD e8) km_Ki_find mC_41 rfl rfl oC_3 rfl (kR_of (Nat.le_of_ble_eq_true rfl) (Nat.le_of_ble_eq_true rfl)) rfl (Nat.le_of_ble_eq_true rfl) d_Ki_letter_35 ?_
        refine z_istore (pc := 38) (lv' := [(0, .ref (ad 3)), (2, .int x2), (3, .int x3), (4, .int r7)]) C d_Ki_letter_38 (Nat.le_of_ble_eq_true rfl) [1, 2, 3, 0] rfl ?_
        refine z_aload_n (pc := 40) C d_Ki_letter_40 rfl 0 rfl ?_
        refine gC_Ki_21 (pc := 41) C  d_Ki_letter_41 ?_
        refine z_iload (pc := 44) C d_Ki_letter_44 3 rfl ?_
        obtain ⟨g9, hm⟩ := gd_s hm
        refine alC_26 (pc := 46) (v := (ga σ6 26 r7.toNatClampNeg)) C  rfl g9 d_Ki_letter_46 ?_
        refine z_if_eq (pc := 47) (tgt := 53) C d_Ki_letter_47 (by decide) (fun c10 => ?_) (fun c10 => ?_)
        · rw [if_pos c10] at hm
          refine z_aload_n (pc := 53) C d_Ki_letter_53 rfl 0 rfl ?_
          refine gC_Ki_21 (pc := 54) C  d_Ki_letter_54 ?_
          refine z_iload (pc := 57) C d_Ki_letter_57 3 rfl ?_
          refine z_iconst (pc := 59) C d_Ki_letter_59 ki_1 ?_
          refine asC_26 (pc := 60) C  g9 d_Ki_letter_60 ?_
          refine z_aload_n (pc := 61) C d_Ki_letter_61 rfl 0 rfl ?_
          refine z_iload (pc := 62) C d_Ki_letter_62 3 rfl ?_
          obtain ⟨r12, σ11, e13, hm⟩ := bi_s hm
          refine z_callI (pc := 64) C (k_Ki_isOpen hAD e13) km_Ki_isOpen mC_51 rfl rfl oC_3 rfl (kR_of (Nat.le_of_ble_eq_true rfl) (Nat.le_of_ble_eq_true rfl)) rfl (Nat.le_of_ble_eq_true rfl) d_Ki_letter_64 ?_
          refine z_if_eq (pc := 67) (tgt := 94) C d_Ki_letter_67 (by decide) (fun c14 => ?_) (fun c14 => ?_)
          · rw [if_pos c14] at hm
            refine z_aload_n (pc := 94) C d_Ki_letter_94 rfl 0 rfl ?_
            refine z_iload (pc := 95) C d_Ki_letter_95 3 rfl ?_
            obtain ⟨r16, σ15, e17, hm⟩ := bi_s hm
            refine z_callI (pc := 97) C (k_Ki_isArrow hAD e17) km_Ki_isArrow mC_52 rfl rfl oC_3 rfl (kR_of (Nat.le_of_ble_eq_true rfl) (Nat.le_of_ble_eq_true rfl)) rfl (Nat.le_of_ble_eq_true rfl) d_Ki_letter_97 ?_
            refine z_if_eq (pc := 100) (tgt := 125) C d_Ki_letter_100 (by decide) (fun c18 => ?_) (fun c18 => ?_)
            · rw [if_pos c18] at hm
              refine z_lv (lv' := [(0, .ref (ad 3)), (2, .int x2), (3, .int x3)]) [0, 1, 2] rfl ?_
              exact w_Ki_letter_125 hAD C hr _ h17 σ15 x2 x3 hm
            · rw [if_neg c18] at hm
              refine z_aload_n (pc := 103) C d_Ki_letter_103 rfl 0 rfl ?_
              refine z_aload_n (pc := 104) C d_Ki_letter_104 rfl 0 rfl ?_
              refine gC_Ki_15 (pc := 105) C  d_Ki_letter_105 ?_
              refine z_iload (pc := 108) C d_Ki_letter_108 3 rfl ?_
              refine alC_24 (pc := 110) (v := (ga σ15 24 r7.toNatClampNeg)) C  rfl g9 d_Ki_letter_110 ?_
              obtain ⟨σ19, e20, hm⟩ := bv_s hm
              refine z_callV (pc := 111) C (k_Ki_push hAD e20) km_Ki_push mC_50 rfl rfl oC_3 rfl (kR_of (Nat.le_of_ble_eq_true rfl) (Nat.le_of_ble_eq_true rfl)) rfl (Nat.le_of_ble_eq_true rfl) d_Ki_letter_111 ?_
              refine z_aload_n (pc := 114) C d_Ki_letter_114 rfl 0 rfl ?_
              refine z_aload_n (pc := 115) C d_Ki_letter_115 rfl 0 rfl ?_
              refine gC_Ki_11 (pc := 116) C  d_Ki_letter_116 ?_
              refine z_iload (pc := 119) C d_Ki_letter_119 3 rfl ?_
              refine alC_23 (pc := 121) (v := (ga σ19 23 r7.toNatClampNeg)) C  rfl g9 d_Ki_letter_121 ?_
              obtain ⟨σ21, e22, hm⟩ := bv_s hm
              refine z_callV (pc := 122) C (k_Ki_push hAD e22) km_Ki_push mC_50 rfl rfl oC_3 rfl (kR_of (Nat.le_of_ble_eq_true rfl) (Nat.le_of_ble_eq_true rfl)) rfl (Nat.le_of_ble_eq_true rfl) d_Ki_letter_122 ?_
              refine z_lv (lv' := [(0, .ref (ad 3)), (2, .int x2), (3, .int x3)]) [0, 1, 2] rfl ?_
              exact w_Ki_letter_125 hAD C hr _ h17 σ21 x2 x3 hm
          · rw [if_neg c14] at hm
            refine z_aload_n (pc := 70) C d_Ki_letter_70 rfl 0 rfl ?_
            refine z_dup (pc := 71) C d_Ki_letter_71 rfl ?_
            refine gC_Ki_92 (pc := 72) (v := (gi σ11 310)) C rfl d_Ki_letter_72 ?_
            refine z_iconst (pc := 75) C d_Ki_letter_75 ki_1 ?_
            refine z_iadd (pc := 76) C d_Ki_letter_76 ?_
            refine pC_Ki_92 (pc := 77) C  d_Ki_letter_77 ?_
            refine z_aload_n (pc := 80) C d_Ki_letter_80 rfl 0 rfl ?_
            refine gC_Ki_21 (pc := 81) C  d_Ki_letter_81 ?_
            refine z_iload (pc := 84) C d_Ki_letter_84 3 rfl ?_
            refine z_aload_n (pc := 86) C d_Ki_letter_86 rfl 0 rfl ?_
            refine gC_Ki_92 (pc := 87) (v := ((gi σ11 310) + (1 : Int32))) C rfl d_Ki_letter_87 ?_
            refine asC_26 (pc := 90) C  g9 d_Ki_letter_90 ?_
            refine z_goto (pc := 91) (tgt := 125) C d_Ki_letter_91 (by decide) ?_
            refine z_lv (lv' := [(0, .ref (ad 3)), (2, .int x2), (3, .int x3)]) [0, 1, 2] rfl ?_
            exact w_Ki_letter_125 hAD C hr _ h17 (sa (si σ11 310 ((gi σ11 310) + (1 : Int32))) 26 r7.toNatClampNeg ((gi σ11 310) + (1 : Int32))) x2 x3 hm
        · rw [if_neg c10] at hm
          refine z_goto (pc := 50) (tgt := 125) C d_Ki_letter_50 (by decide) ?_
          refine z_lv (lv' := [(0, .ref (ad 3)), (2, .int x2), (3, .int x3)]) [0, 1, 2] rfl ?_
          exact w_Ki_letter_125 hAD C hr _ h17 σ6 x2 x3 hm
set_option maxHeartbeats 4000000 in
set_option maxRecDepth 100000 in
theorem k_Ki_letter {l : Launch} {D : va_G} {ad : Nat → Nat} {cA : Nat → ClassId} {F : Nat} (hAD : ∀ σ, va_D (owC ad) (wdC ad cA σ)) {σ : zS} {x1 : Int32} {r : Int32} {σ' : zS} (hm : Ki_letter F σ x1 = some (r, σ')) : kIC l D ad cA (sXC ad) y_Ki_letter bc_Ki_letter 5 .int 1 [.ref (ad 3), .int x1] σ r σ' := by
  refine kI_of (by decide) hAD sXC_P (Nat.le_of_ble_eq_true rfl) ?_
  intro p e s m below meth c C hr
  unfold Ki_letter at hm
  refine z_lv (lv' := [(0, .ref (ad 3)), (1, .int x1)]) [0, 1] rfl ?_
  refine z_aload_n (pc := 0) C d_Ki_letter_0 rfl 0 rfl ?_
  refine gC_Ki_92 (pc := 1) (v := (gi σ 310)) C rfl d_Ki_letter_1 ?_
  refine z_istore_n (pc := 4) (lv' := [(0, .ref (ad 3)), (1, .int x1), (2, .int (gi σ 310))]) C d_Ki_letter_4 rfl (Nat.le_of_ble_eq_true rfl) [1, 2, 0] rfl ?_
  refine z_aload_n (pc := 5) C d_Ki_letter_5 rfl 0 rfl ?_
  refine z_iconst (pc := 6) C d_Ki_letter_6 ki_0 ?_
  refine pC_Ki_37 (pc := 7) C  d_Ki_letter_7 ?_
  refine z_aload_n (pc := 10) C d_Ki_letter_10 rfl 0 rfl ?_
  refine z_iload_n (pc := 11) C d_Ki_letter_11 rfl 1 rfl ?_
  obtain ⟨σ1, e2, hm⟩ := bv_s hm
  refine z_callV (pc := 12) C (k_Ki_push hAD e2) km_Ki_push mC_50 rfl rfl oC_3 rfl (kR_of (Nat.le_of_ble_eq_true rfl) (Nat.le_of_ble_eq_true rfl)) rfl (Nat.le_of_ble_eq_true rfl) d_Ki_letter_12 ?_
  refine z_iconst (pc := 15) C d_Ki_letter_15 ki_0 ?_
  refine z_istore_n (pc := 16) (lv' := [(0, .ref (ad 3)), (1, .int x1), (2, .int (gi σ 310)), (3, .int (0 : Int32))]) C d_Ki_letter_16 rfl (Nat.le_of_ble_eq_true rfl) [1, 2, 3, 0] rfl ?_
  refine z_lv (lv' := [(0, .ref (ad 3)), (2, .int (gi σ 310)), (3, .int (0 : Int32))]) [0, 2, 3] rfl ?_
  exact w_Ki_letter_17 hAD C hr F σ1 (gi σ 310) (0 : Int32) hm
set_option maxHeartbeats 4000000 in
set_option maxRecDepth 100000 in
theorem w_Ki_hasOpen_22 {D : va_G} {ad : Nat → Nat} {cA : Nat → ClassId} {p : Program} {l : Launch} {e : Env} {s : State} {m : MethodId} {args : Array Value} {below : List Frame} {meth : Method} {c : Code} {F : Nat} (hAD : ∀ σ, va_D (owC ad) (wdC ad cA σ)) (C : CC D ad cA (sXC ad) p s m args meth c bc_Ki_hasOpen "KindRounds$Kinds" 2) (hr : meth.sig.returnType = some .boolean) {r : Int32} {σ' : zS} (σ : zS) (s0 : Int32) (hm : Ki_hasOpen_22 F σ s0 = some (r, σ')) : ZC D ad cA p l e (rmK 3) s m args below meth c 2 (qiC D ad cA below args s r σ') 22 [] [.int s0] σ := by
  unfold Ki_hasOpen_22 at hm
  obtain ⟨g1, hm⟩ := gd_s hm
  exact z_zretE (pc := 22) C hr g1 hm d_Ki_hasOpen_22
set_option maxHeartbeats 4000000 in
set_option maxRecDepth 100000 in
theorem k_Ki_hasOpen {l : Launch} {D : va_G} {ad : Nat → Nat} {cA : Nat → ClassId} {F : Nat} (hAD : ∀ σ, va_D (owC ad) (wdC ad cA σ)) {σ : zS} {x1 : Int32} {r : Int32} {σ' : zS} (hm : Ki_hasOpen F σ x1 = some (r, σ')) : kIC l D ad cA (sXC ad) y_Ki_hasOpen bc_Ki_hasOpen 2 .boolean 3 [.ref (ad 3), .int x1] σ r σ' := by
  refine kI_of (by decide) hAD sXC_P (Nat.le_of_ble_eq_true rfl) ?_
  intro p e s m below meth c C hr
  unfold Ki_hasOpen at hm
  refine z_lv (lv' := [(0, .ref (ad 3)), (1, .int x1)]) [0, 1] rfl ?_
  refine z_aload_n (pc := 0) C d_Ki_hasOpen_0 rfl 0 rfl ?_
  obtain ⟨σ1, e2, hm⟩ := bv_s hm
  refine z_callV (pc := 1) C (k_Ki_clearMarks hAD e2) km_Ki_clearMarks mC_56 rfl rfl oC_3 rfl (kR_of (Nat.le_of_ble_eq_true rfl) (Nat.le_of_ble_eq_true rfl)) rfl (Nat.le_of_ble_eq_true rfl) d_Ki_hasOpen_1 ?_
  refine z_aload_n (pc := 4) C d_Ki_hasOpen_4 rfl 0 rfl ?_
  refine z_iconst (pc := 5) C d_Ki_hasOpen_5 ki_0 ?_
  refine pC_Ki_92 (pc := 6) C  d_Ki_hasOpen_6 ?_
  refine z_aload_n (pc := 9) C d_Ki_hasOpen_9 rfl 0 rfl ?_
  refine z_iload_n (pc := 10) C d_Ki_hasOpen_10 rfl 1 rfl ?_
  obtain ⟨r4, σ3, e5, hm⟩ := bi_s hm
  refine z_callI (pc := 11) C (k_Ki_letter hAD e5) km_Ki_letter mC_58 rfl rfl oC_3 rfl (kR_of (Nat.le_of_ble_eq_true rfl) (Nat.le_of_ble_eq_true rfl)) rfl (Nat.le_of_ble_eq_true rfl) d_Ki_hasOpen_11 ?_
  refine z_if_le (pc := 14) (tgt := 21) C d_Ki_hasOpen_14 (by decide) (fun c6 => ?_) (fun c6 => ?_)
  · rw [if_pos c6] at hm
    refine z_iconst (pc := 21) C d_Ki_hasOpen_21 ki_0 ?_
    refine z_lv (lv' := []) [] rfl ?_
    exact w_Ki_hasOpen_22 hAD C hr σ3 (0 : Int32) hm
  · rw [if_neg c6] at hm
    refine z_iconst (pc := 17) C d_Ki_hasOpen_17 ki_1 ?_
    refine z_goto (pc := 18) (tgt := 22) C d_Ki_hasOpen_18 (by decide) ?_
    refine z_lv (lv' := []) [] rfl ?_
    exact w_Ki_hasOpen_22 hAD C hr σ3 (1 : Int32) hm
set_option maxHeartbeats 4000000 in
set_option maxRecDepth 100000 in
theorem w_Ki_show_202 {D : va_G} {ad : Nat → Nat} {cA : Nat → ClassId} {p : Program} {l : Launch} {e : Env} {s : State} {m : MethodId} {args : Array Value} {below : List Frame} {meth : Method} {c : Code} {F : Nat} (hAD : ∀ σ, va_D (owC ad) (wdC ad cA σ)) (C : CC D ad cA (sXC ad) p s m args meth c bc_Ki_show "KindRounds$Kinds" 8) (hr : meth.sig.returnType = none) {σ' : zS} (σ : zS) (hm : Ki_show_202 F σ = some σ') : ZC D ad cA p l e (rmK 2) s m args below meth c 8 (qvC D ad cA below args s σ') 202 [] [] σ := by
  unfold Ki_show_202 at hm
  exact z_vretE (pc := 202) C hr hm d_Ki_show_202
set_option maxHeartbeats 4000000 in
set_option maxRecDepth 100000 in
theorem w_Ki_show_196 {D : va_G} {ad : Nat → Nat} {cA : Nat → ClassId} {p : Program} {l : Launch} {e : Env} {s : State} {m : MethodId} {args : Array Value} {below : List Frame} {meth : Method} {c : Code} {F : Nat} (hAD : ∀ σ, va_D (owC ad) (wdC ad cA σ)) (C : CC D ad cA (sXC ad) p s m args meth c bc_Ki_show "KindRounds$Kinds" 8) (hr : meth.sig.returnType = none) {σ' : zS} (rc19 : zS → Nat → Int32 → Int32 → Option zS) (h19 : ∀ σ x2 x3 x4, rc19 σ x2 x3 x4 = some σ' → ZC D ad cA p l e (rmK 2) s m args below meth c 8 (qvC D ad cA below args s σ') 19 [(0, .ref (ad 3)), (2, .ref (ad x2)), (3, .int x3), (4, .int x4)] [] σ) (σ : zS) (x2 : Nat) (x3 : Int32) (x4 : Int32) (hm : Ki_show_196 F rc19 σ x2 x3 x4 = some σ') : ZC D ad cA p l e (rmK 2) s m args below meth c 8 (qvC D ad cA below args s σ') 196 [(0, .ref (ad 3)), (2, .ref (ad x2)), (3, .int x3), (4, .int x4)] [] σ := by
  unfold Ki_show_196 at hm
  refine z_iinc (pc := 196) (lv' := [(0, .ref (ad 3)), (2, .ref (ad x2)), (3, .int x3), (4, .int (x4 + (1 : Int32)))]) C d_Ki_show_196 3 rfl (ii ki_1) (Nat.le_of_ble_eq_true rfl) [1, 2, 3, 0] rfl ?_
  refine z_goto (pc := 199) (tgt := 19) C d_Ki_show_199 (by decide) ?_
  exact h19 σ x2 x3 (x4 + (1 : Int32)) hm
set_option maxHeartbeats 4000000 in
set_option maxRecDepth 100000 in
theorem w_Ki_show_175 {D : va_G} {ad : Nat → Nat} {cA : Nat → ClassId} {p : Program} {l : Launch} {e : Env} {s : State} {m : MethodId} {args : Array Value} {below : List Frame} {meth : Method} {c : Code} {F : Nat} (hAD : ∀ σ, va_D (owC ad) (wdC ad cA σ)) (C : CC D ad cA (sXC ad) p s m args meth c bc_Ki_show "KindRounds$Kinds" 8) (hr : meth.sig.returnType = none) {σ' : zS} (rc19 : zS → Nat → Int32 → Int32 → Option zS) (h19 : ∀ σ x2 x3 x4, rc19 σ x2 x3 x4 = some σ' → ZC D ad cA p l e (rmK 2) s m args below meth c 8 (qvC D ad cA below args s σ') 19 [(0, .ref (ad 3)), (2, .ref (ad x2)), (3, .int x3), (4, .int x4)] [] σ) (σ : zS) (x2 : Nat) (x3 : Int32) (x4 : Int32) (x6 : Int32) (hm : Ki_show_175 F rc19 σ x2 x3 x4 x6 = some σ') : ZC D ad cA p l e (rmK 2) s m args below meth c 8 (qvC D ad cA below args s σ') 175 [(0, .ref (ad 3)), (2, .ref (ad x2)), (3, .int x3), (4, .int x4), (6, .int x6)] [] σ := by
  unfold Ki_show_175 at hm
  refine z_aload_n (pc := 175) C d_Ki_show_175 rfl 1 rfl ?_
  obtain ⟨g2, hm⟩ := gd_s hm
  obtain ⟨σ1, e3, hm⟩ := bv_s hm
  refine z_callVN (pc := 176) C (k_Li_putArrow hAD e3) km_Li_putArrow mC_63 rfl rfl (oC_Li g2) rfl (kR_of (Nat.le_of_ble_eq_true rfl) (Nat.le_of_ble_eq_true rfl)) rfl (Nat.le_of_ble_eq_true rfl) d_Ki_show_176 ?_
  refine z_aload_n (pc := 179) C d_Ki_show_179 rfl 0 rfl ?_
  refine z_aload_n (pc := 180) C d_Ki_show_180 rfl 0 rfl ?_
  refine z_aload_n (pc := 181) C d_Ki_show_181 rfl 0 rfl ?_
  refine gC_Ki_15 (pc := 182) C  d_Ki_show_182 ?_
  refine z_iload (pc := 185) C d_Ki_show_185 4 rfl ?_
  obtain ⟨g4, hm⟩ := gd_s hm
  refine alC_24 (pc := 187) (v := (ga σ1 24 x6.toNatClampNeg)) C  rfl g4 d_Ki_show_187 ?_
  obtain ⟨r6, σ5, e7, hm⟩ := bi_s hm
  refine z_callI (pc := 188) C (k_Ki_find hAD e7) km_Ki_find mC_41 rfl rfl oC_3 rfl (kR_of (Nat.le_of_ble_eq_true rfl) (Nat.le_of_ble_eq_true rfl)) rfl (Nat.le_of_ble_eq_true rfl) d_Ki_show_188 ?_
  refine z_iconst (pc := 191) C d_Ki_show_191 ki_1 ?_
  refine z_ishl (pc := 192) C d_Ki_show_192 ?_
  obtain ⟨σ8, e9, hm⟩ := bv_s hm
  refine z_callV (pc := 193) C (k_Ki_push hAD e9) km_Ki_push mC_50 rfl rfl oC_3 rfl (kR_of (Nat.le_of_ble_eq_true rfl) (Nat.le_of_ble_eq_true rfl)) rfl (Nat.le_of_ble_eq_true rfl) d_Ki_show_193 ?_
  refine z_lv (lv' := [(0, .ref (ad 3)), (2, .ref (ad x2)), (3, .int x3), (4, .int x4)]) [0, 1, 2, 3] rfl ?_
  exact w_Ki_show_196 hAD C hr _ h19 σ8 x2 x3 x4 hm
set_option maxHeartbeats 4000000 in
set_option maxRecDepth 100000 in
theorem w_Ki_show_141 {D : va_G} {ad : Nat → Nat} {cA : Nat → ClassId} {p : Program} {l : Launch} {e : Env} {s : State} {m : MethodId} {args : Array Value} {below : List Frame} {meth : Method} {c : Code} {F : Nat} (hAD : ∀ σ, va_D (owC ad) (wdC ad cA σ)) (C : CC D ad cA (sXC ad) p s m args meth c bc_Ki_show "KindRounds$Kinds" 8) (hr : meth.sig.returnType = none) {σ' : zS} (rc19 : zS → Nat → Int32 → Int32 → Option zS) (h19 : ∀ σ x2 x3 x4, rc19 σ x2 x3 x4 = some σ' → ZC D ad cA p l e (rmK 2) s m args below meth c 8 (qvC D ad cA below args s σ') 19 [(0, .ref (ad 3)), (2, .ref (ad x2)), (3, .int x3), (4, .int x4)] [] σ) (σ : zS) (x2 : Nat) (x3 : Int32) (x4 : Int32) (x5 : Int32) (x7 : Int32) (hm : Ki_show_141 F rc19 σ x2 x3 x4 x5 x7 = some σ') : ZC D ad cA p l e (rmK 2) s m args below meth c 8 (qvC D ad cA below args s σ') 141 [(0, .ref (ad 3)), (2, .ref (ad x2)), (3, .int x3), (4, .int x4), (5, .int x5), (7, .int x7)] [] σ := by
  unfold Ki_show_141 at hm
  refine z_aload_n (pc := 141) C d_Ki_show_141 rfl 0 rfl ?_
  refine z_iload (pc := 142) C d_Ki_show_142 4 rfl ?_
  refine z_iconst (pc := 144) C d_Ki_show_144 ki_1 ?_
  refine z_ior (pc := 145) C d_Ki_show_145 ?_
  obtain ⟨σ1, e2, hm⟩ := bv_s hm
  refine z_callV (pc := 146) C (k_Ki_push hAD e2) km_Ki_push mC_50 rfl rfl oC_3 rfl (kR_of (Nat.le_of_ble_eq_true rfl) (Nat.le_of_ble_eq_true rfl)) rfl (Nat.le_of_ble_eq_true rfl) d_Ki_show_146 ?_
  refine z_aload_n (pc := 149) C d_Ki_show_149 rfl 0 rfl ?_
  refine z_iload (pc := 150) C d_Ki_show_150 5 rfl ?_
  refine z_iconst (pc := 152) C d_Ki_show_152 ki_1 ?_
  refine z_ishl (pc := 153) C d_Ki_show_153 ?_
  obtain ⟨σ3, e4, hm⟩ := bv_s hm
  refine z_callV (pc := 154) C (k_Ki_push hAD e4) km_Ki_push mC_50 rfl rfl oC_3 rfl (kR_of (Nat.le_of_ble_eq_true rfl) (Nat.le_of_ble_eq_true rfl)) rfl (Nat.le_of_ble_eq_true rfl) d_Ki_show_154 ?_
  refine z_goto (pc := 157) (tgt := 196) C d_Ki_show_157 (by decide) ?_
  refine z_lv (lv' := [(0, .ref (ad 3)), (2, .ref (ad x2)), (3, .int x3), (4, .int x4)]) [0, 1, 2, 3] rfl ?_
  exact w_Ki_show_196 hAD C hr _ h19 σ3 x2 x3 x4 hm
set_option maxHeartbeats 4000000 in
set_option maxRecDepth 100000 in
theorem w_Ki_show_100 {D : va_G} {ad : Nat → Nat} {cA : Nat → ClassId} {p : Program} {l : Launch} {e : Env} {s : State} {m : MethodId} {args : Array Value} {below : List Frame} {meth : Method} {c : Code} {F : Nat} (hAD : ∀ σ, va_D (owC ad) (wdC ad cA σ)) (C : CC D ad cA (sXC ad) p s m args meth c bc_Ki_show "KindRounds$Kinds" 8) (hr : meth.sig.returnType = none) {σ' : zS} (rc19 : zS → Nat → Int32 → Int32 → Option zS) (h19 : ∀ σ x2 x3 x4, rc19 σ x2 x3 x4 = some σ' → ZC D ad cA p l e (rmK 2) s m args below meth c 8 (qvC D ad cA below args s σ') 19 [(0, .ref (ad 3)), (2, .ref (ad x2)), (3, .int x3), (4, .int x4)] [] σ) (σ : zS) (x2 : Nat) (x3 : Int32) (x4 : Int32) (s0 : Nat) (s1 : Int32) (hm : Ki_show_100 F rc19 σ x2 x3 x4 s0 s1 = some σ') : ZC D ad cA p l e (rmK 2) s m args below meth c 8 (qvC D ad cA below args s σ') 100 [(0, .ref (ad 3)), (2, .ref (ad x2)), (3, .int x3), (4, .int x4)] [.int s1, .ref (ad s0)] σ := by
  unfold Ki_show_100 at hm
  obtain ⟨g2, hm⟩ := gd_s hm
  obtain ⟨σ1, e3, hm⟩ := bv_s hm
  refine z_callVN (pc := 100) C (k_Li_put hAD e3) km_Li_put mC_64 rfl rfl (oC_Li g2) rfl (kR_of (Nat.le_of_ble_eq_true rfl) (Nat.le_of_ble_eq_true rfl)) rfl (Nat.le_of_ble_eq_true rfl) d_Ki_show_100 ?_
  refine z_goto (pc := 103) (tgt := 196) C d_Ki_show_103 (by decide) ?_
  exact w_Ki_show_196 hAD C hr _ h19 σ1 x2 x3 x4 hm
set_option maxHeartbeats 4000000 in
set_option maxRecDepth 100000 in
theorem w_Ki_show_98 {D : va_G} {ad : Nat → Nat} {cA : Nat → ClassId} {p : Program} {l : Launch} {e : Env} {s : State} {m : MethodId} {args : Array Value} {below : List Frame} {meth : Method} {c : Code} {F : Nat} (hAD : ∀ σ, va_D (owC ad) (wdC ad cA σ)) (C : CC D ad cA (sXC ad) p s m args meth c bc_Ki_show "KindRounds$Kinds" 8) (hr : meth.sig.returnType = none) {σ' : zS} (rc19 : zS → Nat → Int32 → Int32 → Option zS) (h19 : ∀ σ x2 x3 x4, rc19 σ x2 x3 x4 = some σ' → ZC D ad cA p l e (rmK 2) s m args below meth c 8 (qvC D ad cA below args s σ') 19 [(0, .ref (ad 3)), (2, .ref (ad x2)), (3, .int x3), (4, .int x4)] [] σ) (σ : zS) (x2 : Nat) (x3 : Int32) (x4 : Int32) (s0 : Nat) (hm : Ki_show_98 F rc19 σ x2 x3 x4 s0 = some σ') : ZC D ad cA p l e (rmK 2) s m args below meth c 8 (qvC D ad cA below args s σ') 98 [(0, .ref (ad 3)), (2, .ref (ad x2)), (3, .int x3), (4, .int x4)] [.ref (ad s0)] σ := by
  unfold Ki_show_98 at hm
  refine z_bipush (pc := 98) C d_Ki_show_98 kb_42 ?_
  exact w_Ki_show_100 hAD C hr _ h19 σ x2 x3 x4 s0 (42 : Int32) hm
set_option maxHeartbeats 4000000 in
set_option maxRecDepth 100000 in
theorem w_Ki_show_19 {D : va_G} {ad : Nat → Nat} {cA : Nat → ClassId} {p : Program} {l : Launch} {e : Env} {s : State} {m : MethodId} {args : Array Value} {below : List Frame} {meth : Method} {c : Code} {F : Nat} (hAD : ∀ σ, va_D (owC ad) (wdC ad cA σ)) (C : CC D ad cA (sXC ad) p s m args meth c bc_Ki_show "KindRounds$Kinds" 8) (hr : meth.sig.returnType = none) {σ' : zS} : ∀ (n : Nat) (σ : zS) (x2 : Nat) (x3 : Int32) (x4 : Int32), Ki_show_19 F n σ x2 x3 x4 = some σ' → ZC D ad cA p l e (rmK 2) s m args below meth c 8 (qvC D ad cA below args s σ') 19 [(0, .ref (ad 3)), (2, .ref (ad x2)), (3, .int x3), (4, .int x4)] [] σ := by
  intro n
  induction n with
  | zero => intro σ x2 x3 x4 hm; cases hm
  | succ n h19 =>
    intro σ x2 x3 x4 hm
    have hm : Ki_show_b19 F (Ki_show_19 F n) σ x2 x3 x4 = some σ' := hm
    unfold Ki_show_b19 at hm
    refine z_iload (pc := 19) C d_Ki_show_19 3 rfl ?_
    refine z_ldc (pc := 21) C mC_39 d_Ki_show_21 ?_
    refine z_icmp_ge (pc := 23) (tgt := 202) C d_Ki_show_23 (by decide) (fun c1 => ?_) (fun c1 => ?_)
    · rw [if_pos c1] at hm
      refine z_lv (lv' := []) [] rfl ?_
      exact w_Ki_show_202 hAD C hr σ hm
    · rw [if_neg c1] at hm
      refine z_aload_n (pc := 26) C d_Ki_show_26 rfl 0 rfl ?_
      refine gC_Ki_37 (pc := 27) (v := (gi σ 309)) C rfl d_Ki_show_27 ?_
      refine z_if_le (pc := 30) (tgt := 202) C d_Ki_show_30 (by decide) (fun c2 => ?_) (fun c2 => ?_)
      · rw [if_pos c2] at hm
        refine z_lv (lv' := []) [] rfl ?_
        exact w_Ki_show_202 hAD C hr σ hm
      · rw [if_neg c2] at hm
        refine z_aload_n (pc := 33) C d_Ki_show_33 rfl 1 rfl ?_
        obtain ⟨g3, hm⟩ := gd_s hm
        refine gC_Ki_114 (pc := 34) (v := (mi σ (100 * x2 + 1))) C g3 rfl d_Ki_show_34 ?_
        refine z_sipush (pc := 37) C d_Ki_show_37 ks_2000 ?_
        refine z_icmp_gt (pc := 40) (tgt := 202) C d_Ki_show_40 (by decide) (fun c4 => ?_) (fun c4 => ?_)
        · rw [if_pos c4] at hm
          refine z_lv (lv' := []) [] rfl ?_
          exact w_Ki_show_202 hAD C hr σ hm
        · rw [if_neg c4] at hm
          refine z_aload_n (pc := 43) C d_Ki_show_43 rfl 0 rfl ?_
          obtain ⟨r6, σ5, e7, hm⟩ := bi_s hm
          refine z_callI (pc := 44) C (k_Ki_pop hAD e7) km_Ki_pop mC_40 rfl rfl oC_3 rfl (kR_of (Nat.le_of_ble_eq_true rfl) (Nat.le_of_ble_eq_true rfl)) rfl (Nat.le_of_ble_eq_true rfl) d_Ki_show_44 ?_
          refine z_istore (pc := 47) (lv' := [(0, .ref (ad 3)), (2, .ref (ad x2)), (3, .int x3), (4, .int x4), (5, .int r6)]) C d_Ki_show_47 (Nat.le_of_ble_eq_true rfl) [1, 2, 3, 4, 0] rfl ?_
          refine z_iload (pc := 49) C d_Ki_show_49 4 rfl ?_
          refine z_iconst (pc := 51) C d_Ki_show_51 ki_1 ?_
          refine z_ishr (pc := 52) C d_Ki_show_52 ?_
          refine z_istore (pc := 53) (lv' := [(0, .ref (ad 3)), (2, .ref (ad x2)), (3, .int x3), (4, .int x4), (5, .int r6), (6, .int (r6 >>> ((1 : Int32) &&& 31)))]) C d_Ki_show_53 (Nat.le_of_ble_eq_true rfl) [1, 2, 3, 4, 5, 0] rfl ?_
          refine z_aload_n (pc := 55) C d_Ki_show_55 rfl 0 rfl ?_
          refine z_iload (pc := 56) C d_Ki_show_56 5 rfl ?_
          obtain ⟨r9, σ8, e10, hm⟩ := bi_s hm
          refine z_callI (pc := 58) C (k_Ki_isArrow hAD e10) km_Ki_isArrow mC_52 rfl rfl oC_3 rfl (kR_of (Nat.le_of_ble_eq_true rfl) (Nat.le_of_ble_eq_true rfl)) rfl (Nat.le_of_ble_eq_true rfl) d_Ki_show_58 ?_
          refine z_if_ne (pc := 61) (tgt := 106) C d_Ki_show_61 (by decide) (fun c11 => ?_) (fun c11 => ?_)
          · rw [if_neg c11] at hm
            refine z_aload_n (pc := 106) C d_Ki_show_106 rfl 0 rfl ?_
            refine z_aload_n (pc := 107) C d_Ki_show_107 rfl 0 rfl ?_
            refine gC_Ki_11 (pc := 108) C  d_Ki_show_108 ?_
            refine z_iload (pc := 111) C d_Ki_show_111 5 rfl ?_
            obtain ⟨g12, hm⟩ := gd_s hm
            refine alC_23 (pc := 113) (v := (ga σ8 23 (r6 >>> ((1 : Int32) &&& 31)).toNatClampNeg)) C  rfl g12 d_Ki_show_113 ?_
            obtain ⟨r14, σ13, e15, hm⟩ := bi_s hm
            refine z_callI (pc := 114) C (k_Ki_find hAD e15) km_Ki_find mC_41 rfl rfl oC_3 rfl (kR_of (Nat.le_of_ble_eq_true rfl) (Nat.le_of_ble_eq_true rfl)) rfl (Nat.le_of_ble_eq_true rfl) d_Ki_show_114 ?_
            refine z_istore (pc := 117) (lv' := [(0, .ref (ad 3)), (2, .ref (ad x2)), (3, .int x3), (4, .int x4), (5, .int r6), (6, .int (r6 >>> ((1 : Int32) &&& 31))), (7, .int r14)]) C d_Ki_show_117 (Nat.le_of_ble_eq_true rfl) [1, 2, 3, 4, 5, 6, 0] rfl ?_
            refine z_iload (pc := 119) C d_Ki_show_119 4 rfl ?_
            refine z_iconst (pc := 121) C d_Ki_show_121 ki_1 ?_
            refine z_iand (pc := 122) C d_Ki_show_122 ?_
            refine z_if_ne (pc := 123) (tgt := 160) C d_Ki_show_123 (by decide) (fun c16 => ?_) (fun c16 => ?_)
            · rw [if_neg c16] at hm
              refine z_aload_n (pc := 160) C d_Ki_show_160 rfl 0 rfl ?_
              refine z_iload (pc := 161) C d_Ki_show_161 6 rfl ?_
              obtain ⟨r18, σ17, e19, hm⟩ := bi_s hm
              refine z_callI (pc := 163) C (k_Ki_isArrow hAD e19) km_Ki_isArrow mC_52 rfl rfl oC_3 rfl (kR_of (Nat.le_of_ble_eq_true rfl) (Nat.le_of_ble_eq_true rfl)) rfl (Nat.le_of_ble_eq_true rfl) d_Ki_show_163 ?_
              refine z_if_eq (pc := 166) (tgt := 175) C d_Ki_show_166 (by decide) (fun c20 => ?_) (fun c20 => ?_)
              · rw [if_pos c20] at hm
                refine z_lv (lv' := [(0, .ref (ad 3)), (2, .ref (ad x2)), (3, .int x3), (4, .int x4), (6, .int (r6 >>> ((1 : Int32) &&& 31)))]) [0, 1, 2, 3, 5] rfl ?_
                exact w_Ki_show_175 hAD C hr _ h19 σ17 x2 x3 x4 (r6 >>> ((1 : Int32) &&& 31)) hm
              · rw [if_neg c20] at hm
                refine z_aload_n (pc := 169) C d_Ki_show_169 rfl 1 rfl ?_
                refine z_bipush (pc := 170) C d_Ki_show_170 kb_41 ?_
                obtain ⟨σ21, e22, hm⟩ := bv_s hm
                refine z_callVN (pc := 172) C (k_Li_put hAD e22) km_Li_put mC_64 rfl rfl (oC_Li g3) rfl (kR_of (Nat.le_of_ble_eq_true rfl) (Nat.le_of_ble_eq_true rfl)) rfl (Nat.le_of_ble_eq_true rfl) d_Ki_show_172 ?_
                refine z_lv (lv' := [(0, .ref (ad 3)), (2, .ref (ad x2)), (3, .int x3), (4, .int x4), (6, .int (r6 >>> ((1 : Int32) &&& 31)))]) [0, 1, 2, 3, 5] rfl ?_
                exact w_Ki_show_175 hAD C hr _ h19 σ21 x2 x3 x4 (r6 >>> ((1 : Int32) &&& 31)) hm
            · rw [if_pos c16] at hm
              refine z_aload_n (pc := 126) C d_Ki_show_126 rfl 0 rfl ?_
              refine z_iload (pc := 127) C d_Ki_show_127 6 rfl ?_
              obtain ⟨r24, σ23, e25, hm⟩ := bi_s hm
              refine z_callI (pc := 129) C (k_Ki_isArrow hAD e25) km_Ki_isArrow mC_52 rfl rfl oC_3 rfl (kR_of (Nat.le_of_ble_eq_true rfl) (Nat.le_of_ble_eq_true rfl)) rfl (Nat.le_of_ble_eq_true rfl) d_Ki_show_129 ?_
              refine z_if_eq (pc := 132) (tgt := 141) C d_Ki_show_132 (by decide) (fun c26 => ?_) (fun c26 => ?_)
              · rw [if_pos c26] at hm
                refine z_lv (lv' := [(0, .ref (ad 3)), (2, .ref (ad x2)), (3, .int x3), (4, .int x4), (5, .int r6), (7, .int r14)]) [0, 1, 2, 3, 4, 6] rfl ?_
                exact w_Ki_show_141 hAD C hr _ h19 σ23 x2 x3 x4 r6 r14 hm
              · rw [if_neg c26] at hm
                refine z_aload_n (pc := 135) C d_Ki_show_135 rfl 1 rfl ?_
                refine z_bipush (pc := 136) C d_Ki_show_136 kb_40 ?_
                obtain ⟨σ27, e28, hm⟩ := bv_s hm
                refine z_callVN (pc := 138) C (k_Li_put hAD e28) km_Li_put mC_64 rfl rfl (oC_Li g3) rfl (kR_of (Nat.le_of_ble_eq_true rfl) (Nat.le_of_ble_eq_true rfl)) rfl (Nat.le_of_ble_eq_true rfl) d_Ki_show_138 ?_
                refine z_lv (lv' := [(0, .ref (ad 3)), (2, .ref (ad x2)), (3, .int x3), (4, .int x4), (5, .int r6), (7, .int r14)]) [0, 1, 2, 3, 4, 6] rfl ?_
                exact w_Ki_show_141 hAD C hr _ h19 σ27 x2 x3 x4 r6 r14 hm
          · rw [if_pos c11] at hm
            refine z_aload_n (pc := 64) C d_Ki_show_64 rfl 1 rfl ?_
            refine z_iload_n (pc := 65) C d_Ki_show_65 rfl 2 rfl ?_
            refine z_if_eq (pc := 66) (tgt := 98) C d_Ki_show_66 (by decide) (fun c29 => ?_) (fun c29 => ?_)
            · rw [if_pos c29] at hm
              refine z_lv (lv' := [(0, .ref (ad 3)), (2, .ref (ad x2)), (3, .int x3), (4, .int x4)]) [0, 1, 2, 3] rfl ?_
              exact w_Ki_show_98 hAD C hr _ h19 σ8 x2 x3 x4 x2 hm
            · rw [if_neg c29] at hm
              refine z_aload_n (pc := 69) C d_Ki_show_69 rfl 0 rfl ?_
              refine z_iload (pc := 70) C d_Ki_show_70 5 rfl ?_
              obtain ⟨r31, σ30, e32, hm⟩ := bi_s hm
              refine z_callI (pc := 72) C (k_Ki_isOpen hAD e32) km_Ki_isOpen mC_51 rfl rfl oC_3 rfl (kR_of (Nat.le_of_ble_eq_true rfl) (Nat.le_of_ble_eq_true rfl)) rfl (Nat.le_of_ble_eq_true rfl) d_Ki_show_72 ?_
              refine z_if_eq (pc := 75) (tgt := 98) C d_Ki_show_75 (by decide) (fun c33 => ?_) (fun c33 => ?_)
              · rw [if_pos c33] at hm
                refine z_lv (lv' := [(0, .ref (ad 3)), (2, .ref (ad x2)), (3, .int x3), (4, .int x4)]) [0, 1, 2, 3] rfl ?_
                exact w_Ki_show_98 hAD C hr _ h19 σ30 x2 x3 x4 x2 hm
              · rw [if_neg c33] at hm
                refine z_bipush (pc := 78) C d_Ki_show_78 kb_97 ?_
                refine z_aload_n (pc := 80) C d_Ki_show_80 rfl 0 rfl ?_
                refine gC_Ki_21 (pc := 81) C  d_Ki_show_81 ?_
                refine z_iload (pc := 84) C d_Ki_show_84 5 rfl ?_
                obtain ⟨g34, hm⟩ := gd_s hm
                refine alC_26 (pc := 86) (v := (ga σ30 26 (r6 >>> ((1 : Int32) &&& 31)).toNatClampNeg)) C  rfl g34 d_Ki_show_86 ?_
                refine z_bipush (pc := 87) C d_Ki_show_87 kb_26 ?_
                refine z_mmin (pc := 89) C mC_42 mC_43 mC_44 mC_45 (by decide) (Nat.le_of_ble_eq_true rfl) d_Ki_show_89 ?_
                refine z_iadd (pc := 92) C d_Ki_show_92 ?_
                refine z_iconst (pc := 93) C d_Ki_show_93 ki_1 ?_
                refine z_isub (pc := 94) C d_Ki_show_94 ?_
                refine z_goto (pc := 95) (tgt := 100) C d_Ki_show_95 (by decide) ?_
                refine z_lv (lv' := [(0, .ref (ad 3)), (2, .ref (ad x2)), (3, .int x3), (4, .int x4)]) [0, 1, 2, 3] rfl ?_
                exact w_Ki_show_100 hAD C hr _ h19 σ30 x2 x3 x4 x2 (((97 : Int32) + (if (26 : Int32) < (ga σ30 26 (r6 >>> ((1 : Int32) &&& 31)).toNatClampNeg) then (26 : Int32) else (ga σ30 26 (r6 >>> ((1 : Int32) &&& 31)).toNatClampNeg))) - (1 : Int32)) hm
set_option maxHeartbeats 4000000 in
set_option maxRecDepth 100000 in
theorem k_Ki_show {l : Launch} {D : va_G} {ad : Nat → Nat} {cA : Nat → ClassId} {F : Nat} (hAD : ∀ σ, va_D (owC ad) (wdC ad cA σ)) {σ : zS} {x1 : Int32} {x2 : Nat} {x3 : Int32} {σ' : zS} (hm : Ki_show F σ x1 x2 x3 = some σ') : kVC l D ad cA (sXC ad) y_Ki_show bc_Ki_show 8 2 [.ref (ad 3), .int x1, .ref (ad x2), .int x3] σ σ' := by
  refine kV_of (by decide) hAD sXC_P (Nat.le_of_ble_eq_true rfl) ?_
  intro p e s m below meth c C hr
  unfold Ki_show at hm
  refine z_lv (lv' := [(0, .ref (ad 3)), (1, .int x1), (2, .ref (ad x2)), (3, .int x3)]) [0, 1, 2, 3] rfl ?_
  refine z_aload_n (pc := 0) C d_Ki_show_0 rfl 0 rfl ?_
  refine z_iconst (pc := 1) C d_Ki_show_1 ki_0 ?_
  refine pC_Ki_37 (pc := 2) C  d_Ki_show_2 ?_
  refine z_aload_n (pc := 5) C d_Ki_show_5 rfl 0 rfl ?_
  refine z_aload_n (pc := 6) C d_Ki_show_6 rfl 0 rfl ?_
  refine z_iload_n (pc := 7) C d_Ki_show_7 rfl 1 rfl ?_
  obtain ⟨r2, σ1, e3, hm⟩ := bi_s hm
  refine z_callI (pc := 8) C (k_Ki_find hAD e3) km_Ki_find mC_41 rfl rfl oC_3 rfl (kR_of (Nat.le_of_ble_eq_true rfl) (Nat.le_of_ble_eq_true rfl)) rfl (Nat.le_of_ble_eq_true rfl) d_Ki_show_8 ?_
  refine z_iconst (pc := 11) C d_Ki_show_11 ki_1 ?_
  refine z_ishl (pc := 12) C d_Ki_show_12 ?_
  obtain ⟨σ4, e5, hm⟩ := bv_s hm
  refine z_callV (pc := 13) C (k_Ki_push hAD e5) km_Ki_push mC_50 rfl rfl oC_3 rfl (kR_of (Nat.le_of_ble_eq_true rfl) (Nat.le_of_ble_eq_true rfl)) rfl (Nat.le_of_ble_eq_true rfl) d_Ki_show_13 ?_
  refine z_iconst (pc := 16) C d_Ki_show_16 ki_0 ?_
  refine z_istore (pc := 17) (lv' := [(0, .ref (ad 3)), (1, .int x1), (2, .ref (ad x2)), (3, .int x3), (4, .int (0 : Int32))]) C d_Ki_show_17 (Nat.le_of_ble_eq_true rfl) [1, 2, 3, 4, 0] rfl ?_
  refine z_lv (lv' := [(0, .ref (ad 3)), (2, .ref (ad x2)), (3, .int x3), (4, .int (0 : Int32))]) [0, 2, 3, 4] rfl ?_
  exact w_Ki_show_19 hAD C hr F σ4 x2 x3 (0 : Int32) hm
set_option maxHeartbeats 4000000 in
set_option maxRecDepth 100000 in
theorem k_Ki_showSides {l : Launch} {D : va_G} {ad : Nat → Nat} {cA : Nat → ClassId} {F : Nat} (hAD : ∀ σ, va_D (owC ad) (wdC ad cA σ)) {σ : zS} {x1 : Int32} {x2 : Int32} {σ' : zS} (hm : Ki_showSides F σ x1 x2 = some σ') : kVC l D ad cA (sXC ad) y_Ki_showSides bc_Ki_showSides 4 3 [.ref (ad 3), .int x1, .int x2, .ref (ad 2)] σ σ' := by
  refine kV_of (by decide) hAD sXC_P (Nat.le_of_ble_eq_true rfl) ?_
  intro p e s m below meth c C hr
  unfold Ki_showSides at hm
  refine z_lv (lv' := [(0, .ref (ad 3)), (1, .int x1), (2, .int x2), (3, .ref (ad 2))]) [0, 1, 2, 3] rfl ?_
  refine z_aload_n (pc := 0) C d_Ki_showSides_0 rfl 0 rfl ?_
  obtain ⟨σ1, e2, hm⟩ := bv_s hm
  refine z_callV (pc := 1) C (k_Ki_clearMarks hAD e2) km_Ki_clearMarks mC_56 rfl rfl oC_3 rfl (kR_of (Nat.le_of_ble_eq_true rfl) (Nat.le_of_ble_eq_true rfl)) rfl (Nat.le_of_ble_eq_true rfl) d_Ki_showSides_1 ?_
  refine z_aload_n (pc := 4) C d_Ki_showSides_4 rfl 0 rfl ?_
  refine z_iconst (pc := 5) C d_Ki_showSides_5 ki_0 ?_
  refine pC_Ki_92 (pc := 6) C  d_Ki_showSides_6 ?_
  refine z_aload_n (pc := 9) C d_Ki_showSides_9 rfl 0 rfl ?_
  refine z_iload_n (pc := 10) C d_Ki_showSides_10 rfl 1 rfl ?_
  obtain ⟨r4, σ3, e5, hm⟩ := bi_s hm
  refine z_callI (pc := 11) C (k_Ki_letter hAD e5) km_Ki_letter mC_58 rfl rfl oC_3 rfl (kR_of (Nat.le_of_ble_eq_true rfl) (Nat.le_of_ble_eq_true rfl)) rfl (Nat.le_of_ble_eq_true rfl) d_Ki_showSides_11 ?_
  refine z_pop (pc := 14) C d_Ki_showSides_14 rfl ?_
  refine z_aload_n (pc := 15) C d_Ki_showSides_15 rfl 0 rfl ?_
  refine z_iload_n (pc := 16) C d_Ki_showSides_16 rfl 2 rfl ?_
  obtain ⟨r7, σ6, e8, hm⟩ := bi_s hm
  refine z_callI (pc := 17) C (k_Ki_letter hAD e8) km_Ki_letter mC_58 rfl rfl oC_3 rfl (kR_of (Nat.le_of_ble_eq_true rfl) (Nat.le_of_ble_eq_true rfl)) rfl (Nat.le_of_ble_eq_true rfl) d_Ki_showSides_17 ?_
  refine z_pop (pc := 20) C d_Ki_showSides_20 rfl ?_
  refine z_aload_n (pc := 21) C d_Ki_showSides_21 rfl 3 rfl ?_
  refine gC_Ki_98 (pc := 22) C  d_Ki_showSides_22 ?_
  obtain ⟨g10, hm⟩ := gd_s hm
  obtain ⟨σ9, e11, hm⟩ := bv_s hm
  refine z_callVN (pc := 25) C (k_Li_clear hAD e11) km_Li_clear mC_60 rfl rfl (oC_Li g10) rfl (kR_of (Nat.le_of_ble_eq_true rfl) (Nat.le_of_ble_eq_true rfl)) rfl (Nat.le_of_ble_eq_true rfl) d_Ki_showSides_25 ?_
  refine z_aload_n (pc := 28) C d_Ki_showSides_28 rfl 3 rfl ?_
  refine gC_Ki_108 (pc := 29) C  d_Ki_showSides_29 ?_
  obtain ⟨g13, hm⟩ := gd_s hm
  obtain ⟨σ12, e14, hm⟩ := bv_s hm
  refine z_callVN (pc := 32) C (k_Li_clear hAD e14) km_Li_clear mC_60 rfl rfl (oC_Li g13) rfl (kR_of (Nat.le_of_ble_eq_true rfl) (Nat.le_of_ble_eq_true rfl)) rfl (Nat.le_of_ble_eq_true rfl) d_Ki_showSides_32 ?_
  refine z_aload_n (pc := 35) C d_Ki_showSides_35 rfl 0 rfl ?_
  refine z_iload_n (pc := 36) C d_Ki_showSides_36 rfl 1 rfl ?_
  refine z_aload_n (pc := 37) C d_Ki_showSides_37 rfl 3 rfl ?_
  refine gC_Ki_98 (pc := 38) C  d_Ki_showSides_38 ?_
  refine z_iconst (pc := 41) C d_Ki_showSides_41 ki_1 ?_
  obtain ⟨σ15, e16, hm⟩ := bv_s hm
  refine z_callV (pc := 42) C (k_Ki_show hAD e16) km_Ki_show mC_62 rfl rfl oC_3 rfl (kR_of (Nat.le_of_ble_eq_true rfl) (Nat.le_of_ble_eq_true rfl)) rfl (Nat.le_of_ble_eq_true rfl) d_Ki_showSides_42 ?_
  refine z_aload_n (pc := 45) C d_Ki_showSides_45 rfl 0 rfl ?_
  refine z_iload_n (pc := 46) C d_Ki_showSides_46 rfl 2 rfl ?_
  refine z_aload_n (pc := 47) C d_Ki_showSides_47 rfl 3 rfl ?_
  refine gC_Ki_108 (pc := 48) C  d_Ki_showSides_48 ?_
  refine z_iconst (pc := 51) C d_Ki_showSides_51 ki_1 ?_
  obtain ⟨σ17, e18, hm⟩ := bv_s hm
  refine z_callV (pc := 52) C (k_Ki_show hAD e18) km_Ki_show mC_62 rfl rfl oC_3 rfl (kR_of (Nat.le_of_ble_eq_true rfl) (Nat.le_of_ble_eq_true rfl)) rfl (Nat.le_of_ble_eq_true rfl) d_Ki_showSides_52 ?_
  exact z_vretE (pc := 55) C hr hm d_Ki_showSides_55
set_option maxHeartbeats 4000000 in
set_option maxRecDepth 100000 in
theorem w_Ki_closeGroup_38 {D : va_G} {ad : Nat → Nat} {cA : Nat → ClassId} {p : Program} {l : Launch} {e : Env} {s : State} {m : MethodId} {args : Array Value} {below : List Frame} {meth : Method} {c : Code} {F : Nat} (hAD : ∀ σ, va_D (owC ad) (wdC ad cA σ)) (C : CC D ad cA (sXC ad) p s m args meth c bc_Ki_closeGroup "KindRounds$Kinds" 2) (hr : meth.sig.returnType = none) {σ' : zS} (rc5 : zS → Int32 → Option zS) (h5 : ∀ σ x1, rc5 σ x1 = some σ' → ZC D ad cA p l e (rmK 1) s m args below meth c 2 (qvC D ad cA below args s σ') 5 [(0, .ref (ad 3)), (1, .int x1)] [] σ) (σ : zS) (x1 : Int32) (hm : Ki_closeGroup_38 F rc5 σ x1 = some σ') : ZC D ad cA p l e (rmK 1) s m args below meth c 2 (qvC D ad cA below args s σ') 38 [(0, .ref (ad 3)), (1, .int x1)] [] σ := by
  unfold Ki_closeGroup_38 at hm
  refine z_iinc (pc := 38) (lv' := [(0, .ref (ad 3)), (1, .int (x1 + (1 : Int32)))]) C d_Ki_closeGroup_38 1 rfl (ii ki_1) (Nat.le_of_ble_eq_true rfl) [1, 0] rfl ?_
  refine z_goto (pc := 41) (tgt := 5) C d_Ki_closeGroup_41 (by decide) ?_
  exact h5 σ (x1 + (1 : Int32)) hm
set_option maxHeartbeats 4000000 in
set_option maxRecDepth 100000 in
theorem w_Ki_closeGroup_5 {D : va_G} {ad : Nat → Nat} {cA : Nat → ClassId} {p : Program} {l : Launch} {e : Env} {s : State} {m : MethodId} {args : Array Value} {below : List Frame} {meth : Method} {c : Code} {F : Nat} (hAD : ∀ σ, va_D (owC ad) (wdC ad cA σ)) (C : CC D ad cA (sXC ad) p s m args meth c bc_Ki_closeGroup "KindRounds$Kinds" 2) (hr : meth.sig.returnType = none) {σ' : zS} : ∀ (n : Nat) (σ : zS) (x1 : Int32), Ki_closeGroup_5 F n σ x1 = some σ' → ZC D ad cA p l e (rmK 1) s m args below meth c 2 (qvC D ad cA below args s σ') 5 [(0, .ref (ad 3)), (1, .int x1)] [] σ := by
  intro n
  induction n with
  | zero => intro σ x1 hm; cases hm
  | succ n h5 =>
    intro σ x1 hm
    have hm : Ki_closeGroup_b5 F (Ki_closeGroup_5 F n) σ x1 = some σ' := hm
    unfold Ki_closeGroup_b5 at hm
    refine z_iload_n (pc := 5) C d_Ki_closeGroup_5 rfl 1 rfl ?_
    refine z_aload_n (pc := 6) C d_Ki_closeGroup_6 rfl 0 rfl ?_
    refine gC_Ki_30 (pc := 7) (v := (gi σ 306)) C rfl d_Ki_closeGroup_7 ?_
    refine z_icmp_ge (pc := 10) (tgt := 44) C d_Ki_closeGroup_10 (by decide) (fun c1 => ?_) (fun c1 => ?_)
    · rw [if_pos c1] at hm
      refine z_aload_n (pc := 44) C d_Ki_closeGroup_44 rfl 0 rfl ?_
      refine z_aload_n (pc := 45) C d_Ki_closeGroup_45 rfl 0 rfl ?_
      refine gC_Ki_30 (pc := 46) (v := (gi σ 306)) C rfl d_Ki_closeGroup_46 ?_
      refine pC_Ki_34 (pc := 49) C  d_Ki_closeGroup_49 ?_
      exact z_vretE (pc := 52) C hr hm d_Ki_closeGroup_52
    · rw [if_neg c1] at hm
      refine z_aload_n (pc := 13) C d_Ki_closeGroup_13 rfl 0 rfl ?_
      refine z_iload_n (pc := 14) C d_Ki_closeGroup_14 rfl 1 rfl ?_
      obtain ⟨r3, σ2, e4, hm⟩ := bi_s hm
      refine z_callI (pc := 15) C (k_Ki_isOpen hAD e4) km_Ki_isOpen mC_51 rfl rfl oC_3 rfl (kR_of (Nat.le_of_ble_eq_true rfl) (Nat.le_of_ble_eq_true rfl)) rfl (Nat.le_of_ble_eq_true rfl) d_Ki_closeGroup_15 ?_
      refine z_if_eq (pc := 18) (tgt := 38) C d_Ki_closeGroup_18 (by decide) (fun c5 => ?_) (fun c5 => ?_)
      · rw [if_pos c5] at hm
        exact w_Ki_closeGroup_38 hAD C hr _ h5 σ2 x1 hm
      · rw [if_neg c5] at hm
        refine z_aload_n (pc := 21) C d_Ki_closeGroup_21 rfl 0 rfl ?_
        refine gC_Ki_18 (pc := 22) C  d_Ki_closeGroup_22 ?_
        refine z_iload_n (pc := 25) C d_Ki_closeGroup_25 rfl 1 rfl ?_
        obtain ⟨g6, hm⟩ := gd_s hm
        refine alC_25 (pc := 26) (v := (ga σ2 25 x1.toNatClampNeg)) C  rfl g6 d_Ki_closeGroup_26 ?_
        refine z_iconst (pc := 27) C d_Ki_closeGroup_27 ki_m1 ?_
        refine z_icmp_ne (pc := 28) (tgt := 38) C d_Ki_closeGroup_28 (by decide) (fun c7 => ?_) (fun c7 => ?_)
        · rw [if_neg c7] at hm
          exact w_Ki_closeGroup_38 hAD C hr _ h5 σ2 x1 hm
        · rw [if_pos c7] at hm
          refine z_aload_n (pc := 31) C d_Ki_closeGroup_31 rfl 0 rfl ?_
          refine gC_Ki_18 (pc := 32) C  d_Ki_closeGroup_32 ?_
          refine z_iload_n (pc := 35) C d_Ki_closeGroup_35 rfl 1 rfl ?_
          refine z_iconst (pc := 36) C d_Ki_closeGroup_36 ki_0 ?_
          refine asC_25 (pc := 37) C  g6 d_Ki_closeGroup_37 ?_
          exact w_Ki_closeGroup_38 hAD C hr _ h5 (sa σ2 25 x1.toNatClampNeg (0 : Int32)) x1 hm
set_option maxHeartbeats 4000000 in
set_option maxRecDepth 100000 in
theorem k_Ki_closeGroup {l : Launch} {D : va_G} {ad : Nat → Nat} {cA : Nat → ClassId} {F : Nat} (hAD : ∀ σ, va_D (owC ad) (wdC ad cA σ)) {σ : zS} {σ' : zS} (hm : Ki_closeGroup F σ = some σ') : kVC l D ad cA (sXC ad) y_Ki_closeGroup bc_Ki_closeGroup 2 1 [.ref (ad 3)] σ σ' := by
  refine kV_of (by decide) hAD sXC_P (Nat.le_of_ble_eq_true rfl) ?_
  intro p e s m below meth c C hr
  unfold Ki_closeGroup at hm
  refine z_lv (lv' := [(0, .ref (ad 3))]) [0] rfl ?_
  refine z_aload_n (pc := 0) C d_Ki_closeGroup_0 rfl 0 rfl ?_
  refine gC_Ki_34 (pc := 1) (v := (gi σ 307)) C rfl d_Ki_closeGroup_1 ?_
  refine z_istore_n (pc := 4) (lv' := [(0, .ref (ad 3)), (1, .int (gi σ 307))]) C d_Ki_closeGroup_4 rfl (Nat.le_of_ble_eq_true rfl) [1, 0] rfl ?_
  exact w_Ki_closeGroup_5 hAD C hr F σ (gi σ 307) hm
set_option maxHeartbeats 4000000 in
set_option maxRecDepth 100000 in
theorem k_Ki_dropAsked {l : Launch} {D : va_G} {ad : Nat → Nat} {cA : Nat → ClassId} {F : Nat} (hAD : ∀ σ, va_D (owC ad) (wdC ad cA σ)) {σ : zS} {σ' : zS} (hm : Ki_dropAsked F σ = some σ') : kVC l D ad cA (sXC ad) y_Ki_dropAsked bc_Ki_dropAsked 1 0 [.ref (ad 3)] σ σ' := by
  refine kV_of (by decide) hAD sXC_P (Nat.le_of_ble_eq_true rfl) ?_
  intro p e s m below meth c C hr
  unfold Ki_dropAsked at hm
  refine z_lv (lv' := [(0, .ref (ad 3))]) [0] rfl ?_
  refine z_aload_n (pc := 0) C d_Ki_dropAsked_0 rfl 0 rfl ?_
  refine z_aload_n (pc := 1) C d_Ki_dropAsked_1 rfl 0 rfl ?_
  refine gC_Ki_34 (pc := 2) (v := (gi σ 307)) C rfl d_Ki_dropAsked_2 ?_
  refine pC_Ki_30 (pc := 5) C  d_Ki_dropAsked_5 ?_
  exact z_vretE (pc := 8) C hr hm d_Ki_dropAsked_8
