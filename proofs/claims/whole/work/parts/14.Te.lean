/-! Walks of Te. Written by program (wip/gen). -/
set_option maxHeartbeats 4000000 in
set_option maxRecDepth 100000 in
theorem k_Te_clear {l : Launch} {D : va_G} {ad : Nat → Nat} {cA : Nat → ClassId} {F : Nat} (hAD : ∀ σ, va_D (owC ad) (wdC ad cA σ)) {σ : zS} {σ' : zS} (hm : Te_clear F σ = some σ') : kVC l D ad cA (sXC ad) y_Te_clear bc_Te_clear 1 1 [.ref (ad 4)] σ σ' := by
  refine kV_of (by decide) hAD sXC_P (Nat.le_of_ble_eq_true rfl) ?_
  intro p e s m below meth c C hr
  unfold Te_clear at hm
  refine z_lv (lv' := [(0, .ref (ad 4))]) [0] rfl ?_
  refine z_aload_n (pc := 0) C d_Te_clear_0 rfl 0 rfl ?_
  refine z_iconst (pc := 1) C d_Te_clear_1 ki_0 ?_
  refine pC_Te_62 (pc := 2) C  d_Te_clear_2 ?_
  refine z_aload_n (pc := 5) C d_Te_clear_5 rfl 0 rfl ?_
  refine z_iconst (pc := 6) C d_Te_clear_6 ki_0 ?_
  refine pC_Te_66 (pc := 7) C  d_Te_clear_7 ?_
  refine z_aload_n (pc := 10) C d_Te_clear_10 rfl 0 rfl ?_
  refine gC_Te_58 (pc := 11) C  d_Te_clear_11 ?_
  obtain ⟨g2, hm⟩ := gd_s hm
  obtain ⟨σ1, e3, hm⟩ := bv_s hm
  refine z_callVN (pc := 14) C (k_Ro_clear hAD e3) km_Ro_clear mC_87 rfl rfl (oC_Ro g2) rfl (kR_of (Nat.le_of_ble_eq_true rfl) (Nat.le_of_ble_eq_true rfl)) rfl (Nat.le_of_ble_eq_true rfl) d_Te_clear_14 ?_
  exact z_vretE (pc := 17) C hr hm d_Te_clear_17
set_option maxHeartbeats 4000000 in
set_option maxRecDepth 100000 in
theorem w_Te_has_17 {D : va_G} {ad : Nat → Nat} {cA : Nat → ClassId} {p : Program} {l : Launch} {e : Env} {s : State} {m : MethodId} {args : Array Value} {below : List Frame} {meth : Method} {c : Code} {F : Nat} (hAD : ∀ σ, va_D (owC ad) (wdC ad cA σ)) (C : CC D ad cA (sXC ad) p s m args meth c bc_Te_has "KindRounds$Text" 2) (hr : meth.sig.returnType = some .boolean) {r : Int32} {σ' : zS} (σ : zS) (s0 : Int32) (hm : Te_has_17 F σ s0 = some (r, σ')) : ZC D ad cA p l e (rmK 0) s m args below meth c 2 (qiC D ad cA below args s r σ') 17 [] [.int s0] σ := by
  unfold Te_has_17 at hm
  obtain ⟨g1, hm⟩ := gd_s hm
  exact z_zretE (pc := 17) C hr g1 hm d_Te_has_17
set_option maxHeartbeats 4000000 in
set_option maxRecDepth 100000 in
theorem w_Te_has_16 {D : va_G} {ad : Nat → Nat} {cA : Nat → ClassId} {p : Program} {l : Launch} {e : Env} {s : State} {m : MethodId} {args : Array Value} {below : List Frame} {meth : Method} {c : Code} {F : Nat} (hAD : ∀ σ, va_D (owC ad) (wdC ad cA σ)) (C : CC D ad cA (sXC ad) p s m args meth c bc_Te_has "KindRounds$Text" 2) (hr : meth.sig.returnType = some .boolean) {r : Int32} {σ' : zS} (σ : zS) (hm : Te_has_16 F σ = some (r, σ')) : ZC D ad cA p l e (rmK 0) s m args below meth c 2 (qiC D ad cA below args s r σ') 16 [] [] σ := by
  unfold Te_has_16 at hm
  refine z_iconst (pc := 16) C d_Te_has_16 ki_0 ?_
  exact w_Te_has_17 hAD C hr σ (0 : Int32) hm
set_option maxHeartbeats 4000000 in
set_option maxRecDepth 100000 in
theorem k_Te_has {l : Launch} {D : va_G} {ad : Nat → Nat} {cA : Nat → ClassId} {F : Nat} (hAD : ∀ σ, va_D (owC ad) (wdC ad cA σ)) {σ : zS} {x1 : Int32} {r : Int32} {σ' : zS} (hm : Te_has F σ x1 = some (r, σ')) : kIC l D ad cA (sXC ad) y_Te_has bc_Te_has 2 .boolean 0 [.ref (ad 4), .int x1] σ r σ' := by
  refine kI_of (by decide) hAD sXC_P (Nat.le_of_ble_eq_true rfl) ?_
  intro p e s m below meth c C hr
  unfold Te_has at hm
  refine z_lv (lv' := [(0, .ref (ad 4)), (1, .int x1)]) [0, 1] rfl ?_
  refine z_iload_n (pc := 0) C d_Te_has_0 rfl 1 rfl ?_
  refine z_if_lt (pc := 1) (tgt := 16) C d_Te_has_1 (by decide) (fun c1 => ?_) (fun c1 => ?_)
  · rw [if_pos c1] at hm
    refine z_lv (lv' := []) [] rfl ?_
    exact w_Te_has_16 hAD C hr σ hm
  · rw [if_neg c1] at hm
    refine z_iload_n (pc := 4) C d_Te_has_4 rfl 1 rfl ?_
    refine z_aload_n (pc := 5) C d_Te_has_5 rfl 0 rfl ?_
    refine gC_Te_62 (pc := 6) (v := (gi σ 400)) C rfl d_Te_has_6 ?_
    refine z_icmp_ge (pc := 9) (tgt := 16) C d_Te_has_9 (by decide) (fun c2 => ?_) (fun c2 => ?_)
    · rw [if_pos c2] at hm
      refine z_lv (lv' := []) [] rfl ?_
      exact w_Te_has_16 hAD C hr σ hm
    · rw [if_neg c2] at hm
      refine z_iconst (pc := 12) C d_Te_has_12 ki_1 ?_
      refine z_goto (pc := 13) (tgt := 17) C d_Te_has_13 (by decide) ?_
      refine z_lv (lv' := []) [] rfl ?_
      exact w_Te_has_17 hAD C hr σ (1 : Int32) hm
set_option maxHeartbeats 4000000 in
set_option maxRecDepth 100000 in
theorem w_Te_declare_90 {D : va_G} {ad : Nat → Nat} {cA : Nat → ClassId} {p : Program} {l : Launch} {e : Env} {s : State} {m : MethodId} {args : Array Value} {below : List Frame} {meth : Method} {c : Code} {F : Nat} (hAD : ∀ σ, va_D (owC ad) (wdC ad cA σ)) (C : CC D ad cA (sXC ad) p s m args meth c bc_Te_declare "KindRounds$Text" 5) (hr : meth.sig.returnType = none) {σ' : zS} (σ : zS) (hm : Te_declare_90 F σ = some σ') : ZC D ad cA p l e (rmK 0) s m args below meth c 5 (qvC D ad cA below args s σ') 90 [] [] σ := by
  unfold Te_declare_90 at hm
  exact z_vretE (pc := 90) C hr hm d_Te_declare_90
set_option maxHeartbeats 4000000 in
set_option maxRecDepth 100000 in
theorem k_Te_declare {l : Launch} {D : va_G} {ad : Nat → Nat} {cA : Nat → ClassId} {F : Nat} (hAD : ∀ σ, va_D (owC ad) (wdC ad cA σ)) {σ : zS} {x1 : Int32} {x2 : Int64} {x4 : Int32} {σ' : zS} (hm : Te_declare F σ x1 x2 x4 = some σ') : kVC l D ad cA (sXC ad) y_Te_declare bc_Te_declare 5 0 [.ref (ad 4), .int x1, .long x2, .int x4] σ σ' := by
  refine kV_of (by decide) hAD sXC_P (Nat.le_of_ble_eq_true rfl) ?_
  intro p e s m below meth c C hr
  unfold Te_declare at hm
  refine z_lv (lv' := [(0, .ref (ad 4)), (1, .int x1), (2, .long x2), (4, .int x4)]) [0, 1, 2, 3] rfl ?_
  refine z_aload_n (pc := 0) C d_Te_declare_0 rfl 0 rfl ?_
  refine gC_Te_62 (pc := 1) (v := (gi σ 400)) C rfl d_Te_declare_1 ?_
  refine z_bipush (pc := 4) C d_Te_declare_4 kb_16 ?_
  refine z_icmp_ge (pc := 6) (tgt := 90) C d_Te_declare_6 (by decide) (fun c1 => ?_) (fun c1 => ?_)
  · rw [if_pos c1] at hm
    refine z_lv (lv' := []) [] rfl ?_
    exact w_Te_declare_90 hAD C hr σ hm
  · rw [if_neg c1] at hm
    refine z_aload_n (pc := 9) C d_Te_declare_9 rfl 0 rfl ?_
    refine gC_Te_9 (pc := 10) C  d_Te_declare_10 ?_
    refine z_aload_n (pc := 13) C d_Te_declare_13 rfl 0 rfl ?_
    refine gC_Te_62 (pc := 14) (v := (gi σ 400)) C rfl d_Te_declare_14 ?_
    refine z_iload_n (pc := 17) C d_Te_declare_17 rfl 1 rfl ?_
    obtain ⟨g2, hm⟩ := gd_s hm
    refine asC_29 (pc := 18) C  g2 d_Te_declare_18 ?_
    refine z_aload_n (pc := 19) C d_Te_declare_19 rfl 0 rfl ?_
    refine gC_Te_15 (pc := 20) C  d_Te_declare_20 ?_
    refine z_aload_n (pc := 23) C d_Te_declare_23 rfl 0 rfl ?_
    refine gC_Te_62 (pc := 24) (v := (gi σ 400)) C rfl d_Te_declare_24 ?_
    refine z_lload_n (pc := 27) C d_Te_declare_27 rfl 2 rfl ?_
    refine asC_30 (pc := 28) C  g2 d_Te_declare_28 ?_
    refine z_aload_n (pc := 29) C d_Te_declare_29 rfl 0 rfl ?_
    refine gC_Te_19 (pc := 30) C  d_Te_declare_30 ?_
    refine z_aload_n (pc := 33) C d_Te_declare_33 rfl 0 rfl ?_
    refine gC_Te_62 (pc := 34) (v := (gi σ 400)) C rfl d_Te_declare_34 ?_
    refine z_iload (pc := 37) C d_Te_declare_37 3 rfl ?_
    refine asC_31 (pc := 39) C  g2 d_Te_declare_39 ?_
    refine z_aload_n (pc := 40) C d_Te_declare_40 rfl 0 rfl ?_
    refine gC_Te_22 (pc := 41) C  d_Te_declare_41 ?_
    refine z_aload_n (pc := 44) C d_Te_declare_44 rfl 0 rfl ?_
    refine gC_Te_62 (pc := 45) (v := (gi σ 400)) C rfl d_Te_declare_45 ?_
    refine z_iconst (pc := 48) C d_Te_declare_48 ki_0 ?_
    refine asC_32 (pc := 49) C  g2 d_Te_declare_49 ?_
    refine z_aload_n (pc := 50) C d_Te_declare_50 rfl 0 rfl ?_
    refine gC_Te_28 (pc := 51) C  d_Te_declare_51 ?_
    refine z_aload_n (pc := 54) C d_Te_declare_54 rfl 0 rfl ?_
    refine gC_Te_62 (pc := 55) (v := (gi σ 400)) C rfl d_Te_declare_55 ?_
    refine z_iconst (pc := 58) C d_Te_declare_58 ki_0 ?_
    refine asC_34 (pc := 59) C  g2 d_Te_declare_59 ?_
    refine z_aload_n (pc := 60) C d_Te_declare_60 rfl 0 rfl ?_
    refine gC_Te_31 (pc := 61) C  d_Te_declare_61 ?_
    refine z_aload_n (pc := 64) C d_Te_declare_64 rfl 0 rfl ?_
    refine gC_Te_62 (pc := 65) (v := (gi σ 400)) C rfl d_Te_declare_65 ?_
    refine z_iconst (pc := 68) C d_Te_declare_68 ki_0 ?_
    refine asC_35 (pc := 69) C  g2 d_Te_declare_69 ?_
    refine z_aload_n (pc := 70) C d_Te_declare_70 rfl 0 rfl ?_
    refine gC_Te_37 (pc := 71) C  d_Te_declare_71 ?_
    refine z_aload_n (pc := 74) C d_Te_declare_74 rfl 0 rfl ?_
    refine gC_Te_62 (pc := 75) (v := (gi σ 400)) C rfl d_Te_declare_75 ?_
    refine z_iconst (pc := 78) C d_Te_declare_78 ki_0 ?_
    refine asC_37 (pc := 79) C  g2 d_Te_declare_79 ?_
    refine z_aload_n (pc := 80) C d_Te_declare_80 rfl 0 rfl ?_
    refine z_dup (pc := 81) C d_Te_declare_81 rfl ?_
    refine gC_Te_62 (pc := 82) (v := (gi σ 400)) C rfl d_Te_declare_82 ?_
    refine z_iconst (pc := 85) C d_Te_declare_85 ki_1 ?_
    refine z_iadd (pc := 86) C d_Te_declare_86 ?_
    refine pC_Te_62 (pc := 87) C  d_Te_declare_87 ?_
    refine z_lv (lv' := []) [] rfl ?_
    exact w_Te_declare_90 hAD C hr (si (sa (sa (sa (sa (sa (sb (sa σ 29 (gi σ 400).toNatClampNeg x1) 30 (gi σ 400).toNatClampNeg x2) 31 (gi σ 400).toNatClampNeg x4) 32 (gi σ 400).toNatClampNeg (0 : Int32)) 34 (gi σ 400).toNatClampNeg (0 : Int32)) 35 (gi σ 400).toNatClampNeg (0 : Int32)) 37 (gi σ 400).toNatClampNeg (0 : Int32)) 400 ((gi σ 400) + (1 : Int32))) hm
set_option maxHeartbeats 4000000 in
set_option maxRecDepth 100000 in
theorem w_Te_addParam_36 {D : va_G} {ad : Nat → Nat} {cA : Nat → ClassId} {p : Program} {l : Launch} {e : Env} {s : State} {m : MethodId} {args : Array Value} {below : List Frame} {meth : Method} {c : Code} {F : Nat} (hAD : ∀ σ, va_D (owC ad) (wdC ad cA σ)) (C : CC D ad cA (sXC ad) p s m args meth c bc_Te_addParam "KindRounds$Text" 4) (hr : meth.sig.returnType = none) {σ' : zS} (σ : zS) (hm : Te_addParam_36 F σ = some σ') : ZC D ad cA p l e (rmK 0) s m args below meth c 4 (qvC D ad cA below args s σ') 36 [] [] σ := by
  unfold Te_addParam_36 at hm
  exact z_vretE (pc := 36) C hr hm d_Te_addParam_36
set_option maxHeartbeats 4000000 in
set_option maxRecDepth 100000 in
theorem k_Te_addParam {l : Launch} {D : va_G} {ad : Nat → Nat} {cA : Nat → ClassId} {F : Nat} (hAD : ∀ σ, va_D (owC ad) (wdC ad cA σ)) {σ : zS} {x1 : Int32} {x2 : Int64} {σ' : zS} (hm : Te_addParam F σ x1 x2 = some σ') : kVC l D ad cA (sXC ad) y_Te_addParam bc_Te_addParam 4 0 [.ref (ad 4), .int x1, .long x2] σ σ' := by
  refine kV_of (by decide) hAD sXC_P (Nat.le_of_ble_eq_true rfl) ?_
  intro p e s m below meth c C hr
  unfold Te_addParam at hm
  refine z_lv (lv' := [(0, .ref (ad 4)), (1, .int x1), (2, .long x2)]) [0, 1, 2] rfl ?_
  refine z_aload_n (pc := 0) C d_Te_addParam_0 rfl 0 rfl ?_
  refine gC_Te_22 (pc := 1) C  d_Te_addParam_1 ?_
  refine z_iload_n (pc := 4) C d_Te_addParam_4 rfl 1 rfl ?_
  obtain ⟨g1, hm⟩ := gd_s hm
  refine alC_32 (pc := 5) (v := (ga σ 32 x1.toNatClampNeg)) C  rfl g1 d_Te_addParam_5 ?_
  refine z_iconst (pc := 6) C d_Te_addParam_6 ki_3 ?_
  refine z_icmp_ge (pc := 7) (tgt := 36) C d_Te_addParam_7 (by decide) (fun c2 => ?_) (fun c2 => ?_)
  · rw [if_pos c2] at hm
    refine z_lv (lv' := []) [] rfl ?_
    exact w_Te_addParam_36 hAD C hr σ hm
  · rw [if_neg c2] at hm
    refine z_aload_n (pc := 10) C d_Te_addParam_10 rfl 0 rfl ?_
    refine gC_Te_25 (pc := 11) C  d_Te_addParam_11 ?_
    refine z_iload_n (pc := 14) C d_Te_addParam_14 rfl 1 rfl ?_
    refine z_iconst (pc := 15) C d_Te_addParam_15 ki_3 ?_
    refine z_imul (pc := 16) C d_Te_addParam_16 ?_
    refine z_aload_n (pc := 17) C d_Te_addParam_17 rfl 0 rfl ?_
    refine gC_Te_22 (pc := 18) C  d_Te_addParam_18 ?_
    refine z_iload_n (pc := 21) C d_Te_addParam_21 rfl 1 rfl ?_
    refine alC_32 (pc := 22) (v := (ga σ 32 x1.toNatClampNeg)) C  rfl g1 d_Te_addParam_22 ?_
    refine z_iadd (pc := 23) C d_Te_addParam_23 ?_
    refine z_lload_n (pc := 24) C d_Te_addParam_24 rfl 2 rfl ?_
    obtain ⟨g3, hm⟩ := gd_s hm
    refine asC_33 (pc := 25) C  g3 d_Te_addParam_25 ?_
    refine z_aload_n (pc := 26) C d_Te_addParam_26 rfl 0 rfl ?_
    refine gC_Te_22 (pc := 27) C  d_Te_addParam_27 ?_
    refine z_iload_n (pc := 30) C d_Te_addParam_30 rfl 1 rfl ?_
    refine z_dup2 (pc := 31) C d_Te_addParam_31 rfl rfl ?_
    refine alC_32 (pc := 32) (v := (ga σ 32 x1.toNatClampNeg)) C  rfl g1 d_Te_addParam_32 ?_
    refine z_iconst (pc := 33) C d_Te_addParam_33 ki_1 ?_
    refine z_iadd (pc := 34) C d_Te_addParam_34 ?_
    refine asC_32 (pc := 35) C  g1 d_Te_addParam_35 ?_
    refine z_lv (lv' := []) [] rfl ?_
    exact w_Te_addParam_36 hAD C hr (sa (sb σ 33 ((x1 * (3 : Int32)) + (ga σ 32 x1.toNatClampNeg)).toNatClampNeg x2) 32 x1.toNatClampNeg ((ga σ 32 x1.toNatClampNeg) + (1 : Int32))) hm
set_option maxHeartbeats 4000000 in
set_option maxRecDepth 100000 in
theorem w_Te_findType_33 {D : va_G} {ad : Nat → Nat} {cA : Nat → ClassId} {p : Program} {l : Launch} {e : Env} {s : State} {m : MethodId} {args : Array Value} {below : List Frame} {meth : Method} {c : Code} {F : Nat} (hAD : ∀ σ, va_D (owC ad) (wdC ad cA σ)) (C : CC D ad cA (sXC ad) p s m args meth c bc_Te_findType "KindRounds$Text" 4) (hr : meth.sig.returnType = some .int) {r : Int32} {σ' : zS} (rc2 : zS → Int64 → Int32 → Option (Int32 × zS)) (h2 : ∀ σ x1 x3, rc2 σ x1 x3 = some (r, σ') → ZC D ad cA p l e (rmK 0) s m args below meth c 4 (qiC D ad cA below args s r σ') 2 [(0, .ref (ad 4)), (1, .long x1), (3, .int x3)] [] σ) (σ : zS) (x1 : Int64) (x3 : Int32) (hm : Te_findType_33 F rc2 σ x1 x3 = some (r, σ')) : ZC D ad cA p l e (rmK 0) s m args below meth c 4 (qiC D ad cA below args s r σ') 33 [(0, .ref (ad 4)), (1, .long x1), (3, .int x3)] [] σ := by
  unfold Te_findType_33 at hm
  refine z_iinc (pc := 33) (lv' := [(0, .ref (ad 4)), (1, .long x1), (3, .int (x3 + (1 : Int32)))]) C d_Te_findType_33 2 rfl (ii ki_1) (Nat.le_of_ble_eq_true rfl) [1, 2, 0] rfl ?_
  refine z_goto (pc := 36) (tgt := 2) C d_Te_findType_36 (by decide) ?_
  exact h2 σ x1 (x3 + (1 : Int32)) hm
set_option maxHeartbeats 4000000 in
set_option maxRecDepth 100000 in
theorem w_Te_findType_2 {D : va_G} {ad : Nat → Nat} {cA : Nat → ClassId} {p : Program} {l : Launch} {e : Env} {s : State} {m : MethodId} {args : Array Value} {below : List Frame} {meth : Method} {c : Code} {F : Nat} (hAD : ∀ σ, va_D (owC ad) (wdC ad cA σ)) (C : CC D ad cA (sXC ad) p s m args meth c bc_Te_findType "KindRounds$Text" 4) (hr : meth.sig.returnType = some .int) {r : Int32} {σ' : zS} : ∀ (n : Nat) (σ : zS) (x1 : Int64) (x3 : Int32), Te_findType_2 F n σ x1 x3 = some (r, σ') → ZC D ad cA p l e (rmK 0) s m args below meth c 4 (qiC D ad cA below args s r σ') 2 [(0, .ref (ad 4)), (1, .long x1), (3, .int x3)] [] σ := by
  intro n
  induction n with
  | zero => intro σ x1 x3 hm; cases hm
  | succ n h2 =>
    intro σ x1 x3 hm
    have hm : Te_findType_b2 F (Te_findType_2 F n) σ x1 x3 = some (r, σ') := hm
    unfold Te_findType_b2 at hm
    refine z_iload_n (pc := 2) C d_Te_findType_2 rfl 2 rfl ?_
    refine z_aload_n (pc := 3) C d_Te_findType_3 rfl 0 rfl ?_
    refine gC_Te_62 (pc := 4) (v := (gi σ 400)) C rfl d_Te_findType_4 ?_
    refine z_icmp_ge (pc := 7) (tgt := 39) C d_Te_findType_7 (by decide) (fun c1 => ?_) (fun c1 => ?_)
    · rw [if_pos c1] at hm
      refine z_iconst (pc := 39) C d_Te_findType_39 ki_m1 ?_
      exact z_iretE (pc := 40) C hr hm d_Te_findType_40
    · rw [if_neg c1] at hm
      refine z_aload_n (pc := 10) C d_Te_findType_10 rfl 0 rfl ?_
      refine gC_Te_15 (pc := 11) C  d_Te_findType_11 ?_
      refine z_iload_n (pc := 14) C d_Te_findType_14 rfl 2 rfl ?_
      obtain ⟨g2, hm⟩ := gd_s hm
      refine alC_30 (pc := 15) (v := (gb σ 30 x3.toNatClampNeg)) C  rfl g2 d_Te_findType_15 ?_
      refine z_lload_n (pc := 16) C d_Te_findType_16 rfl 1 rfl ?_
      refine z_lcmp (pc := 17) C d_Te_findType_17 ?_
      refine z_if_ne (pc := 18) (tgt := 33) C d_Te_findType_18 (by decide) (fun c3 => ?_) (fun c3 => ?_)
      · rw [if_neg c3] at hm
        exact w_Te_findType_33 hAD C hr _ h2 σ x1 x3 hm
      · rw [if_pos c3] at hm
        refine z_aload_n (pc := 21) C d_Te_findType_21 rfl 0 rfl ?_
        refine gC_Te_9 (pc := 22) C  d_Te_findType_22 ?_
        refine z_iload_n (pc := 25) C d_Te_findType_25 rfl 2 rfl ?_
        refine alC_29 (pc := 26) (v := (ga σ 29 x3.toNatClampNeg)) C  rfl g2 d_Te_findType_26 ?_
        refine z_iconst (pc := 27) C d_Te_findType_27 ki_2 ?_
        refine z_icmp_eq (pc := 28) (tgt := 33) C d_Te_findType_28 (by decide) (fun c4 => ?_) (fun c4 => ?_)
        · rw [if_pos c4] at hm
          exact w_Te_findType_33 hAD C hr _ h2 σ x1 x3 hm
        · rw [if_neg c4] at hm
          refine z_iload_n (pc := 31) C d_Te_findType_31 rfl 2 rfl ?_
          exact z_iretE (pc := 32) C hr hm d_Te_findType_32
set_option maxHeartbeats 4000000 in
set_option maxRecDepth 100000 in
theorem k_Te_findType {l : Launch} {D : va_G} {ad : Nat → Nat} {cA : Nat → ClassId} {F : Nat} (hAD : ∀ σ, va_D (owC ad) (wdC ad cA σ)) {σ : zS} {x1 : Int64} {r : Int32} {σ' : zS} (hm : Te_findType F σ x1 = some (r, σ')) : kIC l D ad cA (sXC ad) y_Te_findType bc_Te_findType 4 .int 0 [.ref (ad 4), .long x1] σ r σ' := by
  refine kI_of (by decide) hAD sXC_P (Nat.le_of_ble_eq_true rfl) ?_
  intro p e s m below meth c C hr
  unfold Te_findType at hm
  refine z_lv (lv' := [(0, .ref (ad 4)), (1, .long x1)]) [0, 1] rfl ?_
  refine z_iconst (pc := 0) C d_Te_findType_0 ki_0 ?_
  refine z_istore_n (pc := 1) (lv' := [(0, .ref (ad 4)), (1, .long x1), (3, .int (0 : Int32))]) C d_Te_findType_1 rfl (Nat.le_of_ble_eq_true rfl) [1, 2, 0] rfl ?_
  exact w_Te_findType_2 hAD C hr F σ x1 (0 : Int32) hm
set_option maxHeartbeats 4000000 in
set_option maxRecDepth 100000 in
theorem w_Te_findDeclared_2 {D : va_G} {ad : Nat → Nat} {cA : Nat → ClassId} {p : Program} {l : Launch} {e : Env} {s : State} {m : MethodId} {args : Array Value} {below : List Frame} {meth : Method} {c : Code} {F : Nat} (hAD : ∀ σ, va_D (owC ad) (wdC ad cA σ)) (C : CC D ad cA (sXC ad) p s m args meth c bc_Te_findDeclared "KindRounds$Text" 4) (hr : meth.sig.returnType = some .int) {r : Int32} {σ' : zS} : ∀ (n : Nat) (σ : zS) (x1 : Int64) (x3 : Int32), Te_findDeclared_2 F n σ x1 x3 = some (r, σ') → ZC D ad cA p l e (rmK 0) s m args below meth c 4 (qiC D ad cA below args s r σ') 2 [(0, .ref (ad 4)), (1, .long x1), (3, .int x3)] [] σ := by
  intro n
  induction n with
  | zero => intro σ x1 x3 hm; cases hm
  | succ n h2 =>
    intro σ x1 x3 hm
    have hm : Te_findDeclared_b2 F (Te_findDeclared_2 F n) σ x1 x3 = some (r, σ') := hm
    unfold Te_findDeclared_b2 at hm
    refine z_iload_n (pc := 2) C d_Te_findDeclared_2 rfl 2 rfl ?_
    refine z_aload_n (pc := 3) C d_Te_findDeclared_3 rfl 0 rfl ?_
    refine gC_Te_62 (pc := 4) (v := (gi σ 400)) C rfl d_Te_findDeclared_4 ?_
    refine z_icmp_ge (pc := 7) (tgt := 29) C d_Te_findDeclared_7 (by decide) (fun c1 => ?_) (fun c1 => ?_)
    · rw [if_pos c1] at hm
      refine z_iconst (pc := 29) C d_Te_findDeclared_29 ki_m1 ?_
      exact z_iretE (pc := 30) C hr hm d_Te_findDeclared_30
    · rw [if_neg c1] at hm
      refine z_aload_n (pc := 10) C d_Te_findDeclared_10 rfl 0 rfl ?_
      refine gC_Te_15 (pc := 11) C  d_Te_findDeclared_11 ?_
      refine z_iload_n (pc := 14) C d_Te_findDeclared_14 rfl 2 rfl ?_
      obtain ⟨g2, hm⟩ := gd_s hm
      refine alC_30 (pc := 15) (v := (gb σ 30 x3.toNatClampNeg)) C  rfl g2 d_Te_findDeclared_15 ?_
      refine z_lload_n (pc := 16) C d_Te_findDeclared_16 rfl 1 rfl ?_
      refine z_lcmp (pc := 17) C d_Te_findDeclared_17 ?_
      refine z_if_ne (pc := 18) (tgt := 23) C d_Te_findDeclared_18 (by decide) (fun c3 => ?_) (fun c3 => ?_)
      · rw [if_neg c3] at hm
        refine z_iinc (pc := 23) (lv' := [(0, .ref (ad 4)), (1, .long x1), (3, .int (x3 + (1 : Int32)))]) C d_Te_findDeclared_23 2 rfl (ii ki_1) (Nat.le_of_ble_eq_true rfl) [1, 2, 0] rfl ?_
        refine z_goto (pc := 26) (tgt := 2) C d_Te_findDeclared_26 (by decide) ?_
        exact h2 σ x1 (x3 + (1 : Int32)) hm
      · rw [if_pos c3] at hm
        refine z_iload_n (pc := 21) C d_Te_findDeclared_21 rfl 2 rfl ?_
        exact z_iretE (pc := 22) C hr hm d_Te_findDeclared_22
set_option maxHeartbeats 4000000 in
set_option maxRecDepth 100000 in
theorem k_Te_findDeclared {l : Launch} {D : va_G} {ad : Nat → Nat} {cA : Nat → ClassId} {F : Nat} (hAD : ∀ σ, va_D (owC ad) (wdC ad cA σ)) {σ : zS} {x1 : Int64} {r : Int32} {σ' : zS} (hm : Te_findDeclared F σ x1 = some (r, σ')) : kIC l D ad cA (sXC ad) y_Te_findDeclared bc_Te_findDeclared 4 .int 0 [.ref (ad 4), .long x1] σ r σ' := by
  refine kI_of (by decide) hAD sXC_P (Nat.le_of_ble_eq_true rfl) ?_
  intro p e s m below meth c C hr
  unfold Te_findDeclared at hm
  refine z_lv (lv' := [(0, .ref (ad 4)), (1, .long x1)]) [0, 1] rfl ?_
  refine z_iconst (pc := 0) C d_Te_findDeclared_0 ki_0 ?_
  refine z_istore_n (pc := 1) (lv' := [(0, .ref (ad 4)), (1, .long x1), (3, .int (0 : Int32))]) C d_Te_findDeclared_1 rfl (Nat.le_of_ble_eq_true rfl) [1, 2, 0] rfl ?_
  exact w_Te_findDeclared_2 hAD C hr F σ x1 (0 : Int32) hm
set_option maxHeartbeats 4000000 in
set_option maxRecDepth 100000 in
theorem w_Te_findParam_3 {D : va_G} {ad : Nat → Nat} {cA : Nat → ClassId} {p : Program} {l : Launch} {e : Env} {s : State} {m : MethodId} {args : Array Value} {below : List Frame} {meth : Method} {c : Code} {F : Nat} (hAD : ∀ σ, va_D (owC ad) (wdC ad cA σ)) (C : CC D ad cA (sXC ad) p s m args meth c bc_Te_findParam "KindRounds$Text" 5) (hr : meth.sig.returnType = some .int) {r : Int32} {σ' : zS} : ∀ (n : Nat) (σ : zS) (x1 : Int32) (x2 : Int64) (x4 : Int32), Te_findParam_3 F n σ x1 x2 x4 = some (r, σ') → ZC D ad cA p l e (rmK 0) s m args below meth c 5 (qiC D ad cA below args s r σ') 3 [(0, .ref (ad 4)), (1, .int x1), (2, .long x2), (4, .int x4)] [] σ := by
  intro n
  induction n with
  | zero => intro σ x1 x2 x4 hm; cases hm
  | succ n h3 =>
    intro σ x1 x2 x4 hm
    have hm : Te_findParam_b3 F (Te_findParam_3 F n) σ x1 x2 x4 = some (r, σ') := hm
    unfold Te_findParam_b3 at hm
    refine z_iload (pc := 3) C d_Te_findParam_3 3 rfl ?_
    refine z_aload_n (pc := 5) C d_Te_findParam_5 rfl 0 rfl ?_
    refine gC_Te_22 (pc := 6) C  d_Te_findParam_6 ?_
    refine z_iload_n (pc := 9) C d_Te_findParam_9 rfl 1 rfl ?_
    obtain ⟨g1, hm⟩ := gd_s hm
    refine alC_32 (pc := 10) (v := (ga σ 32 x1.toNatClampNeg)) C  rfl g1 d_Te_findParam_10 ?_
    refine z_icmp_ge (pc := 11) (tgt := 39) C d_Te_findParam_11 (by decide) (fun c2 => ?_) (fun c2 => ?_)
    · rw [if_pos c2] at hm
      refine z_iconst (pc := 39) C d_Te_findParam_39 ki_m1 ?_
      exact z_iretE (pc := 40) C hr hm d_Te_findParam_40
    · rw [if_neg c2] at hm
      refine z_aload_n (pc := 14) C d_Te_findParam_14 rfl 0 rfl ?_
      refine gC_Te_25 (pc := 15) C  d_Te_findParam_15 ?_
      refine z_iload_n (pc := 18) C d_Te_findParam_18 rfl 1 rfl ?_
      refine z_iconst (pc := 19) C d_Te_findParam_19 ki_3 ?_
      refine z_imul (pc := 20) C d_Te_findParam_20 ?_
      refine z_iload (pc := 21) C d_Te_findParam_21 3 rfl ?_
      refine z_iadd (pc := 23) C d_Te_findParam_23 ?_
      obtain ⟨g3, hm⟩ := gd_s hm
      refine alC_33 (pc := 24) (v := (gb σ 33 ((x1 * (3 : Int32)) + x4).toNatClampNeg)) C  rfl g3 d_Te_findParam_24 ?_
      refine z_lload_n (pc := 25) C d_Te_findParam_25 rfl 2 rfl ?_
      refine z_lcmp (pc := 26) C d_Te_findParam_26 ?_
      refine z_if_ne (pc := 27) (tgt := 33) C d_Te_findParam_27 (by decide) (fun c4 => ?_) (fun c4 => ?_)
      · rw [if_neg c4] at hm
        refine z_iinc (pc := 33) (lv' := [(0, .ref (ad 4)), (1, .int x1), (2, .long x2), (4, .int (x4 + (1 : Int32)))]) C d_Te_findParam_33 3 rfl (ii ki_1) (Nat.le_of_ble_eq_true rfl) [1, 2, 3, 0] rfl ?_
        refine z_goto (pc := 36) (tgt := 3) C d_Te_findParam_36 (by decide) ?_
        exact h3 σ x1 x2 (x4 + (1 : Int32)) hm
      · rw [if_pos c4] at hm
        refine z_iload (pc := 30) C d_Te_findParam_30 3 rfl ?_
        exact z_iretE (pc := 32) C hr hm d_Te_findParam_32
set_option maxHeartbeats 4000000 in
set_option maxRecDepth 100000 in
theorem k_Te_findParam {l : Launch} {D : va_G} {ad : Nat → Nat} {cA : Nat → ClassId} {F : Nat} (hAD : ∀ σ, va_D (owC ad) (wdC ad cA σ)) {σ : zS} {x1 : Int32} {x2 : Int64} {r : Int32} {σ' : zS} (hm : Te_findParam F σ x1 x2 = some (r, σ')) : kIC l D ad cA (sXC ad) y_Te_findParam bc_Te_findParam 5 .int 0 [.ref (ad 4), .int x1, .long x2] σ r σ' := by
  refine kI_of (by decide) hAD sXC_P (Nat.le_of_ble_eq_true rfl) ?_
  intro p e s m below meth c C hr
  unfold Te_findParam at hm
  refine z_lv (lv' := [(0, .ref (ad 4)), (1, .int x1), (2, .long x2)]) [0, 1, 2] rfl ?_
  refine z_iconst (pc := 0) C d_Te_findParam_0 ki_0 ?_
  refine z_istore (pc := 1) (lv' := [(0, .ref (ad 4)), (1, .int x1), (2, .long x2), (4, .int (0 : Int32))]) C d_Te_findParam_1 (Nat.le_of_ble_eq_true rfl) [1, 2, 3, 0] rfl ?_
  exact w_Te_findParam_3 hAD C hr F σ x1 x2 (0 : Int32) hm
set_option maxHeartbeats 4000000 in
set_option maxRecDepth 100000 in
theorem w_Te_findSynonym_38 {D : va_G} {ad : Nat → Nat} {cA : Nat → ClassId} {p : Program} {l : Launch} {e : Env} {s : State} {m : MethodId} {args : Array Value} {below : List Frame} {meth : Method} {c : Code} {F : Nat} (hAD : ∀ σ, va_D (owC ad) (wdC ad cA σ)) (C : CC D ad cA (sXC ad) p s m args meth c bc_Te_findSynonym "KindRounds$Text" 5) (hr : meth.sig.returnType = some .int) {r : Int32} {σ' : zS} (σ : zS) (s0 : Int32) (hm : Te_findSynonym_38 F σ s0 = some (r, σ')) : ZC D ad cA p l e (rmK 1) s m args below meth c 5 (qiC D ad cA below args s r σ') 38 [] [.int s0] σ := by
  unfold Te_findSynonym_38 at hm
  exact z_iretE (pc := 38) C hr hm d_Te_findSynonym_38
set_option maxHeartbeats 4000000 in
set_option maxRecDepth 100000 in
theorem w_Te_findSynonym_37 {D : va_G} {ad : Nat → Nat} {cA : Nat → ClassId} {p : Program} {l : Launch} {e : Env} {s : State} {m : MethodId} {args : Array Value} {below : List Frame} {meth : Method} {c : Code} {F : Nat} (hAD : ∀ σ, va_D (owC ad) (wdC ad cA σ)) (C : CC D ad cA (sXC ad) p s m args meth c bc_Te_findSynonym "KindRounds$Text" 5) (hr : meth.sig.returnType = some .int) {r : Int32} {σ' : zS} (σ : zS) (hm : Te_findSynonym_37 F σ = some (r, σ')) : ZC D ad cA p l e (rmK 1) s m args below meth c 5 (qiC D ad cA below args s r σ') 37 [] [] σ := by
  unfold Te_findSynonym_37 at hm
  refine z_iconst (pc := 37) C d_Te_findSynonym_37 ki_m1 ?_
  exact w_Te_findSynonym_38 hAD C hr σ (-1 : Int32) hm
set_option maxHeartbeats 4000000 in
set_option maxRecDepth 100000 in
theorem w_Te_findSynonym_14 {D : va_G} {ad : Nat → Nat} {cA : Nat → ClassId} {p : Program} {l : Launch} {e : Env} {s : State} {m : MethodId} {args : Array Value} {below : List Frame} {meth : Method} {c : Code} {F : Nat} (hAD : ∀ σ, va_D (owC ad) (wdC ad cA σ)) (C : CC D ad cA (sXC ad) p s m args meth c bc_Te_findSynonym "KindRounds$Text" 5) (hr : meth.sig.returnType = some .int) {r : Int32} {σ' : zS} (σ : zS) (s0 : Int32) (hm : Te_findSynonym_14 F σ s0 = some (r, σ')) : ZC D ad cA p l e (rmK 1) s m args below meth c 5 (qiC D ad cA below args s r σ') 14 [(0, .ref (ad 4))] [.int s0] σ := by
  unfold Te_findSynonym_14 at hm
  refine z_istore (pc := 14) (lv' := [(0, .ref (ad 4)), (4, .int s0)]) C d_Te_findSynonym_14 (Nat.le_of_ble_eq_true rfl) [1, 0] rfl ?_
  refine z_iload (pc := 16) C d_Te_findSynonym_16 1 rfl ?_
  refine z_if_lt (pc := 18) (tgt := 37) C d_Te_findSynonym_18 (by decide) (fun c1 => ?_) (fun c1 => ?_)
  · rw [if_pos c1] at hm
    refine z_lv (lv' := []) [] rfl ?_
    exact w_Te_findSynonym_37 hAD C hr σ hm
  · rw [if_neg c1] at hm
    refine z_aload_n (pc := 21) C d_Te_findSynonym_21 rfl 0 rfl ?_
    refine gC_Te_9 (pc := 22) C  d_Te_findSynonym_22 ?_
    refine z_iload (pc := 25) C d_Te_findSynonym_25 1 rfl ?_
    obtain ⟨g2, hm⟩ := gd_s hm
    refine alC_29 (pc := 27) (v := (ga σ 29 s0.toNatClampNeg)) C  rfl g2 d_Te_findSynonym_27 ?_
    refine z_iconst (pc := 28) C d_Te_findSynonym_28 ki_1 ?_
    refine z_icmp_ne (pc := 29) (tgt := 37) C d_Te_findSynonym_29 (by decide) (fun c3 => ?_) (fun c3 => ?_)
    · rw [if_neg c3] at hm
      refine z_lv (lv' := []) [] rfl ?_
      exact w_Te_findSynonym_37 hAD C hr σ hm
    · rw [if_pos c3] at hm
      refine z_iload (pc := 32) C d_Te_findSynonym_32 1 rfl ?_
      refine z_goto (pc := 34) (tgt := 38) C d_Te_findSynonym_34 (by decide) ?_
      refine z_lv (lv' := []) [] rfl ?_
      exact w_Te_findSynonym_38 hAD C hr σ s0 hm
set_option maxHeartbeats 4000000 in
set_option maxRecDepth 100000 in
theorem k_Te_findSynonym {l : Launch} {D : va_G} {ad : Nat → Nat} {cA : Nat → ClassId} {F : Nat} (hAD : ∀ σ, va_D (owC ad) (wdC ad cA σ)) {σ : zS} {x1 : Int32} {x2 : Int64} {r : Int32} {σ' : zS} (hm : Te_findSynonym F σ x1 x2 = some (r, σ')) : kIC l D ad cA (sXC ad) y_Te_findSynonym bc_Te_findSynonym 5 .int 1 [.ref (ad 4), .int x1, .long x2] σ r σ' := by
  refine kI_of (by decide) hAD sXC_P (Nat.le_of_ble_eq_true rfl) ?_
  intro p e s m below meth c C hr
  unfold Te_findSynonym at hm
  refine z_lv (lv' := [(0, .ref (ad 4)), (1, .int x1), (2, .long x2)]) [0, 1, 2] rfl ?_
  refine z_iload_n (pc := 0) C d_Te_findSynonym_0 rfl 1 rfl ?_
  refine z_iconst (pc := 1) C d_Te_findSynonym_1 ki_2 ?_
  refine z_icmp_ne (pc := 2) (tgt := 13) C d_Te_findSynonym_2 (by decide) (fun c1 => ?_) (fun c1 => ?_)
  · rw [if_neg c1] at hm
    refine z_iconst (pc := 13) C d_Te_findSynonym_13 ki_m1 ?_
    refine z_lv (lv' := [(0, .ref (ad 4))]) [0] rfl ?_
    exact w_Te_findSynonym_14 hAD C hr σ (-1 : Int32) hm
  · rw [if_pos c1] at hm
    refine z_aload_n (pc := 5) C d_Te_findSynonym_5 rfl 0 rfl ?_
    refine z_lload_n (pc := 6) C d_Te_findSynonym_6 rfl 2 rfl ?_
    obtain ⟨r3, σ2, e4, hm⟩ := bi_s hm
    refine z_callI (pc := 7) C (k_Te_findType hAD e4) km_Te_findType mC_96 rfl rfl oC_4 rfl (kR_of (Nat.le_of_ble_eq_true rfl) (Nat.le_of_ble_eq_true rfl)) rfl (Nat.le_of_ble_eq_true rfl) d_Te_findSynonym_7 ?_
    refine z_goto (pc := 10) (tgt := 14) C d_Te_findSynonym_10 (by decide) ?_
    refine z_lv (lv' := [(0, .ref (ad 4))]) [0] rfl ?_
    exact w_Te_findSynonym_14 hAD C hr σ2 r3 hm
set_option maxHeartbeats 4000000 in
set_option maxRecDepth 100000 in
theorem w_Te_closeMasks_39 {D : va_G} {ad : Nat → Nat} {cA : Nat → ClassId} {p : Program} {l : Launch} {e : Env} {s : State} {m : MethodId} {args : Array Value} {below : List Frame} {meth : Method} {c : Code} {F : Nat} (hAD : ∀ σ, va_D (owC ad) (wdC ad cA σ)) (C : CC D ad cA (sXC ad) p s m args meth c bc_Te_closeMasks "KindRounds$Text" 4) (hr : meth.sig.returnType = none) {σ' : zS} (rc2 : zS → Nat → Int32 → Option zS) (rc12 : zS → Nat → Int32 → Int32 → Option zS) (h2 : ∀ σ x1 x2, rc2 σ x1 x2 = some σ' → ZC D ad cA p l e (rmK 0) s m args below meth c 4 (qvC D ad cA below args s σ') 2 [(0, .ref (ad 4)), (1, .ref (ad x1)), (2, .int x2)] [] σ) (h12 : ∀ σ x1 x2 x3, rc12 σ x1 x2 x3 = some σ' → ZC D ad cA p l e (rmK 0) s m args below meth c 4 (qvC D ad cA below args s σ') 12 [(0, .ref (ad 4)), (1, .ref (ad x1)), (2, .int x2), (3, .int x3)] [] σ) (σ : zS) (x1 : Nat) (x2 : Int32) (x3 : Int32) (hm : Te_closeMasks_39 F rc2 rc12 σ x1 x2 x3 = some σ') : ZC D ad cA p l e (rmK 0) s m args below meth c 4 (qvC D ad cA below args s σ') 39 [(0, .ref (ad 4)), (1, .ref (ad x1)), (2, .int x2), (3, .int x3)] [] σ := by
  unfold Te_closeMasks_39 at hm
  refine z_iinc (pc := 39) (lv' := [(0, .ref (ad 4)), (1, .ref (ad x1)), (2, .int x2), (3, .int (x3 + (1 : Int32)))]) C d_Te_closeMasks_39 3 rfl (ii ki_1) (Nat.le_of_ble_eq_true rfl) [1, 2, 3, 0] rfl ?_
  refine z_goto (pc := 42) (tgt := 12) C d_Te_closeMasks_42 (by decide) ?_
  exact h12 σ x1 x2 (x3 + (1 : Int32)) hm
set_option maxHeartbeats 4000000 in
set_option maxRecDepth 100000 in
theorem w_Te_closeMasks_12 {D : va_G} {ad : Nat → Nat} {cA : Nat → ClassId} {p : Program} {l : Launch} {e : Env} {s : State} {m : MethodId} {args : Array Value} {below : List Frame} {meth : Method} {c : Code} {F : Nat} (hAD : ∀ σ, va_D (owC ad) (wdC ad cA σ)) (C : CC D ad cA (sXC ad) p s m args meth c bc_Te_closeMasks "KindRounds$Text" 4) (hr : meth.sig.returnType = none) {σ' : zS} (rc2 : zS → Nat → Int32 → Option zS) (h2 : ∀ σ x1 x2, rc2 σ x1 x2 = some σ' → ZC D ad cA p l e (rmK 0) s m args below meth c 4 (qvC D ad cA below args s σ') 2 [(0, .ref (ad 4)), (1, .ref (ad x1)), (2, .int x2)] [] σ) : ∀ (n : Nat) (σ : zS) (x1 : Nat) (x2 : Int32) (x3 : Int32), Te_closeMasks_12 F rc2 n σ x1 x2 x3 = some σ' → ZC D ad cA p l e (rmK 0) s m args below meth c 4 (qvC D ad cA below args s σ') 12 [(0, .ref (ad 4)), (1, .ref (ad x1)), (2, .int x2), (3, .int x3)] [] σ := by
  intro n
  induction n with
  | zero => intro σ x1 x2 x3 hm; cases hm
  | succ n h12 =>
    intro σ x1 x2 x3 hm
    have hm : Te_closeMasks_b12 F rc2 (Te_closeMasks_12 F rc2 n) σ x1 x2 x3 = some σ' := hm
    unfold Te_closeMasks_b12 at hm
    refine z_iload_n (pc := 12) C d_Te_closeMasks_12 rfl 3 rfl ?_
    refine z_aload_n (pc := 13) C d_Te_closeMasks_13 rfl 0 rfl ?_
    refine gC_Te_62 (pc := 14) (v := (gi σ 400)) C rfl d_Te_closeMasks_14 ?_
    refine z_icmp_ge (pc := 17) (tgt := 45) C d_Te_closeMasks_17 (by decide) (fun c1 => ?_) (fun c1 => ?_)
    · rw [if_pos c1] at hm
      refine z_iinc (pc := 45) (lv' := [(0, .ref (ad 4)), (1, .ref (ad x1)), (2, .int (x2 + (1 : Int32))), (3, .int x3)]) C d_Te_closeMasks_45 2 rfl (ii ki_1) (Nat.le_of_ble_eq_true rfl) [1, 2, 0, 3] rfl ?_
      refine z_goto (pc := 48) (tgt := 2) C d_Te_closeMasks_48 (by decide) ?_
      refine z_lv (lv' := [(0, .ref (ad 4)), (1, .ref (ad x1)), (2, .int (x2 + (1 : Int32)))]) [0, 1, 2] rfl ?_
      exact h2 σ x1 (x2 + (1 : Int32)) hm
    · rw [if_neg c1] at hm
      refine z_aload_n (pc := 20) C d_Te_closeMasks_20 rfl 1 rfl ?_
      refine z_iload_n (pc := 21) C d_Te_closeMasks_21 rfl 3 rfl ?_
      obtain ⟨g2, hm⟩ := gd_s hm
      obtain ⟨g3, hm⟩ := gd_s hm
      refine alC_isMk (pc := 22) (v := (ga σ x1 x3.toNatClampNeg)) C (x := x1) g2 rfl g3 d_Te_closeMasks_22 ?_
      refine z_iload_n (pc := 23) C d_Te_closeMasks_23 rfl 2 rfl ?_
      refine z_ishr (pc := 24) C d_Te_closeMasks_24 ?_
      refine z_iconst (pc := 25) C d_Te_closeMasks_25 ki_1 ?_
      refine z_iand (pc := 26) C d_Te_closeMasks_26 ?_
      refine z_if_eq (pc := 27) (tgt := 39) C d_Te_closeMasks_27 (by decide) (fun c4 => ?_) (fun c4 => ?_)
      · rw [if_pos c4] at hm
        exact w_Te_closeMasks_39 hAD C hr _ _ h2 h12 σ x1 x2 x3 hm
      · rw [if_neg c4] at hm
        refine z_aload_n (pc := 30) C d_Te_closeMasks_30 rfl 1 rfl ?_
        refine z_iload_n (pc := 31) C d_Te_closeMasks_31 rfl 3 rfl ?_
        refine z_dup2 (pc := 32) C d_Te_closeMasks_32 rfl rfl ?_
        refine alC_isMk (pc := 33) (v := (ga σ x1 x3.toNatClampNeg)) C (x := x1) g2 rfl g3 d_Te_closeMasks_33 ?_
        refine z_aload_n (pc := 34) C d_Te_closeMasks_34 rfl 1 rfl ?_
        refine z_iload_n (pc := 35) C d_Te_closeMasks_35 rfl 2 rfl ?_
        obtain ⟨g5, hm⟩ := gd_s hm
        refine alC_isMk (pc := 36) (v := (ga σ x1 x2.toNatClampNeg)) C (x := x1) g2 rfl g5 d_Te_closeMasks_36 ?_
        refine z_ior (pc := 37) C d_Te_closeMasks_37 ?_
        refine asC_isMk (pc := 38) C (x := x1) g2 g3 d_Te_closeMasks_38 ?_
        exact w_Te_closeMasks_39 hAD C hr _ _ h2 h12 (sa σ x1 x3.toNatClampNeg ((ga σ x1 x3.toNatClampNeg) ||| (ga σ x1 x2.toNatClampNeg))) x1 x2 x3 hm
set_option maxHeartbeats 4000000 in
set_option maxRecDepth 100000 in
theorem w_Te_closeMasks_2 {D : va_G} {ad : Nat → Nat} {cA : Nat → ClassId} {p : Program} {l : Launch} {e : Env} {s : State} {m : MethodId} {args : Array Value} {below : List Frame} {meth : Method} {c : Code} {F : Nat} (hAD : ∀ σ, va_D (owC ad) (wdC ad cA σ)) (C : CC D ad cA (sXC ad) p s m args meth c bc_Te_closeMasks "KindRounds$Text" 4) (hr : meth.sig.returnType = none) {σ' : zS} : ∀ (n : Nat) (σ : zS) (x1 : Nat) (x2 : Int32), Te_closeMasks_2 F n σ x1 x2 = some σ' → ZC D ad cA p l e (rmK 0) s m args below meth c 4 (qvC D ad cA below args s σ') 2 [(0, .ref (ad 4)), (1, .ref (ad x1)), (2, .int x2)] [] σ := by
  intro n
  induction n with
  | zero => intro σ x1 x2 hm; cases hm
  | succ n h2 =>
    intro σ x1 x2 hm
    have hm : Te_closeMasks_b2 F (Te_closeMasks_2 F n) σ x1 x2 = some σ' := hm
    unfold Te_closeMasks_b2 at hm
    refine z_iload_n (pc := 2) C d_Te_closeMasks_2 rfl 2 rfl ?_
    refine z_aload_n (pc := 3) C d_Te_closeMasks_3 rfl 0 rfl ?_
    refine gC_Te_62 (pc := 4) (v := (gi σ 400)) C rfl d_Te_closeMasks_4 ?_
    refine z_icmp_ge (pc := 7) (tgt := 51) C d_Te_closeMasks_7 (by decide) (fun c1 => ?_) (fun c1 => ?_)
    · rw [if_pos c1] at hm
      exact z_vretE (pc := 51) C hr hm d_Te_closeMasks_51
    · rw [if_neg c1] at hm
      refine z_iconst (pc := 10) C d_Te_closeMasks_10 ki_0 ?_
      refine z_istore_n (pc := 11) (lv' := [(0, .ref (ad 4)), (1, .ref (ad x1)), (2, .int x2), (3, .int (0 : Int32))]) C d_Te_closeMasks_11 rfl (Nat.le_of_ble_eq_true rfl) [1, 2, 3, 0] rfl ?_
      exact w_Te_closeMasks_12 hAD C hr _ h2 F σ x1 x2 (0 : Int32) hm
set_option maxHeartbeats 4000000 in
set_option maxRecDepth 100000 in
theorem k_Te_closeMasks {l : Launch} {D : va_G} {ad : Nat → Nat} {cA : Nat → ClassId} {F : Nat} (hAD : ∀ σ, va_D (owC ad) (wdC ad cA σ)) {σ : zS} {x1 : Nat} {σ' : zS} (hm : Te_closeMasks F σ x1 = some σ') : kVC l D ad cA (sXC ad) y_Te_closeMasks bc_Te_closeMasks 4 0 [.ref (ad 4), .ref (ad x1)] σ σ' := by
  refine kV_of (by decide) hAD sXC_P (Nat.le_of_ble_eq_true rfl) ?_
  intro p e s m below meth c C hr
  unfold Te_closeMasks at hm
  refine z_lv (lv' := [(0, .ref (ad 4)), (1, .ref (ad x1))]) [0, 1] rfl ?_
  refine z_iconst (pc := 0) C d_Te_closeMasks_0 ki_0 ?_
  refine z_istore_n (pc := 1) (lv' := [(0, .ref (ad 4)), (1, .ref (ad x1)), (2, .int (0 : Int32))]) C d_Te_closeMasks_1 rfl (Nat.le_of_ble_eq_true rfl) [1, 2, 0] rfl ?_
  exact w_Te_closeMasks_2 hAD C hr F σ x1 (0 : Int32) hm
set_option maxHeartbeats 4000000 in
set_option maxRecDepth 100000 in
theorem w_Te_ringOf_46 {D : va_G} {ad : Nat → Nat} {cA : Nat → ClassId} {p : Program} {l : Launch} {e : Env} {s : State} {m : MethodId} {args : Array Value} {below : List Frame} {meth : Method} {c : Code} {F : Nat} (hAD : ∀ σ, va_D (owC ad) (wdC ad cA σ)) (C : CC D ad cA (sXC ad) p s m args meth c bc_Te_ringOf "KindRounds$Text" 4) (hr : meth.sig.returnType = some .int) {r : Int32} {σ' : zS} (rc6 : zS → Int32 → Int32 → Int32 → Option (Int32 × zS)) (h6 : ∀ σ x1 x2 x3, rc6 σ x1 x2 x3 = some (r, σ') → ZC D ad cA p l e (rmK 0) s m args below meth c 4 (qiC D ad cA below args s r σ') 6 [(0, .ref (ad 4)), (1, .int x1), (2, .int x2), (3, .int x3)] [] σ) (σ : zS) (x1 : Int32) (x2 : Int32) (x3 : Int32) (hm : Te_ringOf_46 F rc6 σ x1 x2 x3 = some (r, σ')) : ZC D ad cA p l e (rmK 0) s m args below meth c 4 (qiC D ad cA below args s r σ') 46 [(0, .ref (ad 4)), (1, .int x1), (2, .int x2), (3, .int x3)] [] σ := by
  unfold Te_ringOf_46 at hm
  refine z_iinc (pc := 46) (lv' := [(0, .ref (ad 4)), (1, .int x1), (2, .int x2), (3, .int (x3 + (1 : Int32)))]) C d_Te_ringOf_46 3 rfl (ii ki_1) (Nat.le_of_ble_eq_true rfl) [1, 2, 3, 0] rfl ?_
  refine z_goto (pc := 49) (tgt := 6) C d_Te_ringOf_49 (by decide) ?_
  exact h6 σ x1 x2 (x3 + (1 : Int32)) hm
set_option maxHeartbeats 4000000 in
set_option maxRecDepth 100000 in
theorem w_Te_ringOf_6 {D : va_G} {ad : Nat → Nat} {cA : Nat → ClassId} {p : Program} {l : Launch} {e : Env} {s : State} {m : MethodId} {args : Array Value} {below : List Frame} {meth : Method} {c : Code} {F : Nat} (hAD : ∀ σ, va_D (owC ad) (wdC ad cA σ)) (C : CC D ad cA (sXC ad) p s m args meth c bc_Te_ringOf "KindRounds$Text" 4) (hr : meth.sig.returnType = some .int) {r : Int32} {σ' : zS} : ∀ (n : Nat) (σ : zS) (x1 : Int32) (x2 : Int32) (x3 : Int32), Te_ringOf_6 F n σ x1 x2 x3 = some (r, σ') → ZC D ad cA p l e (rmK 0) s m args below meth c 4 (qiC D ad cA below args s r σ') 6 [(0, .ref (ad 4)), (1, .int x1), (2, .int x2), (3, .int x3)] [] σ := by
  intro n
  induction n with
  | zero => intro σ x1 x2 x3 hm; cases hm
  | succ n h6 =>
    intro σ x1 x2 x3 hm
    have hm : Te_ringOf_b6 F (Te_ringOf_6 F n) σ x1 x2 x3 = some (r, σ') := hm
    unfold Te_ringOf_b6 at hm
    refine z_iload_n (pc := 6) C d_Te_ringOf_6 rfl 3 rfl ?_
    refine z_aload_n (pc := 7) C d_Te_ringOf_7 rfl 0 rfl ?_
    refine gC_Te_62 (pc := 8) (v := (gi σ 400)) C rfl d_Te_ringOf_8 ?_
    refine z_icmp_ge (pc := 11) (tgt := 52) C d_Te_ringOf_11 (by decide) (fun c1 => ?_) (fun c1 => ?_)
    · rw [if_pos c1] at hm
      refine z_iload_n (pc := 52) C d_Te_ringOf_52 rfl 2 rfl ?_
      exact z_iretE (pc := 53) C hr hm d_Te_ringOf_53
    · rw [if_neg c1] at hm
      refine z_aload_n (pc := 14) C d_Te_ringOf_14 rfl 0 rfl ?_
      refine gC_Te_40 (pc := 15) C  d_Te_ringOf_15 ?_
      refine z_iload_n (pc := 18) C d_Te_ringOf_18 rfl 1 rfl ?_
      obtain ⟨g2, hm⟩ := gd_s hm
      refine alC_38 (pc := 19) (v := (ga σ 38 x1.toNatClampNeg)) C  rfl g2 d_Te_ringOf_19 ?_
      refine z_iload_n (pc := 20) C d_Te_ringOf_20 rfl 3 rfl ?_
      refine z_ishr (pc := 21) C d_Te_ringOf_21 ?_
      refine z_iconst (pc := 22) C d_Te_ringOf_22 ki_1 ?_
      refine z_iand (pc := 23) C d_Te_ringOf_23 ?_
      refine z_if_eq (pc := 24) (tgt := 46) C d_Te_ringOf_24 (by decide) (fun c3 => ?_) (fun c3 => ?_)
      · rw [if_pos c3] at hm
        exact w_Te_ringOf_46 hAD C hr _ h6 σ x1 x2 x3 hm
      · rw [if_neg c3] at hm
        refine z_aload_n (pc := 27) C d_Te_ringOf_27 rfl 0 rfl ?_
        refine gC_Te_40 (pc := 28) C  d_Te_ringOf_28 ?_
        refine z_iload_n (pc := 31) C d_Te_ringOf_31 rfl 3 rfl ?_
        obtain ⟨g4, hm⟩ := gd_s hm
        refine alC_38 (pc := 32) (v := (ga σ 38 x3.toNatClampNeg)) C  rfl g4 d_Te_ringOf_32 ?_
        refine z_iload_n (pc := 33) C d_Te_ringOf_33 rfl 1 rfl ?_
        refine z_ishr (pc := 34) C d_Te_ringOf_34 ?_
        refine z_iconst (pc := 35) C d_Te_ringOf_35 ki_1 ?_
        refine z_iand (pc := 36) C d_Te_ringOf_36 ?_
        refine z_if_eq (pc := 37) (tgt := 46) C d_Te_ringOf_37 (by decide) (fun c5 => ?_) (fun c5 => ?_)
        · rw [if_pos c5] at hm
          exact w_Te_ringOf_46 hAD C hr _ h6 σ x1 x2 x3 hm
        · rw [if_neg c5] at hm
          refine z_iload_n (pc := 40) C d_Te_ringOf_40 rfl 2 rfl ?_
          refine z_iconst (pc := 41) C d_Te_ringOf_41 ki_1 ?_
          refine z_iload_n (pc := 42) C d_Te_ringOf_42 rfl 3 rfl ?_
          refine z_ishl (pc := 43) C d_Te_ringOf_43 ?_
          refine z_ior (pc := 44) C d_Te_ringOf_44 ?_
          refine z_istore_n (pc := 45) (lv' := [(0, .ref (ad 4)), (1, .int x1), (2, .int (x2 ||| ((1 : Int32) <<< (x3 &&& 31)))), (3, .int x3)]) C d_Te_ringOf_45 rfl (Nat.le_of_ble_eq_true rfl) [1, 2, 0, 3] rfl ?_
          exact w_Te_ringOf_46 hAD C hr _ h6 σ x1 (x2 ||| ((1 : Int32) <<< (x3 &&& 31))) x3 hm
set_option maxHeartbeats 4000000 in
set_option maxRecDepth 100000 in
theorem k_Te_ringOf {l : Launch} {D : va_G} {ad : Nat → Nat} {cA : Nat → ClassId} {F : Nat} (hAD : ∀ σ, va_D (owC ad) (wdC ad cA σ)) {σ : zS} {x1 : Int32} {r : Int32} {σ' : zS} (hm : Te_ringOf F σ x1 = some (r, σ')) : kIC l D ad cA (sXC ad) y_Te_ringOf bc_Te_ringOf 4 .int 0 [.ref (ad 4), .int x1] σ r σ' := by
  refine kI_of (by decide) hAD sXC_P (Nat.le_of_ble_eq_true rfl) ?_
  intro p e s m below meth c C hr
  unfold Te_ringOf at hm
  refine z_lv (lv' := [(0, .ref (ad 4)), (1, .int x1)]) [0, 1] rfl ?_
  refine z_iconst (pc := 0) C d_Te_ringOf_0 ki_1 ?_
  refine z_iload_n (pc := 1) C d_Te_ringOf_1 rfl 1 rfl ?_
  refine z_ishl (pc := 2) C d_Te_ringOf_2 ?_
  refine z_istore_n (pc := 3) (lv' := [(0, .ref (ad 4)), (1, .int x1), (2, .int ((1 : Int32) <<< (x1 &&& 31)))]) C d_Te_ringOf_3 rfl (Nat.le_of_ble_eq_true rfl) [1, 2, 0] rfl ?_
  refine z_iconst (pc := 4) C d_Te_ringOf_4 ki_0 ?_
  refine z_istore_n (pc := 5) (lv' := [(0, .ref (ad 4)), (1, .int x1), (2, .int ((1 : Int32) <<< (x1 &&& 31))), (3, .int (0 : Int32))]) C d_Te_ringOf_5 rfl (Nat.le_of_ble_eq_true rfl) [1, 2, 3, 0] rfl ?_
  exact w_Te_ringOf_6 hAD C hr F σ x1 ((1 : Int32) <<< (x1 &&& 31)) (0 : Int32) hm
set_option maxHeartbeats 4000000 in
set_option maxRecDepth 100000 in
theorem w_Te_nextOf_51 {D : va_G} {ad : Nat → Nat} {cA : Nat → ClassId} {p : Program} {l : Launch} {e : Env} {s : State} {m : MethodId} {args : Array Value} {below : List Frame} {meth : Method} {c : Code} {F : Nat} (hAD : ∀ σ, va_D (owC ad) (wdC ad cA σ)) (C : CC D ad cA (sXC ad) p s m args meth c bc_Te_nextOf "KindRounds$Text" 4) (hr : meth.sig.returnType = some .int) {r : Int32} {σ' : zS} (rc2 : zS → Int32 → Int32 → Option (Int32 × zS)) (h2 : ∀ σ x1 x2, rc2 σ x1 x2 = some (r, σ') → ZC D ad cA p l e (rmK 1) s m args below meth c 4 (qiC D ad cA below args s r σ') 2 [(0, .ref (ad 4)), (1, .int x1), (2, .int x2)] [] σ) (σ : zS) (x1 : Int32) (x2 : Int32) (hm : Te_nextOf_51 F rc2 σ x1 x2 = some (r, σ')) : ZC D ad cA p l e (rmK 1) s m args below meth c 4 (qiC D ad cA below args s r σ') 51 [(0, .ref (ad 4)), (1, .int x1), (2, .int x2)] [] σ := by
  unfold Te_nextOf_51 at hm
  refine z_iinc (pc := 51) (lv' := [(0, .ref (ad 4)), (1, .int x1), (2, .int (x2 + (1 : Int32)))]) C d_Te_nextOf_51 2 rfl (ii ki_1) (Nat.le_of_ble_eq_true rfl) [1, 2, 0] rfl ?_
  refine z_goto (pc := 54) (tgt := 2) C d_Te_nextOf_54 (by decide) ?_
  exact h2 σ x1 (x2 + (1 : Int32)) hm
set_option maxHeartbeats 4000000 in
set_option maxRecDepth 100000 in
theorem w_Te_nextOf_23 {D : va_G} {ad : Nat → Nat} {cA : Nat → ClassId} {p : Program} {l : Launch} {e : Env} {s : State} {m : MethodId} {args : Array Value} {below : List Frame} {meth : Method} {c : Code} {F : Nat} (hAD : ∀ σ, va_D (owC ad) (wdC ad cA σ)) (C : CC D ad cA (sXC ad) p s m args meth c bc_Te_nextOf "KindRounds$Text" 4) (hr : meth.sig.returnType = some .int) {r : Int32} {σ' : zS} (rc2 : zS → Int32 → Int32 → Option (Int32 × zS)) (h2 : ∀ σ x1 x2, rc2 σ x1 x2 = some (r, σ') → ZC D ad cA p l e (rmK 1) s m args below meth c 4 (qiC D ad cA below args s r σ') 2 [(0, .ref (ad 4)), (1, .int x1), (2, .int x2)] [] σ) (σ : zS) (x1 : Int32) (x2 : Int32) (s0 : Int32) (hm : Te_nextOf_23 F rc2 σ x1 x2 s0 = some (r, σ')) : ZC D ad cA p l e (rmK 1) s m args below meth c 4 (qiC D ad cA below args s r σ') 23 [(0, .ref (ad 4)), (1, .int x1), (2, .int x2)] [.int s0] σ := by
  unfold Te_nextOf_23 at hm
  refine z_istore_n (pc := 23) (lv' := [(0, .ref (ad 4)), (1, .int x1), (2, .int x2), (3, .int s0)]) C d_Te_nextOf_23 rfl (Nat.le_of_ble_eq_true rfl) [1, 2, 3, 0] rfl ?_
  refine z_iload_n (pc := 24) C d_Te_nextOf_24 rfl 3 rfl ?_
  refine z_if_eq (pc := 25) (tgt := 51) C d_Te_nextOf_25 (by decide) (fun c1 => ?_) (fun c1 => ?_)
  · rw [if_pos c1] at hm
    refine z_lv (lv' := [(0, .ref (ad 4)), (1, .int x1), (2, .int x2)]) [0, 1, 2] rfl ?_
    exact w_Te_nextOf_51 hAD C hr _ h2 σ x1 x2 hm
  · rw [if_neg c1] at hm
    refine z_aload_n (pc := 28) C d_Te_nextOf_28 rfl 0 rfl ?_
    refine gC_Te_40 (pc := 29) C  d_Te_nextOf_29 ?_
    refine z_iload_n (pc := 32) C d_Te_nextOf_32 rfl 2 rfl ?_
    obtain ⟨g2, hm⟩ := gd_s hm
    refine alC_38 (pc := 33) (v := (ga σ 38 x2.toNatClampNeg)) C  rfl g2 d_Te_nextOf_33 ?_
    refine z_aload_n (pc := 34) C d_Te_nextOf_34 rfl 0 rfl ?_
    refine z_iload_n (pc := 35) C d_Te_nextOf_35 rfl 2 rfl ?_
    obtain ⟨r4, σ3, e5, hm⟩ := bi_s hm
    refine z_callI (pc := 36) C (k_Te_ringOf hAD e5) km_Te_ringOf mC_100 rfl rfl oC_4 rfl (kR_of (Nat.le_of_ble_eq_true rfl) (Nat.le_of_ble_eq_true rfl)) rfl (Nat.le_of_ble_eq_true rfl) d_Te_nextOf_36 ?_
    refine z_iconst (pc := 39) C d_Te_nextOf_39 ki_m1 ?_
    refine z_ixor (pc := 40) C d_Te_nextOf_40 ?_
    refine z_iand (pc := 41) C d_Te_nextOf_41 ?_
    refine z_iload_n (pc := 42) C d_Te_nextOf_42 rfl 1 rfl ?_
    refine z_iconst (pc := 43) C d_Te_nextOf_43 ki_m1 ?_
    refine z_ixor (pc := 44) C d_Te_nextOf_44 ?_
    refine z_iand (pc := 45) C d_Te_nextOf_45 ?_
    refine z_if_ne (pc := 46) (tgt := 51) C d_Te_nextOf_46 (by decide) (fun c6 => ?_) (fun c6 => ?_)
    · rw [if_neg c6] at hm
      refine z_lv (lv' := [(0, .ref (ad 4)), (1, .int x1), (2, .int x2)]) [0, 1, 2] rfl ?_
      exact w_Te_nextOf_51 hAD C hr _ h2 σ3 x1 x2 hm
    · rw [if_pos c6] at hm
      refine z_iload_n (pc := 49) C d_Te_nextOf_49 rfl 2 rfl ?_
      exact z_iretE (pc := 50) C hr hm d_Te_nextOf_50
set_option maxHeartbeats 4000000 in
set_option maxRecDepth 100000 in
theorem w_Te_nextOf_2 {D : va_G} {ad : Nat → Nat} {cA : Nat → ClassId} {p : Program} {l : Launch} {e : Env} {s : State} {m : MethodId} {args : Array Value} {below : List Frame} {meth : Method} {c : Code} {F : Nat} (hAD : ∀ σ, va_D (owC ad) (wdC ad cA σ)) (C : CC D ad cA (sXC ad) p s m args meth c bc_Te_nextOf "KindRounds$Text" 4) (hr : meth.sig.returnType = some .int) {r : Int32} {σ' : zS} : ∀ (n : Nat) (σ : zS) (x1 : Int32) (x2 : Int32), Te_nextOf_2 F n σ x1 x2 = some (r, σ') → ZC D ad cA p l e (rmK 1) s m args below meth c 4 (qiC D ad cA below args s r σ') 2 [(0, .ref (ad 4)), (1, .int x1), (2, .int x2)] [] σ := by
  intro n
  induction n with
  | zero => intro σ x1 x2 hm; cases hm
  | succ n h2 =>
    intro σ x1 x2 hm
    have hm : Te_nextOf_b2 F (Te_nextOf_2 F n) σ x1 x2 = some (r, σ') := hm
    unfold Te_nextOf_b2 at hm
    refine z_iload_n (pc := 2) C d_Te_nextOf_2 rfl 2 rfl ?_
    refine z_aload_n (pc := 3) C d_Te_nextOf_3 rfl 0 rfl ?_
    refine gC_Te_62 (pc := 4) (v := (gi σ 400)) C rfl d_Te_nextOf_4 ?_
    refine z_icmp_ge (pc := 7) (tgt := 57) C d_Te_nextOf_7 (by decide) (fun c1 => ?_) (fun c1 => ?_)
    · rw [if_pos c1] at hm
      refine z_iconst (pc := 57) C d_Te_nextOf_57 ki_m1 ?_
      exact z_iretE (pc := 58) C hr hm d_Te_nextOf_58
    · rw [if_neg c1] at hm
      refine z_iload_n (pc := 10) C d_Te_nextOf_10 rfl 1 rfl ?_
      refine z_iload_n (pc := 11) C d_Te_nextOf_11 rfl 2 rfl ?_
      refine z_ishr (pc := 12) C d_Te_nextOf_12 ?_
      refine z_iconst (pc := 13) C d_Te_nextOf_13 ki_1 ?_
      refine z_iand (pc := 14) C d_Te_nextOf_14 ?_
      refine z_if_ne (pc := 15) (tgt := 22) C d_Te_nextOf_15 (by decide) (fun c2 => ?_) (fun c2 => ?_)
      · rw [if_neg c2] at hm
        refine z_iconst (pc := 22) C d_Te_nextOf_22 ki_0 ?_
        exact w_Te_nextOf_23 hAD C hr _ h2 σ x1 x2 (0 : Int32) hm
      · rw [if_pos c2] at hm
        refine z_iconst (pc := 18) C d_Te_nextOf_18 ki_1 ?_
        refine z_goto (pc := 19) (tgt := 23) C d_Te_nextOf_19 (by decide) ?_
        exact w_Te_nextOf_23 hAD C hr _ h2 σ x1 x2 (1 : Int32) hm
set_option maxHeartbeats 4000000 in
set_option maxRecDepth 100000 in
theorem k_Te_nextOf {l : Launch} {D : va_G} {ad : Nat → Nat} {cA : Nat → ClassId} {F : Nat} (hAD : ∀ σ, va_D (owC ad) (wdC ad cA σ)) {σ : zS} {x1 : Int32} {r : Int32} {σ' : zS} (hm : Te_nextOf F σ x1 = some (r, σ')) : kIC l D ad cA (sXC ad) y_Te_nextOf bc_Te_nextOf 4 .int 1 [.ref (ad 4), .int x1] σ r σ' := by
  refine kI_of (by decide) hAD sXC_P (Nat.le_of_ble_eq_true rfl) ?_
  intro p e s m below meth c C hr
  unfold Te_nextOf at hm
  refine z_lv (lv' := [(0, .ref (ad 4)), (1, .int x1)]) [0, 1] rfl ?_
  refine z_iconst (pc := 0) C d_Te_nextOf_0 ki_0 ?_
  refine z_istore_n (pc := 1) (lv' := [(0, .ref (ad 4)), (1, .int x1), (2, .int (0 : Int32))]) C d_Te_nextOf_1 rfl (Nat.le_of_ble_eq_true rfl) [1, 2, 0] rfl ?_
  exact w_Te_nextOf_2 hAD C hr F σ x1 (0 : Int32) hm
set_option maxHeartbeats 4000000 in
set_option maxRecDepth 100000 in
theorem w_Te_formGroups_88 {D : va_G} {ad : Nat → Nat} {cA : Nat → ClassId} {p : Program} {l : Launch} {e : Env} {s : State} {m : MethodId} {args : Array Value} {below : List Frame} {meth : Method} {c : Code} {F : Nat} (hAD : ∀ σ, va_D (owC ad) (wdC ad cA σ)) (C : CC D ad cA (sXC ad) p s m args meth c bc_Te_formGroups "KindRounds$Text" 6) (hr : meth.sig.returnType = none) {σ' : zS} (rc29 : zS → Int32 → Int32 → Option zS) (rc58 : zS → Int32 → Int32 → Int32 → Int32 → Option zS) (h29 : ∀ σ x1 x2, rc29 σ x1 x2 = some σ' → ZC D ad cA p l e (rmK 2) s m args below meth c 6 (qvC D ad cA below args s σ') 29 [(0, .ref (ad 4)), (1, .int x1), (2, .int x2)] [] σ) (h58 : ∀ σ x1 x2 x4 x5, rc58 σ x1 x2 x4 x5 = some σ' → ZC D ad cA p l e (rmK 2) s m args below meth c 6 (qvC D ad cA below args s σ') 58 [(0, .ref (ad 4)), (1, .int x1), (2, .int x2), (4, .int x4), (5, .int x5)] [] σ) (σ : zS) (x1 : Int32) (x2 : Int32) (x4 : Int32) (x5 : Int32) (hm : Te_formGroups_88 F rc29 rc58 σ x1 x2 x4 x5 = some σ') : ZC D ad cA p l e (rmK 2) s m args below meth c 6 (qvC D ad cA below args s σ') 88 [(0, .ref (ad 4)), (1, .int x1), (2, .int x2), (4, .int x4), (5, .int x5)] [] σ := by
  unfold Te_formGroups_88 at hm
  refine z_iinc (pc := 88) (lv' := [(0, .ref (ad 4)), (1, .int x1), (2, .int x2), (4, .int x4), (5, .int (x5 + (1 : Int32)))]) C d_Te_formGroups_88 4 rfl (ii ki_1) (Nat.le_of_ble_eq_true rfl) [1, 2, 3, 4, 0] rfl ?_
  refine z_goto (pc := 91) (tgt := 58) C d_Te_formGroups_91 (by decide) ?_
  exact h58 σ x1 x2 x4 (x5 + (1 : Int32)) hm
set_option maxHeartbeats 4000000 in
set_option maxRecDepth 100000 in
theorem w_Te_formGroups_58 {D : va_G} {ad : Nat → Nat} {cA : Nat → ClassId} {p : Program} {l : Launch} {e : Env} {s : State} {m : MethodId} {args : Array Value} {below : List Frame} {meth : Method} {c : Code} {F : Nat} (hAD : ∀ σ, va_D (owC ad) (wdC ad cA σ)) (C : CC D ad cA (sXC ad) p s m args meth c bc_Te_formGroups "KindRounds$Text" 6) (hr : meth.sig.returnType = none) {σ' : zS} (rc29 : zS → Int32 → Int32 → Option zS) (h29 : ∀ σ x1 x2, rc29 σ x1 x2 = some σ' → ZC D ad cA p l e (rmK 2) s m args below meth c 6 (qvC D ad cA below args s σ') 29 [(0, .ref (ad 4)), (1, .int x1), (2, .int x2)] [] σ) : ∀ (n : Nat) (σ : zS) (x1 : Int32) (x2 : Int32) (x4 : Int32) (x5 : Int32), Te_formGroups_58 F rc29 n σ x1 x2 x4 x5 = some σ' → ZC D ad cA p l e (rmK 2) s m args below meth c 6 (qvC D ad cA below args s σ') 58 [(0, .ref (ad 4)), (1, .int x1), (2, .int x2), (4, .int x4), (5, .int x5)] [] σ := by
  intro n
  induction n with
  | zero => intro σ x1 x2 x4 x5 hm; cases hm
  | succ n h58 =>
    intro σ x1 x2 x4 x5 hm
    have hm : Te_formGroups_b58 F rc29 (Te_formGroups_58 F rc29 n) σ x1 x2 x4 x5 = some σ' := hm
    unfold Te_formGroups_b58 at hm
    refine z_iload (pc := 58) C d_Te_formGroups_58 4 rfl ?_
    refine z_aload_n (pc := 60) C d_Te_formGroups_60 rfl 0 rfl ?_
    refine gC_Te_62 (pc := 61) (v := (gi σ 400)) C rfl d_Te_formGroups_61 ?_
    refine z_icmp_ge (pc := 64) (tgt := 94) C d_Te_formGroups_64 (by decide) (fun c1 => ?_) (fun c1 => ?_)
    · rw [if_pos c1] at hm
      refine z_aload_n (pc := 94) C d_Te_formGroups_94 rfl 0 rfl ?_
      refine gC_Te_43 (pc := 95) C  d_Te_formGroups_95 ?_
      refine z_aload_n (pc := 98) C d_Te_formGroups_98 rfl 0 rfl ?_
      refine gC_Te_66 (pc := 99) (v := (gi σ 412)) C rfl d_Te_formGroups_99 ?_
      refine z_iload (pc := 102) C d_Te_formGroups_102 3 rfl ?_
      obtain ⟨g2, hm⟩ := gd_s hm
      refine asC_39 (pc := 104) C  g2 d_Te_formGroups_104 ?_
      refine z_aload_n (pc := 105) C d_Te_formGroups_105 rfl 0 rfl ?_
      refine z_dup (pc := 106) C d_Te_formGroups_106 rfl ?_
      refine gC_Te_66 (pc := 107) (v := (gi σ 412)) C rfl d_Te_formGroups_107 ?_
      refine z_iconst (pc := 110) C d_Te_formGroups_110 ki_1 ?_
      refine z_iadd (pc := 111) C d_Te_formGroups_111 ?_
      refine pC_Te_66 (pc := 112) C  d_Te_formGroups_112 ?_
      refine z_iload_n (pc := 115) C d_Te_formGroups_115 rfl 1 rfl ?_
      refine z_iload (pc := 116) C d_Te_formGroups_116 3 rfl ?_
      refine z_ior (pc := 118) C d_Te_formGroups_118 ?_
      refine z_istore_n (pc := 119) (lv' := [(0, .ref (ad 4)), (1, .int (x1 ||| x4)), (2, .int x2), (4, .int x4), (5, .int x5)]) C d_Te_formGroups_119 rfl (Nat.le_of_ble_eq_true rfl) [1, 0, 2, 3, 4] rfl ?_
      refine z_iinc (pc := 120) (lv' := [(0, .ref (ad 4)), (1, .int (x1 ||| x4)), (2, .int (x2 + (1 : Int32))), (4, .int x4), (5, .int x5)]) C d_Te_formGroups_120 2 rfl (ii ki_1) (Nat.le_of_ble_eq_true rfl) [1, 2, 0, 3, 4] rfl ?_
      refine z_goto (pc := 123) (tgt := 29) C d_Te_formGroups_123 (by decide) ?_
      refine z_lv (lv' := [(0, .ref (ad 4)), (1, .int (x1 ||| x4)), (2, .int (x2 + (1 : Int32)))]) [0, 1, 2] rfl ?_
      exact h29 (si (sa σ 39 (gi σ 412).toNatClampNeg x4) 412 ((gi σ 412) + (1 : Int32))) (x1 ||| x4) (x2 + (1 : Int32)) hm
    · rw [if_neg c1] at hm
      refine z_iload (pc := 67) C d_Te_formGroups_67 3 rfl ?_
      refine z_iload (pc := 69) C d_Te_formGroups_69 4 rfl ?_
      refine z_ishr (pc := 71) C d_Te_formGroups_71 ?_
      refine z_iconst (pc := 72) C d_Te_formGroups_72 ki_1 ?_
      refine z_iand (pc := 73) C d_Te_formGroups_73 ?_
      refine z_if_eq (pc := 74) (tgt := 88) C d_Te_formGroups_74 (by decide) (fun c3 => ?_) (fun c3 => ?_)
      · rw [if_pos c3] at hm
        exact w_Te_formGroups_88 hAD C hr _ _ h29 h58 σ x1 x2 x4 x5 hm
      · rw [if_neg c3] at hm
        refine z_aload_n (pc := 77) C d_Te_formGroups_77 rfl 0 rfl ?_
        refine gC_Te_34 (pc := 78) C  d_Te_formGroups_78 ?_
        refine z_iload (pc := 81) C d_Te_formGroups_81 4 rfl ?_
        refine z_aload_n (pc := 83) C d_Te_formGroups_83 rfl 0 rfl ?_
        refine gC_Te_66 (pc := 84) (v := (gi σ 412)) C rfl d_Te_formGroups_84 ?_
        obtain ⟨g4, hm⟩ := gd_s hm
        refine asC_36 (pc := 87) C  g4 d_Te_formGroups_87 ?_
        exact w_Te_formGroups_88 hAD C hr _ _ h29 h58 (sa σ 36 x5.toNatClampNeg (gi σ 412)) x1 x2 x4 x5 hm
set_option maxHeartbeats 4000000 in
set_option maxRecDepth 100000 in
theorem w_Te_formGroups_29 {D : va_G} {ad : Nat → Nat} {cA : Nat → ClassId} {p : Program} {l : Launch} {e : Env} {s : State} {m : MethodId} {args : Array Value} {below : List Frame} {meth : Method} {c : Code} {F : Nat} (hAD : ∀ σ, va_D (owC ad) (wdC ad cA σ)) (C : CC D ad cA (sXC ad) p s m args meth c bc_Te_formGroups "KindRounds$Text" 6) (hr : meth.sig.returnType = none) {σ' : zS} : ∀ (n : Nat) (σ : zS) (x1 : Int32) (x2 : Int32), Te_formGroups_29 F n σ x1 x2 = some σ' → ZC D ad cA p l e (rmK 2) s m args below meth c 6 (qvC D ad cA below args s σ') 29 [(0, .ref (ad 4)), (1, .int x1), (2, .int x2)] [] σ := by
  intro n
  induction n with
  | zero => intro σ x1 x2 hm; cases hm
  | succ n h29 =>
    intro σ x1 x2 hm
    have hm : Te_formGroups_b29 F (Te_formGroups_29 F n) σ x1 x2 = some σ' := hm
    unfold Te_formGroups_b29 at hm
    refine z_iload_n (pc := 29) C d_Te_formGroups_29 rfl 2 rfl ?_
    refine z_aload_n (pc := 30) C d_Te_formGroups_30 rfl 0 rfl ?_
    refine gC_Te_62 (pc := 31) (v := (gi σ 400)) C rfl d_Te_formGroups_31 ?_
    refine z_icmp_ge (pc := 34) (tgt := 126) C d_Te_formGroups_34 (by decide) (fun c1 => ?_) (fun c1 => ?_)
    · rw [if_pos c1] at hm
      exact z_vretE (pc := 126) C hr hm d_Te_formGroups_126
    · rw [if_neg c1] at hm
      refine z_aload_n (pc := 37) C d_Te_formGroups_37 rfl 0 rfl ?_
      refine z_iload_n (pc := 38) C d_Te_formGroups_38 rfl 1 rfl ?_
      obtain ⟨r3, σ2, e4, hm⟩ := bi_s hm
      refine z_callI (pc := 39) C (k_Te_nextOf hAD e4) km_Te_nextOf mC_99 rfl rfl oC_4 rfl (kR_of (Nat.le_of_ble_eq_true rfl) (Nat.le_of_ble_eq_true rfl)) rfl (Nat.le_of_ble_eq_true rfl) d_Te_formGroups_39 ?_
      refine z_istore_n (pc := 42) (lv' := [(0, .ref (ad 4)), (1, .int x1), (2, .int x2), (3, .int r3)]) C d_Te_formGroups_42 rfl (Nat.le_of_ble_eq_true rfl) [1, 2, 3, 0] rfl ?_
      refine z_iload_n (pc := 43) C d_Te_formGroups_43 rfl 3 rfl ?_
      refine z_if_ge (pc := 44) (tgt := 48) C d_Te_formGroups_44 (by decide) (fun c5 => ?_) (fun c5 => ?_)
      · rw [if_pos c5] at hm
        refine z_aload_n (pc := 48) C d_Te_formGroups_48 rfl 0 rfl ?_
        refine z_iload_n (pc := 49) C d_Te_formGroups_49 rfl 3 rfl ?_
        obtain ⟨r7, σ6, e8, hm⟩ := bi_s hm
        refine z_callI (pc := 50) C (k_Te_ringOf hAD e8) km_Te_ringOf mC_100 rfl rfl oC_4 rfl (kR_of (Nat.le_of_ble_eq_true rfl) (Nat.le_of_ble_eq_true rfl)) rfl (Nat.le_of_ble_eq_true rfl) d_Te_formGroups_50 ?_
        refine z_istore (pc := 53) (lv' := [(0, .ref (ad 4)), (1, .int x1), (2, .int x2), (3, .int r3), (4, .int r7)]) C d_Te_formGroups_53 (Nat.le_of_ble_eq_true rfl) [1, 2, 3, 4, 0] rfl ?_
        refine z_iconst (pc := 55) C d_Te_formGroups_55 ki_0 ?_
        refine z_istore (pc := 56) (lv' := [(0, .ref (ad 4)), (1, .int x1), (2, .int x2), (3, .int r3), (4, .int r7), (5, .int (0 : Int32))]) C d_Te_formGroups_56 (Nat.le_of_ble_eq_true rfl) [1, 2, 3, 4, 5, 0] rfl ?_
        refine z_lv (lv' := [(0, .ref (ad 4)), (1, .int x1), (2, .int x2), (4, .int r7), (5, .int (0 : Int32))]) [0, 1, 2, 4, 5] rfl ?_
        exact w_Te_formGroups_58 hAD C hr _ h29 F σ6 x1 x2 r7 (0 : Int32) hm
      · rw [if_neg c5] at hm
        exact z_vretE (pc := 47) C hr hm d_Te_formGroups_47
set_option maxHeartbeats 4000000 in
set_option maxRecDepth 100000 in
theorem k_Te_formGroups {l : Launch} {D : va_G} {ad : Nat → Nat} {cA : Nat → ClassId} {F : Nat} (hAD : ∀ σ, va_D (owC ad) (wdC ad cA σ)) {σ : zS} {σ' : zS} (hm : Te_formGroups F σ = some σ') : kVC l D ad cA (sXC ad) y_Te_formGroups bc_Te_formGroups 6 2 [.ref (ad 4)] σ σ' := by
  refine kV_of (by decide) hAD sXC_P (Nat.le_of_ble_eq_true rfl) ?_
  intro p e s m below meth c C hr
  unfold Te_formGroups at hm
  refine z_lv (lv' := [(0, .ref (ad 4))]) [0] rfl ?_
  refine z_aload_n (pc := 0) C d_Te_formGroups_0 rfl 0 rfl ?_
  refine gC_Te_37 (pc := 1) C  d_Te_formGroups_1 ?_
  refine z_iconst (pc := 4) C d_Te_formGroups_4 ki_0 ?_
  refine z_aload_n (pc := 5) C d_Te_formGroups_5 rfl 0 rfl ?_
  refine gC_Te_40 (pc := 6) C  d_Te_formGroups_6 ?_
  refine z_iconst (pc := 9) C d_Te_formGroups_9 ki_0 ?_
  refine z_aload_n (pc := 10) C d_Te_formGroups_10 rfl 0 rfl ?_
  refine gC_Te_62 (pc := 11) (v := (gi σ 400)) C rfl d_Te_formGroups_11 ?_
  obtain ⟨g1, hm⟩ := gd_s hm
  obtain ⟨q1_, q2_, q3_, q4_, q5_⟩ := cpG_s g1
  refine z_copyi (pc := 14) (q0 := 37) (q1 := 38) (t0 := 18) (t1 := 19) (f := (ga σ 37)) (g := (ga σ 38)) (ty := .int) (σ' := (sA σ 38 (va_cpy (ga σ 37) (ga σ 38) (0 : Int32).toNatClampNeg (0 : Int32).toNatClampNeg (gi σ 400).toNatClampNeg))) C mC_102 mC_24 mC_25 mC_26 rfl rfl rfl rfl rfl q1_ q2_ q3_ q4_ q5_ (fun _ _ => rfl) (by decide) (Nat.le_of_ble_eq_true rfl) rfl d_Te_formGroups_14 ?_
  refine z_aload_n (pc := 17) C d_Te_formGroups_17 rfl 0 rfl ?_
  refine z_aload_n (pc := 18) C d_Te_formGroups_18 rfl 0 rfl ?_
  refine gC_Te_40 (pc := 19) C  d_Te_formGroups_19 ?_
  obtain ⟨σ2, e3, hm⟩ := bv_s hm
  refine z_callV (pc := 22) C (k_Te_closeMasks hAD e3) km_Te_closeMasks mC_103 rfl rfl oC_4 rfl (kR_of (Nat.le_of_ble_eq_true rfl) (Nat.le_of_ble_eq_true rfl)) rfl (Nat.le_of_ble_eq_true rfl) d_Te_formGroups_22 ?_
  refine z_iconst (pc := 25) C d_Te_formGroups_25 ki_0 ?_
  refine z_istore_n (pc := 26) (lv' := [(0, .ref (ad 4)), (1, .int (0 : Int32))]) C d_Te_formGroups_26 rfl (Nat.le_of_ble_eq_true rfl) [1, 0] rfl ?_
  refine z_iconst (pc := 27) C d_Te_formGroups_27 ki_0 ?_
  refine z_istore_n (pc := 28) (lv' := [(0, .ref (ad 4)), (1, .int (0 : Int32)), (2, .int (0 : Int32))]) C d_Te_formGroups_28 rfl (Nat.le_of_ble_eq_true rfl) [1, 2, 0] rfl ?_
  exact w_Te_formGroups_29 hAD C hr F σ2 (0 : Int32) (0 : Int32) hm
set_option maxHeartbeats 4000000 in
set_option maxRecDepth 100000 in
theorem w_Te_findMember_36 {D : va_G} {ad : Nat → Nat} {cA : Nat → ClassId} {p : Program} {l : Launch} {e : Env} {s : State} {m : MethodId} {args : Array Value} {below : List Frame} {meth : Method} {c : Code} {F : Nat} (hAD : ∀ σ, va_D (owC ad) (wdC ad cA σ)) (C : CC D ad cA (sXC ad) p s m args meth c bc_Te_findMember "KindRounds$Text" 5) (hr : meth.sig.returnType = some .int) {r : Int32} {σ' : zS} (rc5 : zS → Int32 → Int32 → Int32 → Int32 → Option (Int32 × zS)) (h5 : ∀ σ x1 x2 x3 x4, rc5 σ x1 x2 x3 x4 = some (r, σ') → ZC D ad cA p l e (rmK 0) s m args below meth c 5 (qiC D ad cA below args s r σ') 5 [(0, .ref (ad 4)), (1, .int x1), (2, .int x2), (3, .int x3), (4, .int x4)] [] σ) (σ : zS) (x1 : Int32) (x2 : Int32) (x3 : Int32) (x4 : Int32) (hm : Te_findMember_36 F rc5 σ x1 x2 x3 x4 = some (r, σ')) : ZC D ad cA p l e (rmK 0) s m args below meth c 5 (qiC D ad cA below args s r σ') 36 [(0, .ref (ad 4)), (1, .int x1), (2, .int x2), (3, .int x3), (4, .int x4)] [] σ := by
  unfold Te_findMember_36 at hm
  refine z_iinc (pc := 36) (lv' := [(0, .ref (ad 4)), (1, .int x1), (2, .int x2), (3, .int x3), (4, .int (x4 + (1 : Int32)))]) C d_Te_findMember_36 4 rfl (ii ki_1) (Nat.le_of_ble_eq_true rfl) [1, 2, 3, 4, 0] rfl ?_
  refine z_goto (pc := 39) (tgt := 5) C d_Te_findMember_39 (by decide) ?_
  exact h5 σ x1 x2 x3 (x4 + (1 : Int32)) hm
set_option maxHeartbeats 4000000 in
set_option maxRecDepth 100000 in
theorem w_Te_findMember_5 {D : va_G} {ad : Nat → Nat} {cA : Nat → ClassId} {p : Program} {l : Launch} {e : Env} {s : State} {m : MethodId} {args : Array Value} {below : List Frame} {meth : Method} {c : Code} {F : Nat} (hAD : ∀ σ, va_D (owC ad) (wdC ad cA σ)) (C : CC D ad cA (sXC ad) p s m args meth c bc_Te_findMember "KindRounds$Text" 5) (hr : meth.sig.returnType = some .int) {r : Int32} {σ' : zS} : ∀ (n : Nat) (σ : zS) (x1 : Int32) (x2 : Int32) (x3 : Int32) (x4 : Int32), Te_findMember_5 F n σ x1 x2 x3 x4 = some (r, σ') → ZC D ad cA p l e (rmK 0) s m args below meth c 5 (qiC D ad cA below args s r σ') 5 [(0, .ref (ad 4)), (1, .int x1), (2, .int x2), (3, .int x3), (4, .int x4)] [] σ := by
  intro n
  induction n with
  | zero => intro σ x1 x2 x3 x4 hm; cases hm
  | succ n h5 =>
    intro σ x1 x2 x3 x4 hm
    have hm : Te_findMember_b5 F (Te_findMember_5 F n) σ x1 x2 x3 x4 = some (r, σ') := hm
    unfold Te_findMember_b5 at hm
    refine z_iload (pc := 5) C d_Te_findMember_5 4 rfl ?_
    refine z_aload_n (pc := 7) C d_Te_findMember_7 rfl 0 rfl ?_
    refine gC_Te_62 (pc := 8) (v := (gi σ 400)) C rfl d_Te_findMember_8 ?_
    refine z_icmp_ge (pc := 11) (tgt := 42) C d_Te_findMember_11 (by decide) (fun c1 => ?_) (fun c1 => ?_)
    · rw [if_pos c1] at hm
      refine z_iconst (pc := 42) C d_Te_findMember_42 ki_m1 ?_
      exact z_iretE (pc := 43) C hr hm d_Te_findMember_43
    · rw [if_neg c1] at hm
      refine z_aload_n (pc := 14) C d_Te_findMember_14 rfl 0 rfl ?_
      refine gC_Te_34 (pc := 15) C  d_Te_findMember_15 ?_
      refine z_iload (pc := 18) C d_Te_findMember_18 4 rfl ?_
      obtain ⟨g2, hm⟩ := gd_s hm
      refine alC_36 (pc := 20) (v := (ga σ 36 x4.toNatClampNeg)) C  rfl g2 d_Te_findMember_20 ?_
      refine z_iload_n (pc := 21) C d_Te_findMember_21 rfl 1 rfl ?_
      refine z_icmp_ne (pc := 22) (tgt := 36) C d_Te_findMember_22 (by decide) (fun c3 => ?_) (fun c3 => ?_)
      · rw [if_neg c3] at hm
        exact w_Te_findMember_36 hAD C hr _ h5 σ x1 x2 x3 x4 hm
      · rw [if_pos c3] at hm
        refine z_iload_n (pc := 25) C d_Te_findMember_25 rfl 3 rfl ?_
        refine z_iload_n (pc := 26) C d_Te_findMember_26 rfl 2 rfl ?_
        refine z_icmp_ne (pc := 27) (tgt := 33) C d_Te_findMember_27 (by decide) (fun c4 => ?_) (fun c4 => ?_)
        · rw [if_neg c4] at hm
          refine z_iinc (pc := 33) (lv' := [(0, .ref (ad 4)), (1, .int x1), (2, .int x2), (3, .int (x3 + (1 : Int32))), (4, .int x4)]) C d_Te_findMember_33 3 rfl (ii ki_1) (Nat.le_of_ble_eq_true rfl) [1, 2, 3, 0, 4] rfl ?_
          exact w_Te_findMember_36 hAD C hr _ h5 σ x1 x2 (x3 + (1 : Int32)) x4 hm
        · rw [if_pos c4] at hm
          refine z_iload (pc := 30) C d_Te_findMember_30 4 rfl ?_
          exact z_iretE (pc := 32) C hr hm d_Te_findMember_32
set_option maxHeartbeats 4000000 in
set_option maxRecDepth 100000 in
theorem k_Te_findMember {l : Launch} {D : va_G} {ad : Nat → Nat} {cA : Nat → ClassId} {F : Nat} (hAD : ∀ σ, va_D (owC ad) (wdC ad cA σ)) {σ : zS} {x1 : Int32} {x2 : Int32} {r : Int32} {σ' : zS} (hm : Te_findMember F σ x1 x2 = some (r, σ')) : kIC l D ad cA (sXC ad) y_Te_findMember bc_Te_findMember 5 .int 0 [.ref (ad 4), .int x1, .int x2] σ r σ' := by
  refine kI_of (by decide) hAD sXC_P (Nat.le_of_ble_eq_true rfl) ?_
  intro p e s m below meth c C hr
  unfold Te_findMember at hm
  refine z_lv (lv' := [(0, .ref (ad 4)), (1, .int x1), (2, .int x2)]) [0, 1, 2] rfl ?_
  refine z_iconst (pc := 0) C d_Te_findMember_0 ki_0 ?_
  refine z_istore_n (pc := 1) (lv' := [(0, .ref (ad 4)), (1, .int x1), (2, .int x2), (3, .int (0 : Int32))]) C d_Te_findMember_1 rfl (Nat.le_of_ble_eq_true rfl) [1, 2, 3, 0] rfl ?_
  refine z_iconst (pc := 2) C d_Te_findMember_2 ki_0 ?_
  refine z_istore (pc := 3) (lv' := [(0, .ref (ad 4)), (1, .int x1), (2, .int x2), (3, .int (0 : Int32)), (4, .int (0 : Int32))]) C d_Te_findMember_3 (Nat.le_of_ble_eq_true rfl) [1, 2, 3, 4, 0] rfl ?_
  exact w_Te_findMember_5 hAD C hr F σ x1 x2 (0 : Int32) (0 : Int32) hm
