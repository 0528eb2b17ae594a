/-! Walks of Ch. Written by program (wip/gen). -/
set_option maxHeartbeats 4000000 in
set_option maxRecDepth 100000 in
theorem w_Ch_checkLacks_108 {D : va_G} {ad : Nat → Nat} {cA : Nat → ClassId} {p : Program} {l : Launch} {e : Env} {s : State} {m : MethodId} {args : Array Value} {below : List Frame} {meth : Method} {c : Code} {F : Nat} (hAD : ∀ σ, va_D (owC ad) (wdC ad cA σ)) (C : CC D ad cA (sXC ad) p s m args meth c bc_Ch_checkLacks "KindRounds$Checker" 4) (hr : meth.sig.returnType = none) {σ' : zS} (σ : zS) (hm : Ch_checkLacks_108 F σ = some σ') : ZC D ad cA p l e (rmK 2) s m args below meth c 4 (qvC D ad cA below args s σ') 108 [] [] σ := by
  unfold Ch_checkLacks_108 at hm
  exact z_vretE (pc := 108) C hr hm d_Ch_checkLacks_108
set_option maxHeartbeats 4000000 in
set_option maxRecDepth 100000 in
theorem w_Ch_checkLacks_102 {D : va_G} {ad : Nat → Nat} {cA : Nat → ClassId} {p : Program} {l : Launch} {e : Env} {s : State} {m : MethodId} {args : Array Value} {below : List Frame} {meth : Method} {c : Code} {F : Nat} (hAD : ∀ σ, va_D (owC ad) (wdC ad cA σ)) (C : CC D ad cA (sXC ad) p s m args meth c bc_Ch_checkLacks "KindRounds$Checker" 4) (hr : meth.sig.returnType = none) {σ' : zS} (rc2 : zS → Int32 → Option zS) (h2 : ∀ σ x1, rc2 σ x1 = some σ' → ZC D ad cA p l e (rmK 2) s m args below meth c 4 (qvC D ad cA below args s σ') 2 [(0, .ref (ad 7)), (1, .int x1)] [] σ) (σ : zS) (x1 : Int32) (hm : Ch_checkLacks_102 F rc2 σ x1 = some σ') : ZC D ad cA p l e (rmK 2) s m args below meth c 4 (qvC D ad cA below args s σ') 102 [(0, .ref (ad 7)), (1, .int x1)] [] σ := by
  unfold Ch_checkLacks_102 at hm
  refine z_iinc (pc := 102) (lv' := [(0, .ref (ad 7)), (1, .int (x1 + (1 : Int32)))]) C d_Ch_checkLacks_102 1 rfl (ii ki_1) (Nat.le_of_ble_eq_true rfl) [1, 0] rfl ?_
  refine z_goto (pc := 105) (tgt := 2) C d_Ch_checkLacks_105 (by decide) ?_
  exact h2 σ (x1 + (1 : Int32)) hm
set_option maxHeartbeats 4000000 in
set_option maxRecDepth 100000 in
theorem w_Ch_checkLacks_41 {D : va_G} {ad : Nat → Nat} {cA : Nat → ClassId} {p : Program} {l : Launch} {e : Env} {s : State} {m : MethodId} {args : Array Value} {below : List Frame} {meth : Method} {c : Code} {F : Nat} (hAD : ∀ σ, va_D (owC ad) (wdC ad cA σ)) (C : CC D ad cA (sXC ad) p s m args meth c bc_Ch_checkLacks "KindRounds$Checker" 4) (hr : meth.sig.returnType = none) {σ' : zS} (rc2 : zS → Int32 → Option zS) (h2 : ∀ σ x1, rc2 σ x1 = some σ' → ZC D ad cA p l e (rmK 2) s m args below meth c 4 (qvC D ad cA below args s σ') 2 [(0, .ref (ad 7)), (1, .int x1)] [] σ) (σ : zS) (x1 : Int32) (s0 : Int32) (hm : Ch_checkLacks_41 F rc2 σ x1 s0 = some σ') : ZC D ad cA p l e (rmK 2) s m args below meth c 4 (qvC D ad cA below args s σ') 41 [(0, .ref (ad 7)), (1, .int x1)] [.int s0] σ := by
  unfold Ch_checkLacks_41 at hm
  refine z_istore_n (pc := 41) (lv' := [(0, .ref (ad 7)), (1, .int x1), (2, .int s0)]) C d_Ch_checkLacks_41 rfl (Nat.le_of_ble_eq_true rfl) [1, 2, 0] rfl ?_
  refine z_aload_n (pc := 42) C d_Ch_checkLacks_42 rfl 0 rfl ?_
  refine gC_Ch_9 (pc := 43) C  d_Ch_checkLacks_43 ?_
  refine z_iload_n (pc := 46) C d_Ch_checkLacks_46 rfl 2 rfl ?_
  refine z_aload_n (pc := 47) C d_Ch_checkLacks_47 rfl 0 rfl ?_
  refine gC_Ch_15 (pc := 48) C  d_Ch_checkLacks_48 ?_
  refine gC_Ch_62 (pc := 51) C  d_Ch_checkLacks_51 ?_
  refine z_iload_n (pc := 54) C d_Ch_checkLacks_54 rfl 1 rfl ?_
  obtain ⟨g1, hm⟩ := gd_s hm
  refine alC_44 (pc := 55) (v := (gb σ 44 x1.toNatClampNeg)) C  rfl g1 d_Ch_checkLacks_55 ?_
  obtain ⟨r3, σ2, e4, hm⟩ := bi_s hm
  refine z_callIN (pc := 56) C (k_Te_findSynonym hAD e4) km_Te_findSynonym mC_177 rfl rfl oC_4 rfl (kR_of (Nat.le_of_ble_eq_true rfl) (Nat.le_of_ble_eq_true rfl)) rfl (Nat.le_of_ble_eq_true rfl) d_Ch_checkLacks_56 ?_
  refine z_istore_n (pc := 59) (lv' := [(0, .ref (ad 7)), (1, .int x1), (2, .int s0), (3, .int r3)]) C d_Ch_checkLacks_59 rfl (Nat.le_of_ble_eq_true rfl) [1, 2, 3, 0] rfl ?_
  refine z_iload_n (pc := 60) C d_Ch_checkLacks_60 rfl 3 rfl ?_
  refine z_if_lt (pc := 61) (tgt := 102) C d_Ch_checkLacks_61 (by decide) (fun c5 => ?_) (fun c5 => ?_)
  · rw [if_pos c5] at hm
    refine z_lv (lv' := [(0, .ref (ad 7)), (1, .int x1)]) [0, 1] rfl ?_
    exact w_Ch_checkLacks_102 hAD C hr _ h2 σ2 x1 hm
  · rw [if_neg c5] at hm
    refine z_aload_n (pc := 64) C d_Ch_checkLacks_64 rfl 0 rfl ?_
    refine gC_Ch_15 (pc := 65) C  d_Ch_checkLacks_65 ?_
    refine gC_Ch_112 (pc := 68) C  d_Ch_checkLacks_68 ?_
    refine z_iload_n (pc := 71) C d_Ch_checkLacks_71 rfl 1 rfl ?_
    refine alC_47 (pc := 72) (v := (ga σ2 47 x1.toNatClampNeg)) C  rfl g1 d_Ch_checkLacks_72 ?_
    refine z_aload_n (pc := 73) C d_Ch_checkLacks_73 rfl 0 rfl ?_
    refine gC_Ch_9 (pc := 74) C  d_Ch_checkLacks_74 ?_
    refine gC_Ch_115 (pc := 77) C  d_Ch_checkLacks_77 ?_
    refine z_iload_n (pc := 80) C d_Ch_checkLacks_80 rfl 3 rfl ?_
    obtain ⟨g6, hm⟩ := gd_s hm
    refine alC_32 (pc := 81) (v := (ga σ2 32 r3.toNatClampNeg)) C  rfl g6 d_Ch_checkLacks_81 ?_
    refine z_icmp_ge (pc := 82) (tgt := 102) C d_Ch_checkLacks_82 (by decide) (fun c7 => ?_) (fun c7 => ?_)
    · rw [if_pos c7] at hm
      refine z_lv (lv' := [(0, .ref (ad 7)), (1, .int x1)]) [0, 1] rfl ?_
      exact w_Ch_checkLacks_102 hAD C hr _ h2 σ2 x1 hm
    · rw [if_neg c7] at hm
      refine z_aload_n (pc := 85) C d_Ch_checkLacks_85 rfl 0 rfl ?_
      refine gC_Ch_19 (pc := 86) C  d_Ch_checkLacks_86 ?_
      refine z_iconst (pc := 89) C d_Ch_checkLacks_89 ki_5 ?_
      refine z_aload_n (pc := 90) C d_Ch_checkLacks_90 rfl 0 rfl ?_
      refine gC_Ch_15 (pc := 91) C  d_Ch_checkLacks_91 ?_
      refine gC_Ch_55 (pc := 94) C  d_Ch_checkLacks_94 ?_
      refine z_iload_n (pc := 97) C d_Ch_checkLacks_97 rfl 1 rfl ?_
      refine alC_45 (pc := 98) (v := (ga σ2 45 x1.toNatClampNeg)) C  rfl g1 d_Ch_checkLacks_98 ?_
      obtain ⟨σ8, e9, hm⟩ := bv_s hm
      refine z_callVN (pc := 99) C (k_Fa_raise hAD e9) km_Fa_raise mC_159 rfl rfl oC_2 rfl (kR_of (Nat.le_of_ble_eq_true rfl) (Nat.le_of_ble_eq_true rfl)) rfl (Nat.le_of_ble_eq_true rfl) d_Ch_checkLacks_99 ?_
      refine z_lv (lv' := [(0, .ref (ad 7)), (1, .int x1)]) [0, 1] rfl ?_
      exact w_Ch_checkLacks_102 hAD C hr _ h2 σ8 x1 hm
set_option maxHeartbeats 4000000 in
set_option maxRecDepth 100000 in
theorem w_Ch_checkLacks_2 {D : va_G} {ad : Nat → Nat} {cA : Nat → ClassId} {p : Program} {l : Launch} {e : Env} {s : State} {m : MethodId} {args : Array Value} {below : List Frame} {meth : Method} {c : Code} {F : Nat} (hAD : ∀ σ, va_D (owC ad) (wdC ad cA σ)) (C : CC D ad cA (sXC ad) p s m args meth c bc_Ch_checkLacks "KindRounds$Checker" 4) (hr : meth.sig.returnType = none) {σ' : zS} : ∀ (n : Nat) (σ : zS) (x1 : Int32), Ch_checkLacks_2 F n σ x1 = some σ' → ZC D ad cA p l e (rmK 2) s m args below meth c 4 (qvC D ad cA below args s σ') 2 [(0, .ref (ad 7)), (1, .int x1)] [] σ := by
  intro n
  induction n with
  | zero => intro σ x1 hm; cases hm
  | succ n h2 =>
    intro σ x1 hm
    have hm : Ch_checkLacks_b2 F (Ch_checkLacks_2 F n) σ x1 = some σ' := hm
    unfold Ch_checkLacks_b2 at hm
    refine z_iload_n (pc := 2) C d_Ch_checkLacks_2 rfl 1 rfl ?_
    refine z_aload_n (pc := 3) C d_Ch_checkLacks_3 rfl 0 rfl ?_
    refine gC_Ch_15 (pc := 4) C  d_Ch_checkLacks_4 ?_
    refine gC_Ch_45 (pc := 7) (v := (gi σ 505)) C rfl d_Ch_checkLacks_7 ?_
    refine z_icmp_ge (pc := 10) (tgt := 108) C d_Ch_checkLacks_10 (by decide) (fun c1 => ?_) (fun c1 => ?_)
    · rw [if_pos c1] at hm
      refine z_lv (lv' := []) [] rfl ?_
      exact w_Ch_checkLacks_108 hAD C hr σ hm
    · rw [if_neg c1] at hm
      refine z_aload_n (pc := 13) C d_Ch_checkLacks_13 rfl 0 rfl ?_
      refine gC_Ch_19 (pc := 14) C  d_Ch_checkLacks_14 ?_
      obtain ⟨r3, σ2, e4, hm⟩ := bi_s hm
      refine z_callIN (pc := 17) C (k_Fa_isThere hAD e4) km_Fa_isThere mC_152 rfl rfl oC_2 rfl (kR_of (Nat.le_of_ble_eq_true rfl) (Nat.le_of_ble_eq_true rfl)) rfl (Nat.le_of_ble_eq_true rfl) d_Ch_checkLacks_17 ?_
      refine z_if_ne (pc := 20) (tgt := 108) C d_Ch_checkLacks_20 (by decide) (fun c5 => ?_) (fun c5 => ?_)
      · rw [if_neg c5] at hm
        refine z_lv (lv' := []) [] rfl ?_
        exact w_Ch_checkLacks_108 hAD C hr σ2 hm
      · rw [if_pos c5] at hm
        refine z_aload_n (pc := 23) C d_Ch_checkLacks_23 rfl 0 rfl ?_
        refine gC_Ch_15 (pc := 24) C  d_Ch_checkLacks_24 ?_
        refine gC_Ch_66 (pc := 27) C  d_Ch_checkLacks_27 ?_
        refine z_iload_n (pc := 30) C d_Ch_checkLacks_30 rfl 1 rfl ?_
        obtain ⟨g6, hm⟩ := gd_s hm
        refine alC_43 (pc := 31) (v := (ga σ2 43 x1.toNatClampNeg)) C  rfl g6 d_Ch_checkLacks_31 ?_
        refine z_iconst (pc := 32) C d_Ch_checkLacks_32 ki_5 ?_
        refine z_icmp_ne (pc := 33) (tgt := 40) C d_Ch_checkLacks_33 (by decide) (fun c7 => ?_) (fun c7 => ?_)
        · rw [if_neg c7] at hm
          refine z_iconst (pc := 40) C d_Ch_checkLacks_40 ki_3 ?_
          exact w_Ch_checkLacks_41 hAD C hr _ h2 σ2 x1 (3 : Int32) hm
        · rw [if_pos c7] at hm
          refine z_iconst (pc := 36) C d_Ch_checkLacks_36 ki_2 ?_
          refine z_goto (pc := 37) (tgt := 41) C d_Ch_checkLacks_37 (by decide) ?_
          exact w_Ch_checkLacks_41 hAD C hr _ h2 σ2 x1 (2 : Int32) hm
set_option maxHeartbeats 4000000 in
set_option maxRecDepth 100000 in
theorem k_Ch_checkLacks {l : Launch} {D : va_G} {ad : Nat → Nat} {cA : Nat → ClassId} {F : Nat} (hAD : ∀ σ, va_D (owC ad) (wdC ad cA σ)) {σ : zS} {σ' : zS} (hm : Ch_checkLacks F σ = some σ') : kVC l D ad cA (sXC ad) y_Ch_checkLacks bc_Ch_checkLacks 4 2 [.ref (ad 7)] σ σ' := by
  refine kV_of (by decide) hAD sXC_P (Nat.le_of_ble_eq_true rfl) ?_
  intro p e s m below meth c C hr
  unfold Ch_checkLacks at hm
  refine z_lv (lv' := [(0, .ref (ad 7))]) [0] rfl ?_
  refine z_iconst (pc := 0) C d_Ch_checkLacks_0 ki_0 ?_
  refine z_istore_n (pc := 1) (lv' := [(0, .ref (ad 7)), (1, .int (0 : Int32))]) C d_Ch_checkLacks_1 rfl (Nat.le_of_ble_eq_true rfl) [1, 0] rfl ?_
  exact w_Ch_checkLacks_2 hAD C hr F σ (0 : Int32) hm
set_option maxHeartbeats 4000000 in
set_option maxRecDepth 100000 in
theorem w_Ch_isStrange_41 {D : va_G} {ad : Nat → Nat} {cA : Nat → ClassId} {p : Program} {l : Launch} {e : Env} {s : State} {m : MethodId} {args : Array Value} {below : List Frame} {meth : Method} {c : Code} {F : Nat} (hAD : ∀ σ, va_D (owC ad) (wdC ad cA σ)) (C : CC D ad cA (sXC ad) p s m args meth c bc_Ch_isStrange "KindRounds$Checker" 4) (hr : meth.sig.returnType = some .boolean) {r : Int32} {σ' : zS} (σ : zS) (s0 : Int32) (hm : Ch_isStrange_41 F σ s0 = some (r, σ')) : ZC D ad cA p l e (rmK 1) s m args below meth c 4 (qiC D ad cA below args s r σ') 41 [] [.int s0] σ := by
  unfold Ch_isStrange_41 at hm
  obtain ⟨g1, hm⟩ := gd_s hm
  exact z_zretE (pc := 41) C hr g1 hm d_Ch_isStrange_41
set_option maxHeartbeats 4000000 in
set_option maxRecDepth 100000 in
theorem w_Ch_isStrange_40 {D : va_G} {ad : Nat → Nat} {cA : Nat → ClassId} {p : Program} {l : Launch} {e : Env} {s : State} {m : MethodId} {args : Array Value} {below : List Frame} {meth : Method} {c : Code} {F : Nat} (hAD : ∀ σ, va_D (owC ad) (wdC ad cA σ)) (C : CC D ad cA (sXC ad) p s m args meth c bc_Ch_isStrange "KindRounds$Checker" 4) (hr : meth.sig.returnType = some .boolean) {r : Int32} {σ' : zS} (σ : zS) (hm : Ch_isStrange_40 F σ = some (r, σ')) : ZC D ad cA p l e (rmK 1) s m args below meth c 4 (qiC D ad cA below args s r σ') 40 [] [] σ := by
  unfold Ch_isStrange_40 at hm
  refine z_iconst (pc := 40) C d_Ch_isStrange_40 ki_0 ?_
  exact w_Ch_isStrange_41 hAD C hr σ (0 : Int32) hm
set_option maxHeartbeats 4000000 in
set_option maxRecDepth 100000 in
theorem k_Ch_isStrange {l : Launch} {D : va_G} {ad : Nat → Nat} {cA : Nat → ClassId} {F : Nat} (hAD : ∀ σ, va_D (owC ad) (wdC ad cA σ)) {σ : zS} {x1 : Int32} {x2 : Int64} {r : Int32} {σ' : zS} (hm : Ch_isStrange F σ x1 x2 = some (r, σ')) : kIC l D ad cA (sXC ad) y_Ch_isStrange bc_Ch_isStrange 4 .boolean 1 [.ref (ad 7), .int x1, .long x2] σ r σ' := by
  refine kI_of (by decide) hAD sXC_P (Nat.le_of_ble_eq_true rfl) ?_
  intro p e s m below meth c C hr
  unfold Ch_isStrange at hm
  refine z_lv (lv' := [(0, .ref (ad 7)), (1, .int x1), (2, .long x2)]) [0, 1, 2] rfl ?_
  refine z_aload_n (pc := 0) C d_Ch_isStrange_0 rfl 0 rfl ?_
  refine gC_Ch_9 (pc := 1) C  d_Ch_isStrange_1 ?_
  refine z_iload_n (pc := 4) C d_Ch_isStrange_4 rfl 1 rfl ?_
  obtain ⟨r2, σ1, e3, hm⟩ := bi_s hm
  refine z_callIN (pc := 5) C (k_Te_has hAD e3) km_Te_has mC_169 rfl rfl oC_4 rfl (kR_of (Nat.le_of_ble_eq_true rfl) (Nat.le_of_ble_eq_true rfl)) rfl (Nat.le_of_ble_eq_true rfl) d_Ch_isStrange_5 ?_
  refine z_if_eq (pc := 8) (tgt := 40) C d_Ch_isStrange_8 (by decide) (fun c4 => ?_) (fun c4 => ?_)
  · rw [if_pos c4] at hm
    refine z_lv (lv' := []) [] rfl ?_
    exact w_Ch_isStrange_40 hAD C hr σ1 hm
  · rw [if_neg c4] at hm
    refine z_aload_n (pc := 11) C d_Ch_isStrange_11 rfl 0 rfl ?_
    refine gC_Ch_9 (pc := 12) C  d_Ch_isStrange_12 ?_
    refine gC_Ch_93 (pc := 15) C  d_Ch_isStrange_15 ?_
    refine z_iload_n (pc := 18) C d_Ch_isStrange_18 rfl 1 rfl ?_
    obtain ⟨g5, hm⟩ := gd_s hm
    refine alC_29 (pc := 19) (v := (ga σ1 29 x1.toNatClampNeg)) C  rfl g5 d_Ch_isStrange_19 ?_
    refine z_iconst (pc := 20) C d_Ch_isStrange_20 ki_2 ?_
    refine z_icmp_eq (pc := 21) (tgt := 40) C d_Ch_isStrange_21 (by decide) (fun c6 => ?_) (fun c6 => ?_)
    · rw [if_pos c6] at hm
      refine z_lv (lv' := []) [] rfl ?_
      exact w_Ch_isStrange_40 hAD C hr σ1 hm
    · rw [if_neg c6] at hm
      refine z_aload_n (pc := 24) C d_Ch_isStrange_24 rfl 0 rfl ?_
      refine gC_Ch_9 (pc := 25) C  d_Ch_isStrange_25 ?_
      refine z_iload_n (pc := 28) C d_Ch_isStrange_28 rfl 1 rfl ?_
      refine z_lload_n (pc := 29) C d_Ch_isStrange_29 rfl 2 rfl ?_
      obtain ⟨r8, σ7, e9, hm⟩ := bi_s hm
      refine z_callIN (pc := 30) C (k_Te_findParam hAD e9) km_Te_findParam mC_171 rfl rfl oC_4 rfl (kR_of (Nat.le_of_ble_eq_true rfl) (Nat.le_of_ble_eq_true rfl)) rfl (Nat.le_of_ble_eq_true rfl) d_Ch_isStrange_30 ?_
      refine z_if_ge (pc := 33) (tgt := 40) C d_Ch_isStrange_33 (by decide) (fun c10 => ?_) (fun c10 => ?_)
      · rw [if_pos c10] at hm
        refine z_lv (lv' := []) [] rfl ?_
        exact w_Ch_isStrange_40 hAD C hr σ7 hm
      · rw [if_neg c10] at hm
        refine z_iconst (pc := 36) C d_Ch_isStrange_36 ki_1 ?_
        refine z_goto (pc := 37) (tgt := 41) C d_Ch_isStrange_37 (by decide) ?_
        refine z_lv (lv' := []) [] rfl ?_
        exact w_Ch_isStrange_41 hAD C hr σ7 (1 : Int32) hm
set_option maxHeartbeats 4000000 in
set_option maxRecDepth 100000 in
theorem w_Ch_isBadName_84 {D : va_G} {ad : Nat → Nat} {cA : Nat → ClassId} {p : Program} {l : Launch} {e : Env} {s : State} {m : MethodId} {args : Array Value} {below : List Frame} {meth : Method} {c : Code} {F : Nat} (hAD : ∀ σ, va_D (owC ad) (wdC ad cA σ)) (C : CC D ad cA (sXC ad) p s m args meth c bc_Ch_isBadName "KindRounds$Checker" 4) (hr : meth.sig.returnType = some .boolean) {r : Int32} {σ' : zS} (σ : zS) (s0 : Int32) (hm : Ch_isBadName_84 F σ s0 = some (r, σ')) : ZC D ad cA p l e (rmK 2) s m args below meth c 4 (qiC D ad cA below args s r σ') 84 [] [.int s0] σ := by
  unfold Ch_isBadName_84 at hm
  obtain ⟨g1, hm⟩ := gd_s hm
  exact z_zretE (pc := 84) C hr g1 hm d_Ch_isBadName_84
set_option maxHeartbeats 4000000 in
set_option maxRecDepth 100000 in
theorem w_Ch_isBadName_79 {D : va_G} {ad : Nat → Nat} {cA : Nat → ClassId} {p : Program} {l : Launch} {e : Env} {s : State} {m : MethodId} {args : Array Value} {below : List Frame} {meth : Method} {c : Code} {F : Nat} (hAD : ∀ σ, va_D (owC ad) (wdC ad cA σ)) (C : CC D ad cA (sXC ad) p s m args meth c bc_Ch_isBadName "KindRounds$Checker" 4) (hr : meth.sig.returnType = some .boolean) {r : Int32} {σ' : zS} (σ : zS) (hm : Ch_isBadName_79 F σ = some (r, σ')) : ZC D ad cA p l e (rmK 2) s m args below meth c 4 (qiC D ad cA below args s r σ') 79 [] [] σ := by
  unfold Ch_isBadName_79 at hm
  refine z_iconst (pc := 79) C d_Ch_isBadName_79 ki_1 ?_
  refine z_goto (pc := 80) (tgt := 84) C d_Ch_isBadName_80 (by decide) ?_
  exact w_Ch_isBadName_84 hAD C hr σ (1 : Int32) hm
set_option maxHeartbeats 4000000 in
set_option maxRecDepth 100000 in
theorem w_Ch_isBadName_112 {D : va_G} {ad : Nat → Nat} {cA : Nat → ClassId} {p : Program} {l : Launch} {e : Env} {s : State} {m : MethodId} {args : Array Value} {below : List Frame} {meth : Method} {c : Code} {F : Nat} (hAD : ∀ σ, va_D (owC ad) (wdC ad cA σ)) (C : CC D ad cA (sXC ad) p s m args meth c bc_Ch_isBadName "KindRounds$Checker" 4) (hr : meth.sig.returnType = some .boolean) {r : Int32} {σ' : zS} (σ : zS) (s0 : Int32) (hm : Ch_isBadName_112 F σ s0 = some (r, σ')) : ZC D ad cA p l e (rmK 2) s m args below meth c 4 (qiC D ad cA below args s r σ') 112 [] [.int s0] σ := by
  unfold Ch_isBadName_112 at hm
  obtain ⟨g1, hm⟩ := gd_s hm
  exact z_zretE (pc := 112) C hr g1 hm d_Ch_isBadName_112
set_option maxHeartbeats 4000000 in
set_option maxRecDepth 100000 in
theorem w_Ch_isBadName_107 {D : va_G} {ad : Nat → Nat} {cA : Nat → ClassId} {p : Program} {l : Launch} {e : Env} {s : State} {m : MethodId} {args : Array Value} {below : List Frame} {meth : Method} {c : Code} {F : Nat} (hAD : ∀ σ, va_D (owC ad) (wdC ad cA σ)) (C : CC D ad cA (sXC ad) p s m args meth c bc_Ch_isBadName "KindRounds$Checker" 4) (hr : meth.sig.returnType = some .boolean) {r : Int32} {σ' : zS} (σ : zS) (hm : Ch_isBadName_107 F σ = some (r, σ')) : ZC D ad cA p l e (rmK 2) s m args below meth c 4 (qiC D ad cA below args s r σ') 107 [] [] σ := by
  unfold Ch_isBadName_107 at hm
  refine z_iconst (pc := 107) C d_Ch_isBadName_107 ki_1 ?_
  refine z_goto (pc := 108) (tgt := 112) C d_Ch_isBadName_108 (by decide) ?_
  exact w_Ch_isBadName_112 hAD C hr σ (1 : Int32) hm
set_option maxHeartbeats 4000000 in
set_option maxRecDepth 100000 in
theorem w_Ch_isBadName_137 {D : va_G} {ad : Nat → Nat} {cA : Nat → ClassId} {p : Program} {l : Launch} {e : Env} {s : State} {m : MethodId} {args : Array Value} {below : List Frame} {meth : Method} {c : Code} {F : Nat} (hAD : ∀ σ, va_D (owC ad) (wdC ad cA σ)) (C : CC D ad cA (sXC ad) p s m args meth c bc_Ch_isBadName "KindRounds$Checker" 4) (hr : meth.sig.returnType = some .boolean) {r : Int32} {σ' : zS} (σ : zS) (s0 : Int32) (hm : Ch_isBadName_137 F σ s0 = some (r, σ')) : ZC D ad cA p l e (rmK 2) s m args below meth c 4 (qiC D ad cA below args s r σ') 137 [] [.int s0] σ := by
  unfold Ch_isBadName_137 at hm
  obtain ⟨g1, hm⟩ := gd_s hm
  exact z_zretE (pc := 137) C hr g1 hm d_Ch_isBadName_137
set_option maxHeartbeats 4000000 in
set_option maxRecDepth 100000 in
theorem w_Ch_isBadName_136 {D : va_G} {ad : Nat → Nat} {cA : Nat → ClassId} {p : Program} {l : Launch} {e : Env} {s : State} {m : MethodId} {args : Array Value} {below : List Frame} {meth : Method} {c : Code} {F : Nat} (hAD : ∀ σ, va_D (owC ad) (wdC ad cA σ)) (C : CC D ad cA (sXC ad) p s m args meth c bc_Ch_isBadName "KindRounds$Checker" 4) (hr : meth.sig.returnType = some .boolean) {r : Int32} {σ' : zS} (σ : zS) (hm : Ch_isBadName_136 F σ = some (r, σ')) : ZC D ad cA p l e (rmK 2) s m args below meth c 4 (qiC D ad cA below args s r σ') 136 [] [] σ := by
  unfold Ch_isBadName_136 at hm
  refine z_iconst (pc := 136) C d_Ch_isBadName_136 ki_0 ?_
  exact w_Ch_isBadName_137 hAD C hr σ (0 : Int32) hm
set_option maxHeartbeats 4000000 in
set_option maxRecDepth 100000 in
theorem k_Ch_isBadName {l : Launch} {D : va_G} {ad : Nat → Nat} {cA : Nat → ClassId} {F : Nat} (hAD : ∀ σ, va_D (owC ad) (wdC ad cA σ)) {σ : zS} {x1 : Int32} {r : Int32} {σ' : zS} (hm : Ch_isBadName F σ x1 = some (r, σ')) : kIC l D ad cA (sXC ad) y_Ch_isBadName bc_Ch_isBadName 4 .boolean 2 [.ref (ad 7), .int x1] σ r σ' := by
  refine kI_of (by decide) hAD sXC_P (Nat.le_of_ble_eq_true rfl) ?_
  intro p e s m below meth c C hr
  unfold Ch_isBadName at hm
  refine z_lv (lv' := [(0, .ref (ad 7)), (1, .int x1)]) [0, 1] rfl ?_
  refine z_aload_n (pc := 0) C d_Ch_isBadName_0 rfl 0 rfl ?_
  refine gC_Ch_15 (pc := 1) C  d_Ch_isBadName_1 ?_
  refine gC_Ch_62 (pc := 4) C  d_Ch_isBadName_4 ?_
  refine z_iload_n (pc := 7) C d_Ch_isBadName_7 rfl 1 rfl ?_
  obtain ⟨g1, hm⟩ := gd_s hm
  refine alC_44 (pc := 8) (v := (gb σ 44 x1.toNatClampNeg)) C  rfl g1 d_Ch_isBadName_8 ?_
  refine z_lstore_n (pc := 9) (lv' := [(0, .ref (ad 7)), (1, .int x1), (2, .long (gb σ 44 x1.toNatClampNeg))]) C d_Ch_isBadName_9 rfl (Nat.le_of_ble_eq_true rfl) [1, 2, 0] rfl ?_
  refine z_aload_n (pc := 10) C d_Ch_isBadName_10 rfl 0 rfl ?_
  refine gC_Ch_15 (pc := 11) C  d_Ch_isBadName_11 ?_
  refine gC_Ch_66 (pc := 14) C  d_Ch_isBadName_14 ?_
  refine z_iload_n (pc := 17) C d_Ch_isBadName_17 rfl 1 rfl ?_
  refine alC_43 (pc := 18) (v := (ga σ 43 x1.toNatClampNeg)) C  rfl g1 d_Ch_isBadName_18 ?_
  by_cases c7 : (ga σ 43 x1.toNatClampNeg) = (0 : Int32)
  · rw [if_pos c7] at hm
    refine z_tableIn (pc := 19) (off := 41) (tgt := 60) C d_Ch_isBadName_19 (by rw [c7]; decide) (by rw [c7]; decide) (by rw [c7]; decide) (by decide) ?_
    refine z_lload_n (pc := 60) C d_Ch_isBadName_60 rfl 2 rfl ?_
    refine z_ldc2 (pc := 61) C mC_162 d_Ch_isBadName_61 ?_
    refine z_lcmp (pc := 64) C d_Ch_isBadName_64 ?_
    refine z_if_eq (pc := 65) (tgt := 79) C d_Ch_isBadName_65 (by decide) (fun c2 => ?_) (fun c2 => ?_)
    · rw [if_pos c2] at hm
      refine z_lv (lv' := []) [] rfl ?_
      exact w_Ch_isBadName_79 hAD C hr σ hm
    · rw [if_neg c2] at hm
      refine z_aload_n (pc := 68) C d_Ch_isBadName_68 rfl 0 rfl ?_
      refine gC_Ch_15 (pc := 69) C  d_Ch_isBadName_69 ?_
      refine z_iload_n (pc := 72) C d_Ch_isBadName_72 rfl 1 rfl ?_
      obtain ⟨r4, σ3, e5, hm⟩ := bi_s hm
      refine z_callIN (pc := 73) C (k_Me_wasTold hAD e5) km_Me_wasTold mC_163 rfl rfl oC_5 rfl (kR_of (Nat.le_of_ble_eq_true rfl) (Nat.le_of_ble_eq_true rfl)) rfl (Nat.le_of_ble_eq_true rfl) d_Ch_isBadName_73 ?_
      refine z_if_eq (pc := 76) (tgt := 83) C d_Ch_isBadName_76 (by decide) (fun c6 => ?_) (fun c6 => ?_)
      · rw [if_pos c6] at hm
        refine z_iconst (pc := 83) C d_Ch_isBadName_83 ki_0 ?_
        refine z_lv (lv' := []) [] rfl ?_
        exact w_Ch_isBadName_84 hAD C hr σ3 (0 : Int32) hm
      · rw [if_neg c6] at hm
        refine z_lv (lv' := []) [] rfl ?_
        exact w_Ch_isBadName_79 hAD C hr σ3 hm
  · rw [if_neg c7] at hm
    by_cases c12 : (ga σ 43 x1.toNatClampNeg) = (1 : Int32)
    · rw [if_pos c12] at hm
      refine z_tableIn (pc := 19) (off := 134) (tgt := 153) C d_Ch_isBadName_19 (by rw [c12]; decide) (by rw [c12]; decide) (by rw [c12]; decide) (by decide) ?_
      refine z_aload_n (pc := 153) C d_Ch_isBadName_153 rfl 0 rfl ?_
      refine gC_Ch_15 (pc := 154) C  d_Ch_isBadName_154 ?_
      refine z_iload_n (pc := 157) C d_Ch_isBadName_157 rfl 1 rfl ?_
      obtain ⟨r9, σ8, e10, hm⟩ := bi_s hm
      refine z_callIN (pc := 158) C (k_Me_wasTold hAD e10) km_Me_wasTold mC_163 rfl rfl oC_5 rfl (kR_of (Nat.le_of_ble_eq_true rfl) (Nat.le_of_ble_eq_true rfl)) rfl (Nat.le_of_ble_eq_true rfl) d_Ch_isBadName_158 ?_
      obtain ⟨g11, hm⟩ := gd_s hm
      exact z_zretE (pc := 161) C hr g11 hm d_Ch_isBadName_161
    · rw [if_neg c12] at hm
      by_cases c17 : (ga σ 43 x1.toNatClampNeg) = (2 : Int32)
      · rw [if_pos c17] at hm
        refine z_tableIn (pc := 19) (off := 134) (tgt := 153) C d_Ch_isBadName_19 (by rw [c17]; decide) (by rw [c17]; decide) (by rw [c17]; decide) (by decide) ?_
        refine z_aload_n (pc := 153) C d_Ch_isBadName_153 rfl 0 rfl ?_
        refine gC_Ch_15 (pc := 154) C  d_Ch_isBadName_154 ?_
        refine z_iload_n (pc := 157) C d_Ch_isBadName_157 rfl 1 rfl ?_
        obtain ⟨r14, σ13, e15, hm⟩ := bi_s hm
        refine z_callIN (pc := 158) C (k_Me_wasTold hAD e15) km_Me_wasTold mC_163 rfl rfl oC_5 rfl (kR_of (Nat.le_of_ble_eq_true rfl) (Nat.le_of_ble_eq_true rfl)) rfl (Nat.le_of_ble_eq_true rfl) d_Ch_isBadName_158 ?_
        obtain ⟨g16, hm⟩ := gd_s hm
        exact z_zretE (pc := 161) C hr g16 hm d_Ch_isBadName_161
      · rw [if_neg c17] at hm
        by_cases c22 : (ga σ 43 x1.toNatClampNeg) = (3 : Int32)
        · rw [if_pos c22] at hm
          refine z_tableIn (pc := 19) (off := 134) (tgt := 153) C d_Ch_isBadName_19 (by rw [c22]; decide) (by rw [c22]; decide) (by rw [c22]; decide) (by decide) ?_
          refine z_aload_n (pc := 153) C d_Ch_isBadName_153 rfl 0 rfl ?_
          refine gC_Ch_15 (pc := 154) C  d_Ch_isBadName_154 ?_
          refine z_iload_n (pc := 157) C d_Ch_isBadName_157 rfl 1 rfl ?_
          obtain ⟨r19, σ18, e20, hm⟩ := bi_s hm
          refine z_callIN (pc := 158) C (k_Me_wasTold hAD e20) km_Me_wasTold mC_163 rfl rfl oC_5 rfl (kR_of (Nat.le_of_ble_eq_true rfl) (Nat.le_of_ble_eq_true rfl)) rfl (Nat.le_of_ble_eq_true rfl) d_Ch_isBadName_158 ?_
          obtain ⟨g21, hm⟩ := gd_s hm
          exact z_zretE (pc := 161) C hr g21 hm d_Ch_isBadName_161
        · rw [if_neg c22] at hm
          by_cases c31 : (ga σ 43 x1.toNatClampNeg) = (4 : Int32)
          · rw [if_pos c31] at hm
            refine z_tableIn (pc := 19) (off := 66) (tgt := 85) C d_Ch_isBadName_19 (by rw [c31]; decide) (by rw [c31]; decide) (by rw [c31]; decide) (by decide) ?_
            refine z_aload_n (pc := 85) C d_Ch_isBadName_85 rfl 0 rfl ?_
            refine gC_Ch_9 (pc := 86) C  d_Ch_isBadName_86 ?_
            refine z_lload_n (pc := 89) C d_Ch_isBadName_89 rfl 2 rfl ?_
            obtain ⟨r24, σ23, e25, hm⟩ := bi_s hm
            refine z_callIN (pc := 90) C (k_Te_findDeclared hAD e25) km_Te_findDeclared mC_165 rfl rfl oC_4 rfl (kR_of (Nat.le_of_ble_eq_true rfl) (Nat.le_of_ble_eq_true rfl)) rfl (Nat.le_of_ble_eq_true rfl) d_Ch_isBadName_90 ?_
            refine z_if_lt (pc := 93) (tgt := 107) C d_Ch_isBadName_93 (by decide) (fun c26 => ?_) (fun c26 => ?_)
            · rw [if_pos c26] at hm
              refine z_lv (lv' := []) [] rfl ?_
              exact w_Ch_isBadName_107 hAD C hr σ23 hm
            · rw [if_neg c26] at hm
              refine z_aload_n (pc := 96) C d_Ch_isBadName_96 rfl 0 rfl ?_
              refine gC_Ch_15 (pc := 97) C  d_Ch_isBadName_97 ?_
              refine z_iload_n (pc := 100) C d_Ch_isBadName_100 rfl 1 rfl ?_
              obtain ⟨r28, σ27, e29, hm⟩ := bi_s hm
              refine z_callIN (pc := 101) C (k_Me_wasTold hAD e29) km_Me_wasTold mC_163 rfl rfl oC_5 rfl (kR_of (Nat.le_of_ble_eq_true rfl) (Nat.le_of_ble_eq_true rfl)) rfl (Nat.le_of_ble_eq_true rfl) d_Ch_isBadName_101 ?_
              refine z_if_eq (pc := 104) (tgt := 111) C d_Ch_isBadName_104 (by decide) (fun c30 => ?_) (fun c30 => ?_)
              · rw [if_pos c30] at hm
                refine z_iconst (pc := 111) C d_Ch_isBadName_111 ki_0 ?_
                refine z_lv (lv' := []) [] rfl ?_
                exact w_Ch_isBadName_112 hAD C hr σ27 (0 : Int32) hm
              · rw [if_neg c30] at hm
                refine z_lv (lv' := []) [] rfl ?_
                exact w_Ch_isBadName_107 hAD C hr σ27 hm
          · rw [if_neg c31] at hm
            by_cases c37 : (ga σ 43 x1.toNatClampNeg) = (5 : Int32)
            · rw [if_pos c37] at hm
              refine z_tableIn (pc := 19) (off := 94) (tgt := 113) C d_Ch_isBadName_19 (by rw [c37]; decide) (by rw [c37]; decide) (by rw [c37]; decide) (by decide) ?_
              refine z_lload_n (pc := 113) C d_Ch_isBadName_113 rfl 2 rfl ?_
              refine z_ldc2 (pc := 114) C mC_162 d_Ch_isBadName_114 ?_
              refine z_lcmp (pc := 117) C d_Ch_isBadName_117 ?_
              refine z_if_eq (pc := 118) (tgt := 136) C d_Ch_isBadName_118 (by decide) (fun c32 => ?_) (fun c32 => ?_)
              · rw [if_pos c32] at hm
                refine z_lv (lv' := []) [] rfl ?_
                exact w_Ch_isBadName_136 hAD C hr σ hm
              · rw [if_neg c32] at hm
                refine z_aload_n (pc := 121) C d_Ch_isBadName_121 rfl 0 rfl ?_
                refine gC_Ch_9 (pc := 122) C  d_Ch_isBadName_122 ?_
                refine z_lload_n (pc := 125) C d_Ch_isBadName_125 rfl 2 rfl ?_
                obtain ⟨r34, σ33, e35, hm⟩ := bi_s hm
                refine z_callIN (pc := 126) C (k_Te_findType hAD e35) km_Te_findType mC_166 rfl rfl oC_4 rfl (kR_of (Nat.le_of_ble_eq_true rfl) (Nat.le_of_ble_eq_true rfl)) rfl (Nat.le_of_ble_eq_true rfl) d_Ch_isBadName_126 ?_
                refine z_if_ge (pc := 129) (tgt := 136) C d_Ch_isBadName_129 (by decide) (fun c36 => ?_) (fun c36 => ?_)
                · rw [if_pos c36] at hm
                  refine z_lv (lv' := []) [] rfl ?_
                  exact w_Ch_isBadName_136 hAD C hr σ33 hm
                · rw [if_neg c36] at hm
                  refine z_iconst (pc := 132) C d_Ch_isBadName_132 ki_1 ?_
                  refine z_goto (pc := 133) (tgt := 137) C d_Ch_isBadName_133 (by decide) ?_
                  refine z_lv (lv' := []) [] rfl ?_
                  exact w_Ch_isBadName_137 hAD C hr σ33 (1 : Int32) hm
            · rw [if_neg c37] at hm
              by_cases c42 : (ga σ 43 x1.toNatClampNeg) = (6 : Int32)
              · rw [if_pos c42] at hm
                refine z_tableIn (pc := 19) (off := 119) (tgt := 138) C d_Ch_isBadName_19 (by rw [c42]; decide) (by rw [c42]; decide) (by rw [c42]; decide) (by decide) ?_
                refine z_aload_n (pc := 138) C d_Ch_isBadName_138 rfl 0 rfl ?_
                refine z_aload_n (pc := 139) C d_Ch_isBadName_139 rfl 0 rfl ?_
                refine gC_Ch_15 (pc := 140) C  d_Ch_isBadName_140 ?_
                refine gC_Ch_83 (pc := 143) C  d_Ch_isBadName_143 ?_
                refine z_iload_n (pc := 146) C d_Ch_isBadName_146 rfl 1 rfl ?_
                refine alC_46 (pc := 147) (v := (ga σ 46 x1.toNatClampNeg)) C  rfl g1 d_Ch_isBadName_147 ?_
                refine z_lload_n (pc := 148) C d_Ch_isBadName_148 rfl 2 rfl ?_
                obtain ⟨r39, σ38, e40, hm⟩ := bi_s hm
                refine z_callI (pc := 149) C (k_Ch_isStrange hAD e40) km_Ch_isStrange mC_168 rfl rfl oC_7 rfl (kR_of (Nat.le_of_ble_eq_true rfl) (Nat.le_of_ble_eq_true rfl)) rfl (Nat.le_of_ble_eq_true rfl) d_Ch_isBadName_149 ?_
                obtain ⟨g41, hm⟩ := gd_s hm
                exact z_zretE (pc := 152) C hr g41 hm d_Ch_isBadName_152
              · rw [if_neg c42] at hm
                refine z_tableOut (pc := 19) (tgt := 153) C d_Ch_isBadName_19 (sw_out0_6 c7 c12 c17 c22 c31 c37 c42) (by decide) ?_
                refine z_aload_n (pc := 153) C d_Ch_isBadName_153 rfl 0 rfl ?_
                refine gC_Ch_15 (pc := 154) C  d_Ch_isBadName_154 ?_
                refine z_iload_n (pc := 157) C d_Ch_isBadName_157 rfl 1 rfl ?_
                obtain ⟨r44, σ43, e45, hm⟩ := bi_s hm
                refine z_callIN (pc := 158) C (k_Me_wasTold hAD e45) km_Me_wasTold mC_163 rfl rfl oC_5 rfl (kR_of (Nat.le_of_ble_eq_true rfl) (Nat.le_of_ble_eq_true rfl)) rfl (Nat.le_of_ble_eq_true rfl) d_Ch_isBadName_158 ?_
                obtain ⟨g46, hm⟩ := gd_s hm
                exact z_zretE (pc := 161) C hr g46 hm d_Ch_isBadName_161
set_option maxHeartbeats 4000000 in
set_option maxRecDepth 100000 in
theorem w_Ch_checkNames_54 {D : va_G} {ad : Nat → Nat} {cA : Nat → ClassId} {p : Program} {l : Launch} {e : Env} {s : State} {m : MethodId} {args : Array Value} {below : List Frame} {meth : Method} {c : Code} {F : Nat} (hAD : ∀ σ, va_D (owC ad) (wdC ad cA σ)) (C : CC D ad cA (sXC ad) p s m args meth c bc_Ch_checkNames "KindRounds$Checker" 2) (hr : meth.sig.returnType = none) {σ' : zS} (σ : zS) (hm : Ch_checkNames_54 F σ = some σ') : ZC D ad cA p l e (rmK 3) s m args below meth c 2 (qvC D ad cA below args s σ') 54 [] [] σ := by
  unfold Ch_checkNames_54 at hm
  exact z_vretE (pc := 54) C hr hm d_Ch_checkNames_54
set_option maxHeartbeats 4000000 in
set_option maxRecDepth 100000 in
theorem w_Ch_checkNames_48 {D : va_G} {ad : Nat → Nat} {cA : Nat → ClassId} {p : Program} {l : Launch} {e : Env} {s : State} {m : MethodId} {args : Array Value} {below : List Frame} {meth : Method} {c : Code} {F : Nat} (hAD : ∀ σ, va_D (owC ad) (wdC ad cA σ)) (C : CC D ad cA (sXC ad) p s m args meth c bc_Ch_checkNames "KindRounds$Checker" 2) (hr : meth.sig.returnType = none) {σ' : zS} (rc2 : zS → Int32 → Option zS) (h2 : ∀ σ x1, rc2 σ x1 = some σ' → ZC D ad cA p l e (rmK 3) s m args below meth c 2 (qvC D ad cA below args s σ') 2 [(0, .ref (ad 7)), (1, .int x1)] [] σ) (σ : zS) (x1 : Int32) (hm : Ch_checkNames_48 F rc2 σ x1 = some σ') : ZC D ad cA p l e (rmK 3) s m args below meth c 2 (qvC D ad cA below args s σ') 48 [(0, .ref (ad 7)), (1, .int x1)] [] σ := by
  unfold Ch_checkNames_48 at hm
  refine z_iinc (pc := 48) (lv' := [(0, .ref (ad 7)), (1, .int (x1 + (1 : Int32)))]) C d_Ch_checkNames_48 1 rfl (ii ki_1) (Nat.le_of_ble_eq_true rfl) [1, 0] rfl ?_
  refine z_goto (pc := 51) (tgt := 2) C d_Ch_checkNames_51 (by decide) ?_
  exact h2 σ (x1 + (1 : Int32)) hm
set_option maxHeartbeats 4000000 in
set_option maxRecDepth 100000 in
theorem w_Ch_checkNames_2 {D : va_G} {ad : Nat → Nat} {cA : Nat → ClassId} {p : Program} {l : Launch} {e : Env} {s : State} {m : MethodId} {args : Array Value} {below : List Frame} {meth : Method} {c : Code} {F : Nat} (hAD : ∀ σ, va_D (owC ad) (wdC ad cA σ)) (C : CC D ad cA (sXC ad) p s m args meth c bc_Ch_checkNames "KindRounds$Checker" 2) (hr : meth.sig.returnType = none) {σ' : zS} : ∀ (n : Nat) (σ : zS) (x1 : Int32), Ch_checkNames_2 F n σ x1 = some σ' → ZC D ad cA p l e (rmK 3) s m args below meth c 2 (qvC D ad cA below args s σ') 2 [(0, .ref (ad 7)), (1, .int x1)] [] σ := by
  intro n
  induction n with
  | zero => intro σ x1 hm; cases hm
  | succ n h2 =>
    intro σ x1 hm
    have hm : Ch_checkNames_b2 F (Ch_checkNames_2 F n) σ x1 = some σ' := hm
    unfold Ch_checkNames_b2 at hm
    refine z_iload_n (pc := 2) C d_Ch_checkNames_2 rfl 1 rfl ?_
    refine z_aload_n (pc := 3) C d_Ch_checkNames_3 rfl 0 rfl ?_
    refine gC_Ch_15 (pc := 4) C  d_Ch_checkNames_4 ?_
    refine gC_Ch_45 (pc := 7) (v := (gi σ 505)) C rfl d_Ch_checkNames_7 ?_
    refine z_icmp_ge (pc := 10) (tgt := 54) C d_Ch_checkNames_10 (by decide) (fun c1 => ?_) (fun c1 => ?_)
    · rw [if_pos c1] at hm
      refine z_lv (lv' := []) [] rfl ?_
      exact w_Ch_checkNames_54 hAD C hr σ hm
    · rw [if_neg c1] at hm
      refine z_aload_n (pc := 13) C d_Ch_checkNames_13 rfl 0 rfl ?_
      refine gC_Ch_19 (pc := 14) C  d_Ch_checkNames_14 ?_
      obtain ⟨r3, σ2, e4, hm⟩ := bi_s hm
      refine z_callIN (pc := 17) C (k_Fa_isThere hAD e4) km_Fa_isThere mC_152 rfl rfl oC_2 rfl (kR_of (Nat.le_of_ble_eq_true rfl) (Nat.le_of_ble_eq_true rfl)) rfl (Nat.le_of_ble_eq_true rfl) d_Ch_checkNames_17 ?_
      refine z_if_ne (pc := 20) (tgt := 54) C d_Ch_checkNames_20 (by decide) (fun c5 => ?_) (fun c5 => ?_)
      · rw [if_neg c5] at hm
        refine z_lv (lv' := []) [] rfl ?_
        exact w_Ch_checkNames_54 hAD C hr σ2 hm
      · rw [if_pos c5] at hm
        refine z_aload_n (pc := 23) C d_Ch_checkNames_23 rfl 0 rfl ?_
        refine z_iload_n (pc := 24) C d_Ch_checkNames_24 rfl 1 rfl ?_
        obtain ⟨r7, σ6, e8, hm⟩ := bi_s hm
        refine z_callI (pc := 25) C (k_Ch_isBadName hAD e8) km_Ch_isBadName mC_157 rfl rfl oC_7 rfl (kR_of (Nat.le_of_ble_eq_true rfl) (Nat.le_of_ble_eq_true rfl)) rfl (Nat.le_of_ble_eq_true rfl) d_Ch_checkNames_25 ?_
        refine z_if_eq (pc := 28) (tgt := 48) C d_Ch_checkNames_28 (by decide) (fun c9 => ?_) (fun c9 => ?_)
        · rw [if_pos c9] at hm
          exact w_Ch_checkNames_48 hAD C hr _ h2 σ6 x1 hm
        · rw [if_neg c9] at hm
          refine z_aload_n (pc := 31) C d_Ch_checkNames_31 rfl 0 rfl ?_
          refine gC_Ch_19 (pc := 32) C  d_Ch_checkNames_32 ?_
          refine z_iconst (pc := 35) C d_Ch_checkNames_35 ki_3 ?_
          refine z_aload_n (pc := 36) C d_Ch_checkNames_36 rfl 0 rfl ?_
          refine gC_Ch_15 (pc := 37) C  d_Ch_checkNames_37 ?_
          refine gC_Ch_55 (pc := 40) C  d_Ch_checkNames_40 ?_
          refine z_iload_n (pc := 43) C d_Ch_checkNames_43 rfl 1 rfl ?_
          obtain ⟨g10, hm⟩ := gd_s hm
          refine alC_45 (pc := 44) (v := (ga σ6 45 x1.toNatClampNeg)) C  rfl g10 d_Ch_checkNames_44 ?_
          obtain ⟨σ11, e12, hm⟩ := bv_s hm
          refine z_callVN (pc := 45) C (k_Fa_raise hAD e12) km_Fa_raise mC_159 rfl rfl oC_2 rfl (kR_of (Nat.le_of_ble_eq_true rfl) (Nat.le_of_ble_eq_true rfl)) rfl (Nat.le_of_ble_eq_true rfl) d_Ch_checkNames_45 ?_
          exact w_Ch_checkNames_48 hAD C hr _ h2 σ11 x1 hm
set_option maxHeartbeats 4000000 in
set_option maxRecDepth 100000 in
theorem k_Ch_checkNames {l : Launch} {D : va_G} {ad : Nat → Nat} {cA : Nat → ClassId} {F : Nat} (hAD : ∀ σ, va_D (owC ad) (wdC ad cA σ)) {σ : zS} {σ' : zS} (hm : Ch_checkNames F σ = some σ') : kVC l D ad cA (sXC ad) y_Ch_checkNames bc_Ch_checkNames 2 3 [.ref (ad 7)] σ σ' := by
  refine kV_of (by decide) hAD sXC_P (Nat.le_of_ble_eq_true rfl) ?_
  intro p e s m below meth c C hr
  unfold Ch_checkNames at hm
  refine z_lv (lv' := [(0, .ref (ad 7))]) [0] rfl ?_
  refine z_iconst (pc := 0) C d_Ch_checkNames_0 ki_0 ?_
  refine z_istore_n (pc := 1) (lv' := [(0, .ref (ad 7)), (1, .int (0 : Int32))]) C d_Ch_checkNames_1 rfl (Nat.le_of_ble_eq_true rfl) [1, 0] rfl ?_
  exact w_Ch_checkNames_2 hAD C hr F σ (0 : Int32) hm
set_option maxHeartbeats 4000000 in
set_option maxRecDepth 100000 in
theorem w_Ch_checkRings_167 {D : va_G} {ad : Nat → Nat} {cA : Nat → ClassId} {p : Program} {l : Launch} {e : Env} {s : State} {m : MethodId} {args : Array Value} {below : List Frame} {meth : Method} {c : Code} {F : Nat} (hAD : ∀ σ, va_D (owC ad) (wdC ad cA σ)) (C : CC D ad cA (sXC ad) p s m args meth c bc_Ch_checkRings "KindRounds$Checker" 3) (hr : meth.sig.returnType = none) {σ' : zS} (σ : zS) (hm : Ch_checkRings_167 F σ = some σ') : ZC D ad cA p l e (rmK 1) s m args below meth c 3 (qvC D ad cA below args s σ') 167 [] [] σ := by
  unfold Ch_checkRings_167 at hm
  exact z_vretE (pc := 167) C hr hm d_Ch_checkRings_167
set_option maxHeartbeats 4000000 in
set_option maxRecDepth 100000 in
theorem w_Ch_checkRings_161 {D : va_G} {ad : Nat → Nat} {cA : Nat → ClassId} {p : Program} {l : Launch} {e : Env} {s : State} {m : MethodId} {args : Array Value} {below : List Frame} {meth : Method} {c : Code} {F : Nat} (hAD : ∀ σ, va_D (owC ad) (wdC ad cA σ)) (C : CC D ad cA (sXC ad) p s m args meth c bc_Ch_checkRings "KindRounds$Checker" 3) (hr : meth.sig.returnType = none) {σ' : zS} (rc110 : zS → Int32 → Option zS) (h110 : ∀ σ x2, rc110 σ x2 = some σ' → ZC D ad cA p l e (rmK 1) s m args below meth c 3 (qvC D ad cA below args s σ') 110 [(0, .ref (ad 7)), (2, .int x2)] [] σ) (σ : zS) (x2 : Int32) (hm : Ch_checkRings_161 F rc110 σ x2 = some σ') : ZC D ad cA p l e (rmK 1) s m args below meth c 3 (qvC D ad cA below args s σ') 161 [(0, .ref (ad 7)), (2, .int x2)] [] σ := by
  unfold Ch_checkRings_161 at hm
  refine z_iinc (pc := 161) (lv' := [(0, .ref (ad 7)), (2, .int (x2 + (1 : Int32)))]) C d_Ch_checkRings_161 1 rfl (ii ki_1) (Nat.le_of_ble_eq_true rfl) [1, 0] rfl ?_
  refine z_goto (pc := 164) (tgt := 110) C d_Ch_checkRings_164 (by decide) ?_
  exact h110 σ (x2 + (1 : Int32)) hm
set_option maxHeartbeats 4000000 in
set_option maxRecDepth 100000 in
theorem w_Ch_checkRings_110 {D : va_G} {ad : Nat → Nat} {cA : Nat → ClassId} {p : Program} {l : Launch} {e : Env} {s : State} {m : MethodId} {args : Array Value} {below : List Frame} {meth : Method} {c : Code} {F : Nat} (hAD : ∀ σ, va_D (owC ad) (wdC ad cA σ)) (C : CC D ad cA (sXC ad) p s m args meth c bc_Ch_checkRings "KindRounds$Checker" 3) (hr : meth.sig.returnType = none) {σ' : zS} : ∀ (n : Nat) (σ : zS) (x2 : Int32), Ch_checkRings_110 F n σ x2 = some σ' → ZC D ad cA p l e (rmK 1) s m args below meth c 3 (qvC D ad cA below args s σ') 110 [(0, .ref (ad 7)), (2, .int x2)] [] σ := by
  intro n
  induction n with
  | zero => intro σ x2 hm; cases hm
  | succ n h110 =>
    intro σ x2 hm
    have hm : Ch_checkRings_b110 F (Ch_checkRings_110 F n) σ x2 = some σ' := hm
    unfold Ch_checkRings_b110 at hm
    refine z_iload_n (pc := 110) C d_Ch_checkRings_110 rfl 1 rfl ?_
    refine z_aload_n (pc := 111) C d_Ch_checkRings_111 rfl 0 rfl ?_
    refine gC_Ch_9 (pc := 112) C  d_Ch_checkRings_112 ?_
    refine gC_Ch_103 (pc := 115) (v := (gi σ 400)) C rfl d_Ch_checkRings_115 ?_
    refine z_icmp_ge (pc := 118) (tgt := 167) C d_Ch_checkRings_118 (by decide) (fun c1 => ?_) (fun c1 => ?_)
    · rw [if_pos c1] at hm
      refine z_lv (lv' := []) [] rfl ?_
      exact w_Ch_checkRings_167 hAD C hr σ hm
    · rw [if_neg c1] at hm
      refine z_aload_n (pc := 121) C d_Ch_checkRings_121 rfl 0 rfl ?_
      refine gC_Ch_19 (pc := 122) C  d_Ch_checkRings_122 ?_
      obtain ⟨r3, σ2, e4, hm⟩ := bi_s hm
      refine z_callIN (pc := 125) C (k_Fa_isThere hAD e4) km_Fa_isThere mC_152 rfl rfl oC_2 rfl (kR_of (Nat.le_of_ble_eq_true rfl) (Nat.le_of_ble_eq_true rfl)) rfl (Nat.le_of_ble_eq_true rfl) d_Ch_checkRings_125 ?_
      refine z_if_ne (pc := 128) (tgt := 167) C d_Ch_checkRings_128 (by decide) (fun c5 => ?_) (fun c5 => ?_)
      · rw [if_neg c5] at hm
        refine z_lv (lv' := []) [] rfl ?_
        exact w_Ch_checkRings_167 hAD C hr σ2 hm
      · rw [if_pos c5] at hm
        refine z_aload_n (pc := 131) C d_Ch_checkRings_131 rfl 0 rfl ?_
        refine gC_Ch_23 (pc := 132) C  d_Ch_checkRings_132 ?_
        refine z_iload_n (pc := 135) C d_Ch_checkRings_135 rfl 1 rfl ?_
        obtain ⟨g6, hm⟩ := gd_s hm
        refine alC_48 (pc := 136) (v := (ga σ2 48 x2.toNatClampNeg)) C  rfl g6 d_Ch_checkRings_136 ?_
        refine z_iload_n (pc := 137) C d_Ch_checkRings_137 rfl 1 rfl ?_
        refine z_ishr (pc := 138) C d_Ch_checkRings_138 ?_
        refine z_iconst (pc := 139) C d_Ch_checkRings_139 ki_1 ?_
        refine z_iand (pc := 140) C d_Ch_checkRings_140 ?_
        refine z_if_eq (pc := 141) (tgt := 161) C d_Ch_checkRings_141 (by decide) (fun c7 => ?_) (fun c7 => ?_)
        · rw [if_pos c7] at hm
          exact w_Ch_checkRings_161 hAD C hr _ h110 σ2 x2 hm
        · rw [if_neg c7] at hm
          refine z_aload_n (pc := 144) C d_Ch_checkRings_144 rfl 0 rfl ?_
          refine gC_Ch_19 (pc := 145) C  d_Ch_checkRings_145 ?_
          refine z_iconst (pc := 148) C d_Ch_checkRings_148 ki_4 ?_
          refine z_aload_n (pc := 149) C d_Ch_checkRings_149 rfl 0 rfl ?_
          refine gC_Ch_9 (pc := 150) C  d_Ch_checkRings_150 ?_
          refine gC_Ch_108 (pc := 153) C  d_Ch_checkRings_153 ?_
          refine z_iload_n (pc := 156) C d_Ch_checkRings_156 rfl 1 rfl ?_
          refine alC_31 (pc := 157) (v := (ga σ2 31 x2.toNatClampNeg)) C  rfl g6 d_Ch_checkRings_157 ?_
          obtain ⟨σ8, e9, hm⟩ := bv_s hm
          refine z_callVN (pc := 158) C (k_Fa_raise hAD e9) km_Fa_raise mC_159 rfl rfl oC_2 rfl (kR_of (Nat.le_of_ble_eq_true rfl) (Nat.le_of_ble_eq_true rfl)) rfl (Nat.le_of_ble_eq_true rfl) d_Ch_checkRings_158 ?_
          exact w_Ch_checkRings_161 hAD C hr _ h110 σ8 x2 hm
set_option maxHeartbeats 4000000 in
set_option maxRecDepth 100000 in
theorem w_Ch_checkRings_90 {D : va_G} {ad : Nat → Nat} {cA : Nat → ClassId} {p : Program} {l : Launch} {e : Env} {s : State} {m : MethodId} {args : Array Value} {below : List Frame} {meth : Method} {c : Code} {F : Nat} (hAD : ∀ σ, va_D (owC ad) (wdC ad cA σ)) (C : CC D ad cA (sXC ad) p s m args meth c bc_Ch_checkRings "KindRounds$Checker" 3) (hr : meth.sig.returnType = none) {σ' : zS} (rc46 : zS → Int32 → Int32 → Option zS) (h46 : ∀ σ x1 x2, rc46 σ x1 x2 = some σ' → ZC D ad cA p l e (rmK 1) s m args below meth c 3 (qvC D ad cA below args s σ') 46 [(0, .ref (ad 7)), (1, .int x1), (2, .int x2)] [] σ) (σ : zS) (x1 : Int32) (x2 : Int32) (s1 : Int32) (s2 : Int32) (hm : Ch_checkRings_90 F rc46 σ x1 x2 s1 s2 = some σ') : ZC D ad cA p l e (rmK 1) s m args below meth c 3 (qvC D ad cA below args s σ') 90 [(0, .ref (ad 7)), (1, .int x1), (2, .int x2)] [.int s2, .int s1, .ref (ad 48)] σ := by
  unfold Ch_checkRings_90 at hm
  obtain ⟨g1, hm⟩ := gd_s hm
  refine asC_48 (pc := 90) C  g1 d_Ch_checkRings_90 ?_
  refine z_iinc (pc := 91) (lv' := [(0, .ref (ad 7)), (1, .int x1), (2, .int (x2 + (1 : Int32)))]) C d_Ch_checkRings_91 2 rfl (ii ki_1) (Nat.le_of_ble_eq_true rfl) [1, 2, 0] rfl ?_
  refine z_goto (pc := 94) (tgt := 46) C d_Ch_checkRings_94 (by decide) ?_
  exact h46 (sa σ 48 s1.toNatClampNeg s2) x1 (x2 + (1 : Int32)) hm
set_option maxHeartbeats 4000000 in
set_option maxRecDepth 100000 in
theorem w_Ch_checkRings_46 {D : va_G} {ad : Nat → Nat} {cA : Nat → ClassId} {p : Program} {l : Launch} {e : Env} {s : State} {m : MethodId} {args : Array Value} {below : List Frame} {meth : Method} {c : Code} {F : Nat} (hAD : ∀ σ, va_D (owC ad) (wdC ad cA σ)) (C : CC D ad cA (sXC ad) p s m args meth c bc_Ch_checkRings "KindRounds$Checker" 3) (hr : meth.sig.returnType = none) {σ' : zS} : ∀ (n : Nat) (σ : zS) (x1 : Int32) (x2 : Int32), Ch_checkRings_46 F n σ x1 x2 = some σ' → ZC D ad cA p l e (rmK 1) s m args below meth c 3 (qvC D ad cA below args s σ') 46 [(0, .ref (ad 7)), (1, .int x1), (2, .int x2)] [] σ := by
  intro n
  induction n with
  | zero => intro σ x1 x2 hm; cases hm
  | succ n h46 =>
    intro σ x1 x2 hm
    have hm : Ch_checkRings_b46 F (Ch_checkRings_46 F n) σ x1 x2 = some σ' := hm
    unfold Ch_checkRings_b46 at hm
    refine z_iload_n (pc := 46) C d_Ch_checkRings_46 rfl 2 rfl ?_
    refine z_aload_n (pc := 47) C d_Ch_checkRings_47 rfl 0 rfl ?_
    refine gC_Ch_9 (pc := 48) C  d_Ch_checkRings_48 ?_
    refine gC_Ch_103 (pc := 51) (v := (gi σ 400)) C rfl d_Ch_checkRings_51 ?_
    refine z_icmp_ge (pc := 54) (tgt := 97) C d_Ch_checkRings_54 (by decide) (fun c1 => ?_) (fun c1 => ?_)
    · rw [if_pos c1] at hm
      refine z_aload_n (pc := 97) C d_Ch_checkRings_97 rfl 0 rfl ?_
      refine gC_Ch_9 (pc := 98) C  d_Ch_checkRings_98 ?_
      refine z_aload_n (pc := 101) C d_Ch_checkRings_101 rfl 0 rfl ?_
      refine gC_Ch_23 (pc := 102) C  d_Ch_checkRings_102 ?_
      obtain ⟨σ2, e3, hm⟩ := bv_s hm
      refine z_callVN (pc := 105) C (k_Te_closeMasks hAD e3) km_Te_closeMasks mC_176 rfl rfl oC_4 rfl (kR_of (Nat.le_of_ble_eq_true rfl) (Nat.le_of_ble_eq_true rfl)) rfl (Nat.le_of_ble_eq_true rfl) d_Ch_checkRings_105 ?_
      refine z_iconst (pc := 108) C d_Ch_checkRings_108 ki_0 ?_
      refine z_istore_n (pc := 109) (lv' := [(0, .ref (ad 7)), (1, .int x1), (2, .int (0 : Int32))]) C d_Ch_checkRings_109 rfl (Nat.le_of_ble_eq_true rfl) [1, 2, 0] rfl ?_
      refine z_lv (lv' := [(0, .ref (ad 7)), (2, .int (0 : Int32))]) [0, 2] rfl ?_
      exact w_Ch_checkRings_110 hAD C hr F σ2 (0 : Int32) hm
    · rw [if_neg c1] at hm
      refine z_aload_n (pc := 57) C d_Ch_checkRings_57 rfl 0 rfl ?_
      refine gC_Ch_23 (pc := 58) C  d_Ch_checkRings_58 ?_
      refine z_iload_n (pc := 61) C d_Ch_checkRings_61 rfl 2 rfl ?_
      refine z_aload_n (pc := 62) C d_Ch_checkRings_62 rfl 0 rfl ?_
      refine gC_Ch_9 (pc := 63) C  d_Ch_checkRings_63 ?_
      refine gC_Ch_93 (pc := 66) C  d_Ch_checkRings_66 ?_
      refine z_iload_n (pc := 69) C d_Ch_checkRings_69 rfl 2 rfl ?_
      obtain ⟨g4, hm⟩ := gd_s hm
      refine alC_29 (pc := 70) (v := (ga σ 29 x2.toNatClampNeg)) C  rfl g4 d_Ch_checkRings_70 ?_
      refine z_iconst (pc := 71) C d_Ch_checkRings_71 ki_1 ?_
      refine z_icmp_ne (pc := 72) (tgt := 89) C d_Ch_checkRings_72 (by decide) (fun c5 => ?_) (fun c5 => ?_)
      · rw [if_neg c5] at hm
        refine z_iconst (pc := 89) C d_Ch_checkRings_89 ki_0 ?_
        exact w_Ch_checkRings_90 hAD C hr _ h46 σ x1 x2 x2 (0 : Int32) hm
      · rw [if_pos c5] at hm
        refine z_aload_n (pc := 75) C d_Ch_checkRings_75 rfl 0 rfl ?_
        refine gC_Ch_9 (pc := 76) C  d_Ch_checkRings_76 ?_
        refine gC_Ch_100 (pc := 79) C  d_Ch_checkRings_79 ?_
        refine z_iload_n (pc := 82) C d_Ch_checkRings_82 rfl 2 rfl ?_
        refine alC_37 (pc := 83) (v := (ga σ 37 x2.toNatClampNeg)) C  rfl g4 d_Ch_checkRings_83 ?_
        refine z_iload_n (pc := 84) C d_Ch_checkRings_84 rfl 1 rfl ?_
        refine z_iand (pc := 85) C d_Ch_checkRings_85 ?_
        refine z_goto (pc := 86) (tgt := 90) C d_Ch_checkRings_86 (by decide) ?_
        exact w_Ch_checkRings_90 hAD C hr _ h46 σ x1 x2 x2 ((ga σ 37 x2.toNatClampNeg) &&& x1) hm
set_option maxHeartbeats 4000000 in
set_option maxRecDepth 100000 in
theorem w_Ch_checkRings_36 {D : va_G} {ad : Nat → Nat} {cA : Nat → ClassId} {p : Program} {l : Launch} {e : Env} {s : State} {m : MethodId} {args : Array Value} {below : List Frame} {meth : Method} {c : Code} {F : Nat} (hAD : ∀ σ, va_D (owC ad) (wdC ad cA σ)) (C : CC D ad cA (sXC ad) p s m args meth c bc_Ch_checkRings "KindRounds$Checker" 3) (hr : meth.sig.returnType = none) {σ' : zS} (rc4 : zS → Int32 → Int32 → Option zS) (h4 : ∀ σ x1 x2, rc4 σ x1 x2 = some σ' → ZC D ad cA p l e (rmK 1) s m args below meth c 3 (qvC D ad cA below args s σ') 4 [(0, .ref (ad 7)), (1, .int x1), (2, .int x2)] [] σ) (σ : zS) (x2 : Int32) (s0 : Int32) (s1 : Int32) (hm : Ch_checkRings_36 F rc4 σ x2 s0 s1 = some σ') : ZC D ad cA p l e (rmK 1) s m args below meth c 3 (qvC D ad cA below args s σ') 36 [(0, .ref (ad 7)), (2, .int x2)] [.int s1, .int s0] σ := by
  unfold Ch_checkRings_36 at hm
  refine z_ior (pc := 36) C d_Ch_checkRings_36 ?_
  refine z_istore_n (pc := 37) (lv' := [(0, .ref (ad 7)), (1, .int (s0 ||| s1)), (2, .int x2)]) C d_Ch_checkRings_37 rfl (Nat.le_of_ble_eq_true rfl) [1, 0, 2] rfl ?_
  refine z_iinc (pc := 38) (lv' := [(0, .ref (ad 7)), (1, .int (s0 ||| s1)), (2, .int (x2 + (1 : Int32)))]) C d_Ch_checkRings_38 2 rfl (ii ki_1) (Nat.le_of_ble_eq_true rfl) [1, 2, 0] rfl ?_
  refine z_goto (pc := 41) (tgt := 4) C d_Ch_checkRings_41 (by decide) ?_
  exact h4 σ (s0 ||| s1) (x2 + (1 : Int32)) hm
set_option maxHeartbeats 4000000 in
set_option maxRecDepth 100000 in
theorem w_Ch_checkRings_4 {D : va_G} {ad : Nat → Nat} {cA : Nat → ClassId} {p : Program} {l : Launch} {e : Env} {s : State} {m : MethodId} {args : Array Value} {below : List Frame} {meth : Method} {c : Code} {F : Nat} (hAD : ∀ σ, va_D (owC ad) (wdC ad cA σ)) (C : CC D ad cA (sXC ad) p s m args meth c bc_Ch_checkRings "KindRounds$Checker" 3) (hr : meth.sig.returnType = none) {σ' : zS} : ∀ (n : Nat) (σ : zS) (x1 : Int32) (x2 : Int32), Ch_checkRings_4 F n σ x1 x2 = some σ' → ZC D ad cA p l e (rmK 1) s m args below meth c 3 (qvC D ad cA below args s σ') 4 [(0, .ref (ad 7)), (1, .int x1), (2, .int x2)] [] σ := by
  intro n
  induction n with
  | zero => intro σ x1 x2 hm; cases hm
  | succ n h4 =>
    intro σ x1 x2 hm
    have hm : Ch_checkRings_b4 F (Ch_checkRings_4 F n) σ x1 x2 = some σ' := hm
    unfold Ch_checkRings_b4 at hm
    refine z_iload_n (pc := 4) C d_Ch_checkRings_4 rfl 2 rfl ?_
    refine z_aload_n (pc := 5) C d_Ch_checkRings_5 rfl 0 rfl ?_
    refine gC_Ch_9 (pc := 6) C  d_Ch_checkRings_6 ?_
    refine gC_Ch_103 (pc := 9) (v := (gi σ 400)) C rfl d_Ch_checkRings_9 ?_
    refine z_icmp_ge (pc := 12) (tgt := 44) C d_Ch_checkRings_12 (by decide) (fun c1 => ?_) (fun c1 => ?_)
    · rw [if_pos c1] at hm
      refine z_iconst (pc := 44) C d_Ch_checkRings_44 ki_0 ?_
      refine z_istore_n (pc := 45) (lv' := [(0, .ref (ad 7)), (1, .int x1), (2, .int (0 : Int32))]) C d_Ch_checkRings_45 rfl (Nat.le_of_ble_eq_true rfl) [1, 2, 0] rfl ?_
      exact w_Ch_checkRings_46 hAD C hr F σ x1 (0 : Int32) hm
    · rw [if_neg c1] at hm
      refine z_iload_n (pc := 15) C d_Ch_checkRings_15 rfl 1 rfl ?_
      refine z_aload_n (pc := 16) C d_Ch_checkRings_16 rfl 0 rfl ?_
      refine gC_Ch_9 (pc := 17) C  d_Ch_checkRings_17 ?_
      refine gC_Ch_93 (pc := 20) C  d_Ch_checkRings_20 ?_
      refine z_iload_n (pc := 23) C d_Ch_checkRings_23 rfl 2 rfl ?_
      obtain ⟨g2, hm⟩ := gd_s hm
      refine alC_29 (pc := 24) (v := (ga σ 29 x2.toNatClampNeg)) C  rfl g2 d_Ch_checkRings_24 ?_
      refine z_iconst (pc := 25) C d_Ch_checkRings_25 ki_1 ?_
      refine z_icmp_ne (pc := 26) (tgt := 35) C d_Ch_checkRings_26 (by decide) (fun c3 => ?_) (fun c3 => ?_)
      · rw [if_neg c3] at hm
        refine z_iconst (pc := 35) C d_Ch_checkRings_35 ki_0 ?_
        refine z_lv (lv' := [(0, .ref (ad 7)), (2, .int x2)]) [0, 2] rfl ?_
        exact w_Ch_checkRings_36 hAD C hr _ h4 σ x2 x1 (0 : Int32) hm
      · rw [if_pos c3] at hm
        refine z_iconst (pc := 29) C d_Ch_checkRings_29 ki_1 ?_
        refine z_iload_n (pc := 30) C d_Ch_checkRings_30 rfl 2 rfl ?_
        refine z_ishl (pc := 31) C d_Ch_checkRings_31 ?_
        refine z_goto (pc := 32) (tgt := 36) C d_Ch_checkRings_32 (by decide) ?_
        refine z_lv (lv' := [(0, .ref (ad 7)), (2, .int x2)]) [0, 2] rfl ?_
        exact w_Ch_checkRings_36 hAD C hr _ h4 σ x2 x1 ((1 : Int32) <<< (x2 &&& 31)) hm
set_option maxHeartbeats 4000000 in
set_option maxRecDepth 100000 in
theorem k_Ch_checkRings {l : Launch} {D : va_G} {ad : Nat → Nat} {cA : Nat → ClassId} {F : Nat} (hAD : ∀ σ, va_D (owC ad) (wdC ad cA σ)) {σ : zS} {σ' : zS} (hm : Ch_checkRings F σ = some σ') : kVC l D ad cA (sXC ad) y_Ch_checkRings bc_Ch_checkRings 3 1 [.ref (ad 7)] σ σ' := by
  refine kV_of (by decide) hAD sXC_P (Nat.le_of_ble_eq_true rfl) ?_
  intro p e s m below meth c C hr
  unfold Ch_checkRings at hm
  refine z_lv (lv' := [(0, .ref (ad 7))]) [0] rfl ?_
  refine z_iconst (pc := 0) C d_Ch_checkRings_0 ki_0 ?_
  refine z_istore_n (pc := 1) (lv' := [(0, .ref (ad 7)), (1, .int (0 : Int32))]) C d_Ch_checkRings_1 rfl (Nat.le_of_ble_eq_true rfl) [1, 0] rfl ?_
  refine z_iconst (pc := 2) C d_Ch_checkRings_2 ki_0 ?_
  refine z_istore_n (pc := 3) (lv' := [(0, .ref (ad 7)), (1, .int (0 : Int32)), (2, .int (0 : Int32))]) C d_Ch_checkRings_3 rfl (Nat.le_of_ble_eq_true rfl) [1, 2, 0] rfl ?_
  exact w_Ch_checkRings_4 hAD C hr F σ (0 : Int32) (0 : Int32) hm
set_option maxHeartbeats 4000000 in
set_option maxRecDepth 100000 in
theorem w_Ch_noteNames_87 {D : va_G} {ad : Nat → Nat} {cA : Nat → ClassId} {p : Program} {l : Launch} {e : Env} {s : State} {m : MethodId} {args : Array Value} {below : List Frame} {meth : Method} {c : Code} {F : Nat} (hAD : ∀ σ, va_D (owC ad) (wdC ad cA σ)) (C : CC D ad cA (sXC ad) p s m args meth c bc_Ch_noteNames "KindRounds$Checker" 4) (hr : meth.sig.returnType = none) {σ' : zS} (rc2 : zS → Int32 → Option zS) (h2 : ∀ σ x1, rc2 σ x1 = some σ' → ZC D ad cA p l e (rmK 1) s m args below meth c 4 (qvC D ad cA below args s σ') 2 [(0, .ref (ad 7)), (1, .int x1)] [] σ) (σ : zS) (x1 : Int32) (hm : Ch_noteNames_87 F rc2 σ x1 = some σ') : ZC D ad cA p l e (rmK 1) s m args below meth c 4 (qvC D ad cA below args s σ') 87 [(0, .ref (ad 7)), (1, .int x1)] [] σ := by
  unfold Ch_noteNames_87 at hm
  refine z_iinc (pc := 87) (lv' := [(0, .ref (ad 7)), (1, .int (x1 + (1 : Int32)))]) C d_Ch_noteNames_87 1 rfl (ii ki_1) (Nat.le_of_ble_eq_true rfl) [1, 0] rfl ?_
  refine z_goto (pc := 90) (tgt := 2) C d_Ch_noteNames_90 (by decide) ?_
  exact h2 σ (x1 + (1 : Int32)) hm
set_option maxHeartbeats 4000000 in
set_option maxRecDepth 100000 in
theorem w_Ch_noteNames_56 {D : va_G} {ad : Nat → Nat} {cA : Nat → ClassId} {p : Program} {l : Launch} {e : Env} {s : State} {m : MethodId} {args : Array Value} {below : List Frame} {meth : Method} {c : Code} {F : Nat} (hAD : ∀ σ, va_D (owC ad) (wdC ad cA σ)) (C : CC D ad cA (sXC ad) p s m args meth c bc_Ch_noteNames "KindRounds$Checker" 4) (hr : meth.sig.returnType = none) {σ' : zS} (rc2 : zS → Int32 → Option zS) (h2 : ∀ σ x1, rc2 σ x1 = some σ' → ZC D ad cA p l e (rmK 1) s m args below meth c 4 (qvC D ad cA below args s σ') 2 [(0, .ref (ad 7)), (1, .int x1)] [] σ) (σ : zS) (x1 : Int32) (x2 : Int32) (s0 : Int32) (hm : Ch_noteNames_56 F rc2 σ x1 x2 s0 = some σ') : ZC D ad cA p l e (rmK 1) s m args below meth c 4 (qvC D ad cA below args s σ') 56 [(0, .ref (ad 7)), (1, .int x1), (2, .int x2)] [.int s0] σ := by
  unfold Ch_noteNames_56 at hm
  refine z_istore_n (pc := 56) (lv' := [(0, .ref (ad 7)), (1, .int x1), (2, .int x2), (3, .int s0)]) C d_Ch_noteNames_56 rfl (Nat.le_of_ble_eq_true rfl) [1, 2, 3, 0] rfl ?_
  refine z_iload_n (pc := 57) C d_Ch_noteNames_57 rfl 3 rfl ?_
  refine z_if_lt (pc := 58) (tgt := 87) C d_Ch_noteNames_58 (by decide) (fun c1 => ?_) (fun c1 => ?_)
  · rw [if_pos c1] at hm
    refine z_lv (lv' := [(0, .ref (ad 7)), (1, .int x1)]) [0, 1] rfl ?_
    exact w_Ch_noteNames_87 hAD C hr _ h2 σ x1 hm
  · rw [if_neg c1] at hm
    refine z_aload_n (pc := 61) C d_Ch_noteNames_61 rfl 0 rfl ?_
    refine gC_Ch_9 (pc := 62) C  d_Ch_noteNames_62 ?_
    refine z_iload_n (pc := 65) C d_Ch_noteNames_65 rfl 2 rfl ?_
    obtain ⟨r3, σ2, e4, hm⟩ := bi_s hm
    refine z_callIN (pc := 66) C (k_Te_has hAD e4) km_Te_has mC_169 rfl rfl oC_4 rfl (kR_of (Nat.le_of_ble_eq_true rfl) (Nat.le_of_ble_eq_true rfl)) rfl (Nat.le_of_ble_eq_true rfl) d_Ch_noteNames_66 ?_
    refine z_if_eq (pc := 69) (tgt := 87) C d_Ch_noteNames_69 (by decide) (fun c5 => ?_) (fun c5 => ?_)
    · rw [if_pos c5] at hm
      refine z_lv (lv' := [(0, .ref (ad 7)), (1, .int x1)]) [0, 1] rfl ?_
      exact w_Ch_noteNames_87 hAD C hr _ h2 σ2 x1 hm
    · rw [if_neg c5] at hm
      refine z_aload_n (pc := 72) C d_Ch_noteNames_72 rfl 0 rfl ?_
      refine gC_Ch_9 (pc := 73) C  d_Ch_noteNames_73 ?_
      refine gC_Ch_100 (pc := 76) C  d_Ch_noteNames_76 ?_
      refine z_iload_n (pc := 79) C d_Ch_noteNames_79 rfl 2 rfl ?_
      refine z_dup2 (pc := 80) C d_Ch_noteNames_80 rfl rfl ?_
      obtain ⟨g6, hm⟩ := gd_s hm
      refine alC_37 (pc := 81) (v := (ga σ2 37 x2.toNatClampNeg)) C  rfl g6 d_Ch_noteNames_81 ?_
      refine z_iconst (pc := 82) C d_Ch_noteNames_82 ki_1 ?_
      refine z_iload_n (pc := 83) C d_Ch_noteNames_83 rfl 3 rfl ?_
      refine z_ishl (pc := 84) C d_Ch_noteNames_84 ?_
      refine z_ior (pc := 85) C d_Ch_noteNames_85 ?_
      refine asC_37 (pc := 86) C  g6 d_Ch_noteNames_86 ?_
      refine z_lv (lv' := [(0, .ref (ad 7)), (1, .int x1)]) [0, 1] rfl ?_
      exact w_Ch_noteNames_87 hAD C hr _ h2 (sa σ2 37 x2.toNatClampNeg ((ga σ2 37 x2.toNatClampNeg) ||| ((1 : Int32) <<< (s0 &&& 31)))) x1 hm
set_option maxHeartbeats 4000000 in
set_option maxRecDepth 100000 in
theorem w_Ch_noteNames_2 {D : va_G} {ad : Nat → Nat} {cA : Nat → ClassId} {p : Program} {l : Launch} {e : Env} {s : State} {m : MethodId} {args : Array Value} {below : List Frame} {meth : Method} {c : Code} {F : Nat} (hAD : ∀ σ, va_D (owC ad) (wdC ad cA σ)) (C : CC D ad cA (sXC ad) p s m args meth c bc_Ch_noteNames "KindRounds$Checker" 4) (hr : meth.sig.returnType = none) {σ' : zS} : ∀ (n : Nat) (σ : zS) (x1 : Int32), Ch_noteNames_2 F n σ x1 = some σ' → ZC D ad cA p l e (rmK 1) s m args below meth c 4 (qvC D ad cA below args s σ') 2 [(0, .ref (ad 7)), (1, .int x1)] [] σ := by
  intro n
  induction n with
  | zero => intro σ x1 hm; cases hm
  | succ n h2 =>
    intro σ x1 hm
    have hm : Ch_noteNames_b2 F (Ch_noteNames_2 F n) σ x1 = some σ' := hm
    unfold Ch_noteNames_b2 at hm
    refine z_iload_n (pc := 2) C d_Ch_noteNames_2 rfl 1 rfl ?_
    refine z_aload_n (pc := 3) C d_Ch_noteNames_3 rfl 0 rfl ?_
    refine gC_Ch_15 (pc := 4) C  d_Ch_noteNames_4 ?_
    refine gC_Ch_45 (pc := 7) (v := (gi σ 505)) C rfl d_Ch_noteNames_7 ?_
    refine z_icmp_ge (pc := 10) (tgt := 93) C d_Ch_noteNames_10 (by decide) (fun c1 => ?_) (fun c1 => ?_)
    · rw [if_pos c1] at hm
      exact z_vretE (pc := 93) C hr hm d_Ch_noteNames_93
    · rw [if_neg c1] at hm
      refine z_aload_n (pc := 13) C d_Ch_noteNames_13 rfl 0 rfl ?_
      refine gC_Ch_15 (pc := 14) C  d_Ch_noteNames_14 ?_
      refine gC_Ch_83 (pc := 17) C  d_Ch_noteNames_17 ?_
      refine z_iload_n (pc := 20) C d_Ch_noteNames_20 rfl 1 rfl ?_
      obtain ⟨g2, hm⟩ := gd_s hm
      refine alC_46 (pc := 21) (v := (ga σ 46 x1.toNatClampNeg)) C  rfl g2 d_Ch_noteNames_21 ?_
      refine z_istore_n (pc := 22) (lv' := [(0, .ref (ad 7)), (1, .int x1), (2, .int (ga σ 46 x1.toNatClampNeg))]) C d_Ch_noteNames_22 rfl (Nat.le_of_ble_eq_true rfl) [1, 2, 0] rfl ?_
      refine z_aload_n (pc := 23) C d_Ch_noteNames_23 rfl 0 rfl ?_
      refine gC_Ch_15 (pc := 24) C  d_Ch_noteNames_24 ?_
      refine gC_Ch_66 (pc := 27) C  d_Ch_noteNames_27 ?_
      refine z_iload_n (pc := 30) C d_Ch_noteNames_30 rfl 1 rfl ?_
      refine alC_43 (pc := 31) (v := (ga σ 43 x1.toNatClampNeg)) C  rfl g2 d_Ch_noteNames_31 ?_
      refine z_iconst (pc := 32) C d_Ch_noteNames_32 ki_5 ?_
      refine z_icmp_ne (pc := 33) (tgt := 55) C d_Ch_noteNames_33 (by decide) (fun c3 => ?_) (fun c3 => ?_)
      · rw [if_neg c3] at hm
        refine z_iconst (pc := 55) C d_Ch_noteNames_55 ki_m1 ?_
        exact w_Ch_noteNames_56 hAD C hr _ h2 σ x1 (ga σ 46 x1.toNatClampNeg) (-1 : Int32) hm
      · rw [if_pos c3] at hm
        refine z_aload_n (pc := 36) C d_Ch_noteNames_36 rfl 0 rfl ?_
        refine gC_Ch_9 (pc := 37) C  d_Ch_noteNames_37 ?_
        refine z_aload_n (pc := 40) C d_Ch_noteNames_40 rfl 0 rfl ?_
        refine gC_Ch_15 (pc := 41) C  d_Ch_noteNames_41 ?_
        refine gC_Ch_62 (pc := 44) C  d_Ch_noteNames_44 ?_
        refine z_iload_n (pc := 47) C d_Ch_noteNames_47 rfl 1 rfl ?_
        refine alC_44 (pc := 48) (v := (gb σ 44 x1.toNatClampNeg)) C  rfl g2 d_Ch_noteNames_48 ?_
        obtain ⟨r5, σ4, e6, hm⟩ := bi_s hm
        refine z_callIN (pc := 49) C (k_Te_findType hAD e6) km_Te_findType mC_166 rfl rfl oC_4 rfl (kR_of (Nat.le_of_ble_eq_true rfl) (Nat.le_of_ble_eq_true rfl)) rfl (Nat.le_of_ble_eq_true rfl) d_Ch_noteNames_49 ?_
        refine z_goto (pc := 52) (tgt := 56) C d_Ch_noteNames_52 (by decide) ?_
        exact w_Ch_noteNames_56 hAD C hr _ h2 σ4 x1 (ga σ 46 x1.toNatClampNeg) r5 hm
set_option maxHeartbeats 4000000 in
set_option maxRecDepth 100000 in
theorem k_Ch_noteNames {l : Launch} {D : va_G} {ad : Nat → Nat} {cA : Nat → ClassId} {F : Nat} (hAD : ∀ σ, va_D (owC ad) (wdC ad cA σ)) {σ : zS} {σ' : zS} (hm : Ch_noteNames F σ = some σ') : kVC l D ad cA (sXC ad) y_Ch_noteNames bc_Ch_noteNames 4 1 [.ref (ad 7)] σ σ' := by
  refine kV_of (by decide) hAD sXC_P (Nat.le_of_ble_eq_true rfl) ?_
  intro p e s m below meth c C hr
  unfold Ch_noteNames at hm
  refine z_lv (lv' := [(0, .ref (ad 7))]) [0] rfl ?_
  refine z_iconst (pc := 0) C d_Ch_noteNames_0 ki_0 ?_
  refine z_istore_n (pc := 1) (lv' := [(0, .ref (ad 7)), (1, .int (0 : Int32))]) C d_Ch_noteNames_1 rfl (Nat.le_of_ble_eq_true rfl) [1, 0] rfl ?_
  exact w_Ch_noteNames_2 hAD C hr F σ (0 : Int32) hm
set_option maxHeartbeats 4000000 in
set_option maxRecDepth 100000 in
theorem w_Ch_checkText_22 {D : va_G} {ad : Nat → Nat} {cA : Nat → ClassId} {p : Program} {l : Launch} {e : Env} {s : State} {m : MethodId} {args : Array Value} {below : List Frame} {meth : Method} {c : Code} {F : Nat} (hAD : ∀ σ, va_D (owC ad) (wdC ad cA σ)) (C : CC D ad cA (sXC ad) p s m args meth c bc_Ch_checkText "KindRounds$Checker" 1) (hr : meth.sig.returnType = none) {σ' : zS} (σ : zS) (hm : Ch_checkText_22 F σ = some σ') : ZC D ad cA p l e (rmK 4) s m args below meth c 1 (qvC D ad cA below args s σ') 22 [(0, .ref (ad 7))] [] σ := by
  unfold Ch_checkText_22 at hm
  refine z_aload_n (pc := 22) C d_Ch_checkText_22 rfl 0 rfl ?_
  obtain ⟨σ1, e2, hm⟩ := bv_s hm
  refine z_callV (pc := 23) C (k_Ch_checkLacks hAD e2) km_Ch_checkLacks mC_149 rfl rfl oC_7 rfl (kR_of (Nat.le_of_ble_eq_true rfl) (Nat.le_of_ble_eq_true rfl)) rfl (Nat.le_of_ble_eq_true rfl) d_Ch_checkText_23 ?_
  exact z_vretE (pc := 26) C hr hm d_Ch_checkText_26
set_option maxHeartbeats 4000000 in
set_option maxRecDepth 100000 in
theorem k_Ch_checkText {l : Launch} {D : va_G} {ad : Nat → Nat} {cA : Nat → ClassId} {F : Nat} (hAD : ∀ σ, va_D (owC ad) (wdC ad cA σ)) {σ : zS} {σ' : zS} (hm : Ch_checkText F σ = some σ') : kVC l D ad cA (sXC ad) y_Ch_checkText bc_Ch_checkText 1 4 [.ref (ad 7)] σ σ' := by
  refine kV_of (by decide) hAD sXC_P (Nat.le_of_ble_eq_true rfl) ?_
  intro p e s m below meth c C hr
  unfold Ch_checkText at hm
  refine z_lv (lv' := [(0, .ref (ad 7))]) [0] rfl ?_
  refine z_aload_n (pc := 0) C d_Ch_checkText_0 rfl 0 rfl ?_
  obtain ⟨σ1, e2, hm⟩ := bv_s hm
  refine z_callV (pc := 1) C (k_Ch_checkNames hAD e2) km_Ch_checkNames mC_150 rfl rfl oC_7 rfl (kR_of (Nat.le_of_ble_eq_true rfl) (Nat.le_of_ble_eq_true rfl)) rfl (Nat.le_of_ble_eq_true rfl) d_Ch_checkText_1 ?_
  refine z_aload_n (pc := 4) C d_Ch_checkText_4 rfl 0 rfl ?_
  refine gC_Ch_19 (pc := 5) C  d_Ch_checkText_5 ?_
  obtain ⟨r4, σ3, e5, hm⟩ := bi_s hm
  refine z_callIN (pc := 8) C (k_Fa_isThere hAD e5) km_Fa_isThere mC_152 rfl rfl oC_2 rfl (kR_of (Nat.le_of_ble_eq_true rfl) (Nat.le_of_ble_eq_true rfl)) rfl (Nat.le_of_ble_eq_true rfl) d_Ch_checkText_8 ?_
  refine z_if_ne (pc := 11) (tgt := 22) C d_Ch_checkText_11 (by decide) (fun c6 => ?_) (fun c6 => ?_)
  · rw [if_neg c6] at hm
    exact w_Ch_checkText_22 hAD C hr σ3 hm
  · rw [if_pos c6] at hm
    refine z_aload_n (pc := 14) C d_Ch_checkText_14 rfl 0 rfl ?_
    obtain ⟨σ7, e8, hm⟩ := bv_s hm
    refine z_callV (pc := 15) C (k_Ch_noteNames hAD e8) km_Ch_noteNames mC_153 rfl rfl oC_7 rfl (kR_of (Nat.le_of_ble_eq_true rfl) (Nat.le_of_ble_eq_true rfl)) rfl (Nat.le_of_ble_eq_true rfl) d_Ch_checkText_15 ?_
    refine z_aload_n (pc := 18) C d_Ch_checkText_18 rfl 0 rfl ?_
    obtain ⟨σ9, e10, hm⟩ := bv_s hm
    refine z_callV (pc := 19) C (k_Ch_checkRings hAD e10) km_Ch_checkRings mC_154 rfl rfl oC_7 rfl (kR_of (Nat.le_of_ble_eq_true rfl) (Nat.le_of_ble_eq_true rfl)) rfl (Nat.le_of_ble_eq_true rfl) d_Ch_checkText_19 ?_
    exact w_Ch_checkText_22 hAD C hr σ9 hm
set_option maxHeartbeats 4000000 in
set_option maxRecDepth 100000 in
theorem k_Ch_checkTypes {l : Launch} {D : va_G} {ad : Nat → Nat} {cA : Nat → ClassId} {F : Nat} (hAD : ∀ σ, va_D (owC ad) (wdC ad cA σ)) {σ : zS} {σ' : zS} (hm : Ch_checkTypes F σ = some σ') : kVC l D ad cA (sXC ad) y_Ch_checkTypes bc_Ch_checkTypes 1 4 [.ref (ad 7)] σ σ' := by
  refine kV_of (by decide) hAD sXC_P (Nat.le_of_ble_eq_true rfl) ?_
  intro p e s m below meth c C hr
  unfold Ch_checkTypes at hm
  refine z_lv (lv' := [(0, .ref (ad 7))]) [0] rfl ?_
  refine z_aload_n (pc := 0) C d_Ch_checkTypes_0 rfl 0 rfl ?_
  obtain ⟨σ1, e2, hm⟩ := bv_s hm
  refine z_callV (pc := 1) C (k_Ch_checkNames hAD e2) km_Ch_checkNames mC_150 rfl rfl oC_7 rfl (kR_of (Nat.le_of_ble_eq_true rfl) (Nat.le_of_ble_eq_true rfl)) rfl (Nat.le_of_ble_eq_true rfl) d_Ch_checkTypes_1 ?_
  refine z_aload_n (pc := 4) C d_Ch_checkTypes_4 rfl 0 rfl ?_
  obtain ⟨σ3, e4, hm⟩ := bv_s hm
  refine z_callV (pc := 5) C (k_Ch_checkLacks hAD e4) km_Ch_checkLacks mC_149 rfl rfl oC_7 rfl (kR_of (Nat.le_of_ble_eq_true rfl) (Nat.le_of_ble_eq_true rfl)) rfl (Nat.le_of_ble_eq_true rfl) d_Ch_checkTypes_5 ?_
  exact z_vretE (pc := 8) C hr hm d_Ch_checkTypes_8
