/-! Walks of Pl. Written by program (wip/gen). -/
set_option maxHeartbeats 4000000 in
set_option maxRecDepth 100000 in
theorem w_Pl_copyNodes_53 {D : va_G} {ad : Nat → Nat} {cA : Nat → ClassId} {p : Program} {l : Launch} {e : Env} {s : State} {m : MethodId} {args : Array Value} {below : List Frame} {meth : Method} {c : Code} {F : Nat} (hAD : ∀ σ, va_D (owC ad) (wdC ad cA σ)) (C : CC D ad cA (sXC ad) p s m args meth c bc_Pl_copyNodes "KindRounds$Plainer" 6) (hr : meth.sig.returnType = none) {σ' : zS} (σ : zS) (hm : Pl_copyNodes_53 F σ = some σ') : ZC D ad cA p l e (rmK 1) s m args below meth c 6 (qvC D ad cA below args s σ') 53 [] [] σ := by
  unfold Pl_copyNodes_53 at hm
  exact z_vretE (pc := 53) C hr hm d_Pl_copyNodes_53
set_option maxHeartbeats 4000000 in
set_option maxRecDepth 100000 in
theorem w_Pl_copyNodes_3 {D : va_G} {ad : Nat → Nat} {cA : Nat → ClassId} {p : Program} {l : Launch} {e : Env} {s : State} {m : MethodId} {args : Array Value} {below : List Frame} {meth : Method} {c : Code} {F : Nat} (hAD : ∀ σ, va_D (owC ad) (wdC ad cA σ)) (C : CC D ad cA (sXC ad) p s m args meth c bc_Pl_copyNodes "KindRounds$Plainer" 6) (hr : meth.sig.returnType = none) {σ' : zS} : ∀ (n : Nat) (σ : zS) (x1 : Nat) (x3 : Int32) (x4 : Nat) (x5 : Int32), Pl_copyNodes_3 F n σ x1 x3 x4 x5 = some σ' → ZC D ad cA p l e (rmK 1) s m args below meth c 6 (qvC D ad cA below args s σ') 3 [(0, .ref (ad 9)), (1, .ref (ad x1)), (3, .int x3), (4, .ref (ad x4)), (5, .int x5)] [] σ := by
  intro n
  induction n with
  | zero => intro σ x1 x3 x4 x5 hm; cases hm
  | succ n h3 =>
    intro σ x1 x3 x4 x5 hm
    have hm : Pl_copyNodes_b3 F (Pl_copyNodes_3 F n) σ x1 x3 x4 x5 = some σ' := hm
    unfold Pl_copyNodes_b3 at hm
    refine z_iload (pc := 3) C d_Pl_copyNodes_3 4 rfl ?_
    refine z_iload_n (pc := 5) C d_Pl_copyNodes_5 rfl 2 rfl ?_
    refine z_icmp_ge (pc := 6) (tgt := 53) C d_Pl_copyNodes_6 (by decide) (fun c1 => ?_) (fun c1 => ?_)
    · rw [if_pos c1] at hm
      refine z_lv (lv' := []) [] rfl ?_
      exact w_Pl_copyNodes_53 hAD C hr σ hm
    · rw [if_neg c1] at hm
      refine z_aload_n (pc := 9) C d_Pl_copyNodes_9 rfl 0 rfl ?_
      refine gC_Pl_41 (pc := 10) (v := (gi σ 908)) C rfl d_Pl_copyNodes_10 ?_
      refine z_if_eq (pc := 13) (tgt := 53) C d_Pl_copyNodes_13 (by decide) (fun c2 => ?_) (fun c2 => ?_)
      · rw [if_pos c2] at hm
        refine z_lv (lv' := []) [] rfl ?_
        exact w_Pl_copyNodes_53 hAD C hr σ hm
      · rw [if_neg c2] at hm
        refine z_aload_n (pc := 16) C d_Pl_copyNodes_16 rfl 0 rfl ?_
        refine z_aload (pc := 17) C d_Pl_copyNodes_17 3 rfl ?_
        refine z_aload_n (pc := 19) C d_Pl_copyNodes_19 rfl 1 rfl ?_
        obtain ⟨g3, hm⟩ := gd_s hm
        refine gC_Pl_60 (pc := 20) C g3  d_Pl_copyNodes_20 ?_
        refine z_iload (pc := 23) C d_Pl_copyNodes_23 4 rfl ?_
        obtain ⟨g4, hm⟩ := gd_s hm
        refine alC_Ro_0 (pc := 25) (v := (ma σ (rA x1 0) x5.toNatClampNeg)) C (x := x1) g3 rfl g4 d_Pl_copyNodes_25 ?_
        refine z_aload_n (pc := 26) C d_Pl_copyNodes_26 rfl 1 rfl ?_
        refine gC_Pl_63 (pc := 27) C g3  d_Pl_copyNodes_27 ?_
        refine z_iload (pc := 30) C d_Pl_copyNodes_30 4 rfl ?_
        refine alC_Ro_1 (pc := 32) (v := (mb σ (rA x1 1) x5.toNatClampNeg)) C (x := x1) g3 rfl g4 d_Pl_copyNodes_32 ?_
        refine z_aload_n (pc := 33) C d_Pl_copyNodes_33 rfl 1 rfl ?_
        refine gC_Pl_87 (pc := 34) C g3  d_Pl_copyNodes_34 ?_
        refine z_iload (pc := 37) C d_Pl_copyNodes_37 4 rfl ?_
        refine alC_Ro_2 (pc := 39) (v := (ma σ (rA x1 2) x5.toNatClampNeg)) C (x := x1) g3 rfl g4 d_Pl_copyNodes_39 ?_
        refine z_iconst (pc := 40) C d_Pl_copyNodes_40 ki_0 ?_
        obtain ⟨g6, hm⟩ := gd_s hm
        obtain ⟨r7, σ5, e8, hm⟩ := bi_s hm
        refine z_callIN (pc := 41) C (k_Ro_add hAD e8) km_Ro_add mC_265 rfl rfl (oC_Ro g6) rfl (kR_of (Nat.le_of_ble_eq_true rfl) (Nat.le_of_ble_eq_true rfl)) rfl (Nat.le_of_ble_eq_true rfl) d_Pl_copyNodes_41 ?_
        obtain ⟨g9, hm⟩ := gd_s hm
        refine pC_Pl_41 (pc := 44) C g9  d_Pl_copyNodes_44 ?_
        refine z_iinc (pc := 47) (lv' := [(0, .ref (ad 9)), (1, .ref (ad x1)), (3, .int x3), (4, .ref (ad x4)), (5, .int (x5 + (1 : Int32)))]) C d_Pl_copyNodes_47 4 rfl (ii ki_1) (Nat.le_of_ble_eq_true rfl) [1, 2, 3, 4, 0] rfl ?_
        refine z_goto (pc := 50) (tgt := 3) C d_Pl_copyNodes_50 (by decide) ?_
        exact h3 (si σ5 908 r7) x1 x3 x4 (x5 + (1 : Int32)) hm
set_option maxHeartbeats 4000000 in
set_option maxRecDepth 100000 in
theorem k_Pl_copyNodes {l : Launch} {D : va_G} {ad : Nat → Nat} {cA : Nat → ClassId} {F : Nat} (hAD : ∀ σ, va_D (owC ad) (wdC ad cA σ)) {σ : zS} {x1 : Nat} {x2 : Int32} {x3 : Int32} {x4 : Nat} {σ' : zS} (hm : Pl_copyNodes F σ x1 x2 x3 x4 = some σ') : kVC l D ad cA (sXC ad) y_Pl_copyNodes bc_Pl_copyNodes 6 1 [.ref (ad 9), .ref (ad x1), .int x2, .int x3, .ref (ad x4)] σ σ' := by
  refine kV_of (by decide) hAD sXC_P (Nat.le_of_ble_eq_true rfl) ?_
  intro p e s m below meth c C hr
  unfold Pl_copyNodes at hm
  refine z_lv (lv' := [(0, .ref (ad 9)), (1, .ref (ad x1)), (2, .int x2), (3, .int x3), (4, .ref (ad x4))]) [0, 1, 2, 3, 4] rfl ?_
  refine z_iload_n (pc := 0) C d_Pl_copyNodes_0 rfl 2 rfl ?_
  refine z_istore (pc := 1) (lv' := [(0, .ref (ad 9)), (1, .ref (ad x1)), (2, .int x2), (3, .int x3), (4, .ref (ad x4)), (5, .int x2)]) C d_Pl_copyNodes_1 (Nat.le_of_ble_eq_true rfl) [1, 2, 3, 4, 5, 0] rfl ?_
  refine z_lv (lv' := [(0, .ref (ad 9)), (1, .ref (ad x1)), (3, .int x3), (4, .ref (ad x4)), (5, .int x2)]) [0, 1, 3, 4, 5] rfl ?_
  exact w_Pl_copyNodes_3 hAD C hr F σ x1 x3 x4 x2 hm
set_option maxHeartbeats 4000000 in
set_option maxRecDepth 100000 in
theorem w_Pl_copyRightSide_160 {D : va_G} {ad : Nat → Nat} {cA : Nat → ClassId} {p : Program} {l : Launch} {e : Env} {s : State} {m : MethodId} {args : Array Value} {below : List Frame} {meth : Method} {c : Code} {F : Nat} (hAD : ∀ σ, va_D (owC ad) (wdC ad cA σ)) (C : CC D ad cA (sXC ad) p s m args meth c bc_Pl_copyRightSide "KindRounds$Plainer" 8) (hr : meth.sig.returnType = none) {σ' : zS} (rc29 : zS → Int32 → Nat → Int32 → Int32 → Option zS) (h29 : ∀ σ x1 x2 x4 x5, rc29 σ x1 x2 x4 x5 = some σ' → ZC D ad cA p l e (rmK 2) s m args below meth c 8 (qvC D ad cA below args s σ') 29 [(0, .ref (ad 9)), (1, .int x1), (2, .ref (ad x2)), (4, .int x4), (5, .int x5)] [] σ) (σ : zS) (x1 : Int32) (x2 : Nat) (x4 : Int32) (x5 : Int32) (hm : Pl_copyRightSide_160 F rc29 σ x1 x2 x4 x5 = some σ') : ZC D ad cA p l e (rmK 2) s m args below meth c 8 (qvC D ad cA below args s σ') 160 [(0, .ref (ad 9)), (1, .int x1), (2, .ref (ad x2)), (4, .int x4), (5, .int x5)] [] σ := by
  unfold Pl_copyRightSide_160 at hm
  refine z_iinc (pc := 160) (lv' := [(0, .ref (ad 9)), (1, .int x1), (2, .ref (ad x2)), (4, .int x4), (5, .int (x5 + (1 : Int32)))]) C d_Pl_copyRightSide_160 4 rfl (ii ki_1) (Nat.le_of_ble_eq_true rfl) [1, 2, 3, 4, 0] rfl ?_
  refine z_goto (pc := 163) (tgt := 29) C d_Pl_copyRightSide_163 (by decide) ?_
  exact h29 σ x1 x2 x4 (x5 + (1 : Int32)) hm
set_option maxHeartbeats 4000000 in
set_option maxRecDepth 100000 in
theorem w_Pl_copyRightSide_66 {D : va_G} {ad : Nat → Nat} {cA : Nat → ClassId} {p : Program} {l : Launch} {e : Env} {s : State} {m : MethodId} {args : Array Value} {below : List Frame} {meth : Method} {c : Code} {F : Nat} (hAD : ∀ σ, va_D (owC ad) (wdC ad cA σ)) (C : CC D ad cA (sXC ad) p s m args meth c bc_Pl_copyRightSide "KindRounds$Plainer" 8) (hr : meth.sig.returnType = none) {σ' : zS} (rc29 : zS → Int32 → Nat → Int32 → Int32 → Option zS) (h29 : ∀ σ x1 x2 x4 x5, rc29 σ x1 x2 x4 x5 = some σ' → ZC D ad cA p l e (rmK 2) s m args below meth c 8 (qvC D ad cA below args s σ') 29 [(0, .ref (ad 9)), (1, .int x1), (2, .ref (ad x2)), (4, .int x4), (5, .int x5)] [] σ) (σ : zS) (x1 : Int32) (x2 : Nat) (x4 : Int32) (x5 : Int32) (s0 : Int32) (hm : Pl_copyRightSide_66 F rc29 σ x1 x2 x4 x5 s0 = some σ') : ZC D ad cA p l e (rmK 2) s m args below meth c 8 (qvC D ad cA below args s σ') 66 [(0, .ref (ad 9)), (1, .int x1), (2, .ref (ad x2)), (4, .int x4), (5, .int x5)] [.int s0] σ := by
  unfold Pl_copyRightSide_66 at hm
  refine z_istore (pc := 66) (lv' := [(0, .ref (ad 9)), (1, .int x1), (2, .ref (ad x2)), (4, .int x4), (5, .int x5), (6, .int s0)]) C d_Pl_copyRightSide_66 (Nat.le_of_ble_eq_true rfl) [1, 2, 3, 4, 5, 0] rfl ?_
  refine z_iload (pc := 68) C d_Pl_copyRightSide_68 5 rfl ?_
  refine z_if_ge (pc := 70) (tgt := 91) C d_Pl_copyRightSide_70 (by decide) (fun c1 => ?_) (fun c1 => ?_)
  · rw [if_pos c1] at hm
    refine z_aload_n (pc := 91) C d_Pl_copyRightSide_91 rfl 0 rfl ?_
    refine gC_Pl_22 (pc := 92) (v := (gr σ 902)) C rfl d_Pl_copyRightSide_92 ?_
    obtain ⟨g2, hm⟩ := gd_s hm
    refine gC_Pl_56 (pc := 95) (v := (mi σ (100 * (gr σ 902) + 4))) C g2 rfl d_Pl_copyRightSide_95 ?_
    refine z_istore (pc := 98) (lv' := [(0, .ref (ad 9)), (1, .int x1), (2, .ref (ad x2)), (4, .int x4), (5, .int x5), (6, .int s0), (7, .int (mi σ (100 * (gr σ 902) + 4)))]) C d_Pl_copyRightSide_98 (Nat.le_of_ble_eq_true rfl) [1, 2, 3, 4, 5, 6, 0] rfl ?_
    refine z_aload_n (pc := 100) C d_Pl_copyRightSide_100 rfl 0 rfl ?_
    refine z_aload_n (pc := 101) C d_Pl_copyRightSide_101 rfl 0 rfl ?_
    refine gC_Pl_18 (pc := 102) (v := (gr σ 901)) C rfl d_Pl_copyRightSide_102 ?_
    refine z_aload_n (pc := 105) C d_Pl_copyRightSide_105 rfl 0 rfl ?_
    refine gC_Pl_28 (pc := 106) C  d_Pl_copyRightSide_106 ?_
    refine z_iload (pc := 109) C d_Pl_copyRightSide_109 5 rfl ?_
    obtain ⟨g3, hm⟩ := gd_s hm
    refine alC_57 (pc := 111) (v := (ga σ 57 s0.toNatClampNeg)) C  rfl g3 d_Pl_copyRightSide_111 ?_
    refine z_aload_n (pc := 112) C d_Pl_copyRightSide_112 rfl 0 rfl ?_
    refine gC_Pl_28 (pc := 113) C  d_Pl_copyRightSide_113 ?_
    refine z_iload (pc := 116) C d_Pl_copyRightSide_116 5 rfl ?_
    refine z_iconst (pc := 118) C d_Pl_copyRightSide_118 ki_1 ?_
    refine z_iadd (pc := 119) C d_Pl_copyRightSide_119 ?_
    obtain ⟨g4, hm⟩ := gd_s hm
    refine alC_57 (pc := 120) (v := (ga σ 57 (s0 + (1 : Int32)).toNatClampNeg)) C  rfl g4 d_Pl_copyRightSide_120 ?_
    refine z_aload_n (pc := 121) C d_Pl_copyRightSide_121 rfl 0 rfl ?_
    refine gC_Pl_22 (pc := 122) (v := (gr σ 902)) C rfl d_Pl_copyRightSide_122 ?_
    obtain ⟨σ5, e6, hm⟩ := bv_s hm
    refine z_callV (pc := 125) C (k_Pl_copyNodes hAD e6) km_Pl_copyNodes mC_255 rfl rfl oC_9 rfl (kR_of (Nat.le_of_ble_eq_true rfl) (Nat.le_of_ble_eq_true rfl)) rfl (Nat.le_of_ble_eq_true rfl) d_Pl_copyRightSide_125 ?_
    refine z_iload (pc := 128) C d_Pl_copyRightSide_128 6 rfl ?_
    refine z_aload_n (pc := 130) C d_Pl_copyRightSide_130 rfl 0 rfl ?_
    refine gC_Pl_22 (pc := 131) (v := (gr σ5 902)) C rfl d_Pl_copyRightSide_131 ?_
    obtain ⟨g7, hm⟩ := gd_s hm
    refine gC_Pl_56 (pc := 134) (v := (mi σ5 (100 * (gr σ5 902) + 4))) C g7 rfl d_Pl_copyRightSide_134 ?_
    refine z_icmp_ge (pc := 137) (tgt := 160) C d_Pl_copyRightSide_137 (by decide) (fun c8 => ?_) (fun c8 => ?_)
    · rw [if_pos c8] at hm
      refine z_lv (lv' := [(0, .ref (ad 9)), (1, .int x1), (2, .ref (ad x2)), (4, .int x4), (5, .int x5)]) [0, 1, 2, 3, 4] rfl ?_
      exact w_Pl_copyRightSide_160 hAD C hr _ h29 σ5 x1 x2 x4 x5 hm
    · rw [if_neg c8] at hm
      refine z_aload_n (pc := 140) C d_Pl_copyRightSide_140 rfl 0 rfl ?_
      refine gC_Pl_22 (pc := 141) (v := (gr σ5 902)) C rfl d_Pl_copyRightSide_141 ?_
      refine gC_Pl_87 (pc := 144) C g7  d_Pl_copyRightSide_144 ?_
      refine z_iload (pc := 147) C d_Pl_copyRightSide_147 6 rfl ?_
      refine z_dup2 (pc := 149) C d_Pl_copyRightSide_149 rfl rfl ?_
      obtain ⟨g9, hm⟩ := gd_s hm
      refine alC_Ro_2 (pc := 150) (v := (ma σ5 (rA (gr σ5 902) 2) (mi σ (100 * (gr σ 902) + 4)).toNatClampNeg)) C (x := (gr σ5 902)) g7 rfl g9 d_Pl_copyRightSide_150 ?_
      refine z_aload_n (pc := 151) C d_Pl_copyRightSide_151 rfl 2 rfl ?_
      obtain ⟨g10, hm⟩ := gd_s hm
      refine gC_Pl_87 (pc := 152) C g10  d_Pl_copyRightSide_152 ?_
      refine z_iload (pc := 155) C d_Pl_copyRightSide_155 4 rfl ?_
      obtain ⟨g11, hm⟩ := gd_s hm
      refine alC_Ro_2 (pc := 157) (v := (ma σ5 (rA x2 2) x5.toNatClampNeg)) C (x := x2) g10 rfl g11 d_Pl_copyRightSide_157 ?_
      refine z_iadd (pc := 158) C d_Pl_copyRightSide_158 ?_
      refine asC_Ro_2 (pc := 159) C (x := (gr σ5 902)) g7 g9 d_Pl_copyRightSide_159 ?_
      refine z_lv (lv' := [(0, .ref (ad 9)), (1, .int x1), (2, .ref (ad x2)), (4, .int x4), (5, .int x5)]) [0, 1, 2, 3, 4] rfl ?_
      exact w_Pl_copyRightSide_160 hAD C hr _ h29 (ta σ5 (rA (gr σ5 902) 2) (mi σ (100 * (gr σ 902) + 4)).toNatClampNeg ((ma σ5 (rA (gr σ5 902) 2) (mi σ (100 * (gr σ 902) + 4)).toNatClampNeg) + (ma σ5 (rA x2 2) x5.toNatClampNeg))) x1 x2 x4 x5 hm
  · rw [if_neg c1] at hm
    refine z_aload_n (pc := 73) C d_Pl_copyRightSide_73 rfl 0 rfl ?_
    refine z_aload_n (pc := 74) C d_Pl_copyRightSide_74 rfl 2 rfl ?_
    refine z_iload (pc := 75) C d_Pl_copyRightSide_75 4 rfl ?_
    refine z_iload (pc := 77) C d_Pl_copyRightSide_77 4 rfl ?_
    refine z_iconst (pc := 79) C d_Pl_copyRightSide_79 ki_1 ?_
    refine z_iadd (pc := 80) C d_Pl_copyRightSide_80 ?_
    refine z_aload_n (pc := 81) C d_Pl_copyRightSide_81 rfl 0 rfl ?_
    refine gC_Pl_22 (pc := 82) (v := (gr σ 902)) C rfl d_Pl_copyRightSide_82 ?_
    obtain ⟨σ12, e13, hm⟩ := bv_s hm
    refine z_callV (pc := 85) C (k_Pl_copyNodes hAD e13) km_Pl_copyNodes mC_255 rfl rfl oC_9 rfl (kR_of (Nat.le_of_ble_eq_true rfl) (Nat.le_of_ble_eq_true rfl)) rfl (Nat.le_of_ble_eq_true rfl) d_Pl_copyRightSide_85 ?_
    refine z_goto (pc := 88) (tgt := 160) C d_Pl_copyRightSide_88 (by decide) ?_
    refine z_lv (lv' := [(0, .ref (ad 9)), (1, .int x1), (2, .ref (ad x2)), (4, .int x4), (5, .int x5)]) [0, 1, 2, 3, 4] rfl ?_
    exact w_Pl_copyRightSide_160 hAD C hr _ h29 σ12 x1 x2 x4 x5 hm
set_option maxHeartbeats 4000000 in
set_option maxRecDepth 100000 in
theorem w_Pl_copyRightSide_29 {D : va_G} {ad : Nat → Nat} {cA : Nat → ClassId} {p : Program} {l : Launch} {e : Env} {s : State} {m : MethodId} {args : Array Value} {below : List Frame} {meth : Method} {c : Code} {F : Nat} (hAD : ∀ σ, va_D (owC ad) (wdC ad cA σ)) (C : CC D ad cA (sXC ad) p s m args meth c bc_Pl_copyRightSide "KindRounds$Plainer" 8) (hr : meth.sig.returnType = none) {σ' : zS} : ∀ (n : Nat) (σ : zS) (x1 : Int32) (x2 : Nat) (x4 : Int32) (x5 : Int32), Pl_copyRightSide_29 F n σ x1 x2 x4 x5 = some σ' → ZC D ad cA p l e (rmK 2) s m args below meth c 8 (qvC D ad cA below args s σ') 29 [(0, .ref (ad 9)), (1, .int x1), (2, .ref (ad x2)), (4, .int x4), (5, .int x5)] [] σ := by
  intro n
  induction n with
  | zero => intro σ x1 x2 x4 x5 hm; cases hm
  | succ n h29 =>
    intro σ x1 x2 x4 x5 hm
    have hm : Pl_copyRightSide_b29 F (Pl_copyRightSide_29 F n) σ x1 x2 x4 x5 = some σ' := hm
    unfold Pl_copyRightSide_b29 at hm
    refine z_iload (pc := 29) C d_Pl_copyRightSide_29 4 rfl ?_
    refine z_iload (pc := 31) C d_Pl_copyRightSide_31 3 rfl ?_
    refine z_icmp_ge (pc := 33) (tgt := 166) C d_Pl_copyRightSide_33 (by decide) (fun c1 => ?_) (fun c1 => ?_)
    · rw [if_pos c1] at hm
      exact z_vretE (pc := 166) C hr hm d_Pl_copyRightSide_166
    · rw [if_neg c1] at hm
      refine z_aload_n (pc := 36) C d_Pl_copyRightSide_36 rfl 2 rfl ?_
      obtain ⟨g2, hm⟩ := gd_s hm
      refine gC_Pl_60 (pc := 37) C g2  d_Pl_copyRightSide_37 ?_
      refine z_iload (pc := 40) C d_Pl_copyRightSide_40 4 rfl ?_
      obtain ⟨g3, hm⟩ := gd_s hm
      refine alC_Ro_0 (pc := 42) (v := (ma σ (rA x2 0) x5.toNatClampNeg)) C (x := x2) g2 rfl g3 d_Pl_copyRightSide_42 ?_
      refine z_iconst (pc := 43) C d_Pl_copyRightSide_43 ki_3 ?_
      refine z_icmp_ne (pc := 44) (tgt := 65) C d_Pl_copyRightSide_44 (by decide) (fun c4 => ?_) (fun c4 => ?_)
      · rw [if_neg c4] at hm
        refine z_iconst (pc := 65) C d_Pl_copyRightSide_65 ki_m1 ?_
        exact w_Pl_copyRightSide_66 hAD C hr _ h29 σ x1 x2 x4 x5 (-1 : Int32) hm
      · rw [if_pos c4] at hm
        refine z_aload_n (pc := 47) C d_Pl_copyRightSide_47 rfl 0 rfl ?_
        refine gC_Pl_9 (pc := 48) C  d_Pl_copyRightSide_48 ?_
        refine z_iload_n (pc := 51) C d_Pl_copyRightSide_51 rfl 1 rfl ?_
        refine z_aload_n (pc := 52) C d_Pl_copyRightSide_52 rfl 2 rfl ?_
        refine gC_Pl_63 (pc := 53) C g2  d_Pl_copyRightSide_53 ?_
        refine z_iload (pc := 56) C d_Pl_copyRightSide_56 4 rfl ?_
        refine alC_Ro_1 (pc := 58) (v := (mb σ (rA x2 1) x5.toNatClampNeg)) C (x := x2) g2 rfl g3 d_Pl_copyRightSide_58 ?_
        obtain ⟨r6, σ5, e7, hm⟩ := bi_s hm
        refine z_callIN (pc := 59) C (k_Te_findParam hAD e7) km_Te_findParam mC_262 rfl rfl oC_4 rfl (kR_of (Nat.le_of_ble_eq_true rfl) (Nat.le_of_ble_eq_true rfl)) rfl (Nat.le_of_ble_eq_true rfl) d_Pl_copyRightSide_59 ?_
        refine z_goto (pc := 62) (tgt := 66) C d_Pl_copyRightSide_62 (by decide) ?_
        exact w_Pl_copyRightSide_66 hAD C hr _ h29 σ5 x1 x2 x4 x5 r6 hm
set_option maxHeartbeats 4000000 in
set_option maxRecDepth 100000 in
theorem k_Pl_copyRightSide {l : Launch} {D : va_G} {ad : Nat → Nat} {cA : Nat → ClassId} {F : Nat} (hAD : ∀ σ, va_D (owC ad) (wdC ad cA σ)) {σ : zS} {x1 : Int32} {σ' : zS} (hm : Pl_copyRightSide F σ x1 = some σ') : kVC l D ad cA (sXC ad) y_Pl_copyRightSide bc_Pl_copyRightSide 8 2 [.ref (ad 9), .int x1] σ σ' := by
  refine kV_of (by decide) hAD sXC_P (Nat.le_of_ble_eq_true rfl) ?_
  intro p e s m below meth c C hr
  unfold Pl_copyRightSide at hm
  refine z_lv (lv' := [(0, .ref (ad 9)), (1, .int x1)]) [0, 1] rfl ?_
  refine z_aload_n (pc := 0) C d_Pl_copyRightSide_0 rfl 0 rfl ?_
  refine gC_Pl_9 (pc := 1) C  d_Pl_copyRightSide_1 ?_
  refine gC_Pl_90 (pc := 4) C  d_Pl_copyRightSide_4 ?_
  refine z_astore_n (pc := 7) (lv' := [(0, .ref (ad 9)), (1, .int x1), (2, .ref (ad 10))]) C d_Pl_copyRightSide_7 rfl (Nat.le_of_ble_eq_true rfl) [1, 2, 0] rfl ?_
  refine z_aload_n (pc := 8) C d_Pl_copyRightSide_8 rfl 2 rfl ?_
  refine z_iload_n (pc := 9) C d_Pl_copyRightSide_9 rfl 1 rfl ?_
  obtain ⟨g2, hm⟩ := gd_s hm
  obtain ⟨r3, σ1, e4, hm⟩ := bi_s hm
  refine z_callIN (pc := 10) C (k_Ro_termOf hAD e4) km_Ro_termOf mC_264 rfl rfl (oC_Ro g2) rfl (kR_of (Nat.le_of_ble_eq_true rfl) (Nat.le_of_ble_eq_true rfl)) rfl (Nat.le_of_ble_eq_true rfl) d_Pl_copyRightSide_10 ?_
  refine z_istore_n (pc := 13) (lv' := [(0, .ref (ad 9)), (1, .int x1), (2, .ref (ad 10)), (3, .int r3)]) C d_Pl_copyRightSide_13 rfl (Nat.le_of_ble_eq_true rfl) [1, 2, 3, 0] rfl ?_
  refine z_aload_n (pc := 14) C d_Pl_copyRightSide_14 rfl 2 rfl ?_
  refine z_iload_n (pc := 15) C d_Pl_copyRightSide_15 rfl 3 rfl ?_
  obtain ⟨r6, σ5, e7, hm⟩ := bi_s hm
  refine z_callIN (pc := 16) C (k_Ro_termEnd hAD e7) km_Ro_termEnd mC_254 rfl rfl (oC_Ro g2) rfl (kR_of (Nat.le_of_ble_eq_true rfl) (Nat.le_of_ble_eq_true rfl)) rfl (Nat.le_of_ble_eq_true rfl) d_Pl_copyRightSide_16 ?_
  refine z_istore (pc := 19) (lv' := [(0, .ref (ad 9)), (1, .int x1), (2, .ref (ad 10)), (3, .int r3), (4, .int r6)]) C d_Pl_copyRightSide_19 (Nat.le_of_ble_eq_true rfl) [1, 2, 3, 4, 0] rfl ?_
  refine z_aload_n (pc := 21) C d_Pl_copyRightSide_21 rfl 2 rfl ?_
  refine gC_Pl_45 (pc := 22) C g2  d_Pl_copyRightSide_22 ?_
  refine z_iload_n (pc := 25) C d_Pl_copyRightSide_25 rfl 3 rfl ?_
  obtain ⟨g8, hm⟩ := gd_s hm
  refine alC_Ro_4 (pc := 26) (v := (ma σ5 (rA 10 4) r3.toNatClampNeg)) C (x := 10) g2 rfl g8 d_Pl_copyRightSide_26 ?_
  refine z_istore (pc := 27) (lv' := [(0, .ref (ad 9)), (1, .int x1), (2, .ref (ad 10)), (3, .int r3), (4, .int r6), (5, .int (ma σ5 (rA 10 4) r3.toNatClampNeg))]) C d_Pl_copyRightSide_27 (Nat.le_of_ble_eq_true rfl) [1, 2, 3, 4, 5, 0] rfl ?_
  refine z_lv (lv' := [(0, .ref (ad 9)), (1, .int x1), (2, .ref (ad 10)), (4, .int r6), (5, .int (ma σ5 (rA 10 4) r3.toNatClampNeg))]) [0, 1, 2, 4, 5] rfl ?_
  exact w_Pl_copyRightSide_29 hAD C hr F σ5 x1 10 r6 (ma σ5 (rA 10 4) r3.toNatClampNeg) hm
set_option maxHeartbeats 4000000 in
set_option maxRecDepth 100000 in
theorem w_Pl_replace_128 {D : va_G} {ad : Nat → Nat} {cA : Nat → ClassId} {p : Program} {l : Launch} {e : Env} {s : State} {m : MethodId} {args : Array Value} {below : List Frame} {meth : Method} {c : Code} {F : Nat} (hAD : ∀ σ, va_D (owC ad) (wdC ad cA σ)) (C : CC D ad cA (sXC ad) p s m args meth c bc_Pl_replace "KindRounds$Plainer" 6) (hr : meth.sig.returnType = none) {σ' : zS} (σ : zS) (x3 : Int32) (hm : Pl_replace_128 F σ x3 = some σ') : ZC D ad cA p l e (rmK 3) s m args below meth c 6 (qvC D ad cA below args s σ') 128 [(0, .ref (ad 9)), (3, .int x3)] [] σ := by
  unfold Pl_replace_128 at hm
  refine z_aload_n (pc := 128) C d_Pl_replace_128 rfl 0 rfl ?_
  refine z_aload_n (pc := 129) C d_Pl_replace_129 rfl 0 rfl ?_
  refine gC_Pl_18 (pc := 130) (v := (gr σ 901)) C rfl d_Pl_replace_130 ?_
  refine z_aload_n (pc := 133) C d_Pl_replace_133 rfl 0 rfl ?_
  refine gC_Pl_28 (pc := 134) C  d_Pl_replace_134 ?_
  refine z_iload_n (pc := 137) C d_Pl_replace_137 rfl 1 rfl ?_
  obtain ⟨g1, hm⟩ := gd_s hm
  refine alC_57 (pc := 138) (v := (ga σ 57 x3.toNatClampNeg)) C  rfl g1 d_Pl_replace_138 ?_
  refine z_aload_n (pc := 139) C d_Pl_replace_139 rfl 0 rfl ?_
  refine gC_Pl_18 (pc := 140) (v := (gr σ 901)) C rfl d_Pl_replace_140 ?_
  obtain ⟨g2, hm⟩ := gd_s hm
  refine gC_Pl_56 (pc := 143) (v := (mi σ (100 * (gr σ 901) + 4))) C g2 rfl d_Pl_replace_143 ?_
  refine z_aload_n (pc := 146) C d_Pl_replace_146 rfl 0 rfl ?_
  refine gC_Pl_22 (pc := 147) (v := (gr σ 902)) C rfl d_Pl_replace_147 ?_
  obtain ⟨σ3, e4, hm⟩ := bv_s hm
  refine z_callV (pc := 150) C (k_Pl_copyNodes hAD e4) km_Pl_copyNodes mC_255 rfl rfl oC_9 rfl (kR_of (Nat.le_of_ble_eq_true rfl) (Nat.le_of_ble_eq_true rfl)) rfl (Nat.le_of_ble_eq_true rfl) d_Pl_replace_150 ?_
  refine z_aload_n (pc := 153) C d_Pl_replace_153 rfl 0 rfl ?_
  refine gC_Pl_18 (pc := 154) (v := (gr σ3 901)) C rfl d_Pl_replace_154 ?_
  refine z_astore (pc := 157) (lv' := [(0, .ref (ad 9)), (3, .int x3), (5, .ref (ad (gr σ3 901)))]) C d_Pl_replace_157 (Nat.le_of_ble_eq_true rfl) [1, 2, 0] rfl ?_
  refine z_aload_n (pc := 159) C d_Pl_replace_159 rfl 0 rfl ?_
  refine z_aload_n (pc := 160) C d_Pl_replace_160 rfl 0 rfl ?_
  refine gC_Pl_22 (pc := 161) (v := (gr σ3 902)) C rfl d_Pl_replace_161 ?_
  refine pC_Pl_18 (pc := 164) C  d_Pl_replace_164 ?_
  refine z_aload_n (pc := 167) C d_Pl_replace_167 rfl 0 rfl ?_
  refine z_aload (pc := 168) C d_Pl_replace_168 2 rfl ?_
  refine pC_Pl_22 (pc := 170) C  d_Pl_replace_170 ?_
  exact z_vretE (pc := 173) C hr hm d_Pl_replace_173
set_option maxHeartbeats 4000000 in
set_option maxRecDepth 100000 in
theorem w_Pl_replace_22 {D : va_G} {ad : Nat → Nat} {cA : Nat → ClassId} {p : Program} {l : Launch} {e : Env} {s : State} {m : MethodId} {args : Array Value} {below : List Frame} {meth : Method} {c : Code} {F : Nat} (hAD : ∀ σ, va_D (owC ad) (wdC ad cA σ)) (C : CC D ad cA (sXC ad) p s m args meth c bc_Pl_replace "KindRounds$Plainer" 6) (hr : meth.sig.returnType = none) {σ' : zS} : ∀ (n : Nat) (σ : zS) (x1 : Int32) (x2 : Int32) (x3 : Int32) (x4 : Int32), Pl_replace_22 F n σ x1 x2 x3 x4 = some σ' → ZC D ad cA p l e (rmK 3) s m args below meth c 6 (qvC D ad cA below args s σ') 22 [(0, .ref (ad 9)), (1, .int x1), (2, .int x2), (3, .int x3), (4, .int x4)] [] σ := by
  intro n
  induction n with
  | zero => intro σ x1 x2 x3 x4 hm; cases hm
  | succ n h22 =>
    intro σ x1 x2 x3 x4 hm
    have hm : Pl_replace_b22 F (Pl_replace_22 F n) σ x1 x2 x3 x4 = some σ' := hm
    unfold Pl_replace_b22 at hm
    refine z_iload (pc := 22) C d_Pl_replace_22 4 rfl ?_
    refine z_iload_n (pc := 24) C d_Pl_replace_24 rfl 3 rfl ?_
    refine z_icmp_ge (pc := 25) (tgt := 57) C d_Pl_replace_25 (by decide) (fun c1 => ?_) (fun c1 => ?_)
    · rw [if_pos c1] at hm
      refine z_aload_n (pc := 57) C d_Pl_replace_57 rfl 0 rfl ?_
      refine gC_Pl_22 (pc := 58) (v := (gr σ 902)) C rfl d_Pl_replace_58 ?_
      obtain ⟨g3, hm⟩ := gd_s hm
      obtain ⟨σ2, e4, hm⟩ := bv_s hm
      refine z_callVN (pc := 61) C (k_Ro_clear hAD e4) km_Ro_clear mC_252 rfl rfl (oC_Ro g3) rfl (kR_of (Nat.le_of_ble_eq_true rfl) (Nat.le_of_ble_eq_true rfl)) rfl (Nat.le_of_ble_eq_true rfl) d_Pl_replace_61 ?_
      refine z_aload_n (pc := 64) C d_Pl_replace_64 rfl 0 rfl ?_
      refine z_aload_n (pc := 65) C d_Pl_replace_65 rfl 0 rfl ?_
      refine gC_Pl_18 (pc := 66) (v := (gr σ2 901)) C rfl d_Pl_replace_66 ?_
      refine z_iconst (pc := 69) C d_Pl_replace_69 ki_0 ?_
      refine z_iload_n (pc := 70) C d_Pl_replace_70 rfl 1 rfl ?_
      refine z_aload_n (pc := 71) C d_Pl_replace_71 rfl 0 rfl ?_
      refine gC_Pl_22 (pc := 72) (v := (gr σ2 902)) C rfl d_Pl_replace_72 ?_
      obtain ⟨σ5, e6, hm⟩ := bv_s hm
      refine z_callV (pc := 75) C (k_Pl_copyNodes hAD e6) km_Pl_copyNodes mC_255 rfl rfl oC_9 rfl (kR_of (Nat.le_of_ble_eq_true rfl) (Nat.le_of_ble_eq_true rfl)) rfl (Nat.le_of_ble_eq_true rfl) d_Pl_replace_75 ?_
      refine z_aload_n (pc := 78) C d_Pl_replace_78 rfl 0 rfl ?_
      refine gC_Pl_22 (pc := 79) (v := (gr σ5 902)) C rfl d_Pl_replace_79 ?_
      obtain ⟨g7, hm⟩ := gd_s hm
      refine gC_Pl_56 (pc := 82) (v := (mi σ5 (100 * (gr σ5 902) + 4))) C g7 rfl d_Pl_replace_82 ?_
      refine z_istore (pc := 85) (lv' := [(0, .ref (ad 9)), (1, .int x1), (2, .int x2), (3, .int x3), (4, .int (mi σ5 (100 * (gr σ5 902) + 4)))]) C d_Pl_replace_85 (Nat.le_of_ble_eq_true rfl) [1, 2, 3, 4, 0] rfl ?_
      refine z_aload_n (pc := 87) C d_Pl_replace_87 rfl 0 rfl ?_
      refine z_iload_n (pc := 88) C d_Pl_replace_88 rfl 2 rfl ?_
      obtain ⟨σ8, e9, hm⟩ := bv_s hm
      refine z_callV (pc := 89) C (k_Pl_copyRightSide hAD e9) km_Pl_copyRightSide mC_258 rfl rfl oC_9 rfl (kR_of (Nat.le_of_ble_eq_true rfl) (Nat.le_of_ble_eq_true rfl)) rfl (Nat.le_of_ble_eq_true rfl) d_Pl_replace_89 ?_
      refine z_iload (pc := 92) C d_Pl_replace_92 4 rfl ?_
      refine z_aload_n (pc := 94) C d_Pl_replace_94 rfl 0 rfl ?_
      refine gC_Pl_22 (pc := 95) (v := (gr σ8 902)) C rfl d_Pl_replace_95 ?_
      obtain ⟨g10, hm⟩ := gd_s hm
      refine gC_Pl_56 (pc := 98) (v := (mi σ8 (100 * (gr σ8 902) + 4))) C g10 rfl d_Pl_replace_98 ?_
      refine z_icmp_ge (pc := 101) (tgt := 128) C d_Pl_replace_101 (by decide) (fun c11 => ?_) (fun c11 => ?_)
      · rw [if_pos c11] at hm
        refine z_lv (lv' := [(0, .ref (ad 9)), (3, .int x3)]) [0, 3] rfl ?_
        exact w_Pl_replace_128 hAD C hr σ8 x3 hm
      · rw [if_neg c11] at hm
        refine z_aload_n (pc := 104) C d_Pl_replace_104 rfl 0 rfl ?_
        refine gC_Pl_22 (pc := 105) (v := (gr σ8 902)) C rfl d_Pl_replace_105 ?_
        refine gC_Pl_87 (pc := 108) C g10  d_Pl_replace_108 ?_
        refine z_iload (pc := 111) C d_Pl_replace_111 4 rfl ?_
        refine z_dup2 (pc := 113) C d_Pl_replace_113 rfl rfl ?_
        obtain ⟨g12, hm⟩ := gd_s hm
        refine alC_Ro_2 (pc := 114) (v := (ma σ8 (rA (gr σ8 902) 2) (mi σ5 (100 * (gr σ5 902) + 4)).toNatClampNeg)) C (x := (gr σ8 902)) g10 rfl g12 d_Pl_replace_114 ?_
        refine z_aload_n (pc := 115) C d_Pl_replace_115 rfl 0 rfl ?_
        refine gC_Pl_18 (pc := 116) (v := (gr σ8 901)) C rfl d_Pl_replace_116 ?_
        obtain ⟨g13, hm⟩ := gd_s hm
        refine gC_Pl_87 (pc := 119) C g13  d_Pl_replace_119 ?_
        refine z_iload_n (pc := 122) C d_Pl_replace_122 rfl 1 rfl ?_
        obtain ⟨g14, hm⟩ := gd_s hm
        refine alC_Ro_2 (pc := 123) (v := (ma σ8 (rA (gr σ8 901) 2) x1.toNatClampNeg)) C (x := (gr σ8 901)) g13 rfl g14 d_Pl_replace_123 ?_
        refine z_iload_n (pc := 124) C d_Pl_replace_124 rfl 3 rfl ?_
        refine z_isub (pc := 125) C d_Pl_replace_125 ?_
        refine z_iadd (pc := 126) C d_Pl_replace_126 ?_
        refine asC_Ro_2 (pc := 127) C (x := (gr σ8 902)) g10 g12 d_Pl_replace_127 ?_
        refine z_lv (lv' := [(0, .ref (ad 9)), (3, .int x3)]) [0, 3] rfl ?_
        exact w_Pl_replace_128 hAD C hr (ta σ8 (rA (gr σ8 902) 2) (mi σ5 (100 * (gr σ5 902) + 4)).toNatClampNeg ((ma σ8 (rA (gr σ8 902) 2) (mi σ5 (100 * (gr σ5 902) + 4)).toNatClampNeg) + ((ma σ8 (rA (gr σ8 901) 2) x1.toNatClampNeg) - x3))) x3 hm
    · rw [if_neg c1] at hm
      refine z_aload_n (pc := 28) C d_Pl_replace_28 rfl 0 rfl ?_
      refine gC_Pl_28 (pc := 29) C  d_Pl_replace_29 ?_
      refine z_iload (pc := 32) C d_Pl_replace_32 4 rfl ?_
      refine z_iconst (pc := 34) C d_Pl_replace_34 ki_1 ?_
      refine z_iadd (pc := 35) C d_Pl_replace_35 ?_
      refine z_aload_n (pc := 36) C d_Pl_replace_36 rfl 0 rfl ?_
      refine gC_Pl_18 (pc := 37) (v := (gr σ 901)) C rfl d_Pl_replace_37 ?_
      refine z_aload_n (pc := 40) C d_Pl_replace_40 rfl 0 rfl ?_
      refine gC_Pl_28 (pc := 41) C  d_Pl_replace_41 ?_
      refine z_iload (pc := 44) C d_Pl_replace_44 4 rfl ?_
      obtain ⟨g15, hm⟩ := gd_s hm
      refine alC_57 (pc := 46) (v := (ga σ 57 x4.toNatClampNeg)) C  rfl g15 d_Pl_replace_46 ?_
      obtain ⟨g17, hm⟩ := gd_s hm
      obtain ⟨r18, σ16, e19, hm⟩ := bi_s hm
      refine z_callIN (pc := 47) C (k_Ro_endOf hAD e19) km_Ro_endOf mC_260 rfl rfl (oC_Ro g17) rfl (kR_of (Nat.le_of_ble_eq_true rfl) (Nat.le_of_ble_eq_true rfl)) rfl (Nat.le_of_ble_eq_true rfl) d_Pl_replace_47 ?_
      obtain ⟨g20, hm⟩ := gd_s hm
      refine asC_57 (pc := 50) C  g20 d_Pl_replace_50 ?_
      refine z_iinc (pc := 51) (lv' := [(0, .ref (ad 9)), (1, .int x1), (2, .int x2), (3, .int x3), (4, .int (x4 + (1 : Int32)))]) C d_Pl_replace_51 4 rfl (ii ki_1) (Nat.le_of_ble_eq_true rfl) [1, 2, 3, 4, 0] rfl ?_
      refine z_goto (pc := 54) (tgt := 22) C d_Pl_replace_54 (by decide) ?_
      exact h22 (sa σ16 57 (x4 + (1 : Int32)).toNatClampNeg r18) x1 x2 x3 (x4 + (1 : Int32)) hm
set_option maxHeartbeats 4000000 in
set_option maxRecDepth 100000 in
theorem k_Pl_replace {l : Launch} {D : va_G} {ad : Nat → Nat} {cA : Nat → ClassId} {F : Nat} (hAD : ∀ σ, va_D (owC ad) (wdC ad cA σ)) {σ : zS} {x1 : Int32} {x2 : Int32} {σ' : zS} (hm : Pl_replace F σ x1 x2 = some σ') : kVC l D ad cA (sXC ad) y_Pl_replace bc_Pl_replace 6 3 [.ref (ad 9), .int x1, .int x2] σ σ' := by
  refine kV_of (by decide) hAD sXC_P (Nat.le_of_ble_eq_true rfl) ?_
  intro p e s m below meth c C hr
  unfold Pl_replace at hm
  refine z_lv (lv' := [(0, .ref (ad 9)), (1, .int x1), (2, .int x2)]) [0, 1, 2] rfl ?_
  refine z_aload_n (pc := 0) C d_Pl_replace_0 rfl 0 rfl ?_
  refine gC_Pl_9 (pc := 1) C  d_Pl_replace_1 ?_
  refine gC_Pl_77 (pc := 4) C  d_Pl_replace_4 ?_
  refine z_iload_n (pc := 7) C d_Pl_replace_7 rfl 2 rfl ?_
  obtain ⟨g1, hm⟩ := gd_s hm
  refine alC_32 (pc := 8) (v := (ga σ 32 x2.toNatClampNeg)) C  rfl g1 d_Pl_replace_8 ?_
  refine z_istore_n (pc := 9) (lv' := [(0, .ref (ad 9)), (1, .int x1), (2, .int x2), (3, .int (ga σ 32 x2.toNatClampNeg))]) C d_Pl_replace_9 rfl (Nat.le_of_ble_eq_true rfl) [1, 2, 3, 0] rfl ?_
  refine z_aload_n (pc := 10) C d_Pl_replace_10 rfl 0 rfl ?_
  refine gC_Pl_28 (pc := 11) C  d_Pl_replace_11 ?_
  refine z_iconst (pc := 14) C d_Pl_replace_14 ki_0 ?_
  refine z_iload_n (pc := 15) C d_Pl_replace_15 rfl 1 rfl ?_
  refine z_iconst (pc := 16) C d_Pl_replace_16 ki_1 ?_
  refine z_iadd (pc := 17) C d_Pl_replace_17 ?_
  obtain ⟨g2, hm⟩ := gd_s hm
  refine asC_57 (pc := 18) C  g2 d_Pl_replace_18 ?_
  refine z_iconst (pc := 19) C d_Pl_replace_19 ki_0 ?_
  refine z_istore (pc := 20) (lv' := [(0, .ref (ad 9)), (1, .int x1), (2, .int x2), (3, .int (ga σ 32 x2.toNatClampNeg)), (4, .int (0 : Int32))]) C d_Pl_replace_20 (Nat.le_of_ble_eq_true rfl) [1, 2, 3, 4, 0] rfl ?_
  exact w_Pl_replace_22 hAD C hr F (sa σ 57 (0 : Int32).toNatClampNeg (x1 + (1 : Int32))) x1 x2 (ga σ 32 x2.toNatClampNeg) (0 : Int32) hm
set_option maxHeartbeats 4000000 in
set_option maxRecDepth 100000 in
theorem w_Pl_replaceAll_135 {D : va_G} {ad : Nat → Nat} {cA : Nat → ClassId} {p : Program} {l : Launch} {e : Env} {s : State} {m : MethodId} {args : Array Value} {below : List Frame} {meth : Method} {c : Code} {F : Nat} (hAD : ∀ σ, va_D (owC ad) (wdC ad cA σ)) (C : CC D ad cA (sXC ad) p s m args meth c bc_Pl_replaceAll "KindRounds$Plainer" 7) (hr : meth.sig.returnType = some .boolean) {r : Int32} {σ' : zS} (σ : zS) (hm : Pl_replaceAll_135 F σ = some (r, σ')) : ZC D ad cA p l e (rmK 4) s m args below meth c 7 (qiC D ad cA below args s r σ') 135 [] [] σ := by
  unfold Pl_replaceAll_135 at hm
  refine z_iconst (pc := 135) C d_Pl_replaceAll_135 ki_1 ?_
  exact z_zretE (pc := 136) C hr (by decide) hm d_Pl_replaceAll_136
set_option maxHeartbeats 4000000 in
set_option maxRecDepth 100000 in
theorem w_Pl_replaceAll_129 {D : va_G} {ad : Nat → Nat} {cA : Nat → ClassId} {p : Program} {l : Launch} {e : Env} {s : State} {m : MethodId} {args : Array Value} {below : List Frame} {meth : Method} {c : Code} {F : Nat} (hAD : ∀ σ, va_D (owC ad) (wdC ad cA σ)) (C : CC D ad cA (sXC ad) p s m args meth c bc_Pl_replaceAll "KindRounds$Plainer" 7) (hr : meth.sig.returnType = some .boolean) {r : Int32} {σ' : zS} (rc40 : zS → Int32 → Int32 → Int32 → Option (Int32 × zS)) (h40 : ∀ σ x3 x4 x5, rc40 σ x3 x4 x5 = some (r, σ') → ZC D ad cA p l e (rmK 4) s m args below meth c 7 (qiC D ad cA below args s r σ') 40 [(0, .ref (ad 9)), (3, .int x3), (4, .int x4), (5, .int x5)] [] σ) (σ : zS) (x3 : Int32) (x4 : Int32) (x5 : Int32) (hm : Pl_replaceAll_129 F rc40 σ x3 x4 x5 = some (r, σ')) : ZC D ad cA p l e (rmK 4) s m args below meth c 7 (qiC D ad cA below args s r σ') 129 [(0, .ref (ad 9)), (3, .int x3), (4, .int x4), (5, .int x5)] [] σ := by
  unfold Pl_replaceAll_129 at hm
  refine z_iinc (pc := 129) (lv' := [(0, .ref (ad 9)), (3, .int x3), (4, .int x4), (5, .int (x5 + (1 : Int32)))]) C d_Pl_replaceAll_129 3 rfl (ii ki_1) (Nat.le_of_ble_eq_true rfl) [1, 2, 3, 0] rfl ?_
  refine z_goto (pc := 132) (tgt := 40) C d_Pl_replaceAll_132 (by decide) ?_
  exact h40 σ x3 x4 (x5 + (1 : Int32)) hm
set_option maxHeartbeats 4000000 in
set_option maxRecDepth 100000 in
theorem w_Pl_replaceAll_40 {D : va_G} {ad : Nat → Nat} {cA : Nat → ClassId} {p : Program} {l : Launch} {e : Env} {s : State} {m : MethodId} {args : Array Value} {below : List Frame} {meth : Method} {c : Code} {F : Nat} (hAD : ∀ σ, va_D (owC ad) (wdC ad cA σ)) (C : CC D ad cA (sXC ad) p s m args meth c bc_Pl_replaceAll "KindRounds$Plainer" 7) (hr : meth.sig.returnType = some .boolean) {r : Int32} {σ' : zS} : ∀ (n : Nat) (σ : zS) (x3 : Int32) (x4 : Int32) (x5 : Int32), Pl_replaceAll_40 F n σ x3 x4 x5 = some (r, σ') → ZC D ad cA p l e (rmK 4) s m args below meth c 7 (qiC D ad cA below args s r σ') 40 [(0, .ref (ad 9)), (3, .int x3), (4, .int x4), (5, .int x5)] [] σ := by
  intro n
  induction n with
  | zero => intro σ x3 x4 x5 hm; cases hm
  | succ n h40 =>
    intro σ x3 x4 x5 hm
    have hm : Pl_replaceAll_b40 F (Pl_replaceAll_40 F n) σ x3 x4 x5 = some (r, σ') := hm
    unfold Pl_replaceAll_b40 at hm
    refine z_iload (pc := 40) C d_Pl_replaceAll_40 3 rfl ?_
    refine z_sipush (pc := 42) C d_Pl_replaceAll_42 ks_500 ?_
    refine z_icmp_gt (pc := 45) (tgt := 135) C d_Pl_replaceAll_45 (by decide) (fun c1 => ?_) (fun c1 => ?_)
    · rw [if_pos c1] at hm
      refine z_lv (lv' := []) [] rfl ?_
      exact w_Pl_replaceAll_135 hAD C hr σ hm
    · rw [if_neg c1] at hm
      refine z_iload (pc := 48) C d_Pl_replaceAll_48 2 rfl ?_
      refine z_aload_n (pc := 50) C d_Pl_replaceAll_50 rfl 0 rfl ?_
      refine gC_Pl_18 (pc := 51) (v := (gr σ 901)) C rfl d_Pl_replaceAll_51 ?_
      obtain ⟨g2, hm⟩ := gd_s hm
      refine gC_Pl_56 (pc := 54) (v := (mi σ (100 * (gr σ 901) + 4))) C g2 rfl d_Pl_replaceAll_54 ?_
      refine z_icmp_ge (pc := 57) (tgt := 135) C d_Pl_replaceAll_57 (by decide) (fun c3 => ?_) (fun c3 => ?_)
      · rw [if_pos c3] at hm
        refine z_lv (lv' := []) [] rfl ?_
        exact w_Pl_replaceAll_135 hAD C hr σ hm
      · rw [if_neg c3] at hm
        refine z_aload_n (pc := 60) C d_Pl_replaceAll_60 rfl 0 rfl ?_
        refine gC_Pl_9 (pc := 61) C  d_Pl_replaceAll_61 ?_
        refine z_aload_n (pc := 64) C d_Pl_replaceAll_64 rfl 0 rfl ?_
        refine gC_Pl_18 (pc := 65) (v := (gr σ 901)) C rfl d_Pl_replaceAll_65 ?_
        refine gC_Pl_60 (pc := 68) C g2  d_Pl_replaceAll_68 ?_
        refine z_iload (pc := 71) C d_Pl_replaceAll_71 2 rfl ?_
        obtain ⟨g4, hm⟩ := gd_s hm
        refine alC_Ro_0 (pc := 73) (v := (ma σ (rA (gr σ 901) 0) x4.toNatClampNeg)) C (x := (gr σ 901)) g2 rfl g4 d_Pl_replaceAll_73 ?_
        refine z_aload_n (pc := 74) C d_Pl_replaceAll_74 rfl 0 rfl ?_
        refine gC_Pl_18 (pc := 75) (v := (gr σ 901)) C rfl d_Pl_replaceAll_75 ?_
        refine gC_Pl_63 (pc := 78) C g2  d_Pl_replaceAll_78 ?_
        refine z_iload (pc := 81) C d_Pl_replaceAll_81 2 rfl ?_
        refine alC_Ro_1 (pc := 83) (v := (mb σ (rA (gr σ 901) 1) x4.toNatClampNeg)) C (x := (gr σ 901)) g2 rfl g4 d_Pl_replaceAll_83 ?_
        obtain ⟨r6, σ5, e7, hm⟩ := bi_s hm
        refine z_callIN (pc := 84) C (k_Te_findSynonym hAD e7) km_Te_findSynonym mC_249 rfl rfl oC_4 rfl (kR_of (Nat.le_of_ble_eq_true rfl) (Nat.le_of_ble_eq_true rfl)) rfl (Nat.le_of_ble_eq_true rfl) d_Pl_replaceAll_84 ?_
        refine z_istore (pc := 87) (lv' := [(0, .ref (ad 9)), (3, .int x3), (4, .int x4), (5, .int x5), (6, .int r6)]) C d_Pl_replaceAll_87 (Nat.le_of_ble_eq_true rfl) [1, 2, 3, 4, 0] rfl ?_
        refine z_iload (pc := 89) C d_Pl_replaceAll_89 4 rfl ?_
        refine z_if_ge (pc := 91) (tgt := 100) C d_Pl_replaceAll_91 (by decide) (fun c8 => ?_) (fun c8 => ?_)
        · rw [if_pos c8] at hm
          refine z_iload_n (pc := 100) C d_Pl_replaceAll_100 rfl 1 rfl ?_
          refine z_sipush (pc := 101) C d_Pl_replaceAll_101 ks_300 ?_
          refine z_icmp_ne (pc := 104) (tgt := 109) C d_Pl_replaceAll_104 (by decide) (fun c9 => ?_) (fun c9 => ?_)
          · rw [if_neg c9] at hm
            refine z_iinc (pc := 109) (lv' := [(0, .ref (ad 9)), (3, .int (x3 + (1 : Int32))), (4, .int x4), (5, .int x5), (6, .int r6)]) C d_Pl_replaceAll_109 1 rfl (ii ki_1) (Nat.le_of_ble_eq_true rfl) [1, 0, 2, 3, 4] rfl ?_
            refine z_aload_n (pc := 112) C d_Pl_replaceAll_112 rfl 0 rfl ?_
            refine z_iload (pc := 113) C d_Pl_replaceAll_113 2 rfl ?_
            refine z_iload (pc := 115) C d_Pl_replaceAll_115 4 rfl ?_
            obtain ⟨σ10, e11, hm⟩ := bv_s hm
            refine z_callV (pc := 117) C (k_Pl_replace hAD e11) km_Pl_replace mC_250 rfl rfl oC_9 rfl (kR_of (Nat.le_of_ble_eq_true rfl) (Nat.le_of_ble_eq_true rfl)) rfl (Nat.le_of_ble_eq_true rfl) d_Pl_replaceAll_117 ?_
            refine z_aload_n (pc := 120) C d_Pl_replaceAll_120 rfl 0 rfl ?_
            refine gC_Pl_41 (pc := 121) (v := (gi σ10 908)) C rfl d_Pl_replaceAll_121 ?_
            refine z_if_ne (pc := 124) (tgt := 129) C d_Pl_replaceAll_124 (by decide) (fun c12 => ?_) (fun c12 => ?_)
            · rw [if_neg c12] at hm
              refine z_lv (lv' := [(0, .ref (ad 9)), (3, .int (x3 + (1 : Int32))), (4, .int x4), (5, .int x5)]) [0, 1, 2, 3] rfl ?_
              exact w_Pl_replaceAll_129 hAD C hr _ h40 σ10 (x3 + (1 : Int32)) x4 x5 hm
            · rw [if_pos c12] at hm
              refine z_iconst (pc := 127) C d_Pl_replaceAll_127 ki_0 ?_
              exact z_zretE (pc := 128) C hr (by decide) hm d_Pl_replaceAll_128
          · rw [if_pos c9] at hm
            refine z_iconst (pc := 107) C d_Pl_replaceAll_107 ki_0 ?_
            exact z_zretE (pc := 108) C hr (by decide) hm d_Pl_replaceAll_108
        · rw [if_neg c8] at hm
          refine z_iinc (pc := 94) (lv' := [(0, .ref (ad 9)), (3, .int x3), (4, .int (x4 + (1 : Int32))), (5, .int x5), (6, .int r6)]) C d_Pl_replaceAll_94 2 rfl (ii ki_1) (Nat.le_of_ble_eq_true rfl) [1, 2, 0, 3, 4] rfl ?_
          refine z_goto (pc := 97) (tgt := 129) C d_Pl_replaceAll_97 (by decide) ?_
          refine z_lv (lv' := [(0, .ref (ad 9)), (3, .int x3), (4, .int (x4 + (1 : Int32))), (5, .int x5)]) [0, 1, 2, 3] rfl ?_
          exact w_Pl_replaceAll_129 hAD C hr _ h40 σ5 x3 (x4 + (1 : Int32)) x5 hm
set_option maxHeartbeats 4000000 in
set_option maxRecDepth 100000 in
theorem k_Pl_replaceAll {l : Launch} {D : va_G} {ad : Nat → Nat} {cA : Nat → ClassId} {F : Nat} (hAD : ∀ σ, va_D (owC ad) (wdC ad cA σ)) {σ : zS} {x1 : Nat} {x2 : Int32} {r : Int32} {σ' : zS} (hm : Pl_replaceAll F σ x1 x2 = some (r, σ')) : kIC l D ad cA (sXC ad) y_Pl_replaceAll bc_Pl_replaceAll 7 .boolean 4 [.ref (ad 9), .ref (ad x1), .int x2] σ r σ' := by
  refine kI_of (by decide) hAD sXC_P (Nat.le_of_ble_eq_true rfl) ?_
  intro p e s m below meth c C hr
  unfold Pl_replaceAll at hm
  refine z_lv (lv' := [(0, .ref (ad 9)), (1, .ref (ad x1)), (2, .int x2)]) [0, 1, 2] rfl ?_
  refine z_aload_n (pc := 0) C d_Pl_replaceAll_0 rfl 0 rfl ?_
  refine gC_Pl_18 (pc := 1) (v := (gr σ 901)) C rfl d_Pl_replaceAll_1 ?_
  obtain ⟨g2, hm⟩ := gd_s hm
  obtain ⟨σ1, e3, hm⟩ := bv_s hm
  refine z_callVN (pc := 4) C (k_Ro_clear hAD e3) km_Ro_clear mC_252 rfl rfl (oC_Ro g2) rfl (kR_of (Nat.le_of_ble_eq_true rfl) (Nat.le_of_ble_eq_true rfl)) rfl (Nat.le_of_ble_eq_true rfl) d_Pl_replaceAll_4 ?_
  refine z_aload_n (pc := 7) C d_Pl_replaceAll_7 rfl 0 rfl ?_
  refine z_iconst (pc := 8) C d_Pl_replaceAll_8 ki_1 ?_
  refine pC_Pl_41 (pc := 9) C (by decide)  d_Pl_replaceAll_9 ?_
  refine z_aload_n (pc := 12) C d_Pl_replaceAll_12 rfl 0 rfl ?_
  refine z_aload_n (pc := 13) C d_Pl_replaceAll_13 rfl 1 rfl ?_
  refine z_aload_n (pc := 14) C d_Pl_replaceAll_14 rfl 1 rfl ?_
  obtain ⟨g4, hm⟩ := gd_s hm
  refine gC_Pl_45 (pc := 15) C g4  d_Pl_replaceAll_15 ?_
  refine z_iload_n (pc := 18) C d_Pl_replaceAll_18 rfl 2 rfl ?_
  obtain ⟨g5, hm⟩ := gd_s hm
  refine alC_Ro_4 (pc := 19) (v := (ma σ1 (rA x1 4) x2.toNatClampNeg)) C (x := x1) g4 rfl g5 d_Pl_replaceAll_19 ?_
  refine z_aload_n (pc := 20) C d_Pl_replaceAll_20 rfl 1 rfl ?_
  refine z_iload_n (pc := 21) C d_Pl_replaceAll_21 rfl 2 rfl ?_
  obtain ⟨r7, σ6, e8, hm⟩ := bi_s hm
  refine z_callIN (pc := 22) C (k_Ro_termEnd hAD e8) km_Ro_termEnd mC_254 rfl rfl (oC_Ro g4) rfl (kR_of (Nat.le_of_ble_eq_true rfl) (Nat.le_of_ble_eq_true rfl)) rfl (Nat.le_of_ble_eq_true rfl) d_Pl_replaceAll_22 ?_
  refine z_aload_n (pc := 25) C d_Pl_replaceAll_25 rfl 0 rfl ?_
  refine gC_Pl_18 (pc := 26) (v := (gr σ6 901)) C rfl d_Pl_replaceAll_26 ?_
  obtain ⟨σ9, e10, hm⟩ := bv_s hm
  refine z_callV (pc := 29) C (k_Pl_copyNodes hAD e10) km_Pl_copyNodes mC_255 rfl rfl oC_9 rfl (kR_of (Nat.le_of_ble_eq_true rfl) (Nat.le_of_ble_eq_true rfl)) rfl (Nat.le_of_ble_eq_true rfl) d_Pl_replaceAll_29 ?_
  refine z_iconst (pc := 32) C d_Pl_replaceAll_32 ki_0 ?_
  refine z_istore_n (pc := 33) (lv' := [(0, .ref (ad 9)), (1, .ref (ad x1)), (2, .int x2), (3, .int (0 : Int32))]) C d_Pl_replaceAll_33 rfl (Nat.le_of_ble_eq_true rfl) [1, 2, 3, 0] rfl ?_
  refine z_iconst (pc := 34) C d_Pl_replaceAll_34 ki_0 ?_
  refine z_istore (pc := 35) (lv' := [(0, .ref (ad 9)), (1, .ref (ad x1)), (2, .int x2), (3, .int (0 : Int32)), (4, .int (0 : Int32))]) C d_Pl_replaceAll_35 (Nat.le_of_ble_eq_true rfl) [1, 2, 3, 4, 0] rfl ?_
  refine z_iconst (pc := 37) C d_Pl_replaceAll_37 ki_0 ?_
  refine z_istore (pc := 38) (lv' := [(0, .ref (ad 9)), (1, .ref (ad x1)), (2, .int x2), (3, .int (0 : Int32)), (4, .int (0 : Int32)), (5, .int (0 : Int32))]) C d_Pl_replaceAll_38 (Nat.le_of_ble_eq_true rfl) [1, 2, 3, 4, 5, 0] rfl ?_
  refine z_lv (lv' := [(0, .ref (ad 9)), (3, .int (0 : Int32)), (4, .int (0 : Int32)), (5, .int (0 : Int32))]) [0, 3, 4, 5] rfl ?_
  exact w_Pl_replaceAll_40 hAD C hr F σ9 (0 : Int32) (0 : Int32) (0 : Int32) hm
set_option maxHeartbeats 4000000 in
set_option maxRecDepth 100000 in
theorem k_Pl_keep {l : Launch} {D : va_G} {ad : Nat → Nat} {cA : Nat → ClassId} {F : Nat} (hAD : ∀ σ, va_D (owC ad) (wdC ad cA σ)) {σ : zS} {σ' : zS} (hm : Pl_keep F σ = some σ') : kVC l D ad cA (sXC ad) y_Pl_keep bc_Pl_keep 2 0 [.ref (ad 9)] σ σ' := by
  refine kV_of (by decide) hAD sXC_P (Nat.le_of_ble_eq_true rfl) ?_
  intro p e s m below meth c C hr
  unfold Pl_keep at hm
  refine z_lv (lv' := [(0, .ref (ad 9))]) [0] rfl ?_
  refine z_aload_n (pc := 0) C d_Pl_keep_0 rfl 0 rfl ?_
  refine gC_Pl_25 (pc := 1) (v := (gr σ 903)) C rfl d_Pl_keep_1 ?_
  refine z_astore_n (pc := 4) (lv' := [(0, .ref (ad 9)), (1, .ref (ad (gr σ 903)))]) C d_Pl_keep_4 rfl (Nat.le_of_ble_eq_true rfl) [1, 0] rfl ?_
  refine z_aload_n (pc := 5) C d_Pl_keep_5 rfl 0 rfl ?_
  refine z_aload_n (pc := 6) C d_Pl_keep_6 rfl 0 rfl ?_
  refine gC_Pl_18 (pc := 7) (v := (gr σ 901)) C rfl d_Pl_keep_7 ?_
  refine pC_Pl_25 (pc := 10) C  d_Pl_keep_10 ?_
  refine z_aload_n (pc := 13) C d_Pl_keep_13 rfl 0 rfl ?_
  refine z_aload_n (pc := 14) C d_Pl_keep_14 rfl 1 rfl ?_
  refine pC_Pl_18 (pc := 15) C  d_Pl_keep_15 ?_
  exact z_vretE (pc := 18) C hr hm d_Pl_keep_18
set_option maxHeartbeats 4000000 in
set_option maxRecDepth 100000 in
theorem k_Pl_isAsKept {l : Launch} {D : va_G} {ad : Nat → Nat} {cA : Nat → ClassId} {F : Nat} (hAD : ∀ σ, va_D (owC ad) (wdC ad cA σ)) {σ : zS} {r : Int32} {σ' : zS} (hm : Pl_isAsKept F σ = some (r, σ')) : kIC l D ad cA (sXC ad) y_Pl_isAsKept bc_Pl_isAsKept 1 .boolean 1 [.ref (ad 9)] σ r σ' := by
  refine kI_of (by decide) hAD sXC_P (Nat.le_of_ble_eq_true rfl) ?_
  intro p e s m below meth c C hr
  unfold Pl_isAsKept at hm
  refine z_lv (lv' := [(0, .ref (ad 9))]) [0] rfl ?_
  refine z_aload_n (pc := 0) C d_Pl_isAsKept_0 rfl 0 rfl ?_
  refine gC_Pl_18 (pc := 1) (v := (gr σ 901)) C rfl d_Pl_isAsKept_1 ?_
  refine z_aload_n (pc := 4) C d_Pl_isAsKept_4 rfl 0 rfl ?_
  refine gC_Pl_25 (pc := 5) (v := (gr σ 903)) C rfl d_Pl_isAsKept_5 ?_
  obtain ⟨g2, hm⟩ := gd_s hm
  obtain ⟨r3, σ1, e4, hm⟩ := bi_s hm
  refine z_callIN (pc := 8) C (k_Ro_isLike hAD e4) km_Ro_isLike mC_267 rfl rfl (oC_Ro g2) rfl (kR_of (Nat.le_of_ble_eq_true rfl) (Nat.le_of_ble_eq_true rfl)) rfl (Nat.le_of_ble_eq_true rfl) d_Pl_isAsKept_8 ?_
  obtain ⟨g5, hm⟩ := gd_s hm
  exact z_zretE (pc := 11) C hr g5 hm d_Pl_isAsKept_11
set_option maxHeartbeats 4000000 in
set_option maxRecDepth 100000 in
theorem w_Pl_isWrapped_112 {D : va_G} {ad : Nat → Nat} {cA : Nat → ClassId} {p : Program} {l : Launch} {e : Env} {s : State} {m : MethodId} {args : Array Value} {below : List Frame} {meth : Method} {c : Code} {F : Nat} (hAD : ∀ σ, va_D (owC ad) (wdC ad cA σ)) (C : CC D ad cA (sXC ad) p s m args meth c bc_Pl_isWrapped "KindRounds$Plainer" 4) (hr : meth.sig.returnType = some .boolean) {r : Int32} {σ' : zS} (σ : zS) (s0 : Int32) (hm : Pl_isWrapped_112 F σ s0 = some (r, σ')) : ZC D ad cA p l e (rmK 1) s m args below meth c 4 (qiC D ad cA below args s r σ') 112 [] [.int s0] σ := by
  unfold Pl_isWrapped_112 at hm
  obtain ⟨g1, hm⟩ := gd_s hm
  exact z_zretE (pc := 112) C hr g1 hm d_Pl_isWrapped_112
set_option maxHeartbeats 4000000 in
set_option maxRecDepth 100000 in
theorem w_Pl_isWrapped_111 {D : va_G} {ad : Nat → Nat} {cA : Nat → ClassId} {p : Program} {l : Launch} {e : Env} {s : State} {m : MethodId} {args : Array Value} {below : List Frame} {meth : Method} {c : Code} {F : Nat} (hAD : ∀ σ, va_D (owC ad) (wdC ad cA σ)) (C : CC D ad cA (sXC ad) p s m args meth c bc_Pl_isWrapped "KindRounds$Plainer" 4) (hr : meth.sig.returnType = some .boolean) {r : Int32} {σ' : zS} (σ : zS) (hm : Pl_isWrapped_111 F σ = some (r, σ')) : ZC D ad cA p l e (rmK 1) s m args below meth c 4 (qiC D ad cA below args s r σ') 111 [] [] σ := by
  unfold Pl_isWrapped_111 at hm
  refine z_iconst (pc := 111) C d_Pl_isWrapped_111 ki_0 ?_
  exact w_Pl_isWrapped_112 hAD C hr σ (0 : Int32) hm
set_option maxHeartbeats 4000000 in
set_option maxRecDepth 100000 in
theorem w_Pl_isWrapped_69 {D : va_G} {ad : Nat → Nat} {cA : Nat → ClassId} {p : Program} {l : Launch} {e : Env} {s : State} {m : MethodId} {args : Array Value} {below : List Frame} {meth : Method} {c : Code} {F : Nat} (hAD : ∀ σ, va_D (owC ad) (wdC ad cA σ)) (C : CC D ad cA (sXC ad) p s m args meth c bc_Pl_isWrapped "KindRounds$Plainer" 4) (hr : meth.sig.returnType = some .boolean) {r : Int32} {σ' : zS} (σ : zS) (s0 : Int32) (hm : Pl_isWrapped_69 F σ s0 = some (r, σ')) : ZC D ad cA p l e (rmK 1) s m args below meth c 4 (qiC D ad cA below args s r σ') 69 [] [.int s0] σ := by
  unfold Pl_isWrapped_69 at hm
  obtain ⟨g1, hm⟩ := gd_s hm
  exact z_zretE (pc := 69) C hr g1 hm d_Pl_isWrapped_69
set_option maxHeartbeats 4000000 in
set_option maxRecDepth 100000 in
theorem w_Pl_isWrapped_64 {D : va_G} {ad : Nat → Nat} {cA : Nat → ClassId} {p : Program} {l : Launch} {e : Env} {s : State} {m : MethodId} {args : Array Value} {below : List Frame} {meth : Method} {c : Code} {F : Nat} (hAD : ∀ σ, va_D (owC ad) (wdC ad cA σ)) (C : CC D ad cA (sXC ad) p s m args meth c bc_Pl_isWrapped "KindRounds$Plainer" 4) (hr : meth.sig.returnType = some .boolean) {r : Int32} {σ' : zS} (σ : zS) (hm : Pl_isWrapped_64 F σ = some (r, σ')) : ZC D ad cA p l e (rmK 1) s m args below meth c 4 (qiC D ad cA below args s r σ') 64 [] [] σ := by
  unfold Pl_isWrapped_64 at hm
  refine z_iconst (pc := 64) C d_Pl_isWrapped_64 ki_1 ?_
  refine z_goto (pc := 65) (tgt := 69) C d_Pl_isWrapped_65 (by decide) ?_
  exact w_Pl_isWrapped_69 hAD C hr σ (1 : Int32) hm
set_option maxHeartbeats 4000000 in
set_option maxRecDepth 100000 in
theorem k_Pl_isWrapped {l : Launch} {D : va_G} {ad : Nat → Nat} {cA : Nat → ClassId} {F : Nat} (hAD : ∀ σ, va_D (owC ad) (wdC ad cA σ)) {σ : zS} {x1 : Int32} {x2 : Int32} {r : Int32} {σ' : zS} (hm : Pl_isWrapped F σ x1 x2 = some (r, σ')) : kIC l D ad cA (sXC ad) y_Pl_isWrapped bc_Pl_isWrapped 4 .boolean 1 [.ref (ad 9), .int x1, .int x2] σ r σ' := by
  refine kI_of (by decide) hAD sXC_P (Nat.le_of_ble_eq_true rfl) ?_
  intro p e s m below meth c C hr
  unfold Pl_isWrapped at hm
  refine z_lv (lv' := [(0, .ref (ad 9)), (1, .int x1), (2, .int x2)]) [0, 1, 2] rfl ?_
  refine z_iload_n (pc := 0) C d_Pl_isWrapped_0 rfl 2 rfl ?_
  refine z_if_ge (pc := 1) (tgt := 6) C d_Pl_isWrapped_1 (by decide) (fun c1 => ?_) (fun c1 => ?_)
  · rw [if_pos c1] at hm
    refine z_aload_n (pc := 6) C d_Pl_isWrapped_6 rfl 0 rfl ?_
    refine gC_Pl_32 (pc := 7) C  d_Pl_isWrapped_7 ?_
    refine z_iload_n (pc := 10) C d_Pl_isWrapped_10 rfl 2 rfl ?_
    obtain ⟨g2, hm⟩ := gd_s hm
    refine alC_58 (pc := 11) (v := (ga σ 58 x2.toNatClampNeg)) C  rfl g2 d_Pl_isWrapped_11 ?_
    refine z_istore_n (pc := 12) (lv' := [(0, .ref (ad 9)), (1, .int x1), (2, .int x2), (3, .int (ga σ 58 x2.toNatClampNeg))]) C d_Pl_isWrapped_12 rfl (Nat.le_of_ble_eq_true rfl) [1, 2, 3, 0] rfl ?_
    refine z_aload_n (pc := 13) C d_Pl_isWrapped_13 rfl 0 rfl ?_
    refine gC_Pl_35 (pc := 14) C  d_Pl_isWrapped_14 ?_
    refine z_iload_n (pc := 17) C d_Pl_isWrapped_17 rfl 2 rfl ?_
    refine alC_59 (pc := 18) (v := (ga σ 59 x2.toNatClampNeg)) C  rfl g2 d_Pl_isWrapped_18 ?_
    refine z_aload_n (pc := 19) C d_Pl_isWrapped_19 rfl 0 rfl ?_
    refine gC_Pl_18 (pc := 20) (v := (gr σ 901)) C rfl d_Pl_isWrapped_20 ?_
    refine z_iload_n (pc := 23) C d_Pl_isWrapped_23 rfl 3 rfl ?_
    obtain ⟨g4, hm⟩ := gd_s hm
    obtain ⟨r5, σ3, e6, hm⟩ := bi_s hm
    refine z_callIN (pc := 24) C (k_Ro_fixedOf hAD e6) km_Ro_fixedOf mC_277 rfl rfl (oC_Ro g4) rfl (kR_of (Nat.le_of_ble_eq_true rfl) (Nat.le_of_ble_eq_true rfl)) rfl (Nat.le_of_ble_eq_true rfl) d_Pl_isWrapped_24 ?_
    refine z_icmp_lt (pc := 27) (tgt := 70) C d_Pl_isWrapped_27 (by decide) (fun c7 => ?_) (fun c7 => ?_)
    · rw [if_pos c7] at hm
      refine z_aload_n (pc := 70) C d_Pl_isWrapped_70 rfl 0 rfl ?_
      refine gC_Pl_18 (pc := 71) (v := (gr σ3 901)) C rfl d_Pl_isWrapped_71 ?_
      obtain ⟨g8, hm⟩ := gd_s hm
      refine gC_Pl_60 (pc := 74) C g8  d_Pl_isWrapped_74 ?_
      refine z_iload_n (pc := 77) C d_Pl_isWrapped_77 rfl 3 rfl ?_
      obtain ⟨g9, hm⟩ := gd_s hm
      refine alC_Ro_0 (pc := 78) (v := (ma σ3 (rA (gr σ3 901) 0) (ga σ 58 x2.toNatClampNeg).toNatClampNeg)) C (x := (gr σ3 901)) g8 rfl g9 d_Pl_isWrapped_78 ?_
      refine z_bipush (pc := 79) C d_Pl_isWrapped_79 kb_45 ?_
      refine z_icmp_ne (pc := 81) (tgt := 111) C d_Pl_isWrapped_81 (by decide) (fun c10 => ?_) (fun c10 => ?_)
      · rw [if_neg c10] at hm
        refine z_lv (lv' := []) [] rfl ?_
        exact w_Pl_isWrapped_111 hAD C hr σ3 hm
      · rw [if_pos c10] at hm
        refine z_aload_n (pc := 84) C d_Pl_isWrapped_84 rfl 0 rfl ?_
        refine gC_Pl_35 (pc := 85) C  d_Pl_isWrapped_85 ?_
        refine z_iload_n (pc := 88) C d_Pl_isWrapped_88 rfl 2 rfl ?_
        refine alC_59 (pc := 89) (v := (ga σ3 59 x2.toNatClampNeg)) C  rfl g2 d_Pl_isWrapped_89 ?_
        refine z_if_ne (pc := 90) (tgt := 111) C d_Pl_isWrapped_90 (by decide) (fun c11 => ?_) (fun c11 => ?_)
        · rw [if_neg c11] at hm
          refine z_lv (lv' := []) [] rfl ?_
          exact w_Pl_isWrapped_111 hAD C hr σ3 hm
        · rw [if_pos c11] at hm
          refine z_aload_n (pc := 93) C d_Pl_isWrapped_93 rfl 0 rfl ?_
          refine gC_Pl_18 (pc := 94) (v := (gr σ3 901)) C rfl d_Pl_isWrapped_94 ?_
          refine gC_Pl_60 (pc := 97) C g8  d_Pl_isWrapped_97 ?_
          refine z_iload_n (pc := 100) C d_Pl_isWrapped_100 rfl 1 rfl ?_
          obtain ⟨g12, hm⟩ := gd_s hm
          refine alC_Ro_0 (pc := 101) (v := (ma σ3 (rA (gr σ3 901) 0) x1.toNatClampNeg)) C (x := (gr σ3 901)) g8 rfl g12 d_Pl_isWrapped_101 ?_
          refine z_bipush (pc := 102) C d_Pl_isWrapped_102 kb_45 ?_
          refine z_icmp_ne (pc := 104) (tgt := 111) C d_Pl_isWrapped_104 (by decide) (fun c13 => ?_) (fun c13 => ?_)
          · rw [if_neg c13] at hm
            refine z_lv (lv' := []) [] rfl ?_
            exact w_Pl_isWrapped_111 hAD C hr σ3 hm
          · rw [if_pos c13] at hm
            refine z_iconst (pc := 107) C d_Pl_isWrapped_107 ki_1 ?_
            refine z_goto (pc := 108) (tgt := 112) C d_Pl_isWrapped_108 (by decide) ?_
            refine z_lv (lv' := []) [] rfl ?_
            exact w_Pl_isWrapped_112 hAD C hr σ3 (1 : Int32) hm
    · rw [if_neg c7] at hm
      refine z_aload_n (pc := 30) C d_Pl_isWrapped_30 rfl 0 rfl ?_
      refine gC_Pl_18 (pc := 31) (v := (gr σ3 901)) C rfl d_Pl_isWrapped_31 ?_
      obtain ⟨g14, hm⟩ := gd_s hm
      refine gC_Pl_87 (pc := 34) C g14  d_Pl_isWrapped_34 ?_
      refine z_iload_n (pc := 37) C d_Pl_isWrapped_37 rfl 1 rfl ?_
      obtain ⟨g15, hm⟩ := gd_s hm
      refine alC_Ro_2 (pc := 38) (v := (ma σ3 (rA (gr σ3 901) 2) x1.toNatClampNeg)) C (x := (gr σ3 901)) g14 rfl g15 d_Pl_isWrapped_38 ?_
      refine z_aload_n (pc := 39) C d_Pl_isWrapped_39 rfl 0 rfl ?_
      refine gC_Pl_18 (pc := 40) (v := (gr σ3 901)) C rfl d_Pl_isWrapped_40 ?_
      refine z_iload_n (pc := 43) C d_Pl_isWrapped_43 rfl 1 rfl ?_
      obtain ⟨r17, σ16, e18, hm⟩ := bi_s hm
      refine z_callIN (pc := 44) C (k_Ro_fixedOf hAD e18) km_Ro_fixedOf mC_277 rfl rfl (oC_Ro g14) rfl (kR_of (Nat.le_of_ble_eq_true rfl) (Nat.le_of_ble_eq_true rfl)) rfl (Nat.le_of_ble_eq_true rfl) d_Pl_isWrapped_44 ?_
      refine z_icmp_gt (pc := 47) (tgt := 64) C d_Pl_isWrapped_47 (by decide) (fun c19 => ?_) (fun c19 => ?_)
      · rw [if_pos c19] at hm
        refine z_lv (lv' := []) [] rfl ?_
        exact w_Pl_isWrapped_64 hAD C hr σ16 hm
      · rw [if_neg c19] at hm
        refine z_aload_n (pc := 50) C d_Pl_isWrapped_50 rfl 0 rfl ?_
        refine gC_Pl_18 (pc := 51) (v := (gr σ16 901)) C rfl d_Pl_isWrapped_51 ?_
        obtain ⟨g20, hm⟩ := gd_s hm
        refine gC_Pl_60 (pc := 54) C g20  d_Pl_isWrapped_54 ?_
        refine z_iload_n (pc := 57) C d_Pl_isWrapped_57 rfl 1 rfl ?_
        refine alC_Ro_0 (pc := 58) (v := (ma σ16 (rA (gr σ16 901) 0) x1.toNatClampNeg)) C (x := (gr σ16 901)) g20 rfl g15 d_Pl_isWrapped_58 ?_
        refine z_bipush (pc := 59) C d_Pl_isWrapped_59 kb_45 ?_
        refine z_icmp_ne (pc := 61) (tgt := 68) C d_Pl_isWrapped_61 (by decide) (fun c21 => ?_) (fun c21 => ?_)
        · rw [if_neg c21] at hm
          refine z_iconst (pc := 68) C d_Pl_isWrapped_68 ki_0 ?_
          refine z_lv (lv' := []) [] rfl ?_
          exact w_Pl_isWrapped_69 hAD C hr σ16 (0 : Int32) hm
        · rw [if_pos c21] at hm
          refine z_lv (lv' := []) [] rfl ?_
          exact w_Pl_isWrapped_64 hAD C hr σ16 hm
  · rw [if_neg c1] at hm
    refine z_iconst (pc := 4) C d_Pl_isWrapped_4 ki_0 ?_
    exact z_zretE (pc := 5) C hr (by decide) hm d_Pl_isWrapped_5
set_option maxHeartbeats 4000000 in
set_option maxRecDepth 100000 in
theorem w_Pl_beginNode_104 {D : va_G} {ad : Nat → Nat} {cA : Nat → ClassId} {p : Program} {l : Launch} {e : Env} {s : State} {m : MethodId} {args : Array Value} {below : List Frame} {meth : Method} {c : Code} {F : Nat} (hAD : ∀ σ, va_D (owC ad) (wdC ad cA σ)) (C : CC D ad cA (sXC ad) p s m args meth c bc_Pl_beginNode "KindRounds$Plainer" 5) (hr : meth.sig.returnType = none) {σ' : zS} (σ : zS) (x1 : Int32) (x2 : Nat) (hm : Pl_beginNode_104 F σ x1 x2 = some σ') : ZC D ad cA p l e (rmK 2) s m args below meth c 5 (qvC D ad cA below args s σ') 104 [(0, .ref (ad 9)), (1, .int x1), (2, .ref (ad x2))] [] σ := by
  unfold Pl_beginNode_104 at hm
  refine z_aload_n (pc := 104) C d_Pl_beginNode_104 rfl 2 rfl ?_
  refine z_aload_n (pc := 105) C d_Pl_beginNode_105 rfl 0 rfl ?_
  refine gC_Pl_18 (pc := 106) (v := (gr σ 901)) C rfl d_Pl_beginNode_106 ?_
  obtain ⟨g1, hm⟩ := gd_s hm
  refine gC_Pl_63 (pc := 109) C g1  d_Pl_beginNode_109 ?_
  refine z_iload_n (pc := 112) C d_Pl_beginNode_112 rfl 1 rfl ?_
  obtain ⟨g2, hm⟩ := gd_s hm
  refine alC_Ro_1 (pc := 113) (v := (mb σ (rA (gr σ 901) 1) x1.toNatClampNeg)) C (x := (gr σ 901)) g1 rfl g2 d_Pl_beginNode_113 ?_
  obtain ⟨g4, hm⟩ := gd_s hm
  obtain ⟨σ3, e5, hm⟩ := bv_s hm
  refine z_callVN (pc := 114) C (k_Li_putName hAD e5) km_Li_putName mC_274 rfl rfl (oC_Li g4) rfl (kR_of (Nat.le_of_ble_eq_true rfl) (Nat.le_of_ble_eq_true rfl)) rfl (Nat.le_of_ble_eq_true rfl) d_Pl_beginNode_114 ?_
  exact z_vretE (pc := 117) C hr hm d_Pl_beginNode_117
set_option maxHeartbeats 4000000 in
set_option maxRecDepth 100000 in
theorem w_Pl_beginNode_84 {D : va_G} {ad : Nat → Nat} {cA : Nat → ClassId} {p : Program} {l : Launch} {e : Env} {s : State} {m : MethodId} {args : Array Value} {below : List Frame} {meth : Method} {c : Code} {F : Nat} (hAD : ∀ σ, va_D (owC ad) (wdC ad cA σ)) (C : CC D ad cA (sXC ad) p s m args meth c bc_Pl_beginNode "KindRounds$Plainer" 5) (hr : meth.sig.returnType = none) {σ' : zS} (σ : zS) (x1 : Int32) (x2 : Nat) (hm : Pl_beginNode_84 F σ x1 x2 = some σ') : ZC D ad cA p l e (rmK 2) s m args below meth c 5 (qvC D ad cA below args s σ') 84 [(0, .ref (ad 9)), (1, .int x1), (2, .ref (ad x2))] [] σ := by
  unfold Pl_beginNode_84 at hm
  refine z_aload_n (pc := 84) C d_Pl_beginNode_84 rfl 0 rfl ?_
  refine gC_Pl_18 (pc := 85) (v := (gr σ 901)) C rfl d_Pl_beginNode_85 ?_
  obtain ⟨g1, hm⟩ := gd_s hm
  refine gC_Pl_60 (pc := 88) C g1  d_Pl_beginNode_88 ?_
  refine z_iload_n (pc := 91) C d_Pl_beginNode_91 rfl 1 rfl ?_
  obtain ⟨g2, hm⟩ := gd_s hm
  refine alC_Ro_0 (pc := 92) (v := (ma σ (rA (gr σ 901) 0) x1.toNatClampNeg)) C (x := (gr σ 901)) g1 rfl g2 d_Pl_beginNode_92 ?_
  refine z_bipush (pc := 93) C d_Pl_beginNode_93 kb_91 ?_
  refine z_icmp_ne (pc := 95) (tgt := 104) C d_Pl_beginNode_95 (by decide) (fun c3 => ?_) (fun c3 => ?_)
  · rw [if_neg c3] at hm
    exact w_Pl_beginNode_104 hAD C hr σ x1 x2 hm
  · rw [if_pos c3] at hm
    refine z_aload_n (pc := 98) C d_Pl_beginNode_98 rfl 2 rfl ?_
    refine z_bipush (pc := 99) C d_Pl_beginNode_99 kb_91 ?_
    obtain ⟨g5, hm⟩ := gd_s hm
    obtain ⟨σ4, e6, hm⟩ := bv_s hm
    refine z_callVN (pc := 101) C (k_Li_put hAD e6) km_Li_put mC_275 rfl rfl (oC_Li g5) rfl (kR_of (Nat.le_of_ble_eq_true rfl) (Nat.le_of_ble_eq_true rfl)) rfl (Nat.le_of_ble_eq_true rfl) d_Pl_beginNode_101 ?_
    exact w_Pl_beginNode_104 hAD C hr σ4 x1 x2 hm
set_option maxHeartbeats 4000000 in
set_option maxRecDepth 100000 in
theorem w_Pl_beginNode_64 {D : va_G} {ad : Nat → Nat} {cA : Nat → ClassId} {p : Program} {l : Launch} {e : Env} {s : State} {m : MethodId} {args : Array Value} {below : List Frame} {meth : Method} {c : Code} {F : Nat} (hAD : ∀ σ, va_D (owC ad) (wdC ad cA σ)) (C : CC D ad cA (sXC ad) p s m args meth c bc_Pl_beginNode "KindRounds$Plainer" 5) (hr : meth.sig.returnType = none) {σ' : zS} (σ : zS) (x1 : Int32) (x2 : Nat) (hm : Pl_beginNode_64 F σ x1 x2 = some σ') : ZC D ad cA p l e (rmK 2) s m args below meth c 5 (qvC D ad cA below args s σ') 64 [(0, .ref (ad 9)), (1, .int x1), (2, .ref (ad x2))] [] σ := by
  unfold Pl_beginNode_64 at hm
  refine z_aload_n (pc := 64) C d_Pl_beginNode_64 rfl 0 rfl ?_
  refine z_iload_n (pc := 65) C d_Pl_beginNode_65 rfl 1 rfl ?_
  refine z_aload_n (pc := 66) C d_Pl_beginNode_66 rfl 0 rfl ?_
  refine gC_Pl_110 (pc := 67) (v := (gi σ 907)) C rfl d_Pl_beginNode_67 ?_
  refine z_iconst (pc := 70) C d_Pl_beginNode_70 ki_1 ?_
  refine z_isub (pc := 71) C d_Pl_beginNode_71 ?_
  obtain ⟨r2, σ1, e3, hm⟩ := bi_s hm
  refine z_callI (pc := 72) C (k_Pl_isWrapped hAD e3) km_Pl_isWrapped mC_276 rfl rfl oC_9 rfl (kR_of (Nat.le_of_ble_eq_true rfl) (Nat.le_of_ble_eq_true rfl)) rfl (Nat.le_of_ble_eq_true rfl) d_Pl_beginNode_72 ?_
  refine z_if_eq (pc := 75) (tgt := 84) C d_Pl_beginNode_75 (by decide) (fun c4 => ?_) (fun c4 => ?_)
  · rw [if_pos c4] at hm
    exact w_Pl_beginNode_84 hAD C hr σ1 x1 x2 hm
  · rw [if_neg c4] at hm
    refine z_aload_n (pc := 78) C d_Pl_beginNode_78 rfl 2 rfl ?_
    refine z_bipush (pc := 79) C d_Pl_beginNode_79 kb_40 ?_
    obtain ⟨g6, hm⟩ := gd_s hm
    obtain ⟨σ5, e7, hm⟩ := bv_s hm
    refine z_callVN (pc := 81) C (k_Li_put hAD e7) km_Li_put mC_275 rfl rfl (oC_Li g6) rfl (kR_of (Nat.le_of_ble_eq_true rfl) (Nat.le_of_ble_eq_true rfl)) rfl (Nat.le_of_ble_eq_true rfl) d_Pl_beginNode_81 ?_
    exact w_Pl_beginNode_84 hAD C hr σ5 x1 x2 hm
set_option maxHeartbeats 4000000 in
set_option maxRecDepth 100000 in
theorem k_Pl_beginNode {l : Launch} {D : va_G} {ad : Nat → Nat} {cA : Nat → ClassId} {F : Nat} (hAD : ∀ σ, va_D (owC ad) (wdC ad cA σ)) {σ : zS} {x1 : Int32} {x2 : Nat} {σ' : zS} (hm : Pl_beginNode F σ x1 x2 = some σ') : kVC l D ad cA (sXC ad) y_Pl_beginNode bc_Pl_beginNode 5 2 [.ref (ad 9), .int x1, .ref (ad x2)] σ σ' := by
  refine kV_of (by decide) hAD sXC_P (Nat.le_of_ble_eq_true rfl) ?_
  intro p e s m below meth c C hr
  unfold Pl_beginNode at hm
  refine z_lv (lv' := [(0, .ref (ad 9)), (1, .int x1), (2, .ref (ad x2))]) [0, 1, 2] rfl ?_
  refine z_aload_n (pc := 0) C d_Pl_beginNode_0 rfl 0 rfl ?_
  refine gC_Pl_110 (pc := 1) (v := (gi σ 907)) C rfl d_Pl_beginNode_1 ?_
  refine z_if_le (pc := 4) (tgt := 64) C d_Pl_beginNode_4 (by decide) (fun c1 => ?_) (fun c1 => ?_)
  · rw [if_pos c1] at hm
    exact w_Pl_beginNode_64 hAD C hr σ x1 x2 hm
  · rw [if_neg c1] at hm
    refine z_aload_n (pc := 7) C d_Pl_beginNode_7 rfl 0 rfl ?_
    refine gC_Pl_32 (pc := 8) C  d_Pl_beginNode_8 ?_
    refine z_aload_n (pc := 11) C d_Pl_beginNode_11 rfl 0 rfl ?_
    refine gC_Pl_110 (pc := 12) (v := (gi σ 907)) C rfl d_Pl_beginNode_12 ?_
    refine z_iconst (pc := 15) C d_Pl_beginNode_15 ki_1 ?_
    refine z_isub (pc := 16) C d_Pl_beginNode_16 ?_
    obtain ⟨g2, hm⟩ := gd_s hm
    refine alC_58 (pc := 17) (v := (ga σ 58 ((gi σ 907) - (1 : Int32)).toNatClampNeg)) C  rfl g2 d_Pl_beginNode_17 ?_
    refine z_istore_n (pc := 18) (lv' := [(0, .ref (ad 9)), (1, .int x1), (2, .ref (ad x2)), (3, .int (ga σ 58 ((gi σ 907) - (1 : Int32)).toNatClampNeg))]) C d_Pl_beginNode_18 rfl (Nat.le_of_ble_eq_true rfl) [1, 2, 3, 0] rfl ?_
    refine z_aload_n (pc := 19) C d_Pl_beginNode_19 rfl 0 rfl ?_
    refine gC_Pl_35 (pc := 20) C  d_Pl_beginNode_20 ?_
    refine z_aload_n (pc := 23) C d_Pl_beginNode_23 rfl 0 rfl ?_
    refine gC_Pl_110 (pc := 24) (v := (gi σ 907)) C rfl d_Pl_beginNode_24 ?_
    refine z_iconst (pc := 27) C d_Pl_beginNode_27 ki_1 ?_
    refine z_isub (pc := 28) C d_Pl_beginNode_28 ?_
    refine alC_59 (pc := 29) (v := (ga σ 59 ((gi σ 907) - (1 : Int32)).toNatClampNeg)) C  rfl g2 d_Pl_beginNode_29 ?_
    refine z_istore (pc := 30) (lv' := [(0, .ref (ad 9)), (1, .int x1), (2, .ref (ad x2)), (3, .int (ga σ 58 ((gi σ 907) - (1 : Int32)).toNatClampNeg)), (4, .int (ga σ 59 ((gi σ 907) - (1 : Int32)).toNatClampNeg))]) C d_Pl_beginNode_30 (Nat.le_of_ble_eq_true rfl) [1, 2, 3, 4, 0] rfl ?_
    refine z_iload (pc := 32) C d_Pl_beginNode_32 4 rfl ?_
    refine z_aload_n (pc := 34) C d_Pl_beginNode_34 rfl 0 rfl ?_
    refine gC_Pl_18 (pc := 35) (v := (gr σ 901)) C rfl d_Pl_beginNode_35 ?_
    refine z_iload_n (pc := 38) C d_Pl_beginNode_38 rfl 3 rfl ?_
    obtain ⟨g4, hm⟩ := gd_s hm
    obtain ⟨r5, σ3, e6, hm⟩ := bi_s hm
    refine z_callIN (pc := 39) C (k_Ro_fixedOf hAD e6) km_Ro_fixedOf mC_277 rfl rfl (oC_Ro g4) rfl (kR_of (Nat.le_of_ble_eq_true rfl) (Nat.le_of_ble_eq_true rfl)) rfl (Nat.le_of_ble_eq_true rfl) d_Pl_beginNode_39 ?_
    refine z_icmp_lt (pc := 42) (tgt := 54) C d_Pl_beginNode_42 (by decide) (fun c7 => ?_) (fun c7 => ?_)
    · rw [if_pos c7] at hm
      refine z_iload (pc := 54) C d_Pl_beginNode_54 4 rfl ?_
      refine z_iconst (pc := 56) C d_Pl_beginNode_56 ki_1 ?_
      refine z_icmp_ne (pc := 57) (tgt := 64) C d_Pl_beginNode_57 (by decide) (fun c8 => ?_) (fun c8 => ?_)
      · rw [if_neg c8] at hm
        refine z_lv (lv' := [(0, .ref (ad 9)), (1, .int x1), (2, .ref (ad x2))]) [0, 1, 2] rfl ?_
        exact w_Pl_beginNode_64 hAD C hr σ3 x1 x2 hm
      · rw [if_pos c8] at hm
        refine z_aload_n (pc := 60) C d_Pl_beginNode_60 rfl 2 rfl ?_
        obtain ⟨g10, hm⟩ := gd_s hm
        obtain ⟨σ9, e11, hm⟩ := bv_s hm
        refine z_callVN (pc := 61) C (k_Li_putArrow hAD e11) km_Li_putArrow mC_278 rfl rfl (oC_Li g10) rfl (kR_of (Nat.le_of_ble_eq_true rfl) (Nat.le_of_ble_eq_true rfl)) rfl (Nat.le_of_ble_eq_true rfl) d_Pl_beginNode_61 ?_
        refine z_lv (lv' := [(0, .ref (ad 9)), (1, .int x1), (2, .ref (ad x2))]) [0, 1, 2] rfl ?_
        exact w_Pl_beginNode_64 hAD C hr σ9 x1 x2 hm
    · rw [if_neg c7] at hm
      refine z_aload_n (pc := 45) C d_Pl_beginNode_45 rfl 2 rfl ?_
      refine z_bipush (pc := 46) C d_Pl_beginNode_46 kb_32 ?_
      obtain ⟨g13, hm⟩ := gd_s hm
      obtain ⟨σ12, e14, hm⟩ := bv_s hm
      refine z_callVN (pc := 48) C (k_Li_put hAD e14) km_Li_put mC_275 rfl rfl (oC_Li g13) rfl (kR_of (Nat.le_of_ble_eq_true rfl) (Nat.le_of_ble_eq_true rfl)) rfl (Nat.le_of_ble_eq_true rfl) d_Pl_beginNode_48 ?_
      refine z_goto (pc := 51) (tgt := 64) C d_Pl_beginNode_51 (by decide) ?_
      refine z_lv (lv' := [(0, .ref (ad 9)), (1, .int x1), (2, .ref (ad x2))]) [0, 1, 2] rfl ?_
      exact w_Pl_beginNode_64 hAD C hr σ12 x1 x2 hm
set_option maxHeartbeats 4000000 in
set_option maxRecDepth 100000 in
theorem w_Pl_endNodes_145 {D : va_G} {ad : Nat → Nat} {cA : Nat → ClassId} {p : Program} {l : Launch} {e : Env} {s : State} {m : MethodId} {args : Array Value} {below : List Frame} {meth : Method} {c : Code} {F : Nat} (hAD : ∀ σ, va_D (owC ad) (wdC ad cA σ)) (C : CC D ad cA (sXC ad) p s m args meth c bc_Pl_endNodes "KindRounds$Plainer" 4) (hr : meth.sig.returnType = none) {σ' : zS} (σ : zS) (hm : Pl_endNodes_145 F σ = some σ') : ZC D ad cA p l e (rmK 2) s m args below meth c 4 (qvC D ad cA below args s σ') 145 [] [] σ := by
  unfold Pl_endNodes_145 at hm
  exact z_vretE (pc := 145) C hr hm d_Pl_endNodes_145
set_option maxHeartbeats 4000000 in
set_option maxRecDepth 100000 in
theorem w_Pl_endNodes_139 {D : va_G} {ad : Nat → Nat} {cA : Nat → ClassId} {p : Program} {l : Launch} {e : Env} {s : State} {m : MethodId} {args : Array Value} {below : List Frame} {meth : Method} {c : Code} {F : Nat} (hAD : ∀ σ, va_D (owC ad) (wdC ad cA σ)) (C : CC D ad cA (sXC ad) p s m args meth c bc_Pl_endNodes "KindRounds$Plainer" 4) (hr : meth.sig.returnType = none) {σ' : zS} (rc2 : zS → Nat → Int32 → Option zS) (h2 : ∀ σ x1 x2, rc2 σ x1 x2 = some σ' → ZC D ad cA p l e (rmK 2) s m args below meth c 4 (qvC D ad cA below args s σ') 2 [(0, .ref (ad 9)), (1, .ref (ad x1)), (2, .int x2)] [] σ) (σ : zS) (x1 : Nat) (x2 : Int32) (hm : Pl_endNodes_139 F rc2 σ x1 x2 = some σ') : ZC D ad cA p l e (rmK 2) s m args below meth c 4 (qvC D ad cA below args s σ') 139 [(0, .ref (ad 9)), (1, .ref (ad x1)), (2, .int x2)] [] σ := by
  unfold Pl_endNodes_139 at hm
  refine z_iinc (pc := 139) (lv' := [(0, .ref (ad 9)), (1, .ref (ad x1)), (2, .int (x2 + (1 : Int32)))]) C d_Pl_endNodes_139 2 rfl (ii ki_1) (Nat.le_of_ble_eq_true rfl) [1, 2, 0] rfl ?_
  refine z_goto (pc := 142) (tgt := 2) C d_Pl_endNodes_142 (by decide) ?_
  exact h2 σ x1 (x2 + (1 : Int32)) hm
set_option maxHeartbeats 4000000 in
set_option maxRecDepth 100000 in
theorem w_Pl_endNodes_117 {D : va_G} {ad : Nat → Nat} {cA : Nat → ClassId} {p : Program} {l : Launch} {e : Env} {s : State} {m : MethodId} {args : Array Value} {below : List Frame} {meth : Method} {c : Code} {F : Nat} (hAD : ∀ σ, va_D (owC ad) (wdC ad cA σ)) (C : CC D ad cA (sXC ad) p s m args meth c bc_Pl_endNodes "KindRounds$Plainer" 4) (hr : meth.sig.returnType = none) {σ' : zS} (rc2 : zS → Nat → Int32 → Option zS) (h2 : ∀ σ x1 x2, rc2 σ x1 x2 = some σ' → ZC D ad cA p l e (rmK 2) s m args below meth c 4 (qvC D ad cA below args s σ') 2 [(0, .ref (ad 9)), (1, .ref (ad x1)), (2, .int x2)] [] σ) (σ : zS) (x1 : Nat) (x2 : Int32) (hm : Pl_endNodes_117 F rc2 σ x1 x2 = some σ') : ZC D ad cA p l e (rmK 2) s m args below meth c 4 (qvC D ad cA below args s σ') 117 [(0, .ref (ad 9)), (1, .ref (ad x1)), (2, .int x2)] [] σ := by
  unfold Pl_endNodes_117 at hm
  refine z_aload_n (pc := 117) C d_Pl_endNodes_117 rfl 0 rfl ?_
  refine gC_Pl_110 (pc := 118) (v := (gi σ 907)) C rfl d_Pl_endNodes_118 ?_
  refine z_if_le (pc := 121) (tgt := 139) C d_Pl_endNodes_121 (by decide) (fun c1 => ?_) (fun c1 => ?_)
  · rw [if_pos c1] at hm
    exact w_Pl_endNodes_139 hAD C hr _ h2 σ x1 x2 hm
  · rw [if_neg c1] at hm
    refine z_aload_n (pc := 124) C d_Pl_endNodes_124 rfl 0 rfl ?_
    refine gC_Pl_35 (pc := 125) C  d_Pl_endNodes_125 ?_
    refine z_aload_n (pc := 128) C d_Pl_endNodes_128 rfl 0 rfl ?_
    refine gC_Pl_110 (pc := 129) (v := (gi σ 907)) C rfl d_Pl_endNodes_129 ?_
    refine z_iconst (pc := 132) C d_Pl_endNodes_132 ki_1 ?_
    refine z_isub (pc := 133) C d_Pl_endNodes_133 ?_
    refine z_dup2 (pc := 134) C d_Pl_endNodes_134 rfl rfl ?_
    obtain ⟨g2, hm⟩ := gd_s hm
    refine alC_59 (pc := 135) (v := (ga σ 59 ((gi σ 907) - (1 : Int32)).toNatClampNeg)) C  rfl g2 d_Pl_endNodes_135 ?_
    refine z_iconst (pc := 136) C d_Pl_endNodes_136 ki_1 ?_
    refine z_iadd (pc := 137) C d_Pl_endNodes_137 ?_
    refine asC_59 (pc := 138) C  g2 d_Pl_endNodes_138 ?_
    exact w_Pl_endNodes_139 hAD C hr _ h2 (sa σ 59 ((gi σ 907) - (1 : Int32)).toNatClampNeg ((ga σ 59 ((gi σ 907) - (1 : Int32)).toNatClampNeg) + (1 : Int32))) x1 x2 hm
set_option maxHeartbeats 4000000 in
set_option maxRecDepth 100000 in
theorem w_Pl_endNodes_63 {D : va_G} {ad : Nat → Nat} {cA : Nat → ClassId} {p : Program} {l : Launch} {e : Env} {s : State} {m : MethodId} {args : Array Value} {below : List Frame} {meth : Method} {c : Code} {F : Nat} (hAD : ∀ σ, va_D (owC ad) (wdC ad cA σ)) (C : CC D ad cA (sXC ad) p s m args meth c bc_Pl_endNodes "KindRounds$Plainer" 4) (hr : meth.sig.returnType = none) {σ' : zS} (rc2 : zS → Nat → Int32 → Option zS) (h2 : ∀ σ x1 x2, rc2 σ x1 x2 = some σ' → ZC D ad cA p l e (rmK 2) s m args below meth c 4 (qvC D ad cA below args s σ') 2 [(0, .ref (ad 9)), (1, .ref (ad x1)), (2, .int x2)] [] σ) (σ : zS) (x1 : Nat) (x2 : Int32) (x3 : Int32) (hm : Pl_endNodes_63 F rc2 σ x1 x2 x3 = some σ') : ZC D ad cA p l e (rmK 2) s m args below meth c 4 (qvC D ad cA below args s σ') 63 [(0, .ref (ad 9)), (1, .ref (ad x1)), (2, .int x2), (3, .int x3)] [] σ := by
  unfold Pl_endNodes_63 at hm
  refine z_aload_n (pc := 63) C d_Pl_endNodes_63 rfl 0 rfl ?_
  refine gC_Pl_35 (pc := 64) C  d_Pl_endNodes_64 ?_
  refine z_aload_n (pc := 67) C d_Pl_endNodes_67 rfl 0 rfl ?_
  refine gC_Pl_110 (pc := 68) (v := (gi σ 907)) C rfl d_Pl_endNodes_68 ?_
  refine z_iconst (pc := 71) C d_Pl_endNodes_71 ki_1 ?_
  refine z_isub (pc := 72) C d_Pl_endNodes_72 ?_
  obtain ⟨g1, hm⟩ := gd_s hm
  refine alC_59 (pc := 73) (v := (ga σ 59 ((gi σ 907) - (1 : Int32)).toNatClampNeg)) C  rfl g1 d_Pl_endNodes_73 ?_
  refine z_aload_n (pc := 74) C d_Pl_endNodes_74 rfl 0 rfl ?_
  refine gC_Pl_18 (pc := 75) (v := (gr σ 901)) C rfl d_Pl_endNodes_75 ?_
  obtain ⟨g2, hm⟩ := gd_s hm
  refine gC_Pl_87 (pc := 78) C g2  d_Pl_endNodes_78 ?_
  refine z_iload_n (pc := 81) C d_Pl_endNodes_81 rfl 3 rfl ?_
  obtain ⟨g3, hm⟩ := gd_s hm
  refine alC_Ro_2 (pc := 82) (v := (ma σ (rA (gr σ 901) 2) x3.toNatClampNeg)) C (x := (gr σ 901)) g2 rfl g3 d_Pl_endNodes_82 ?_
  refine z_icmp_ge (pc := 83) (tgt := 87) C d_Pl_endNodes_83 (by decide) (fun c4 => ?_) (fun c4 => ?_)
  · rw [if_pos c4] at hm
    refine z_aload_n (pc := 87) C d_Pl_endNodes_87 rfl 0 rfl ?_
    refine z_dup (pc := 88) C d_Pl_endNodes_88 rfl ?_
    refine gC_Pl_110 (pc := 89) (v := (gi σ 907)) C rfl d_Pl_endNodes_89 ?_
    refine z_iconst (pc := 92) C d_Pl_endNodes_92 ki_1 ?_
    refine z_isub (pc := 93) C d_Pl_endNodes_93 ?_
    refine pC_Pl_110 (pc := 94) C  d_Pl_endNodes_94 ?_
    refine z_aload_n (pc := 97) C d_Pl_endNodes_97 rfl 0 rfl ?_
    refine z_iload_n (pc := 98) C d_Pl_endNodes_98 rfl 3 rfl ?_
    refine z_aload_n (pc := 99) C d_Pl_endNodes_99 rfl 0 rfl ?_
    refine gC_Pl_110 (pc := 100) (v := ((gi σ 907) - (1 : Int32))) C rfl d_Pl_endNodes_100 ?_
    refine z_iconst (pc := 103) C d_Pl_endNodes_103 ki_1 ?_
    refine z_isub (pc := 104) C d_Pl_endNodes_104 ?_
    obtain ⟨r6, σ5, e7, hm⟩ := bi_s hm
    refine z_callI (pc := 105) C (k_Pl_isWrapped hAD e7) km_Pl_isWrapped mC_276 rfl rfl oC_9 rfl (kR_of (Nat.le_of_ble_eq_true rfl) (Nat.le_of_ble_eq_true rfl)) rfl (Nat.le_of_ble_eq_true rfl) d_Pl_endNodes_105 ?_
    refine z_if_eq (pc := 108) (tgt := 117) C d_Pl_endNodes_108 (by decide) (fun c8 => ?_) (fun c8 => ?_)
    · rw [if_pos c8] at hm
      refine z_lv (lv' := [(0, .ref (ad 9)), (1, .ref (ad x1)), (2, .int x2)]) [0, 1, 2] rfl ?_
      exact w_Pl_endNodes_117 hAD C hr _ h2 σ5 x1 x2 hm
    · rw [if_neg c8] at hm
      refine z_aload_n (pc := 111) C d_Pl_endNodes_111 rfl 1 rfl ?_
      refine z_bipush (pc := 112) C d_Pl_endNodes_112 kb_41 ?_
      obtain ⟨g10, hm⟩ := gd_s hm
      obtain ⟨σ9, e11, hm⟩ := bv_s hm
      refine z_callVN (pc := 114) C (k_Li_put hAD e11) km_Li_put mC_275 rfl rfl (oC_Li g10) rfl (kR_of (Nat.le_of_ble_eq_true rfl) (Nat.le_of_ble_eq_true rfl)) rfl (Nat.le_of_ble_eq_true rfl) d_Pl_endNodes_114 ?_
      refine z_lv (lv' := [(0, .ref (ad 9)), (1, .ref (ad x1)), (2, .int x2)]) [0, 1, 2] rfl ?_
      exact w_Pl_endNodes_117 hAD C hr _ h2 σ9 x1 x2 hm
  · rw [if_neg c4] at hm
    exact z_vretE (pc := 86) C hr hm d_Pl_endNodes_86
set_option maxHeartbeats 4000000 in
set_option maxRecDepth 100000 in
theorem w_Pl_endNodes_2 {D : va_G} {ad : Nat → Nat} {cA : Nat → ClassId} {p : Program} {l : Launch} {e : Env} {s : State} {m : MethodId} {args : Array Value} {below : List Frame} {meth : Method} {c : Code} {F : Nat} (hAD : ∀ σ, va_D (owC ad) (wdC ad cA σ)) (C : CC D ad cA (sXC ad) p s m args meth c bc_Pl_endNodes "KindRounds$Plainer" 4) (hr : meth.sig.returnType = none) {σ' : zS} : ∀ (n : Nat) (σ : zS) (x1 : Nat) (x2 : Int32), Pl_endNodes_2 F n σ x1 x2 = some σ' → ZC D ad cA p l e (rmK 2) s m args below meth c 4 (qvC D ad cA below args s σ') 2 [(0, .ref (ad 9)), (1, .ref (ad x1)), (2, .int x2)] [] σ := by
  intro n
  induction n with
  | zero => intro σ x1 x2 hm; cases hm
  | succ n h2 =>
    intro σ x1 x2 hm
    have hm : Pl_endNodes_b2 F (Pl_endNodes_2 F n) σ x1 x2 = some σ' := hm
    unfold Pl_endNodes_b2 at hm
    refine z_iload_n (pc := 2) C d_Pl_endNodes_2 rfl 2 rfl ?_
    refine z_sipush (pc := 3) C d_Pl_endNodes_3 ks_200 ?_
    refine z_icmp_ge (pc := 6) (tgt := 145) C d_Pl_endNodes_6 (by decide) (fun c1 => ?_) (fun c1 => ?_)
    · rw [if_pos c1] at hm
      refine z_lv (lv' := []) [] rfl ?_
      exact w_Pl_endNodes_145 hAD C hr σ hm
    · rw [if_neg c1] at hm
      refine z_aload_n (pc := 9) C d_Pl_endNodes_9 rfl 0 rfl ?_
      refine gC_Pl_110 (pc := 10) (v := (gi σ 907)) C rfl d_Pl_endNodes_10 ?_
      refine z_if_le (pc := 13) (tgt := 145) C d_Pl_endNodes_13 (by decide) (fun c2 => ?_) (fun c2 => ?_)
      · rw [if_pos c2] at hm
        refine z_lv (lv' := []) [] rfl ?_
        exact w_Pl_endNodes_145 hAD C hr σ hm
      · rw [if_neg c2] at hm
        refine z_aload_n (pc := 16) C d_Pl_endNodes_16 rfl 0 rfl ?_
        refine gC_Pl_32 (pc := 17) C  d_Pl_endNodes_17 ?_
        refine z_aload_n (pc := 20) C d_Pl_endNodes_20 rfl 0 rfl ?_
        refine gC_Pl_110 (pc := 21) (v := (gi σ 907)) C rfl d_Pl_endNodes_21 ?_
        refine z_iconst (pc := 24) C d_Pl_endNodes_24 ki_1 ?_
        refine z_isub (pc := 25) C d_Pl_endNodes_25 ?_
        obtain ⟨g3, hm⟩ := gd_s hm
        refine alC_58 (pc := 26) (v := (ga σ 58 ((gi σ 907) - (1 : Int32)).toNatClampNeg)) C  rfl g3 d_Pl_endNodes_26 ?_
        refine z_istore_n (pc := 27) (lv' := [(0, .ref (ad 9)), (1, .ref (ad x1)), (2, .int x2), (3, .int (ga σ 58 ((gi σ 907) - (1 : Int32)).toNatClampNeg))]) C d_Pl_endNodes_27 rfl (Nat.le_of_ble_eq_true rfl) [1, 2, 3, 0] rfl ?_
        refine z_aload_n (pc := 28) C d_Pl_endNodes_28 rfl 0 rfl ?_
        refine gC_Pl_18 (pc := 29) (v := (gr σ 901)) C rfl d_Pl_endNodes_29 ?_
        obtain ⟨g4, hm⟩ := gd_s hm
        refine gC_Pl_60 (pc := 32) C g4  d_Pl_endNodes_32 ?_
        refine z_iload_n (pc := 35) C d_Pl_endNodes_35 rfl 3 rfl ?_
        obtain ⟨g5, hm⟩ := gd_s hm
        refine alC_Ro_0 (pc := 36) (v := (ma σ (rA (gr σ 901) 0) (ga σ 58 ((gi σ 907) - (1 : Int32)).toNatClampNeg).toNatClampNeg)) C (x := (gr σ 901)) g4 rfl g5 d_Pl_endNodes_36 ?_
        refine z_bipush (pc := 37) C d_Pl_endNodes_37 kb_91 ?_
        refine z_icmp_ne (pc := 39) (tgt := 63) C d_Pl_endNodes_39 (by decide) (fun c6 => ?_) (fun c6 => ?_)
        · rw [if_neg c6] at hm
          exact w_Pl_endNodes_63 hAD C hr _ h2 σ x1 x2 (ga σ 58 ((gi σ 907) - (1 : Int32)).toNatClampNeg) hm
        · rw [if_pos c6] at hm
          refine z_aload_n (pc := 42) C d_Pl_endNodes_42 rfl 0 rfl ?_
          refine gC_Pl_35 (pc := 43) C  d_Pl_endNodes_43 ?_
          refine z_aload_n (pc := 46) C d_Pl_endNodes_46 rfl 0 rfl ?_
          refine gC_Pl_110 (pc := 47) (v := (gi σ 907)) C rfl d_Pl_endNodes_47 ?_
          refine z_iconst (pc := 50) C d_Pl_endNodes_50 ki_1 ?_
          refine z_isub (pc := 51) C d_Pl_endNodes_51 ?_
          refine alC_59 (pc := 52) (v := (ga σ 59 ((gi σ 907) - (1 : Int32)).toNatClampNeg)) C  rfl g3 d_Pl_endNodes_52 ?_
          refine z_iconst (pc := 53) C d_Pl_endNodes_53 ki_1 ?_
          refine z_icmp_ne (pc := 54) (tgt := 63) C d_Pl_endNodes_54 (by decide) (fun c7 => ?_) (fun c7 => ?_)
          · rw [if_neg c7] at hm
            exact w_Pl_endNodes_63 hAD C hr _ h2 σ x1 x2 (ga σ 58 ((gi σ 907) - (1 : Int32)).toNatClampNeg) hm
          · rw [if_pos c7] at hm
            refine z_aload_n (pc := 57) C d_Pl_endNodes_57 rfl 1 rfl ?_
            refine z_bipush (pc := 58) C d_Pl_endNodes_58 kb_93 ?_
            obtain ⟨g9, hm⟩ := gd_s hm
            obtain ⟨σ8, e10, hm⟩ := bv_s hm
            refine z_callVN (pc := 60) C (k_Li_put hAD e10) km_Li_put mC_275 rfl rfl (oC_Li g9) rfl (kR_of (Nat.le_of_ble_eq_true rfl) (Nat.le_of_ble_eq_true rfl)) rfl (Nat.le_of_ble_eq_true rfl) d_Pl_endNodes_60 ?_
            exact w_Pl_endNodes_63 hAD C hr _ h2 σ8 x1 x2 (ga σ 58 ((gi σ 907) - (1 : Int32)).toNatClampNeg) hm
set_option maxHeartbeats 4000000 in
set_option maxRecDepth 100000 in
theorem k_Pl_endNodes {l : Launch} {D : va_G} {ad : Nat → Nat} {cA : Nat → ClassId} {F : Nat} (hAD : ∀ σ, va_D (owC ad) (wdC ad cA σ)) {σ : zS} {x1 : Nat} {σ' : zS} (hm : Pl_endNodes F σ x1 = some σ') : kVC l D ad cA (sXC ad) y_Pl_endNodes bc_Pl_endNodes 4 2 [.ref (ad 9), .ref (ad x1)] σ σ' := by
  refine kV_of (by decide) hAD sXC_P (Nat.le_of_ble_eq_true rfl) ?_
  intro p e s m below meth c C hr
  unfold Pl_endNodes at hm
  refine z_lv (lv' := [(0, .ref (ad 9)), (1, .ref (ad x1))]) [0, 1] rfl ?_
  refine z_iconst (pc := 0) C d_Pl_endNodes_0 ki_0 ?_
  refine z_istore_n (pc := 1) (lv' := [(0, .ref (ad 9)), (1, .ref (ad x1)), (2, .int (0 : Int32))]) C d_Pl_endNodes_1 rfl (Nat.le_of_ble_eq_true rfl) [1, 2, 0] rfl ?_
  exact w_Pl_endNodes_2 hAD C hr F σ x1 (0 : Int32) hm
set_option maxHeartbeats 4000000 in
set_option maxRecDepth 100000 in
theorem w_Pl_show_79 {D : va_G} {ad : Nat → Nat} {cA : Nat → ClassId} {p : Program} {l : Launch} {e : Env} {s : State} {m : MethodId} {args : Array Value} {below : List Frame} {meth : Method} {c : Code} {F : Nat} (hAD : ∀ σ, va_D (owC ad) (wdC ad cA σ)) (C : CC D ad cA (sXC ad) p s m args meth c bc_Pl_show "KindRounds$Plainer" 3) (hr : meth.sig.returnType = none) {σ' : zS} (σ : zS) (hm : Pl_show_79 F σ = some σ') : ZC D ad cA p l e (rmK 3) s m args below meth c 3 (qvC D ad cA below args s σ') 79 [] [] σ := by
  unfold Pl_show_79 at hm
  exact z_vretE (pc := 79) C hr hm d_Pl_show_79
set_option maxHeartbeats 4000000 in
set_option maxRecDepth 100000 in
theorem w_Pl_show_11 {D : va_G} {ad : Nat → Nat} {cA : Nat → ClassId} {p : Program} {l : Launch} {e : Env} {s : State} {m : MethodId} {args : Array Value} {below : List Frame} {meth : Method} {c : Code} {F : Nat} (hAD : ∀ σ, va_D (owC ad) (wdC ad cA σ)) (C : CC D ad cA (sXC ad) p s m args meth c bc_Pl_show "KindRounds$Plainer" 3) (hr : meth.sig.returnType = none) {σ' : zS} : ∀ (n : Nat) (σ : zS) (x1 : Nat) (x2 : Int32), Pl_show_11 F n σ x1 x2 = some σ' → ZC D ad cA p l e (rmK 3) s m args below meth c 3 (qvC D ad cA below args s σ') 11 [(0, .ref (ad 9)), (1, .ref (ad x1)), (2, .int x2)] [] σ := by
  intro n
  induction n with
  | zero => intro σ x1 x2 hm; cases hm
  | succ n h11 =>
    intro σ x1 x2 hm
    have hm : Pl_show_b11 F (Pl_show_11 F n) σ x1 x2 = some σ' := hm
    unfold Pl_show_b11 at hm
    refine z_iload_n (pc := 11) C d_Pl_show_11 rfl 2 rfl ?_
    refine z_aload_n (pc := 12) C d_Pl_show_12 rfl 0 rfl ?_
    refine gC_Pl_18 (pc := 13) (v := (gr σ 901)) C rfl d_Pl_show_13 ?_
    obtain ⟨g1, hm⟩ := gd_s hm
    refine gC_Pl_56 (pc := 16) (v := (mi σ (100 * (gr σ 901) + 4))) C g1 rfl d_Pl_show_16 ?_
    refine z_icmp_ge (pc := 19) (tgt := 79) C d_Pl_show_19 (by decide) (fun c2 => ?_) (fun c2 => ?_)
    · rw [if_pos c2] at hm
      refine z_lv (lv' := []) [] rfl ?_
      exact w_Pl_show_79 hAD C hr σ hm
    · rw [if_neg c2] at hm
      refine z_aload_n (pc := 22) C d_Pl_show_22 rfl 0 rfl ?_
      refine gC_Pl_110 (pc := 23) (v := (gi σ 907)) C rfl d_Pl_show_23 ?_
      refine z_sipush (pc := 26) C d_Pl_show_26 ks_200 ?_
      refine z_icmp_ge (pc := 29) (tgt := 79) C d_Pl_show_29 (by decide) (fun c3 => ?_) (fun c3 => ?_)
      · rw [if_pos c3] at hm
        refine z_lv (lv' := []) [] rfl ?_
        exact w_Pl_show_79 hAD C hr σ hm
      · rw [if_neg c3] at hm
        refine z_aload_n (pc := 32) C d_Pl_show_32 rfl 0 rfl ?_
        refine z_iload_n (pc := 33) C d_Pl_show_33 rfl 2 rfl ?_
        refine z_aload_n (pc := 34) C d_Pl_show_34 rfl 1 rfl ?_
        obtain ⟨σ4, e5, hm⟩ := bv_s hm
        refine z_callV (pc := 35) C (k_Pl_beginNode hAD e5) km_Pl_beginNode mC_269 rfl rfl oC_9 rfl (kR_of (Nat.le_of_ble_eq_true rfl) (Nat.le_of_ble_eq_true rfl)) rfl (Nat.le_of_ble_eq_true rfl) d_Pl_show_35 ?_
        refine z_aload_n (pc := 38) C d_Pl_show_38 rfl 0 rfl ?_
        refine gC_Pl_32 (pc := 39) C  d_Pl_show_39 ?_
        refine z_aload_n (pc := 42) C d_Pl_show_42 rfl 0 rfl ?_
        refine gC_Pl_110 (pc := 43) (v := (gi σ4 907)) C rfl d_Pl_show_43 ?_
        refine z_iload_n (pc := 46) C d_Pl_show_46 rfl 2 rfl ?_
        obtain ⟨g6, hm⟩ := gd_s hm
        refine asC_58 (pc := 47) C  g6 d_Pl_show_47 ?_
        refine z_aload_n (pc := 48) C d_Pl_show_48 rfl 0 rfl ?_
        refine gC_Pl_35 (pc := 49) C  d_Pl_show_49 ?_
        refine z_aload_n (pc := 52) C d_Pl_show_52 rfl 0 rfl ?_
        refine gC_Pl_110 (pc := 53) (v := (gi σ4 907)) C rfl d_Pl_show_53 ?_
        refine z_iconst (pc := 56) C d_Pl_show_56 ki_0 ?_
        refine asC_59 (pc := 57) C  g6 d_Pl_show_57 ?_
        refine z_aload_n (pc := 58) C d_Pl_show_58 rfl 0 rfl ?_
        refine z_dup (pc := 59) C d_Pl_show_59 rfl ?_
        refine gC_Pl_110 (pc := 60) (v := (gi σ4 907)) C rfl d_Pl_show_60 ?_
        refine z_iconst (pc := 63) C d_Pl_show_63 ki_1 ?_
        refine z_iadd (pc := 64) C d_Pl_show_64 ?_
        refine pC_Pl_110 (pc := 65) C  d_Pl_show_65 ?_
        refine z_aload_n (pc := 68) C d_Pl_show_68 rfl 0 rfl ?_
        refine z_aload_n (pc := 69) C d_Pl_show_69 rfl 1 rfl ?_
        obtain ⟨σ7, e8, hm⟩ := bv_s hm
        refine z_callV (pc := 70) C (k_Pl_endNodes hAD e8) km_Pl_endNodes mC_272 rfl rfl oC_9 rfl (kR_of (Nat.le_of_ble_eq_true rfl) (Nat.le_of_ble_eq_true rfl)) rfl (Nat.le_of_ble_eq_true rfl) d_Pl_show_70 ?_
        refine z_iinc (pc := 73) (lv' := [(0, .ref (ad 9)), (1, .ref (ad x1)), (2, .int (x2 + (1 : Int32)))]) C d_Pl_show_73 2 rfl (ii ki_1) (Nat.le_of_ble_eq_true rfl) [1, 2, 0] rfl ?_
        refine z_goto (pc := 76) (tgt := 11) C d_Pl_show_76 (by decide) ?_
        exact h11 σ7 x1 (x2 + (1 : Int32)) hm
set_option maxHeartbeats 4000000 in
set_option maxRecDepth 100000 in
theorem k_Pl_show {l : Launch} {D : va_G} {ad : Nat → Nat} {cA : Nat → ClassId} {F : Nat} (hAD : ∀ σ, va_D (owC ad) (wdC ad cA σ)) {σ : zS} {x1 : Nat} {σ' : zS} (hm : Pl_show F σ x1 = some σ') : kVC l D ad cA (sXC ad) y_Pl_show bc_Pl_show 3 3 [.ref (ad 9), .ref (ad x1)] σ σ' := by
  refine kV_of (by decide) hAD sXC_P (Nat.le_of_ble_eq_true rfl) ?_
  intro p e s m below meth c C hr
  unfold Pl_show at hm
  refine z_lv (lv' := [(0, .ref (ad 9)), (1, .ref (ad x1))]) [0, 1] rfl ?_
  refine z_aload_n (pc := 0) C d_Pl_show_0 rfl 1 rfl ?_
  obtain ⟨g2, hm⟩ := gd_s hm
  obtain ⟨σ1, e3, hm⟩ := bv_s hm
  refine z_callVN (pc := 1) C (k_Li_clear hAD e3) km_Li_clear mC_273 rfl rfl (oC_Li g2) rfl (kR_of (Nat.le_of_ble_eq_true rfl) (Nat.le_of_ble_eq_true rfl)) rfl (Nat.le_of_ble_eq_true rfl) d_Pl_show_1 ?_
  refine z_aload_n (pc := 4) C d_Pl_show_4 rfl 0 rfl ?_
  refine z_iconst (pc := 5) C d_Pl_show_5 ki_0 ?_
  refine pC_Pl_110 (pc := 6) C  d_Pl_show_6 ?_
  refine z_iconst (pc := 9) C d_Pl_show_9 ki_0 ?_
  refine z_istore_n (pc := 10) (lv' := [(0, .ref (ad 9)), (1, .ref (ad x1)), (2, .int (0 : Int32))]) C d_Pl_show_10 rfl (Nat.le_of_ble_eq_true rfl) [1, 2, 0] rfl ?_
  exact w_Pl_show_11 hAD C hr F (si σ1 907 (0 : Int32)) x1 (0 : Int32) hm
