/-! Walks of Parser, second half. Written by program (wip/gen). -/
set_option maxHeartbeats 4000000 in
set_option maxRecDepth 100000 in
theorem w_Pa_parseCons_120 {D : va_G} {ad : Nat → Nat} {cA : Nat → ClassId} {p : Program} {l : Launch} {e : Env} {s : State} {m : MethodId} {args : Array Value} {below : List Frame} {meth : Method} {c : Code} {F : Nat} (hAD : ∀ σ, va_D (owC ad) (wdC ad cA σ)) (C : CC D ad cA (sXC ad) p s m args meth c bc_Pa_parseCons "KindRounds$Parser" 3) (hr : meth.sig.returnType = some .boolean) {r : Int32} {σ' : zS} (rc2 : zS → Int32 → Option (Int32 × zS)) (h2 : ∀ σ x1, rc2 σ x1 = some (r, σ') → ZC D ad cA p l e (rmK 44) s m args below meth c 3 (qiC D ad cA below args s r σ') 2 [(0, .ref (ad 6)), (1, .int x1)] [] σ) (σ : zS) (x1 : Int32) (hm : Pa_parseCons_120 F rc2 σ x1 = some (r, σ')) : ZC D ad cA p l e (rmK 44) s m args below meth c 3 (qiC D ad cA below args s r σ') 120 [(0, .ref (ad 6)), (1, .int x1)] [] σ := by
  unfold Pa_parseCons_120 at hm
  refine z_aload_n (pc := 120) C d_Pa_parseCons_120 rfl 0 rfl ?_
  refine gC_Pa_9 (pc := 121) C  d_Pa_parseCons_121 ?_
  obtain ⟨r2, σ1, e3, hm⟩ := bi_s hm
  refine z_callIN (pc := 124) C (k_Ta_sort hAD e3) km_Ta_sort mC_106 rfl rfl oC_1 rfl (kR_of (Nat.le_of_ble_eq_true rfl) (Nat.le_of_ble_eq_true rfl)) rfl (Nat.le_of_ble_eq_true rfl) d_Pa_parseCons_124 ?_
  refine z_bipush (pc := 127) C d_Pa_parseCons_127 kb_124 ?_
  refine z_icmp_eq (pc := 129) (tgt := 134) C d_Pa_parseCons_129 (by decide) (fun c4 => ?_) (fun c4 => ?_)
  · rw [if_pos c4] at hm
    refine z_aload_n (pc := 134) C d_Pa_parseCons_134 rfl 0 rfl ?_
    refine gC_Pa_9 (pc := 135) C  d_Pa_parseCons_135 ?_
    obtain ⟨σ5, e6, hm⟩ := bv_s hm
    refine z_callVN (pc := 138) C (k_Ta_step hAD e6) km_Ta_step mC_123 rfl rfl oC_1 rfl (kR_of (Nat.le_of_ble_eq_true rfl) (Nat.le_of_ble_eq_true rfl)) rfl (Nat.le_of_ble_eq_true rfl) d_Pa_parseCons_138 ?_
    refine z_iinc (pc := 141) (lv' := [(0, .ref (ad 6)), (1, .int (x1 + (1 : Int32)))]) C d_Pa_parseCons_141 1 rfl (ii ki_1) (Nat.le_of_ble_eq_true rfl) [1, 0] rfl ?_
    refine z_goto (pc := 144) (tgt := 2) C d_Pa_parseCons_144 (by decide) ?_
    exact h2 σ5 (x1 + (1 : Int32)) hm
  · rw [if_neg c4] at hm
    refine z_iconst (pc := 132) C d_Pa_parseCons_132 ki_1 ?_
    exact z_zretE (pc := 133) C hr (by decide) hm d_Pa_parseCons_133
set_option maxHeartbeats 4000000 in
set_option maxRecDepth 100000 in
theorem w_Pa_parseCons_112 {D : va_G} {ad : Nat → Nat} {cA : Nat → ClassId} {p : Program} {l : Launch} {e : Env} {s : State} {m : MethodId} {args : Array Value} {below : List Frame} {meth : Method} {c : Code} {F : Nat} (hAD : ∀ σ, va_D (owC ad) (wdC ad cA σ)) (C : CC D ad cA (sXC ad) p s m args meth c bc_Pa_parseCons "KindRounds$Parser" 3) (hr : meth.sig.returnType = some .boolean) {r : Int32} {σ' : zS} (σ : zS) (hm : Pa_parseCons_112 F σ = some (r, σ')) : ZC D ad cA p l e (rmK 44) s m args below meth c 3 (qiC D ad cA below args s r σ') 112 [] [] σ := by
  unfold Pa_parseCons_112 at hm
  refine z_iconst (pc := 112) C d_Pa_parseCons_112 ki_0 ?_
  exact z_zretE (pc := 113) C hr (by decide) hm d_Pa_parseCons_113
set_option maxHeartbeats 4000000 in
set_option maxRecDepth 100000 in
theorem w_Pa_parseCons_76 {D : va_G} {ad : Nat → Nat} {cA : Nat → ClassId} {p : Program} {l : Launch} {e : Env} {s : State} {m : MethodId} {args : Array Value} {below : List Frame} {meth : Method} {c : Code} {F : Nat} (hAD : ∀ σ, va_D (owC ad) (wdC ad cA σ)) (C : CC D ad cA (sXC ad) p s m args meth c bc_Pa_parseCons "KindRounds$Parser" 3) (hr : meth.sig.returnType = some .boolean) {r : Int32} {σ' : zS} (rc2 : zS → Int32 → Option (Int32 × zS)) (h2 : ∀ σ x1, rc2 σ x1 = some (r, σ') → ZC D ad cA p l e (rmK 44) s m args below meth c 3 (qiC D ad cA below args s r σ') 2 [(0, .ref (ad 6)), (1, .int x1)] [] σ) : ∀ (n : Nat) (σ : zS) (x1 : Int32) (x2 : Int32), Pa_parseCons_76 F rc2 n σ x1 x2 = some (r, σ') → ZC D ad cA p l e (rmK 44) s m args below meth c 3 (qiC D ad cA below args s r σ') 76 [(0, .ref (ad 6)), (1, .int x1), (2, .int x2)] [] σ := by
  intro n
  induction n with
  | zero => intro σ x1 x2 hm; cases hm
  | succ n h76 =>
    intro σ x1 x2 hm
    have hm : Pa_parseCons_b76 F rc2 (Pa_parseCons_76 F rc2 n) σ x1 x2 = some (r, σ') := hm
    unfold Pa_parseCons_b76 at hm
    refine z_iload_n (pc := 76) C d_Pa_parseCons_76 rfl 2 rfl ?_
    refine z_sipush (pc := 77) C d_Pa_parseCons_77 ks_200 ?_
    refine z_icmp_gt (pc := 80) (tgt := 120) C d_Pa_parseCons_80 (by decide) (fun c1 => ?_) (fun c1 => ?_)
    · rw [if_pos c1] at hm
      refine z_lv (lv' := [(0, .ref (ad 6)), (1, .int x1)]) [0, 1] rfl ?_
      exact w_Pa_parseCons_120 hAD C hr _ h2 σ x1 hm
    · rw [if_neg c1] at hm
      refine z_aload_n (pc := 83) C d_Pa_parseCons_83 rfl 0 rfl ?_
      obtain ⟨r3, σ2, e4, hm⟩ := bi_s hm
      refine z_callI (pc := 84) C (k_Pa_startsOne hAD e4) km_Pa_startsOne mC_132 rfl rfl oC_6 rfl (kR_of (Nat.le_of_ble_eq_true rfl) (Nat.le_of_ble_eq_true rfl)) rfl (Nat.le_of_ble_eq_true rfl) d_Pa_parseCons_84 ?_
      refine z_if_eq (pc := 87) (tgt := 120) C d_Pa_parseCons_87 (by decide) (fun c5 => ?_) (fun c5 => ?_)
      · rw [if_pos c5] at hm
        refine z_lv (lv' := [(0, .ref (ad 6)), (1, .int x1)]) [0, 1] rfl ?_
        exact w_Pa_parseCons_120 hAD C hr _ h2 σ2 x1 hm
      · rw [if_neg c5] at hm
        refine z_aload_n (pc := 90) C d_Pa_parseCons_90 rfl 0 rfl ?_
        refine gC_Pa_37 (pc := 91) (v := (gr σ2 605)) C rfl d_Pa_parseCons_91 ?_
        refine z_aload_n (pc := 94) C d_Pa_parseCons_94 rfl 0 rfl ?_
        refine gC_Pa_58 (pc := 95) (v := (gi σ2 606)) C rfl d_Pa_parseCons_95 ?_
        obtain ⟨g7, hm⟩ := gd_s hm
        obtain ⟨r8, σ6, e9, hm⟩ := bi_s hm
        refine z_callIN (pc := 98) C (k_Ro_beginTerm hAD e9) km_Ro_beginTerm mC_112 rfl rfl (oC_Ro g7) rfl (kR_of (Nat.le_of_ble_eq_true rfl) (Nat.le_of_ble_eq_true rfl)) rfl (Nat.le_of_ble_eq_true rfl) d_Pa_parseCons_98 ?_
        refine z_if_eq (pc := 101) (tgt := 112) C d_Pa_parseCons_101 (by decide) (fun c10 => ?_) (fun c10 => ?_)
        · rw [if_pos c10] at hm
          refine z_lv (lv' := []) [] rfl ?_
          exact w_Pa_parseCons_112 hAD C hr σ6 hm
        · rw [if_neg c10] at hm
          refine z_aload_n (pc := 104) C d_Pa_parseCons_104 rfl 0 rfl ?_
          refine z_iconst (pc := 105) C d_Pa_parseCons_105 ki_0 ?_
          obtain ⟨r12, σ11, e13, hm⟩ := bi_s hm
          refine z_callI (pc := 106) C (k_Pa_parseOne hAD e13) km_Pa_parseOne mC_133 rfl rfl oC_6 rfl (kR_of (Nat.le_of_ble_eq_true rfl) (Nat.le_of_ble_eq_true rfl)) rfl (Nat.le_of_ble_eq_true rfl) d_Pa_parseCons_106 ?_
          refine z_if_ne (pc := 109) (tgt := 114) C d_Pa_parseCons_109 (by decide) (fun c14 => ?_) (fun c14 => ?_)
          · rw [if_neg c14] at hm
            refine z_iinc (pc := 114) (lv' := [(0, .ref (ad 6)), (1, .int x1), (2, .int (x2 + (1 : Int32)))]) C d_Pa_parseCons_114 2 rfl (ii ki_1) (Nat.le_of_ble_eq_true rfl) [1, 2, 0] rfl ?_
            refine z_goto (pc := 117) (tgt := 76) C d_Pa_parseCons_117 (by decide) ?_
            exact h76 σ11 x1 (x2 + (1 : Int32)) hm
          · rw [if_pos c14] at hm
            refine z_lv (lv' := []) [] rfl ?_
            exact w_Pa_parseCons_112 hAD C hr σ11 hm
set_option maxHeartbeats 4000000 in
set_option maxRecDepth 100000 in
theorem w_Pa_parseCons_2 {D : va_G} {ad : Nat → Nat} {cA : Nat → ClassId} {p : Program} {l : Launch} {e : Env} {s : State} {m : MethodId} {args : Array Value} {below : List Frame} {meth : Method} {c : Code} {F : Nat} (hAD : ∀ σ, va_D (owC ad) (wdC ad cA σ)) (C : CC D ad cA (sXC ad) p s m args meth c bc_Pa_parseCons "KindRounds$Parser" 3) (hr : meth.sig.returnType = some .boolean) {r : Int32} {σ' : zS} : ∀ (n : Nat) (σ : zS) (x1 : Int32), Pa_parseCons_2 F n σ x1 = some (r, σ') → ZC D ad cA p l e (rmK 44) s m args below meth c 3 (qiC D ad cA below args s r σ') 2 [(0, .ref (ad 6)), (1, .int x1)] [] σ := by
  intro n
  induction n with
  | zero => intro σ x1 hm; cases hm
  | succ n h2 =>
    intro σ x1 hm
    have hm : Pa_parseCons_b2 F (Pa_parseCons_2 F n) σ x1 = some (r, σ') := hm
    unfold Pa_parseCons_b2 at hm
    refine z_iload_n (pc := 2) C d_Pa_parseCons_2 rfl 1 rfl ?_
    refine z_bipush (pc := 3) C d_Pa_parseCons_3 kb_6 ?_
    refine z_icmp_gt (pc := 5) (tgt := 147) C d_Pa_parseCons_5 (by decide) (fun c1 => ?_) (fun c1 => ?_)
    · rw [if_pos c1] at hm
      refine z_iconst (pc := 147) C d_Pa_parseCons_147 ki_0 ?_
      exact z_zretE (pc := 148) C hr (by decide) hm d_Pa_parseCons_148
    · rw [if_neg c1] at hm
      refine z_aload_n (pc := 8) C d_Pa_parseCons_8 rfl 0 rfl ?_
      refine gC_Pa_9 (pc := 9) C  d_Pa_parseCons_9 ?_
      obtain ⟨r3, σ2, e4, hm⟩ := bi_s hm
      refine z_callIN (pc := 12) C (k_Ta_sort hAD e4) km_Ta_sort mC_106 rfl rfl oC_1 rfl (kR_of (Nat.le_of_ble_eq_true rfl) (Nat.le_of_ble_eq_true rfl)) rfl (Nat.le_of_ble_eq_true rfl) d_Pa_parseCons_12 ?_
      refine z_iconst (pc := 15) C d_Pa_parseCons_15 ki_2 ?_
      refine z_icmp_eq (pc := 16) (tgt := 24) C d_Pa_parseCons_16 (by decide) (fun c5 => ?_) (fun c5 => ?_)
      · rw [if_pos c5] at hm
        refine z_iload_n (pc := 24) C d_Pa_parseCons_24 rfl 1 rfl ?_
        refine z_bipush (pc := 25) C d_Pa_parseCons_25 kb_6 ?_
        refine z_icmp_ne (pc := 27) (tgt := 35) C d_Pa_parseCons_27 (by decide) (fun c6 => ?_) (fun c6 => ?_)
        · rw [if_neg c6] at hm
          refine z_aload_n (pc := 35) C d_Pa_parseCons_35 rfl 0 rfl ?_
          refine gC_Pa_15 (pc := 36) C  d_Pa_parseCons_36 ?_
          refine gC_Pa_122 (pc := 39) C  d_Pa_parseCons_39 ?_
          refine z_aload_n (pc := 42) C d_Pa_parseCons_42 rfl 0 rfl ?_
          refine gC_Pa_58 (pc := 43) (v := (gi σ2 606)) C rfl d_Pa_parseCons_43 ?_
          refine z_dup2 (pc := 46) C d_Pa_parseCons_46 rfl rfl ?_
          obtain ⟨g7, hm⟩ := gd_s hm
          refine alC_34 (pc := 47) (v := (ga σ2 34 (gi σ2 606).toNatClampNeg)) C  rfl g7 d_Pa_parseCons_47 ?_
          refine z_iconst (pc := 48) C d_Pa_parseCons_48 ki_1 ?_
          refine z_iadd (pc := 49) C d_Pa_parseCons_49 ?_
          refine asC_34 (pc := 50) C  g7 d_Pa_parseCons_50 ?_
          refine z_aload_n (pc := 51) C d_Pa_parseCons_51 rfl 0 rfl ?_
          refine gC_Pa_19 (pc := 52) C  d_Pa_parseCons_52 ?_
          refine z_iconst (pc := 55) C d_Pa_parseCons_55 ki_1 ?_
          refine z_aload_n (pc := 56) C d_Pa_parseCons_56 rfl 0 rfl ?_
          refine gC_Pa_58 (pc := 57) (v := (gi σ2 606)) C rfl d_Pa_parseCons_57 ?_
          refine z_aload_n (pc := 60) C d_Pa_parseCons_60 rfl 0 rfl ?_
          refine gC_Pa_9 (pc := 61) C  d_Pa_parseCons_61 ?_
          obtain ⟨σ8, e9, hm⟩ := bv_s hm
          refine z_callVN (pc := 64) C (k_Me_add hAD e9) km_Me_add mC_128 rfl rfl oC_5 rfl (kR_of (Nat.le_of_ble_eq_true rfl) (Nat.le_of_ble_eq_true rfl)) rfl (Nat.le_of_ble_eq_true rfl) d_Pa_parseCons_64 ?_
          refine z_aload_n (pc := 67) C d_Pa_parseCons_67 rfl 0 rfl ?_
          refine gC_Pa_9 (pc := 68) C  d_Pa_parseCons_68 ?_
          obtain ⟨σ10, e11, hm⟩ := bv_s hm
          refine z_callVN (pc := 71) C (k_Ta_step hAD e11) km_Ta_step mC_123 rfl rfl oC_1 rfl (kR_of (Nat.le_of_ble_eq_true rfl) (Nat.le_of_ble_eq_true rfl)) rfl (Nat.le_of_ble_eq_true rfl) d_Pa_parseCons_71 ?_
          refine z_iconst (pc := 74) C d_Pa_parseCons_74 ki_0 ?_
          refine z_istore_n (pc := 75) (lv' := [(0, .ref (ad 6)), (1, .int x1), (2, .int (0 : Int32))]) C d_Pa_parseCons_75 rfl (Nat.le_of_ble_eq_true rfl) [1, 2, 0] rfl ?_
          exact w_Pa_parseCons_76 hAD C hr _ h2 F σ10 x1 (0 : Int32) hm
        · rw [if_pos c6] at hm
          refine z_aload_n (pc := 30) C d_Pa_parseCons_30 rfl 0 rfl ?_
          obtain ⟨r13, σ12, e14, hm⟩ := bi_s hm
          refine z_callI (pc := 31) C (k_Pa_tooMuch hAD e14) km_Pa_tooMuch mC_129 rfl rfl oC_6 rfl (kR_of (Nat.le_of_ble_eq_true rfl) (Nat.le_of_ble_eq_true rfl)) rfl (Nat.le_of_ble_eq_true rfl) d_Pa_parseCons_31 ?_
          obtain ⟨g15, hm⟩ := gd_s hm
          exact z_zretE (pc := 34) C hr g15 hm d_Pa_parseCons_34
      · rw [if_neg c5] at hm
        refine z_aload_n (pc := 19) C d_Pa_parseCons_19 rfl 0 rfl ?_
        obtain ⟨r17, σ16, e18, hm⟩ := bi_s hm
        refine z_callI (pc := 20) C (k_Pa_misfit hAD e18) km_Pa_misfit mC_117 rfl rfl oC_6 rfl (kR_of (Nat.le_of_ble_eq_true rfl) (Nat.le_of_ble_eq_true rfl)) rfl (Nat.le_of_ble_eq_true rfl) d_Pa_parseCons_20 ?_
        obtain ⟨g19, hm⟩ := gd_s hm
        exact z_zretE (pc := 23) C hr g19 hm d_Pa_parseCons_23
set_option maxHeartbeats 4000000 in
set_option maxRecDepth 100000 in
theorem k_Pa_parseCons {l : Launch} {D : va_G} {ad : Nat → Nat} {cA : Nat → ClassId} {F : Nat} (hAD : ∀ σ, va_D (owC ad) (wdC ad cA σ)) {σ : zS} {r : Int32} {σ' : zS} (hm : Pa_parseCons F σ = some (r, σ')) : kIC l D ad cA (sXC ad) y_Pa_parseCons bc_Pa_parseCons 3 .boolean 44 [.ref (ad 6)] σ r σ' := by
  refine kI_of (by decide) hAD sXC_P (Nat.le_of_ble_eq_true rfl) ?_
  intro p e s m below meth c C hr
  unfold Pa_parseCons at hm
  refine z_lv (lv' := [(0, .ref (ad 6))]) [0] rfl ?_
  refine z_iconst (pc := 0) C d_Pa_parseCons_0 ki_0 ?_
  refine z_istore_n (pc := 1) (lv' := [(0, .ref (ad 6)), (1, .int (0 : Int32))]) C d_Pa_parseCons_1 rfl (Nat.le_of_ble_eq_true rfl) [1, 0] rfl ?_
  exact w_Pa_parseCons_2 hAD C hr F σ (0 : Int32) hm
set_option maxHeartbeats 4000000 in
set_option maxRecDepth 100000 in
theorem w_Pa_parseMethods_125 {D : va_G} {ad : Nat → Nat} {cA : Nat → ClassId} {p : Program} {l : Launch} {e : Env} {s : State} {m : MethodId} {args : Array Value} {below : List Frame} {meth : Method} {c : Code} {F : Nat} (hAD : ∀ σ, va_D (owC ad) (wdC ad cA σ)) (C : CC D ad cA (sXC ad) p s m args meth c bc_Pa_parseMethods "KindRounds$Parser" 3) (hr : meth.sig.returnType = some .boolean) {r : Int32} {σ' : zS} (σ : zS) (hm : Pa_parseMethods_125 F σ = some (r, σ')) : ZC D ad cA p l e (rmK 43) s m args below meth c 3 (qiC D ad cA below args s r σ') 125 [] [] σ := by
  unfold Pa_parseMethods_125 at hm
  refine z_iconst (pc := 125) C d_Pa_parseMethods_125 ki_1 ?_
  exact z_zretE (pc := 126) C hr (by decide) hm d_Pa_parseMethods_126
set_option maxHeartbeats 4000000 in
set_option maxRecDepth 100000 in
theorem w_Pa_parseMethods_112 {D : va_G} {ad : Nat → Nat} {cA : Nat → ClassId} {p : Program} {l : Launch} {e : Env} {s : State} {m : MethodId} {args : Array Value} {below : List Frame} {meth : Method} {c : Code} {F : Nat} (hAD : ∀ σ, va_D (owC ad) (wdC ad cA σ)) (C : CC D ad cA (sXC ad) p s m args meth c bc_Pa_parseMethods "KindRounds$Parser" 3) (hr : meth.sig.returnType = some .boolean) {r : Int32} {σ' : zS} (rc2 : zS → Int32 → Option (Int32 × zS)) (h2 : ∀ σ x1, rc2 σ x1 = some (r, σ') → ZC D ad cA p l e (rmK 43) s m args below meth c 3 (qiC D ad cA below args s r σ') 2 [(0, .ref (ad 6)), (1, .int x1)] [] σ) (σ : zS) (x1 : Int32) (s0 : Int32) (hm : Pa_parseMethods_112 F rc2 σ x1 s0 = some (r, σ')) : ZC D ad cA p l e (rmK 43) s m args below meth c 3 (qiC D ad cA below args s r σ') 112 [(0, .ref (ad 6)), (1, .int x1)] [.int s0] σ := by
  unfold Pa_parseMethods_112 at hm
  refine z_istore_n (pc := 112) (lv' := [(0, .ref (ad 6)), (1, .int x1), (2, .int s0)]) C d_Pa_parseMethods_112 rfl (Nat.le_of_ble_eq_true rfl) [1, 2, 0] rfl ?_
  refine z_iload_n (pc := 113) C d_Pa_parseMethods_113 rfl 2 rfl ?_
  refine z_if_ne (pc := 114) (tgt := 119) C d_Pa_parseMethods_114 (by decide) (fun c1 => ?_) (fun c1 => ?_)
  · rw [if_neg c1] at hm
    refine z_iinc (pc := 119) (lv' := [(0, .ref (ad 6)), (1, .int (x1 + (1 : Int32))), (2, .int s0)]) C d_Pa_parseMethods_119 1 rfl (ii ki_1) (Nat.le_of_ble_eq_true rfl) [1, 0, 2] rfl ?_
    refine z_goto (pc := 122) (tgt := 2) C d_Pa_parseMethods_122 (by decide) ?_
    refine z_lv (lv' := [(0, .ref (ad 6)), (1, .int (x1 + (1 : Int32)))]) [0, 1] rfl ?_
    exact h2 σ (x1 + (1 : Int32)) hm
  · rw [if_pos c1] at hm
    refine z_iconst (pc := 117) C d_Pa_parseMethods_117 ki_0 ?_
    exact z_zretE (pc := 118) C hr (by decide) hm d_Pa_parseMethods_118
set_option maxHeartbeats 4000000 in
set_option maxRecDepth 100000 in
theorem w_Pa_parseMethods_111 {D : va_G} {ad : Nat → Nat} {cA : Nat → ClassId} {p : Program} {l : Launch} {e : Env} {s : State} {m : MethodId} {args : Array Value} {below : List Frame} {meth : Method} {c : Code} {F : Nat} (hAD : ∀ σ, va_D (owC ad) (wdC ad cA σ)) (C : CC D ad cA (sXC ad) p s m args meth c bc_Pa_parseMethods "KindRounds$Parser" 3) (hr : meth.sig.returnType = some .boolean) {r : Int32} {σ' : zS} (rc2 : zS → Int32 → Option (Int32 × zS)) (h2 : ∀ σ x1, rc2 σ x1 = some (r, σ') → ZC D ad cA p l e (rmK 43) s m args below meth c 3 (qiC D ad cA below args s r σ') 2 [(0, .ref (ad 6)), (1, .int x1)] [] σ) (σ : zS) (x1 : Int32) (hm : Pa_parseMethods_111 F rc2 σ x1 = some (r, σ')) : ZC D ad cA p l e (rmK 43) s m args below meth c 3 (qiC D ad cA below args s r σ') 111 [(0, .ref (ad 6)), (1, .int x1)] [] σ := by
  unfold Pa_parseMethods_111 at hm
  refine z_iconst (pc := 111) C d_Pa_parseMethods_111 ki_0 ?_
  exact w_Pa_parseMethods_112 hAD C hr _ h2 σ x1 (0 : Int32) hm
set_option maxHeartbeats 4000000 in
set_option maxRecDepth 100000 in
theorem w_Pa_parseMethods_2 {D : va_G} {ad : Nat → Nat} {cA : Nat → ClassId} {p : Program} {l : Launch} {e : Env} {s : State} {m : MethodId} {args : Array Value} {below : List Frame} {meth : Method} {c : Code} {F : Nat} (hAD : ∀ σ, va_D (owC ad) (wdC ad cA σ)) (C : CC D ad cA (sXC ad) p s m args meth c bc_Pa_parseMethods "KindRounds$Parser" 3) (hr : meth.sig.returnType = some .boolean) {r : Int32} {σ' : zS} : ∀ (n : Nat) (σ : zS) (x1 : Int32), Pa_parseMethods_2 F n σ x1 = some (r, σ') → ZC D ad cA p l e (rmK 43) s m args below meth c 3 (qiC D ad cA below args s r σ') 2 [(0, .ref (ad 6)), (1, .int x1)] [] σ := by
  intro n
  induction n with
  | zero => intro σ x1 hm; cases hm
  | succ n h2 =>
    intro σ x1 hm
    have hm : Pa_parseMethods_b2 F (Pa_parseMethods_2 F n) σ x1 = some (r, σ') := hm
    unfold Pa_parseMethods_b2 at hm
    refine z_iload_n (pc := 2) C d_Pa_parseMethods_2 rfl 1 rfl ?_
    refine z_iconst (pc := 3) C d_Pa_parseMethods_3 ki_4 ?_
    refine z_icmp_gt (pc := 4) (tgt := 125) C d_Pa_parseMethods_4 (by decide) (fun c1 => ?_) (fun c1 => ?_)
    · rw [if_pos c1] at hm
      refine z_lv (lv' := []) [] rfl ?_
      exact w_Pa_parseMethods_125 hAD C hr σ hm
    · rw [if_neg c1] at hm
      refine z_aload_n (pc := 7) C d_Pa_parseMethods_7 rfl 0 rfl ?_
      refine gC_Pa_9 (pc := 8) C  d_Pa_parseMethods_8 ?_
      obtain ⟨r3, σ2, e4, hm⟩ := bi_s hm
      refine z_callIN (pc := 11) C (k_Ta_sort hAD e4) km_Ta_sort mC_106 rfl rfl oC_1 rfl (kR_of (Nat.le_of_ble_eq_true rfl) (Nat.le_of_ble_eq_true rfl)) rfl (Nat.le_of_ble_eq_true rfl) d_Pa_parseMethods_11 ?_
      refine z_iconst (pc := 14) C d_Pa_parseMethods_14 ki_3 ?_
      refine z_icmp_ne (pc := 15) (tgt := 125) C d_Pa_parseMethods_15 (by decide) (fun c5 => ?_) (fun c5 => ?_)
      · rw [if_neg c5] at hm
        refine z_lv (lv' := []) [] rfl ?_
        exact w_Pa_parseMethods_125 hAD C hr σ2 hm
      · rw [if_pos c5] at hm
        refine z_iload_n (pc := 18) C d_Pa_parseMethods_18 rfl 1 rfl ?_
        refine z_iconst (pc := 19) C d_Pa_parseMethods_19 ki_4 ?_
        refine z_icmp_ne (pc := 20) (tgt := 28) C d_Pa_parseMethods_20 (by decide) (fun c6 => ?_) (fun c6 => ?_)
        · rw [if_neg c6] at hm
          refine z_aload_n (pc := 28) C d_Pa_parseMethods_28 rfl 0 rfl ?_
          refine gC_Pa_15 (pc := 29) C  d_Pa_parseMethods_29 ?_
          refine gC_Pa_122 (pc := 32) C  d_Pa_parseMethods_32 ?_
          refine z_aload_n (pc := 35) C d_Pa_parseMethods_35 rfl 0 rfl ?_
          refine gC_Pa_58 (pc := 36) (v := (gi σ2 606)) C rfl d_Pa_parseMethods_36 ?_
          refine z_dup2 (pc := 39) C d_Pa_parseMethods_39 rfl rfl ?_
          obtain ⟨g7, hm⟩ := gd_s hm
          refine alC_34 (pc := 40) (v := (ga σ2 34 (gi σ2 606).toNatClampNeg)) C  rfl g7 d_Pa_parseMethods_40 ?_
          refine z_iconst (pc := 41) C d_Pa_parseMethods_41 ki_1 ?_
          refine z_iadd (pc := 42) C d_Pa_parseMethods_42 ?_
          refine asC_34 (pc := 43) C  g7 d_Pa_parseMethods_43 ?_
          refine z_aload_n (pc := 44) C d_Pa_parseMethods_44 rfl 0 rfl ?_
          refine gC_Pa_19 (pc := 45) C  d_Pa_parseMethods_45 ?_
          refine z_iconst (pc := 48) C d_Pa_parseMethods_48 ki_2 ?_
          refine z_aload_n (pc := 49) C d_Pa_parseMethods_49 rfl 0 rfl ?_
          refine gC_Pa_58 (pc := 50) (v := (gi σ2 606)) C rfl d_Pa_parseMethods_50 ?_
          refine z_aload_n (pc := 53) C d_Pa_parseMethods_53 rfl 0 rfl ?_
          refine gC_Pa_9 (pc := 54) C  d_Pa_parseMethods_54 ?_
          obtain ⟨σ8, e9, hm⟩ := bv_s hm
          refine z_callVN (pc := 57) C (k_Me_add hAD e9) km_Me_add mC_128 rfl rfl oC_5 rfl (kR_of (Nat.le_of_ble_eq_true rfl) (Nat.le_of_ble_eq_true rfl)) rfl (Nat.le_of_ble_eq_true rfl) d_Pa_parseMethods_57 ?_
          refine z_aload_n (pc := 60) C d_Pa_parseMethods_60 rfl 0 rfl ?_
          refine gC_Pa_9 (pc := 61) C  d_Pa_parseMethods_61 ?_
          obtain ⟨σ10, e11, hm⟩ := bv_s hm
          refine z_callVN (pc := 64) C (k_Ta_step hAD e11) km_Ta_step mC_123 rfl rfl oC_1 rfl (kR_of (Nat.le_of_ble_eq_true rfl) (Nat.le_of_ble_eq_true rfl)) rfl (Nat.le_of_ble_eq_true rfl) d_Pa_parseMethods_64 ?_
          refine z_aload_n (pc := 67) C d_Pa_parseMethods_67 rfl 0 rfl ?_
          refine z_bipush (pc := 68) C d_Pa_parseMethods_68 kb_58 ?_
          obtain ⟨r13, σ12, e14, hm⟩ := bi_s hm
          refine z_callI (pc := 70) C (k_Pa_expect hAD e14) km_Pa_expect mC_104 rfl rfl oC_6 rfl (kR_of (Nat.le_of_ble_eq_true rfl) (Nat.le_of_ble_eq_true rfl)) rfl (Nat.le_of_ble_eq_true rfl) d_Pa_parseMethods_70 ?_
          refine z_if_eq (pc := 73) (tgt := 111) C d_Pa_parseMethods_73 (by decide) (fun c15 => ?_) (fun c15 => ?_)
          · rw [if_pos c15] at hm
            exact w_Pa_parseMethods_111 hAD C hr _ h2 σ12 x1 hm
          · rw [if_neg c15] at hm
            refine z_aload_n (pc := 76) C d_Pa_parseMethods_76 rfl 0 rfl ?_
            refine gC_Pa_37 (pc := 77) (v := (gr σ12 605)) C rfl d_Pa_parseMethods_77 ?_
            refine z_aload_n (pc := 80) C d_Pa_parseMethods_80 rfl 0 rfl ?_
            refine gC_Pa_58 (pc := 81) (v := (gi σ12 606)) C rfl d_Pa_parseMethods_81 ?_
            obtain ⟨g17, hm⟩ := gd_s hm
            obtain ⟨r18, σ16, e19, hm⟩ := bi_s hm
            refine z_callIN (pc := 84) C (k_Ro_beginTerm hAD e19) km_Ro_beginTerm mC_112 rfl rfl (oC_Ro g17) rfl (kR_of (Nat.le_of_ble_eq_true rfl) (Nat.le_of_ble_eq_true rfl)) rfl (Nat.le_of_ble_eq_true rfl) d_Pa_parseMethods_84 ?_
            refine z_if_eq (pc := 87) (tgt := 111) C d_Pa_parseMethods_87 (by decide) (fun c20 => ?_) (fun c20 => ?_)
            · rw [if_pos c20] at hm
              exact w_Pa_parseMethods_111 hAD C hr _ h2 σ16 x1 hm
            · rw [if_neg c20] at hm
              refine z_aload_n (pc := 90) C d_Pa_parseMethods_90 rfl 0 rfl ?_
              refine z_iconst (pc := 91) C d_Pa_parseMethods_91 ki_0 ?_
              obtain ⟨r22, σ21, e23, hm⟩ := bi_s hm
              refine z_callI (pc := 92) C (k_Pa_parseType hAD e23) km_Pa_parseType mC_113 rfl rfl oC_6 rfl (kR_of (Nat.le_of_ble_eq_true rfl) (Nat.le_of_ble_eq_true rfl)) rfl (Nat.le_of_ble_eq_true rfl) d_Pa_parseMethods_92 ?_
              refine z_if_eq (pc := 95) (tgt := 111) C d_Pa_parseMethods_95 (by decide) (fun c24 => ?_) (fun c24 => ?_)
              · rw [if_pos c24] at hm
                exact w_Pa_parseMethods_111 hAD C hr _ h2 σ21 x1 hm
              · rw [if_neg c24] at hm
                refine z_aload_n (pc := 98) C d_Pa_parseMethods_98 rfl 0 rfl ?_
                refine z_bipush (pc := 99) C d_Pa_parseMethods_99 kb_59 ?_
                obtain ⟨r26, σ25, e27, hm⟩ := bi_s hm
                refine z_callI (pc := 101) C (k_Pa_expect hAD e27) km_Pa_expect mC_104 rfl rfl oC_6 rfl (kR_of (Nat.le_of_ble_eq_true rfl) (Nat.le_of_ble_eq_true rfl)) rfl (Nat.le_of_ble_eq_true rfl) d_Pa_parseMethods_101 ?_
                refine z_if_eq (pc := 104) (tgt := 111) C d_Pa_parseMethods_104 (by decide) (fun c28 => ?_) (fun c28 => ?_)
                · rw [if_pos c28] at hm
                  exact w_Pa_parseMethods_111 hAD C hr _ h2 σ25 x1 hm
                · rw [if_neg c28] at hm
                  refine z_iconst (pc := 107) C d_Pa_parseMethods_107 ki_1 ?_
                  refine z_goto (pc := 108) (tgt := 112) C d_Pa_parseMethods_108 (by decide) ?_
                  exact w_Pa_parseMethods_112 hAD C hr _ h2 σ25 x1 (1 : Int32) hm
        · rw [if_pos c6] at hm
          refine z_aload_n (pc := 23) C d_Pa_parseMethods_23 rfl 0 rfl ?_
          obtain ⟨r30, σ29, e31, hm⟩ := bi_s hm
          refine z_callI (pc := 24) C (k_Pa_tooMuch hAD e31) km_Pa_tooMuch mC_129 rfl rfl oC_6 rfl (kR_of (Nat.le_of_ble_eq_true rfl) (Nat.le_of_ble_eq_true rfl)) rfl (Nat.le_of_ble_eq_true rfl) d_Pa_parseMethods_24 ?_
          obtain ⟨g32, hm⟩ := gd_s hm
          exact z_zretE (pc := 27) C hr g32 hm d_Pa_parseMethods_27
set_option maxHeartbeats 4000000 in
set_option maxRecDepth 100000 in
theorem k_Pa_parseMethods {l : Launch} {D : va_G} {ad : Nat → Nat} {cA : Nat → ClassId} {F : Nat} (hAD : ∀ σ, va_D (owC ad) (wdC ad cA σ)) {σ : zS} {r : Int32} {σ' : zS} (hm : Pa_parseMethods F σ = some (r, σ')) : kIC l D ad cA (sXC ad) y_Pa_parseMethods bc_Pa_parseMethods 3 .boolean 43 [.ref (ad 6)] σ r σ' := by
  refine kI_of (by decide) hAD sXC_P (Nat.le_of_ble_eq_true rfl) ?_
  intro p e s m below meth c C hr
  unfold Pa_parseMethods at hm
  refine z_lv (lv' := [(0, .ref (ad 6))]) [0] rfl ?_
  refine z_iconst (pc := 0) C d_Pa_parseMethods_0 ki_0 ?_
  refine z_istore_n (pc := 1) (lv' := [(0, .ref (ad 6)), (1, .int (0 : Int32))]) C d_Pa_parseMethods_1 rfl (Nat.le_of_ble_eq_true rfl) [1, 0] rfl ?_
  exact w_Pa_parseMethods_2 hAD C hr F σ (0 : Int32) hm
set_option maxHeartbeats 4000000 in
set_option maxRecDepth 100000 in
theorem w_Pa_parseTold_86 {D : va_G} {ad : Nat → Nat} {cA : Nat → ClassId} {p : Program} {l : Launch} {e : Env} {s : State} {m : MethodId} {args : Array Value} {below : List Frame} {meth : Method} {c : Code} {F : Nat} (hAD : ∀ σ, va_D (owC ad) (wdC ad cA σ)) (C : CC D ad cA (sXC ad) p s m args meth c bc_Pa_parseTold "KindRounds$Parser" 3) (hr : meth.sig.returnType = some .boolean) {r : Int32} {σ' : zS} (σ : zS) (s0 : Int32) (hm : Pa_parseTold_86 F σ s0 = some (r, σ')) : ZC D ad cA p l e (rmK 43) s m args below meth c 3 (qiC D ad cA below args s r σ') 86 [] [.int s0] σ := by
  unfold Pa_parseTold_86 at hm
  obtain ⟨g1, hm⟩ := gd_s hm
  exact z_zretE (pc := 86) C hr g1 hm d_Pa_parseTold_86
set_option maxHeartbeats 4000000 in
set_option maxRecDepth 100000 in
theorem k_Pa_parseTold {l : Launch} {D : va_G} {ad : Nat → Nat} {cA : Nat → ClassId} {F : Nat} (hAD : ∀ σ, va_D (owC ad) (wdC ad cA σ)) {σ : zS} {r : Int32} {σ' : zS} (hm : Pa_parseTold F σ = some (r, σ')) : kIC l D ad cA (sXC ad) y_Pa_parseTold bc_Pa_parseTold 3 .boolean 43 [.ref (ad 6)] σ r σ' := by
  refine kI_of (by decide) hAD sXC_P (Nat.le_of_ble_eq_true rfl) ?_
  intro p e s m below meth c C hr
  unfold Pa_parseTold at hm
  refine z_lv (lv' := [(0, .ref (ad 6))]) [0] rfl ?_
  refine z_aload_n (pc := 0) C d_Pa_parseTold_0 rfl 0 rfl ?_
  refine gC_Pa_9 (pc := 1) C  d_Pa_parseTold_1 ?_
  obtain ⟨σ1, e2, hm⟩ := bv_s hm
  refine z_callVN (pc := 4) C (k_Ta_step hAD e2) km_Ta_step mC_123 rfl rfl oC_1 rfl (kR_of (Nat.le_of_ble_eq_true rfl) (Nat.le_of_ble_eq_true rfl)) rfl (Nat.le_of_ble_eq_true rfl) d_Pa_parseTold_4 ?_
  refine z_aload_n (pc := 7) C d_Pa_parseTold_7 rfl 0 rfl ?_
  refine gC_Pa_9 (pc := 8) C  d_Pa_parseTold_8 ?_
  obtain ⟨r4, σ3, e5, hm⟩ := bi_s hm
  refine z_callIN (pc := 11) C (k_Ta_sort hAD e5) km_Ta_sort mC_106 rfl rfl oC_1 rfl (kR_of (Nat.le_of_ble_eq_true rfl) (Nat.le_of_ble_eq_true rfl)) rfl (Nat.le_of_ble_eq_true rfl) d_Pa_parseTold_11 ?_
  refine z_iconst (pc := 14) C d_Pa_parseTold_14 ki_2 ?_
  refine z_icmp_eq (pc := 15) (tgt := 23) C d_Pa_parseTold_15 (by decide) (fun c6 => ?_) (fun c6 => ?_)
  · rw [if_pos c6] at hm
    refine z_aload_n (pc := 23) C d_Pa_parseTold_23 rfl 0 rfl ?_
    refine gC_Pa_19 (pc := 24) C  d_Pa_parseTold_24 ?_
    refine gC_Pa_131 (pc := 27) (v := (gi σ3 505)) C rfl d_Pa_parseTold_27 ?_
    refine z_istore_n (pc := 30) (lv' := [(0, .ref (ad 6)), (1, .int (gi σ3 505))]) C d_Pa_parseTold_30 rfl (Nat.le_of_ble_eq_true rfl) [1, 0] rfl ?_
    refine z_aload_n (pc := 31) C d_Pa_parseTold_31 rfl 0 rfl ?_
    refine gC_Pa_19 (pc := 32) C  d_Pa_parseTold_32 ?_
    refine z_iconst (pc := 35) C d_Pa_parseTold_35 ki_4 ?_
    refine z_iconst (pc := 36) C d_Pa_parseTold_36 ki_m1 ?_
    refine z_aload_n (pc := 37) C d_Pa_parseTold_37 rfl 0 rfl ?_
    refine gC_Pa_9 (pc := 38) C  d_Pa_parseTold_38 ?_
    obtain ⟨σ7, e8, hm⟩ := bv_s hm
    refine z_callVN (pc := 41) C (k_Me_add hAD e8) km_Me_add mC_128 rfl rfl oC_5 rfl (kR_of (Nat.le_of_ble_eq_true rfl) (Nat.le_of_ble_eq_true rfl)) rfl (Nat.le_of_ble_eq_true rfl) d_Pa_parseTold_41 ?_
    refine z_aload_n (pc := 44) C d_Pa_parseTold_44 rfl 0 rfl ?_
    refine gC_Pa_9 (pc := 45) C  d_Pa_parseTold_45 ?_
    obtain ⟨σ9, e10, hm⟩ := bv_s hm
    refine z_callVN (pc := 48) C (k_Ta_step hAD e10) km_Ta_step mC_123 rfl rfl oC_1 rfl (kR_of (Nat.le_of_ble_eq_true rfl) (Nat.le_of_ble_eq_true rfl)) rfl (Nat.le_of_ble_eq_true rfl) d_Pa_parseTold_48 ?_
    refine z_aload_n (pc := 51) C d_Pa_parseTold_51 rfl 0 rfl ?_
    refine z_bipush (pc := 52) C d_Pa_parseTold_52 kb_58 ?_
    obtain ⟨r12, σ11, e13, hm⟩ := bi_s hm
    refine z_callI (pc := 54) C (k_Pa_expect hAD e13) km_Pa_expect mC_104 rfl rfl oC_6 rfl (kR_of (Nat.le_of_ble_eq_true rfl) (Nat.le_of_ble_eq_true rfl)) rfl (Nat.le_of_ble_eq_true rfl) d_Pa_parseTold_54 ?_
    refine z_if_ne (pc := 57) (tgt := 62) C d_Pa_parseTold_57 (by decide) (fun c14 => ?_) (fun c14 => ?_)
    · rw [if_neg c14] at hm
      refine z_aload_n (pc := 62) C d_Pa_parseTold_62 rfl 0 rfl ?_
      refine z_iconst (pc := 63) C d_Pa_parseTold_63 ki_0 ?_
      obtain ⟨r16, σ15, e17, hm⟩ := bi_s hm
      refine z_callI (pc := 64) C (k_Pa_parseKind hAD e17) km_Pa_parseKind mC_136 rfl rfl oC_6 rfl (kR_of (Nat.le_of_ble_eq_true rfl) (Nat.le_of_ble_eq_true rfl)) rfl (Nat.le_of_ble_eq_true rfl) d_Pa_parseTold_64 ?_
      refine z_istore_n (pc := 67) (lv' := [(0, .ref (ad 6)), (1, .int (gi σ3 505)), (2, .int r16)]) C d_Pa_parseTold_67 rfl (Nat.le_of_ble_eq_true rfl) [1, 2, 0] rfl ?_
      refine z_aload_n (pc := 68) C d_Pa_parseTold_68 rfl 0 rfl ?_
      refine gC_Pa_19 (pc := 69) C  d_Pa_parseTold_69 ?_
      refine z_iload_n (pc := 72) C d_Pa_parseTold_72 rfl 1 rfl ?_
      refine z_iload_n (pc := 73) C d_Pa_parseTold_73 rfl 2 rfl ?_
      obtain ⟨σ18, e19, hm⟩ := bv_s hm
      refine z_callVN (pc := 74) C (k_Me_setValue hAD e19) km_Me_setValue mC_137 rfl rfl oC_5 rfl (kR_of (Nat.le_of_ble_eq_true rfl) (Nat.le_of_ble_eq_true rfl)) rfl (Nat.le_of_ble_eq_true rfl) d_Pa_parseTold_74 ?_
      refine z_iload_n (pc := 77) C d_Pa_parseTold_77 rfl 2 rfl ?_
      refine z_if_lt (pc := 78) (tgt := 85) C d_Pa_parseTold_78 (by decide) (fun c20 => ?_) (fun c20 => ?_)
      · rw [if_pos c20] at hm
        refine z_iconst (pc := 85) C d_Pa_parseTold_85 ki_0 ?_
        refine z_lv (lv' := []) [] rfl ?_
        exact w_Pa_parseTold_86 hAD C hr σ18 (0 : Int32) hm
      · rw [if_neg c20] at hm
        refine z_iconst (pc := 81) C d_Pa_parseTold_81 ki_1 ?_
        refine z_goto (pc := 82) (tgt := 86) C d_Pa_parseTold_82 (by decide) ?_
        refine z_lv (lv' := []) [] rfl ?_
        exact w_Pa_parseTold_86 hAD C hr σ18 (1 : Int32) hm
    · rw [if_pos c14] at hm
      refine z_iconst (pc := 60) C d_Pa_parseTold_60 ki_0 ?_
      exact z_zretE (pc := 61) C hr (by decide) hm d_Pa_parseTold_61
  · rw [if_neg c6] at hm
    refine z_aload_n (pc := 18) C d_Pa_parseTold_18 rfl 0 rfl ?_
    obtain ⟨r22, σ21, e23, hm⟩ := bi_s hm
    refine z_callI (pc := 19) C (k_Pa_misfit hAD e23) km_Pa_misfit mC_117 rfl rfl oC_6 rfl (kR_of (Nat.le_of_ble_eq_true rfl) (Nat.le_of_ble_eq_true rfl)) rfl (Nat.le_of_ble_eq_true rfl) d_Pa_parseTold_19 ?_
    obtain ⟨g24, hm⟩ := gd_s hm
    exact z_zretE (pc := 22) C hr g24 hm d_Pa_parseTold_22
set_option maxHeartbeats 4000000 in
set_option maxRecDepth 100000 in
theorem w_Pa_parseText_258 {D : va_G} {ad : Nat → Nat} {cA : Nat → ClassId} {p : Program} {l : Launch} {e : Env} {s : State} {m : MethodId} {args : Array Value} {below : List Frame} {meth : Method} {c : Code} {F : Nat} (hAD : ∀ σ, va_D (owC ad) (wdC ad cA σ)) (C : CC D ad cA (sXC ad) p s m args meth c bc_Pa_parseText "KindRounds$Parser" 4) (hr : meth.sig.returnType = none) {σ' : zS} (σ : zS) (hm : Pa_parseText_258 F σ = some σ') : ZC D ad cA p l e (rmK 45) s m args below meth c 4 (qvC D ad cA below args s σ') 258 [] [] σ := by
  unfold Pa_parseText_258 at hm
  exact z_vretE (pc := 258) C hr hm d_Pa_parseText_258
set_option maxHeartbeats 4000000 in
set_option maxRecDepth 100000 in
theorem w_Pa_parseText_251 {D : va_G} {ad : Nat → Nat} {cA : Nat → ClassId} {p : Program} {l : Launch} {e : Env} {s : State} {m : MethodId} {args : Array Value} {below : List Frame} {meth : Method} {c : Code} {F : Nat} (hAD : ∀ σ, va_D (owC ad) (wdC ad cA σ)) (C : CC D ad cA (sXC ad) p s m args meth c bc_Pa_parseText "KindRounds$Parser" 4) (hr : meth.sig.returnType = none) {σ' : zS} (rc15 : zS → Int32 → Int32 → Option zS) (h15 : ∀ σ x1 x2, rc15 σ x1 x2 = some σ' → ZC D ad cA p l e (rmK 45) s m args below meth c 4 (qvC D ad cA below args s σ') 15 [(0, .ref (ad 6)), (1, .int x1), (2, .int x2)] [] σ) (σ : zS) (x2 : Int32) (s0 : Int32) (hm : Pa_parseText_251 F rc15 σ x2 s0 = some σ') : ZC D ad cA p l e (rmK 45) s m args below meth c 4 (qvC D ad cA below args s σ') 251 [(0, .ref (ad 6)), (2, .int x2)] [.int s0] σ := by
  unfold Pa_parseText_251 at hm
  refine z_istore_n (pc := 251) (lv' := [(0, .ref (ad 6)), (1, .int s0), (2, .int x2)]) C d_Pa_parseText_251 rfl (Nat.le_of_ble_eq_true rfl) [1, 0, 2] rfl ?_
  refine z_iinc (pc := 252) (lv' := [(0, .ref (ad 6)), (1, .int s0), (2, .int (x2 + (1 : Int32)))]) C d_Pa_parseText_252 2 rfl (ii ki_1) (Nat.le_of_ble_eq_true rfl) [1, 2, 0] rfl ?_
  refine z_goto (pc := 255) (tgt := 15) C d_Pa_parseText_255 (by decide) ?_
  exact h15 σ s0 (x2 + (1 : Int32)) hm
set_option maxHeartbeats 4000000 in
set_option maxRecDepth 100000 in
theorem w_Pa_parseText_250 {D : va_G} {ad : Nat → Nat} {cA : Nat → ClassId} {p : Program} {l : Launch} {e : Env} {s : State} {m : MethodId} {args : Array Value} {below : List Frame} {meth : Method} {c : Code} {F : Nat} (hAD : ∀ σ, va_D (owC ad) (wdC ad cA σ)) (C : CC D ad cA (sXC ad) p s m args meth c bc_Pa_parseText "KindRounds$Parser" 4) (hr : meth.sig.returnType = none) {σ' : zS} (rc15 : zS → Int32 → Int32 → Option zS) (h15 : ∀ σ x1 x2, rc15 σ x1 x2 = some σ' → ZC D ad cA p l e (rmK 45) s m args below meth c 4 (qvC D ad cA below args s σ') 15 [(0, .ref (ad 6)), (1, .int x1), (2, .int x2)] [] σ) (σ : zS) (x2 : Int32) (hm : Pa_parseText_250 F rc15 σ x2 = some σ') : ZC D ad cA p l e (rmK 45) s m args below meth c 4 (qvC D ad cA below args s σ') 250 [(0, .ref (ad 6)), (2, .int x2)] [] σ := by
  unfold Pa_parseText_250 at hm
  refine z_iconst (pc := 250) C d_Pa_parseText_250 ki_0 ?_
  exact w_Pa_parseText_251 hAD C hr _ h15 σ x2 (0 : Int32) hm
set_option maxHeartbeats 4000000 in
set_option maxRecDepth 100000 in
theorem w_Pa_parseText_233 {D : va_G} {ad : Nat → Nat} {cA : Nat → ClassId} {p : Program} {l : Launch} {e : Env} {s : State} {m : MethodId} {args : Array Value} {below : List Frame} {meth : Method} {c : Code} {F : Nat} (hAD : ∀ σ, va_D (owC ad) (wdC ad cA σ)) (C : CC D ad cA (sXC ad) p s m args meth c bc_Pa_parseText "KindRounds$Parser" 4) (hr : meth.sig.returnType = none) {σ' : zS} (rc15 : zS → Int32 → Int32 → Option zS) (h15 : ∀ σ x1 x2, rc15 σ x1 x2 = some σ' → ZC D ad cA p l e (rmK 45) s m args below meth c 4 (qvC D ad cA below args s σ') 15 [(0, .ref (ad 6)), (1, .int x1), (2, .int x2)] [] σ) (σ : zS) (x1 : Int32) (x2 : Int32) (hm : Pa_parseText_233 F rc15 σ x1 x2 = some σ') : ZC D ad cA p l e (rmK 45) s m args below meth c 4 (qvC D ad cA below args s σ') 233 [(0, .ref (ad 6)), (1, .int x1), (2, .int x2)] [] σ := by
  unfold Pa_parseText_233 at hm
  refine z_iload_n (pc := 233) C d_Pa_parseText_233 rfl 1 rfl ?_
  refine z_if_eq (pc := 234) (tgt := 250) C d_Pa_parseText_234 (by decide) (fun c1 => ?_) (fun c1 => ?_)
  · rw [if_pos c1] at hm
    refine z_lv (lv' := [(0, .ref (ad 6)), (2, .int x2)]) [0, 2] rfl ?_
    exact w_Pa_parseText_250 hAD C hr _ h15 σ x2 hm
  · rw [if_neg c1] at hm
    refine z_aload_n (pc := 237) C d_Pa_parseText_237 rfl 0 rfl ?_
    refine z_bipush (pc := 238) C d_Pa_parseText_238 kb_59 ?_
    obtain ⟨r3, σ2, e4, hm⟩ := bi_s hm
    refine z_callI (pc := 240) C (k_Pa_expect hAD e4) km_Pa_expect mC_104 rfl rfl oC_6 rfl (kR_of (Nat.le_of_ble_eq_true rfl) (Nat.le_of_ble_eq_true rfl)) rfl (Nat.le_of_ble_eq_true rfl) d_Pa_parseText_240 ?_
    refine z_if_eq (pc := 243) (tgt := 250) C d_Pa_parseText_243 (by decide) (fun c5 => ?_) (fun c5 => ?_)
    · rw [if_pos c5] at hm
      refine z_lv (lv' := [(0, .ref (ad 6)), (2, .int x2)]) [0, 2] rfl ?_
      exact w_Pa_parseText_250 hAD C hr _ h15 σ2 x2 hm
    · rw [if_neg c5] at hm
      refine z_iconst (pc := 246) C d_Pa_parseText_246 ki_1 ?_
      refine z_goto (pc := 247) (tgt := 251) C d_Pa_parseText_247 (by decide) ?_
      refine z_lv (lv' := [(0, .ref (ad 6)), (2, .int x2)]) [0, 2] rfl ?_
      exact w_Pa_parseText_251 hAD C hr _ h15 σ2 x2 (1 : Int32) hm
set_option maxHeartbeats 4000000 in
set_option maxRecDepth 100000 in
theorem w_Pa_parseText_112 {D : va_G} {ad : Nat → Nat} {cA : Nat → ClassId} {p : Program} {l : Launch} {e : Env} {s : State} {m : MethodId} {args : Array Value} {below : List Frame} {meth : Method} {c : Code} {F : Nat} (hAD : ∀ σ, va_D (owC ad) (wdC ad cA σ)) (C : CC D ad cA (sXC ad) p s m args meth c bc_Pa_parseText "KindRounds$Parser" 4) (hr : meth.sig.returnType = none) {σ' : zS} (rc15 : zS → Int32 → Int32 → Option zS) (h15 : ∀ σ x1 x2, rc15 σ x1 x2 = some σ' → ZC D ad cA p l e (rmK 45) s m args below meth c 4 (qvC D ad cA below args s σ') 15 [(0, .ref (ad 6)), (1, .int x1), (2, .int x2)] [] σ) (σ : zS) (x2 : Int32) (s0 : Int32) (hm : Pa_parseText_112 F rc15 σ x2 s0 = some σ') : ZC D ad cA p l e (rmK 45) s m args below meth c 4 (qvC D ad cA below args s σ') 112 [(0, .ref (ad 6)), (2, .int x2)] [.int s0] σ := by
  unfold Pa_parseText_112 at hm
  refine z_istore_n (pc := 112) (lv' := [(0, .ref (ad 6)), (1, .int s0), (2, .int x2)]) C d_Pa_parseText_112 rfl (Nat.le_of_ble_eq_true rfl) [1, 0, 2] rfl ?_
  refine z_goto (pc := 113) (tgt := 233) C d_Pa_parseText_113 (by decide) ?_
  exact w_Pa_parseText_233 hAD C hr _ h15 σ s0 x2 hm
set_option maxHeartbeats 4000000 in
set_option maxRecDepth 100000 in
theorem w_Pa_parseText_111 {D : va_G} {ad : Nat → Nat} {cA : Nat → ClassId} {p : Program} {l : Launch} {e : Env} {s : State} {m : MethodId} {args : Array Value} {below : List Frame} {meth : Method} {c : Code} {F : Nat} (hAD : ∀ σ, va_D (owC ad) (wdC ad cA σ)) (C : CC D ad cA (sXC ad) p s m args meth c bc_Pa_parseText "KindRounds$Parser" 4) (hr : meth.sig.returnType = none) {σ' : zS} (rc15 : zS → Int32 → Int32 → Option zS) (h15 : ∀ σ x1 x2, rc15 σ x1 x2 = some σ' → ZC D ad cA p l e (rmK 45) s m args below meth c 4 (qvC D ad cA below args s σ') 15 [(0, .ref (ad 6)), (1, .int x1), (2, .int x2)] [] σ) (σ : zS) (x2 : Int32) (hm : Pa_parseText_111 F rc15 σ x2 = some σ') : ZC D ad cA p l e (rmK 45) s m args below meth c 4 (qvC D ad cA below args s σ') 111 [(0, .ref (ad 6)), (2, .int x2)] [] σ := by
  unfold Pa_parseText_111 at hm
  refine z_iconst (pc := 111) C d_Pa_parseText_111 ki_0 ?_
  exact w_Pa_parseText_112 hAD C hr _ h15 σ x2 (0 : Int32) hm
set_option maxHeartbeats 4000000 in
set_option maxRecDepth 100000 in
theorem w_Pa_parseText_167 {D : va_G} {ad : Nat → Nat} {cA : Nat → ClassId} {p : Program} {l : Launch} {e : Env} {s : State} {m : MethodId} {args : Array Value} {below : List Frame} {meth : Method} {c : Code} {F : Nat} (hAD : ∀ σ, va_D (owC ad) (wdC ad cA σ)) (C : CC D ad cA (sXC ad) p s m args meth c bc_Pa_parseText "KindRounds$Parser" 4) (hr : meth.sig.returnType = none) {σ' : zS} (rc15 : zS → Int32 → Int32 → Option zS) (h15 : ∀ σ x1 x2, rc15 σ x1 x2 = some σ' → ZC D ad cA p l e (rmK 45) s m args below meth c 4 (qvC D ad cA below args s σ') 15 [(0, .ref (ad 6)), (1, .int x1), (2, .int x2)] [] σ) (σ : zS) (x2 : Int32) (s0 : Int32) (hm : Pa_parseText_167 F rc15 σ x2 s0 = some σ') : ZC D ad cA p l e (rmK 45) s m args below meth c 4 (qvC D ad cA below args s σ') 167 [(0, .ref (ad 6)), (2, .int x2)] [.int s0] σ := by
  unfold Pa_parseText_167 at hm
  refine z_istore_n (pc := 167) (lv' := [(0, .ref (ad 6)), (1, .int s0), (2, .int x2)]) C d_Pa_parseText_167 rfl (Nat.le_of_ble_eq_true rfl) [1, 0, 2] rfl ?_
  refine z_goto (pc := 168) (tgt := 233) C d_Pa_parseText_168 (by decide) ?_
  exact w_Pa_parseText_233 hAD C hr _ h15 σ s0 x2 hm
set_option maxHeartbeats 4000000 in
set_option maxRecDepth 100000 in
theorem w_Pa_parseText_166 {D : va_G} {ad : Nat → Nat} {cA : Nat → ClassId} {p : Program} {l : Launch} {e : Env} {s : State} {m : MethodId} {args : Array Value} {below : List Frame} {meth : Method} {c : Code} {F : Nat} (hAD : ∀ σ, va_D (owC ad) (wdC ad cA σ)) (C : CC D ad cA (sXC ad) p s m args meth c bc_Pa_parseText "KindRounds$Parser" 4) (hr : meth.sig.returnType = none) {σ' : zS} (rc15 : zS → Int32 → Int32 → Option zS) (h15 : ∀ σ x1 x2, rc15 σ x1 x2 = some σ' → ZC D ad cA p l e (rmK 45) s m args below meth c 4 (qvC D ad cA below args s σ') 15 [(0, .ref (ad 6)), (1, .int x1), (2, .int x2)] [] σ) (σ : zS) (x2 : Int32) (hm : Pa_parseText_166 F rc15 σ x2 = some σ') : ZC D ad cA p l e (rmK 45) s m args below meth c 4 (qvC D ad cA below args s σ') 166 [(0, .ref (ad 6)), (2, .int x2)] [] σ := by
  unfold Pa_parseText_166 at hm
  refine z_iconst (pc := 166) C d_Pa_parseText_166 ki_0 ?_
  exact w_Pa_parseText_167 hAD C hr _ h15 σ x2 (0 : Int32) hm
set_option maxHeartbeats 4000000 in
set_option maxRecDepth 100000 in
theorem w_Pa_parseText_216 {D : va_G} {ad : Nat → Nat} {cA : Nat → ClassId} {p : Program} {l : Launch} {e : Env} {s : State} {m : MethodId} {args : Array Value} {below : List Frame} {meth : Method} {c : Code} {F : Nat} (hAD : ∀ σ, va_D (owC ad) (wdC ad cA σ)) (C : CC D ad cA (sXC ad) p s m args meth c bc_Pa_parseText "KindRounds$Parser" 4) (hr : meth.sig.returnType = none) {σ' : zS} (rc15 : zS → Int32 → Int32 → Option zS) (h15 : ∀ σ x1 x2, rc15 σ x1 x2 = some σ' → ZC D ad cA p l e (rmK 45) s m args below meth c 4 (qvC D ad cA below args s σ') 15 [(0, .ref (ad 6)), (1, .int x1), (2, .int x2)] [] σ) (σ : zS) (x2 : Int32) (s0 : Int32) (hm : Pa_parseText_216 F rc15 σ x2 s0 = some σ') : ZC D ad cA p l e (rmK 45) s m args below meth c 4 (qvC D ad cA below args s σ') 216 [(0, .ref (ad 6)), (2, .int x2)] [.int s0] σ := by
  unfold Pa_parseText_216 at hm
  refine z_istore_n (pc := 216) (lv' := [(0, .ref (ad 6)), (1, .int s0), (2, .int x2)]) C d_Pa_parseText_216 rfl (Nat.le_of_ble_eq_true rfl) [1, 0, 2] rfl ?_
  refine z_goto (pc := 217) (tgt := 233) C d_Pa_parseText_217 (by decide) ?_
  exact w_Pa_parseText_233 hAD C hr _ h15 σ s0 x2 hm
set_option maxHeartbeats 4000000 in
set_option maxRecDepth 100000 in
theorem w_Pa_parseText_215 {D : va_G} {ad : Nat → Nat} {cA : Nat → ClassId} {p : Program} {l : Launch} {e : Env} {s : State} {m : MethodId} {args : Array Value} {below : List Frame} {meth : Method} {c : Code} {F : Nat} (hAD : ∀ σ, va_D (owC ad) (wdC ad cA σ)) (C : CC D ad cA (sXC ad) p s m args meth c bc_Pa_parseText "KindRounds$Parser" 4) (hr : meth.sig.returnType = none) {σ' : zS} (rc15 : zS → Int32 → Int32 → Option zS) (h15 : ∀ σ x1 x2, rc15 σ x1 x2 = some σ' → ZC D ad cA p l e (rmK 45) s m args below meth c 4 (qvC D ad cA below args s σ') 15 [(0, .ref (ad 6)), (1, .int x1), (2, .int x2)] [] σ) (σ : zS) (x2 : Int32) (hm : Pa_parseText_215 F rc15 σ x2 = some σ') : ZC D ad cA p l e (rmK 45) s m args below meth c 4 (qvC D ad cA below args s σ') 215 [(0, .ref (ad 6)), (2, .int x2)] [] σ := by
  unfold Pa_parseText_215 at hm
  refine z_iconst (pc := 215) C d_Pa_parseText_215 ki_0 ?_
  exact w_Pa_parseText_216 hAD C hr _ h15 σ x2 (0 : Int32) hm
set_option maxHeartbeats 4000000 in
set_option maxRecDepth 100000 in
theorem w_Pa_parseText_15 {D : va_G} {ad : Nat → Nat} {cA : Nat → ClassId} {p : Program} {l : Launch} {e : Env} {s : State} {m : MethodId} {args : Array Value} {below : List Frame} {meth : Method} {c : Code} {F : Nat} (hAD : ∀ σ, va_D (owC ad) (wdC ad cA σ)) (C : CC D ad cA (sXC ad) p s m args meth c bc_Pa_parseText "KindRounds$Parser" 4) (hr : meth.sig.returnType = none) {σ' : zS} : ∀ (n : Nat) (σ : zS) (x1 : Int32) (x2 : Int32), Pa_parseText_15 F n σ x1 x2 = some σ' → ZC D ad cA p l e (rmK 45) s m args below meth c 4 (qvC D ad cA below args s σ') 15 [(0, .ref (ad 6)), (1, .int x1), (2, .int x2)] [] σ := by
  intro n
  induction n with
  | zero => intro σ x1 x2 hm; cases hm
  | succ n h15 =>
    intro σ x1 x2 hm
    have hm : Pa_parseText_b15 F (Pa_parseText_15 F n) σ x1 x2 = some σ' := hm
    unfold Pa_parseText_b15 at hm
    refine z_iload_n (pc := 15) C d_Pa_parseText_15 rfl 2 rfl ?_
    refine z_sipush (pc := 16) C d_Pa_parseText_16 ks_1200 ?_
    refine z_icmp_ge (pc := 19) (tgt := 258) C d_Pa_parseText_19 (by decide) (fun c1 => ?_) (fun c1 => ?_)
    · rw [if_pos c1] at hm
      refine z_lv (lv' := []) [] rfl ?_
      exact w_Pa_parseText_258 hAD C hr σ hm
    · rw [if_neg c1] at hm
      refine z_iload_n (pc := 22) C d_Pa_parseText_22 rfl 1 rfl ?_
      refine z_if_eq (pc := 23) (tgt := 258) C d_Pa_parseText_23 (by decide) (fun c2 => ?_) (fun c2 => ?_)
      · rw [if_pos c2] at hm
        refine z_lv (lv' := []) [] rfl ?_
        exact w_Pa_parseText_258 hAD C hr σ hm
      · rw [if_neg c2] at hm
        refine z_aload_n (pc := 26) C d_Pa_parseText_26 rfl 0 rfl ?_
        refine gC_Pa_9 (pc := 27) C  d_Pa_parseText_27 ?_
        obtain ⟨r4, σ3, e5, hm⟩ := bi_s hm
        refine z_callIN (pc := 30) C (k_Ta_sort hAD e5) km_Ta_sort mC_106 rfl rfl oC_1 rfl (kR_of (Nat.le_of_ble_eq_true rfl) (Nat.le_of_ble_eq_true rfl)) rfl (Nat.le_of_ble_eq_true rfl) d_Pa_parseText_30 ?_
        refine z_iconst (pc := 33) C d_Pa_parseText_33 ki_1 ?_
        refine z_icmp_eq (pc := 34) (tgt := 258) C d_Pa_parseText_34 (by decide) (fun c6 => ?_) (fun c6 => ?_)
        · rw [if_pos c6] at hm
          refine z_lv (lv' := []) [] rfl ?_
          exact w_Pa_parseText_258 hAD C hr σ3 hm
        · rw [if_neg c6] at hm
          refine z_aload_n (pc := 37) C d_Pa_parseText_37 rfl 0 rfl ?_
          refine gC_Pa_9 (pc := 38) C  d_Pa_parseText_38 ?_
          obtain ⟨r8, σ7, e9, hm⟩ := bi_s hm
          refine z_callIN (pc := 41) C (k_Ta_sort hAD e9) km_Ta_sort mC_106 rfl rfl oC_1 rfl (kR_of (Nat.le_of_ble_eq_true rfl) (Nat.le_of_ble_eq_true rfl)) rfl (Nat.le_of_ble_eq_true rfl) d_Pa_parseText_41 ?_
          refine z_istore_n (pc := 44) (lv' := [(0, .ref (ad 6)), (1, .int x1), (2, .int x2), (3, .int r8)]) C d_Pa_parseText_44 rfl (Nat.le_of_ble_eq_true rfl) [1, 2, 3, 0] rfl ?_
          refine z_iload_n (pc := 45) C d_Pa_parseText_45 rfl 3 rfl ?_
          by_cases c26 : r8 = (4 : Int32)
          · rw [if_pos c26] at hm
            refine z_tableIn (pc := 46) (off := 30) (tgt := 76) C d_Pa_parseText_46 (by rw [c26]; decide) (by rw [c26]; decide) (by rw [c26]; decide) (by decide) ?_
            refine z_aload_n (pc := 76) C d_Pa_parseText_76 rfl 0 rfl ?_
            refine z_iconst (pc := 77) C d_Pa_parseText_77 ki_0 ?_
            obtain ⟨r11, σ10, e12, hm⟩ := bi_s hm
            refine z_callI (pc := 78) C (k_Pa_parseHead hAD e12) km_Pa_parseHead mC_107 rfl rfl oC_6 rfl (kR_of (Nat.le_of_ble_eq_true rfl) (Nat.le_of_ble_eq_true rfl)) rfl (Nat.le_of_ble_eq_true rfl) d_Pa_parseText_78 ?_
            refine z_if_eq (pc := 81) (tgt := 111) C d_Pa_parseText_81 (by decide) (fun c13 => ?_) (fun c13 => ?_)
            · rw [if_pos c13] at hm
              refine z_lv (lv' := [(0, .ref (ad 6)), (2, .int x2)]) [0, 2] rfl ?_
              exact w_Pa_parseText_111 hAD C hr _ h15 σ10 x2 hm
            · rw [if_neg c13] at hm
              refine z_aload_n (pc := 84) C d_Pa_parseText_84 rfl 0 rfl ?_
              obtain ⟨r15, σ14, e16, hm⟩ := bi_s hm
              refine z_callI (pc := 85) C (k_Pa_parseParams hAD e16) km_Pa_parseParams mC_108 rfl rfl oC_6 rfl (kR_of (Nat.le_of_ble_eq_true rfl) (Nat.le_of_ble_eq_true rfl)) rfl (Nat.le_of_ble_eq_true rfl) d_Pa_parseText_85 ?_
              refine z_if_eq (pc := 88) (tgt := 111) C d_Pa_parseText_88 (by decide) (fun c17 => ?_) (fun c17 => ?_)
              · rw [if_pos c17] at hm
                refine z_lv (lv' := [(0, .ref (ad 6)), (2, .int x2)]) [0, 2] rfl ?_
                exact w_Pa_parseText_111 hAD C hr _ h15 σ14 x2 hm
              · rw [if_neg c17] at hm
                refine z_aload_n (pc := 91) C d_Pa_parseText_91 rfl 0 rfl ?_
                refine z_bipush (pc := 92) C d_Pa_parseText_92 kb_61 ?_
                obtain ⟨r19, σ18, e20, hm⟩ := bi_s hm
                refine z_callI (pc := 94) C (k_Pa_expect hAD e20) km_Pa_expect mC_104 rfl rfl oC_6 rfl (kR_of (Nat.le_of_ble_eq_true rfl) (Nat.le_of_ble_eq_true rfl)) rfl (Nat.le_of_ble_eq_true rfl) d_Pa_parseText_94 ?_
                refine z_if_eq (pc := 97) (tgt := 111) C d_Pa_parseText_97 (by decide) (fun c21 => ?_) (fun c21 => ?_)
                · rw [if_pos c21] at hm
                  refine z_lv (lv' := [(0, .ref (ad 6)), (2, .int x2)]) [0, 2] rfl ?_
                  exact w_Pa_parseText_111 hAD C hr _ h15 σ18 x2 hm
                · rw [if_neg c21] at hm
                  refine z_aload_n (pc := 100) C d_Pa_parseText_100 rfl 0 rfl ?_
                  obtain ⟨r23, σ22, e24, hm⟩ := bi_s hm
                  refine z_callI (pc := 101) C (k_Pa_parseCons hAD e24) km_Pa_parseCons mC_109 rfl rfl oC_6 rfl (kR_of (Nat.le_of_ble_eq_true rfl) (Nat.le_of_ble_eq_true rfl)) rfl (Nat.le_of_ble_eq_true rfl) d_Pa_parseText_101 ?_
                  refine z_if_eq (pc := 104) (tgt := 111) C d_Pa_parseText_104 (by decide) (fun c25 => ?_) (fun c25 => ?_)
                  · rw [if_pos c25] at hm
                    refine z_lv (lv' := [(0, .ref (ad 6)), (2, .int x2)]) [0, 2] rfl ?_
                    exact w_Pa_parseText_111 hAD C hr _ h15 σ22 x2 hm
                  · rw [if_neg c25] at hm
                    refine z_iconst (pc := 107) C d_Pa_parseText_107 ki_1 ?_
                    refine z_goto (pc := 108) (tgt := 112) C d_Pa_parseText_108 (by decide) ?_
                    refine z_lv (lv' := [(0, .ref (ad 6)), (2, .int x2)]) [0, 2] rfl ?_
                    exact w_Pa_parseText_112 hAD C hr _ h15 σ22 x2 (1 : Int32) hm
          · rw [if_neg c26] at hm
            by_cases c48 : r8 = (5 : Int32)
            · rw [if_pos c48] at hm
              refine z_tableIn (pc := 46) (off := 70) (tgt := 116) C d_Pa_parseText_46 (by rw [c48]; decide) (by rw [c48]; decide) (by rw [c48]; decide) (by decide) ?_
              refine z_aload_n (pc := 116) C d_Pa_parseText_116 rfl 0 rfl ?_
              refine z_iconst (pc := 117) C d_Pa_parseText_117 ki_1 ?_
              obtain ⟨r28, σ27, e29, hm⟩ := bi_s hm
              refine z_callI (pc := 118) C (k_Pa_parseHead hAD e29) km_Pa_parseHead mC_107 rfl rfl oC_6 rfl (kR_of (Nat.le_of_ble_eq_true rfl) (Nat.le_of_ble_eq_true rfl)) rfl (Nat.le_of_ble_eq_true rfl) d_Pa_parseText_118 ?_
              refine z_if_eq (pc := 121) (tgt := 166) C d_Pa_parseText_121 (by decide) (fun c30 => ?_) (fun c30 => ?_)
              · rw [if_pos c30] at hm
                refine z_lv (lv' := [(0, .ref (ad 6)), (2, .int x2)]) [0, 2] rfl ?_
                exact w_Pa_parseText_166 hAD C hr _ h15 σ27 x2 hm
              · rw [if_neg c30] at hm
                refine z_aload_n (pc := 124) C d_Pa_parseText_124 rfl 0 rfl ?_
                obtain ⟨r32, σ31, e33, hm⟩ := bi_s hm
                refine z_callI (pc := 125) C (k_Pa_parseParams hAD e33) km_Pa_parseParams mC_108 rfl rfl oC_6 rfl (kR_of (Nat.le_of_ble_eq_true rfl) (Nat.le_of_ble_eq_true rfl)) rfl (Nat.le_of_ble_eq_true rfl) d_Pa_parseText_125 ?_
                refine z_if_eq (pc := 128) (tgt := 166) C d_Pa_parseText_128 (by decide) (fun c34 => ?_) (fun c34 => ?_)
                · rw [if_pos c34] at hm
                  refine z_lv (lv' := [(0, .ref (ad 6)), (2, .int x2)]) [0, 2] rfl ?_
                  exact w_Pa_parseText_166 hAD C hr _ h15 σ31 x2 hm
                · rw [if_neg c34] at hm
                  refine z_aload_n (pc := 131) C d_Pa_parseText_131 rfl 0 rfl ?_
                  refine z_bipush (pc := 132) C d_Pa_parseText_132 kb_61 ?_
                  obtain ⟨r36, σ35, e37, hm⟩ := bi_s hm
                  refine z_callI (pc := 134) C (k_Pa_expect hAD e37) km_Pa_expect mC_104 rfl rfl oC_6 rfl (kR_of (Nat.le_of_ble_eq_true rfl) (Nat.le_of_ble_eq_true rfl)) rfl (Nat.le_of_ble_eq_true rfl) d_Pa_parseText_134 ?_
                  refine z_if_eq (pc := 137) (tgt := 166) C d_Pa_parseText_137 (by decide) (fun c38 => ?_) (fun c38 => ?_)
                  · rw [if_pos c38] at hm
                    refine z_lv (lv' := [(0, .ref (ad 6)), (2, .int x2)]) [0, 2] rfl ?_
                    exact w_Pa_parseText_166 hAD C hr _ h15 σ35 x2 hm
                  · rw [if_neg c38] at hm
                    refine z_aload_n (pc := 140) C d_Pa_parseText_140 rfl 0 rfl ?_
                    refine gC_Pa_37 (pc := 141) (v := (gr σ35 605)) C rfl d_Pa_parseText_141 ?_
                    refine z_aload_n (pc := 144) C d_Pa_parseText_144 rfl 0 rfl ?_
                    refine gC_Pa_58 (pc := 145) (v := (gi σ35 606)) C rfl d_Pa_parseText_145 ?_
                    obtain ⟨g40, hm⟩ := gd_s hm
                    obtain ⟨r41, σ39, e42, hm⟩ := bi_s hm
                    refine z_callIN (pc := 148) C (k_Ro_beginTerm hAD e42) km_Ro_beginTerm mC_112 rfl rfl (oC_Ro g40) rfl (kR_of (Nat.le_of_ble_eq_true rfl) (Nat.le_of_ble_eq_true rfl)) rfl (Nat.le_of_ble_eq_true rfl) d_Pa_parseText_148 ?_
                    refine z_if_eq (pc := 151) (tgt := 166) C d_Pa_parseText_151 (by decide) (fun c43 => ?_) (fun c43 => ?_)
                    · rw [if_pos c43] at hm
                      refine z_lv (lv' := [(0, .ref (ad 6)), (2, .int x2)]) [0, 2] rfl ?_
                      exact w_Pa_parseText_166 hAD C hr _ h15 σ39 x2 hm
                    · rw [if_neg c43] at hm
                      refine z_aload_n (pc := 154) C d_Pa_parseText_154 rfl 0 rfl ?_
                      refine z_iconst (pc := 155) C d_Pa_parseText_155 ki_0 ?_
                      obtain ⟨r45, σ44, e46, hm⟩ := bi_s hm
                      refine z_callI (pc := 156) C (k_Pa_parseType hAD e46) km_Pa_parseType mC_113 rfl rfl oC_6 rfl (kR_of (Nat.le_of_ble_eq_true rfl) (Nat.le_of_ble_eq_true rfl)) rfl (Nat.le_of_ble_eq_true rfl) d_Pa_parseText_156 ?_
                      refine z_if_eq (pc := 159) (tgt := 166) C d_Pa_parseText_159 (by decide) (fun c47 => ?_) (fun c47 => ?_)
                      · rw [if_pos c47] at hm
                        refine z_lv (lv' := [(0, .ref (ad 6)), (2, .int x2)]) [0, 2] rfl ?_
                        exact w_Pa_parseText_166 hAD C hr _ h15 σ44 x2 hm
                      · rw [if_neg c47] at hm
                        refine z_iconst (pc := 162) C d_Pa_parseText_162 ki_1 ?_
                        refine z_goto (pc := 163) (tgt := 167) C d_Pa_parseText_163 (by decide) ?_
                        refine z_lv (lv' := [(0, .ref (ad 6)), (2, .int x2)]) [0, 2] rfl ?_
                        exact w_Pa_parseText_167 hAD C hr _ h15 σ44 x2 (1 : Int32) hm
            · rw [if_neg c48] at hm
              by_cases c69 : r8 = (6 : Int32)
              · rw [if_pos c69] at hm
                refine z_tableIn (pc := 46) (off := 125) (tgt := 171) C d_Pa_parseText_46 (by rw [c69]; decide) (by rw [c69]; decide) (by rw [c69]; decide) (by decide) ?_
                refine z_aload_n (pc := 171) C d_Pa_parseText_171 rfl 0 rfl ?_
                refine z_iconst (pc := 172) C d_Pa_parseText_172 ki_2 ?_
                obtain ⟨r50, σ49, e51, hm⟩ := bi_s hm
                refine z_callI (pc := 173) C (k_Pa_parseHead hAD e51) km_Pa_parseHead mC_107 rfl rfl oC_6 rfl (kR_of (Nat.le_of_ble_eq_true rfl) (Nat.le_of_ble_eq_true rfl)) rfl (Nat.le_of_ble_eq_true rfl) d_Pa_parseText_173 ?_
                refine z_if_eq (pc := 176) (tgt := 215) C d_Pa_parseText_176 (by decide) (fun c52 => ?_) (fun c52 => ?_)
                · rw [if_pos c52] at hm
                  refine z_lv (lv' := [(0, .ref (ad 6)), (2, .int x2)]) [0, 2] rfl ?_
                  exact w_Pa_parseText_215 hAD C hr _ h15 σ49 x2 hm
                · rw [if_neg c52] at hm
                  refine z_aload_n (pc := 179) C d_Pa_parseText_179 rfl 0 rfl ?_
                  obtain ⟨r54, σ53, e55, hm⟩ := bi_s hm
                  refine z_callI (pc := 180) C (k_Pa_parseParam hAD e55) km_Pa_parseParam mC_114 rfl rfl oC_6 rfl (kR_of (Nat.le_of_ble_eq_true rfl) (Nat.le_of_ble_eq_true rfl)) rfl (Nat.le_of_ble_eq_true rfl) d_Pa_parseText_180 ?_
                  refine z_if_eq (pc := 183) (tgt := 215) C d_Pa_parseText_183 (by decide) (fun c56 => ?_) (fun c56 => ?_)
                  · rw [if_pos c56] at hm
                    refine z_lv (lv' := [(0, .ref (ad 6)), (2, .int x2)]) [0, 2] rfl ?_
                    exact w_Pa_parseText_215 hAD C hr _ h15 σ53 x2 hm
                  · rw [if_neg c56] at hm
                    refine z_aload_n (pc := 186) C d_Pa_parseText_186 rfl 0 rfl ?_
                    refine z_bipush (pc := 187) C d_Pa_parseText_187 kb_123 ?_
                    obtain ⟨r58, σ57, e59, hm⟩ := bi_s hm
                    refine z_callI (pc := 189) C (k_Pa_expect hAD e59) km_Pa_expect mC_104 rfl rfl oC_6 rfl (kR_of (Nat.le_of_ble_eq_true rfl) (Nat.le_of_ble_eq_true rfl)) rfl (Nat.le_of_ble_eq_true rfl) d_Pa_parseText_189 ?_
                    refine z_if_eq (pc := 192) (tgt := 215) C d_Pa_parseText_192 (by decide) (fun c60 => ?_) (fun c60 => ?_)
                    · rw [if_pos c60] at hm
                      refine z_lv (lv' := [(0, .ref (ad 6)), (2, .int x2)]) [0, 2] rfl ?_
                      exact w_Pa_parseText_215 hAD C hr _ h15 σ57 x2 hm
                    · rw [if_neg c60] at hm
                      refine z_aload_n (pc := 195) C d_Pa_parseText_195 rfl 0 rfl ?_
                      obtain ⟨r62, σ61, e63, hm⟩ := bi_s hm
                      refine z_callI (pc := 196) C (k_Pa_parseMethods hAD e63) km_Pa_parseMethods mC_115 rfl rfl oC_6 rfl (kR_of (Nat.le_of_ble_eq_true rfl) (Nat.le_of_ble_eq_true rfl)) rfl (Nat.le_of_ble_eq_true rfl) d_Pa_parseText_196 ?_
                      refine z_if_eq (pc := 199) (tgt := 215) C d_Pa_parseText_199 (by decide) (fun c64 => ?_) (fun c64 => ?_)
                      · rw [if_pos c64] at hm
                        refine z_lv (lv' := [(0, .ref (ad 6)), (2, .int x2)]) [0, 2] rfl ?_
                        exact w_Pa_parseText_215 hAD C hr _ h15 σ61 x2 hm
                      · rw [if_neg c64] at hm
                        refine z_aload_n (pc := 202) C d_Pa_parseText_202 rfl 0 rfl ?_
                        refine z_bipush (pc := 203) C d_Pa_parseText_203 kb_125 ?_
                        obtain ⟨r66, σ65, e67, hm⟩ := bi_s hm
                        refine z_callI (pc := 205) C (k_Pa_expect hAD e67) km_Pa_expect mC_104 rfl rfl oC_6 rfl (kR_of (Nat.le_of_ble_eq_true rfl) (Nat.le_of_ble_eq_true rfl)) rfl (Nat.le_of_ble_eq_true rfl) d_Pa_parseText_205 ?_
                        refine z_if_eq (pc := 208) (tgt := 215) C d_Pa_parseText_208 (by decide) (fun c68 => ?_) (fun c68 => ?_)
                        · rw [if_pos c68] at hm
                          refine z_lv (lv' := [(0, .ref (ad 6)), (2, .int x2)]) [0, 2] rfl ?_
                          exact w_Pa_parseText_215 hAD C hr _ h15 σ65 x2 hm
                        · rw [if_neg c68] at hm
                          refine z_iconst (pc := 211) C d_Pa_parseText_211 ki_1 ?_
                          refine z_goto (pc := 212) (tgt := 216) C d_Pa_parseText_212 (by decide) ?_
                          refine z_lv (lv' := [(0, .ref (ad 6)), (2, .int x2)]) [0, 2] rfl ?_
                          exact w_Pa_parseText_216 hAD C hr _ h15 σ65 x2 (1 : Int32) hm
              · rw [if_neg c69] at hm
                by_cases c73 : r8 = (7 : Int32)
                · rw [if_pos c73] at hm
                  refine z_tableIn (pc := 46) (off := 174) (tgt := 220) C d_Pa_parseText_46 (by rw [c73]; decide) (by rw [c73]; decide) (by rw [c73]; decide) (by decide) ?_
                  refine z_aload_n (pc := 220) C d_Pa_parseText_220 rfl 0 rfl ?_
                  obtain ⟨r71, σ70, e72, hm⟩ := bi_s hm
                  refine z_callI (pc := 221) C (k_Pa_parseTold hAD e72) km_Pa_parseTold mC_116 rfl rfl oC_6 rfl (kR_of (Nat.le_of_ble_eq_true rfl) (Nat.le_of_ble_eq_true rfl)) rfl (Nat.le_of_ble_eq_true rfl) d_Pa_parseText_221 ?_
                  refine z_istore_n (pc := 224) (lv' := [(0, .ref (ad 6)), (1, .int r71), (2, .int x2), (3, .int r8)]) C d_Pa_parseText_224 rfl (Nat.le_of_ble_eq_true rfl) [1, 0, 2, 3] rfl ?_
                  refine z_goto (pc := 225) (tgt := 233) C d_Pa_parseText_225 (by decide) ?_
                  refine z_lv (lv' := [(0, .ref (ad 6)), (1, .int r71), (2, .int x2)]) [0, 1, 2] rfl ?_
                  exact w_Pa_parseText_233 hAD C hr _ h15 σ70 r71 x2 hm
                · rw [if_neg c73] at hm
                  refine z_tableOut (pc := 46) (tgt := 228) C d_Pa_parseText_46 (sw_out4_7 c26 c48 c69 c73) (by decide) ?_
                  refine z_aload_n (pc := 228) C d_Pa_parseText_228 rfl 0 rfl ?_
                  obtain ⟨r75, σ74, e76, hm⟩ := bi_s hm
                  refine z_callI (pc := 229) C (k_Pa_misfit hAD e76) km_Pa_misfit mC_117 rfl rfl oC_6 rfl (kR_of (Nat.le_of_ble_eq_true rfl) (Nat.le_of_ble_eq_true rfl)) rfl (Nat.le_of_ble_eq_true rfl) d_Pa_parseText_229 ?_
                  refine z_istore_n (pc := 232) (lv' := [(0, .ref (ad 6)), (1, .int r75), (2, .int x2), (3, .int r8)]) C d_Pa_parseText_232 rfl (Nat.le_of_ble_eq_true rfl) [1, 0, 2, 3] rfl ?_
                  refine z_lv (lv' := [(0, .ref (ad 6)), (1, .int r75), (2, .int x2)]) [0, 1, 2] rfl ?_
                  exact w_Pa_parseText_233 hAD C hr _ h15 σ74 r75 x2 hm
set_option maxHeartbeats 4000000 in
set_option maxRecDepth 100000 in
theorem k_Pa_parseText {l : Launch} {D : va_G} {ad : Nat → Nat} {cA : Nat → ClassId} {F : Nat} (hAD : ∀ σ, va_D (owC ad) (wdC ad cA σ)) {σ : zS} {σ' : zS} (hm : Pa_parseText F σ = some σ') : kVC l D ad cA (sXC ad) y_Pa_parseText bc_Pa_parseText 4 45 [.ref (ad 6)] σ σ' := by
  refine kV_of (by decide) hAD sXC_P (Nat.le_of_ble_eq_true rfl) ?_
  intro p e s m below meth c C hr
  unfold Pa_parseText at hm
  refine z_lv (lv' := [(0, .ref (ad 6))]) [0] rfl ?_
  refine z_aload_n (pc := 0) C d_Pa_parseText_0 rfl 0 rfl ?_
  refine z_aload_n (pc := 1) C d_Pa_parseText_1 rfl 0 rfl ?_
  refine gC_Pa_15 (pc := 2) C  d_Pa_parseText_2 ?_
  refine gC_Pa_31 (pc := 5) C  d_Pa_parseText_5 ?_
  refine pC_Pa_37 (pc := 8) C  d_Pa_parseText_8 ?_
  refine z_iconst (pc := 11) C d_Pa_parseText_11 ki_1 ?_
  refine z_istore_n (pc := 12) (lv' := [(0, .ref (ad 6)), (1, .int (1 : Int32))]) C d_Pa_parseText_12 rfl (Nat.le_of_ble_eq_true rfl) [1, 0] rfl ?_
  refine z_iconst (pc := 13) C d_Pa_parseText_13 ki_0 ?_
  refine z_istore_n (pc := 14) (lv' := [(0, .ref (ad 6)), (1, .int (1 : Int32)), (2, .int (0 : Int32))]) C d_Pa_parseText_14 rfl (Nat.le_of_ble_eq_true rfl) [1, 2, 0] rfl ?_
  exact w_Pa_parseText_15 hAD C hr F (sr σ 605 10) (1 : Int32) (0 : Int32) hm
set_option maxHeartbeats 4000000 in
set_option maxRecDepth 100000 in
theorem w_Pa_parseTypes_114 {D : va_G} {ad : Nat → Nat} {cA : Nat → ClassId} {p : Program} {l : Launch} {e : Env} {s : State} {m : MethodId} {args : Array Value} {below : List Frame} {meth : Method} {c : Code} {F : Nat} (hAD : ∀ σ, va_D (owC ad) (wdC ad cA σ)) (C : CC D ad cA (sXC ad) p s m args meth c bc_Pa_parseTypes "KindRounds$Parser" 5) (hr : meth.sig.returnType = none) {σ' : zS} (σ : zS) (hm : Pa_parseTypes_114 F σ = some σ') : ZC D ad cA p l e (rmK 43) s m args below meth c 5 (qvC D ad cA below args s σ') 114 [] [] σ := by
  unfold Pa_parseTypes_114 at hm
  exact z_vretE (pc := 114) C hr hm d_Pa_parseTypes_114
set_option maxHeartbeats 4000000 in
set_option maxRecDepth 100000 in
theorem w_Pa_parseTypes_94 {D : va_G} {ad : Nat → Nat} {cA : Nat → ClassId} {p : Program} {l : Launch} {e : Env} {s : State} {m : MethodId} {args : Array Value} {below : List Frame} {meth : Method} {c : Code} {F : Nat} (hAD : ∀ σ, va_D (owC ad) (wdC ad cA σ)) (C : CC D ad cA (sXC ad) p s m args meth c bc_Pa_parseTypes "KindRounds$Parser" 5) (hr : meth.sig.returnType = none) {σ' : zS} (σ : zS) (x3 : Int32) (hm : Pa_parseTypes_94 F σ x3 = some σ') : ZC D ad cA p l e (rmK 43) s m args below meth c 5 (qvC D ad cA below args s σ') 94 [(0, .ref (ad 6)), (3, .int x3)] [] σ := by
  unfold Pa_parseTypes_94 at hm
  refine z_iload_n (pc := 94) C d_Pa_parseTypes_94 rfl 1 rfl ?_
  refine z_if_eq (pc := 95) (tgt := 114) C d_Pa_parseTypes_95 (by decide) (fun c1 => ?_) (fun c1 => ?_)
  · rw [if_pos c1] at hm
    refine z_lv (lv' := []) [] rfl ?_
    exact w_Pa_parseTypes_114 hAD C hr σ hm
  · rw [if_neg c1] at hm
    refine z_aload_n (pc := 98) C d_Pa_parseTypes_98 rfl 0 rfl ?_
    refine gC_Pa_9 (pc := 99) C  d_Pa_parseTypes_99 ?_
    obtain ⟨r3, σ2, e4, hm⟩ := bi_s hm
    refine z_callIN (pc := 102) C (k_Ta_sort hAD e4) km_Ta_sort mC_106 rfl rfl oC_1 rfl (kR_of (Nat.le_of_ble_eq_true rfl) (Nat.le_of_ble_eq_true rfl)) rfl (Nat.le_of_ble_eq_true rfl) d_Pa_parseTypes_102 ?_
    refine z_iconst (pc := 105) C d_Pa_parseTypes_105 ki_1 ?_
    refine z_icmp_eq (pc := 106) (tgt := 114) C d_Pa_parseTypes_106 (by decide) (fun c5 => ?_) (fun c5 => ?_)
    · rw [if_pos c5] at hm
      refine z_lv (lv' := []) [] rfl ?_
      exact w_Pa_parseTypes_114 hAD C hr σ2 hm
    · rw [if_neg c5] at hm
      refine z_aload_n (pc := 109) C d_Pa_parseTypes_109 rfl 0 rfl ?_
      obtain ⟨r7, σ6, e8, hm⟩ := bi_s hm
      refine z_callI (pc := 110) C (k_Pa_misfit hAD e8) km_Pa_misfit mC_117 rfl rfl oC_6 rfl (kR_of (Nat.le_of_ble_eq_true rfl) (Nat.le_of_ble_eq_true rfl)) rfl (Nat.le_of_ble_eq_true rfl) d_Pa_parseTypes_110 ?_
      refine z_pop (pc := 113) C d_Pa_parseTypes_113 rfl ?_
      refine z_lv (lv' := []) [] rfl ?_
      exact w_Pa_parseTypes_114 hAD C hr σ6 hm
set_option maxHeartbeats 4000000 in
set_option maxRecDepth 100000 in
theorem w_Pa_parseTypes_87 {D : va_G} {ad : Nat → Nat} {cA : Nat → ClassId} {p : Program} {l : Launch} {e : Env} {s : State} {m : MethodId} {args : Array Value} {below : List Frame} {meth : Method} {c : Code} {F : Nat} (hAD : ∀ σ, va_D (owC ad) (wdC ad cA σ)) (C : CC D ad cA (sXC ad) p s m args meth c bc_Pa_parseTypes "KindRounds$Parser" 5) (hr : meth.sig.returnType = none) {σ' : zS} (rc41 : zS → Int32 → Int32 → Int32 → Option zS) (h41 : ∀ σ x2 x3 x4, rc41 σ x2 x3 x4 = some σ' → ZC D ad cA p l e (rmK 43) s m args below meth c 5 (qvC D ad cA below args s σ') 41 [(0, .ref (ad 6)), (2, .int x2), (3, .int x3), (4, .int x4)] [] σ) (σ : zS) (x2 : Int32) (x4 : Int32) (s0 : Int32) (hm : Pa_parseTypes_87 F rc41 σ x2 x4 s0 = some σ') : ZC D ad cA p l e (rmK 43) s m args below meth c 5 (qvC D ad cA below args s σ') 87 [(0, .ref (ad 6)), (2, .int x2), (4, .int x4)] [.int s0] σ := by
  unfold Pa_parseTypes_87 at hm
  refine z_istore_n (pc := 87) (lv' := [(0, .ref (ad 6)), (2, .int x2), (3, .int s0), (4, .int x4)]) C d_Pa_parseTypes_87 rfl (Nat.le_of_ble_eq_true rfl) [1, 2, 0, 3] rfl ?_
  refine z_iinc (pc := 88) (lv' := [(0, .ref (ad 6)), (2, .int x2), (3, .int s0), (4, .int (x4 + (1 : Int32)))]) C d_Pa_parseTypes_88 3 rfl (ii ki_1) (Nat.le_of_ble_eq_true rfl) [1, 2, 3, 0] rfl ?_
  refine z_goto (pc := 91) (tgt := 41) C d_Pa_parseTypes_91 (by decide) ?_
  exact h41 σ x2 s0 (x4 + (1 : Int32)) hm
set_option maxHeartbeats 4000000 in
set_option maxRecDepth 100000 in
theorem w_Pa_parseTypes_86 {D : va_G} {ad : Nat → Nat} {cA : Nat → ClassId} {p : Program} {l : Launch} {e : Env} {s : State} {m : MethodId} {args : Array Value} {below : List Frame} {meth : Method} {c : Code} {F : Nat} (hAD : ∀ σ, va_D (owC ad) (wdC ad cA σ)) (C : CC D ad cA (sXC ad) p s m args meth c bc_Pa_parseTypes "KindRounds$Parser" 5) (hr : meth.sig.returnType = none) {σ' : zS} (rc41 : zS → Int32 → Int32 → Int32 → Option zS) (h41 : ∀ σ x2 x3 x4, rc41 σ x2 x3 x4 = some σ' → ZC D ad cA p l e (rmK 43) s m args below meth c 5 (qvC D ad cA below args s σ') 41 [(0, .ref (ad 6)), (2, .int x2), (3, .int x3), (4, .int x4)] [] σ) (σ : zS) (x2 : Int32) (x4 : Int32) (hm : Pa_parseTypes_86 F rc41 σ x2 x4 = some σ') : ZC D ad cA p l e (rmK 43) s m args below meth c 5 (qvC D ad cA below args s σ') 86 [(0, .ref (ad 6)), (2, .int x2), (4, .int x4)] [] σ := by
  unfold Pa_parseTypes_86 at hm
  refine z_iconst (pc := 86) C d_Pa_parseTypes_86 ki_0 ?_
  exact w_Pa_parseTypes_87 hAD C hr _ h41 σ x2 x4 (0 : Int32) hm
set_option maxHeartbeats 4000000 in
set_option maxRecDepth 100000 in
theorem w_Pa_parseTypes_41 {D : va_G} {ad : Nat → Nat} {cA : Nat → ClassId} {p : Program} {l : Launch} {e : Env} {s : State} {m : MethodId} {args : Array Value} {below : List Frame} {meth : Method} {c : Code} {F : Nat} (hAD : ∀ σ, va_D (owC ad) (wdC ad cA σ)) (C : CC D ad cA (sXC ad) p s m args meth c bc_Pa_parseTypes "KindRounds$Parser" 5) (hr : meth.sig.returnType = none) {σ' : zS} : ∀ (n : Nat) (σ : zS) (x2 : Int32) (x3 : Int32) (x4 : Int32), Pa_parseTypes_41 F n σ x2 x3 x4 = some σ' → ZC D ad cA p l e (rmK 43) s m args below meth c 5 (qvC D ad cA below args s σ') 41 [(0, .ref (ad 6)), (2, .int x2), (3, .int x3), (4, .int x4)] [] σ := by
  intro n
  induction n with
  | zero => intro σ x2 x3 x4 hm; cases hm
  | succ n h41 =>
    intro σ x2 x3 x4 hm
    have hm : Pa_parseTypes_b41 F (Pa_parseTypes_41 F n) σ x2 x3 x4 = some σ' := hm
    unfold Pa_parseTypes_b41 at hm
    refine z_iload (pc := 41) C d_Pa_parseTypes_41 3 rfl ?_
    refine z_iload_n (pc := 43) C d_Pa_parseTypes_43 rfl 1 rfl ?_
    refine z_icmp_ge (pc := 44) (tgt := 94) C d_Pa_parseTypes_44 (by decide) (fun c1 => ?_) (fun c1 => ?_)
    · rw [if_pos c1] at hm
      refine z_lv (lv' := [(0, .ref (ad 6)), (3, .int x3)]) [0, 2] rfl ?_
      exact w_Pa_parseTypes_94 hAD C hr σ x3 hm
    · rw [if_neg c1] at hm
      refine z_iload_n (pc := 47) C d_Pa_parseTypes_47 rfl 2 rfl ?_
      refine z_if_eq (pc := 48) (tgt := 94) C d_Pa_parseTypes_48 (by decide) (fun c2 => ?_) (fun c2 => ?_)
      · rw [if_pos c2] at hm
        refine z_lv (lv' := [(0, .ref (ad 6)), (3, .int x3)]) [0, 2] rfl ?_
        exact w_Pa_parseTypes_94 hAD C hr σ x3 hm
      · rw [if_neg c2] at hm
        refine z_aload_n (pc := 51) C d_Pa_parseTypes_51 rfl 0 rfl ?_
        refine z_bipush (pc := 52) C d_Pa_parseTypes_52 kb_44 ?_
        obtain ⟨r4, σ3, e5, hm⟩ := bi_s hm
        refine z_callI (pc := 54) C (k_Pa_expect hAD e5) km_Pa_expect mC_104 rfl rfl oC_6 rfl (kR_of (Nat.le_of_ble_eq_true rfl) (Nat.le_of_ble_eq_true rfl)) rfl (Nat.le_of_ble_eq_true rfl) d_Pa_parseTypes_54 ?_
        refine z_if_eq (pc := 57) (tgt := 86) C d_Pa_parseTypes_57 (by decide) (fun c6 => ?_) (fun c6 => ?_)
        · rw [if_pos c6] at hm
          refine z_lv (lv' := [(0, .ref (ad 6)), (2, .int x2), (4, .int x4)]) [0, 1, 3] rfl ?_
          exact w_Pa_parseTypes_86 hAD C hr _ h41 σ3 x2 x4 hm
        · rw [if_neg c6] at hm
          refine z_aload_n (pc := 60) C d_Pa_parseTypes_60 rfl 0 rfl ?_
          refine gC_Pa_37 (pc := 61) (v := (gr σ3 605)) C rfl d_Pa_parseTypes_61 ?_
          refine z_aload_n (pc := 64) C d_Pa_parseTypes_64 rfl 0 rfl ?_
          refine gC_Pa_58 (pc := 65) (v := (gi σ3 606)) C rfl d_Pa_parseTypes_65 ?_
          obtain ⟨g8, hm⟩ := gd_s hm
          obtain ⟨r9, σ7, e10, hm⟩ := bi_s hm
          refine z_callIN (pc := 68) C (k_Ro_beginTerm hAD e10) km_Ro_beginTerm mC_112 rfl rfl (oC_Ro g8) rfl (kR_of (Nat.le_of_ble_eq_true rfl) (Nat.le_of_ble_eq_true rfl)) rfl (Nat.le_of_ble_eq_true rfl) d_Pa_parseTypes_68 ?_
          refine z_if_eq (pc := 71) (tgt := 86) C d_Pa_parseTypes_71 (by decide) (fun c11 => ?_) (fun c11 => ?_)
          · rw [if_pos c11] at hm
            refine z_lv (lv' := [(0, .ref (ad 6)), (2, .int x2), (4, .int x4)]) [0, 1, 3] rfl ?_
            exact w_Pa_parseTypes_86 hAD C hr _ h41 σ7 x2 x4 hm
          · rw [if_neg c11] at hm
            refine z_aload_n (pc := 74) C d_Pa_parseTypes_74 rfl 0 rfl ?_
            refine z_iconst (pc := 75) C d_Pa_parseTypes_75 ki_0 ?_
            obtain ⟨r13, σ12, e14, hm⟩ := bi_s hm
            refine z_callI (pc := 76) C (k_Pa_parseType hAD e14) km_Pa_parseType mC_113 rfl rfl oC_6 rfl (kR_of (Nat.le_of_ble_eq_true rfl) (Nat.le_of_ble_eq_true rfl)) rfl (Nat.le_of_ble_eq_true rfl) d_Pa_parseTypes_76 ?_
            refine z_if_eq (pc := 79) (tgt := 86) C d_Pa_parseTypes_79 (by decide) (fun c15 => ?_) (fun c15 => ?_)
            · rw [if_pos c15] at hm
              refine z_lv (lv' := [(0, .ref (ad 6)), (2, .int x2), (4, .int x4)]) [0, 1, 3] rfl ?_
              exact w_Pa_parseTypes_86 hAD C hr _ h41 σ12 x2 x4 hm
            · rw [if_neg c15] at hm
              refine z_iconst (pc := 82) C d_Pa_parseTypes_82 ki_1 ?_
              refine z_goto (pc := 83) (tgt := 87) C d_Pa_parseTypes_83 (by decide) ?_
              refine z_lv (lv' := [(0, .ref (ad 6)), (2, .int x2), (4, .int x4)]) [0, 1, 3] rfl ?_
              exact w_Pa_parseTypes_87 hAD C hr _ h41 σ12 x2 x4 (1 : Int32) hm
set_option maxHeartbeats 4000000 in
set_option maxRecDepth 100000 in
theorem w_Pa_parseTypes_37 {D : va_G} {ad : Nat → Nat} {cA : Nat → ClassId} {p : Program} {l : Launch} {e : Env} {s : State} {m : MethodId} {args : Array Value} {below : List Frame} {meth : Method} {c : Code} {F : Nat} (hAD : ∀ σ, va_D (owC ad) (wdC ad cA σ)) (C : CC D ad cA (sXC ad) p s m args meth c bc_Pa_parseTypes "KindRounds$Parser" 5) (hr : meth.sig.returnType = none) {σ' : zS} (σ : zS) (x2 : Int32) (s0 : Int32) (hm : Pa_parseTypes_37 F σ x2 s0 = some σ') : ZC D ad cA p l e (rmK 43) s m args below meth c 5 (qvC D ad cA below args s σ') 37 [(0, .ref (ad 6)), (2, .int x2)] [.int s0] σ := by
  unfold Pa_parseTypes_37 at hm
  refine z_istore_n (pc := 37) (lv' := [(0, .ref (ad 6)), (2, .int x2), (3, .int s0)]) C d_Pa_parseTypes_37 rfl (Nat.le_of_ble_eq_true rfl) [1, 2, 0] rfl ?_
  refine z_iconst (pc := 38) C d_Pa_parseTypes_38 ki_1 ?_
  refine z_istore (pc := 39) (lv' := [(0, .ref (ad 6)), (2, .int x2), (3, .int s0), (4, .int (1 : Int32))]) C d_Pa_parseTypes_39 (Nat.le_of_ble_eq_true rfl) [1, 2, 3, 0] rfl ?_
  exact w_Pa_parseTypes_41 hAD C hr F σ x2 s0 (1 : Int32) hm
set_option maxHeartbeats 4000000 in
set_option maxRecDepth 100000 in
theorem w_Pa_parseTypes_36 {D : va_G} {ad : Nat → Nat} {cA : Nat → ClassId} {p : Program} {l : Launch} {e : Env} {s : State} {m : MethodId} {args : Array Value} {below : List Frame} {meth : Method} {c : Code} {F : Nat} (hAD : ∀ σ, va_D (owC ad) (wdC ad cA σ)) (C : CC D ad cA (sXC ad) p s m args meth c bc_Pa_parseTypes "KindRounds$Parser" 5) (hr : meth.sig.returnType = none) {σ' : zS} (σ : zS) (x2 : Int32) (hm : Pa_parseTypes_36 F σ x2 = some σ') : ZC D ad cA p l e (rmK 43) s m args below meth c 5 (qvC D ad cA below args s σ') 36 [(0, .ref (ad 6)), (2, .int x2)] [] σ := by
  unfold Pa_parseTypes_36 at hm
  refine z_iconst (pc := 36) C d_Pa_parseTypes_36 ki_0 ?_
  exact w_Pa_parseTypes_37 hAD C hr σ x2 (0 : Int32) hm
set_option maxHeartbeats 4000000 in
set_option maxRecDepth 100000 in
theorem k_Pa_parseTypes {l : Launch} {D : va_G} {ad : Nat → Nat} {cA : Nat → ClassId} {F : Nat} (hAD : ∀ σ, va_D (owC ad) (wdC ad cA σ)) {σ : zS} {x1 : Nat} {x2 : Int32} {σ' : zS} (hm : Pa_parseTypes F σ x1 x2 = some σ') : kVC l D ad cA (sXC ad) y_Pa_parseTypes bc_Pa_parseTypes 5 43 [.ref (ad 6), .ref (ad x1), .int x2] σ σ' := by
  refine kV_of (by decide) hAD sXC_P (Nat.le_of_ble_eq_true rfl) ?_
  intro p e s m below meth c C hr
  unfold Pa_parseTypes at hm
  refine z_lv (lv' := [(0, .ref (ad 6)), (1, .ref (ad x1)), (2, .int x2)]) [0, 1, 2] rfl ?_
  refine z_aload_n (pc := 0) C d_Pa_parseTypes_0 rfl 0 rfl ?_
  refine z_aload_n (pc := 1) C d_Pa_parseTypes_1 rfl 1 rfl ?_
  refine pC_Pa_37 (pc := 2) C  d_Pa_parseTypes_2 ?_
  refine z_aload_n (pc := 5) C d_Pa_parseTypes_5 rfl 0 rfl ?_
  refine z_iconst (pc := 6) C d_Pa_parseTypes_6 ki_m1 ?_
  refine pC_Pa_58 (pc := 7) C  d_Pa_parseTypes_7 ?_
  refine z_aload_n (pc := 10) C d_Pa_parseTypes_10 rfl 0 rfl ?_
  refine gC_Pa_37 (pc := 11) (v := x1) C rfl d_Pa_parseTypes_11 ?_
  refine z_aload_n (pc := 14) C d_Pa_parseTypes_14 rfl 0 rfl ?_
  refine gC_Pa_58 (pc := 15) (v := (-1 : Int32)) C rfl d_Pa_parseTypes_15 ?_
  obtain ⟨g2, hm⟩ := gd_s hm
  obtain ⟨r3, σ1, e4, hm⟩ := bi_s hm
  refine z_callIN (pc := 18) C (k_Ro_beginTerm hAD e4) km_Ro_beginTerm mC_112 rfl rfl (oC_Ro g2) rfl (kR_of (Nat.le_of_ble_eq_true rfl) (Nat.le_of_ble_eq_true rfl)) rfl (Nat.le_of_ble_eq_true rfl) d_Pa_parseTypes_18 ?_
  refine z_if_eq (pc := 21) (tgt := 36) C d_Pa_parseTypes_21 (by decide) (fun c5 => ?_) (fun c5 => ?_)
  · rw [if_pos c5] at hm
    refine z_lv (lv' := [(0, .ref (ad 6)), (2, .int x2)]) [0, 2] rfl ?_
    exact w_Pa_parseTypes_36 hAD C hr σ1 x2 hm
  · rw [if_neg c5] at hm
    refine z_aload_n (pc := 24) C d_Pa_parseTypes_24 rfl 0 rfl ?_
    refine z_iconst (pc := 25) C d_Pa_parseTypes_25 ki_0 ?_
    obtain ⟨r7, σ6, e8, hm⟩ := bi_s hm
    refine z_callI (pc := 26) C (k_Pa_parseType hAD e8) km_Pa_parseType mC_113 rfl rfl oC_6 rfl (kR_of (Nat.le_of_ble_eq_true rfl) (Nat.le_of_ble_eq_true rfl)) rfl (Nat.le_of_ble_eq_true rfl) d_Pa_parseTypes_26 ?_
    refine z_if_eq (pc := 29) (tgt := 36) C d_Pa_parseTypes_29 (by decide) (fun c9 => ?_) (fun c9 => ?_)
    · rw [if_pos c9] at hm
      refine z_lv (lv' := [(0, .ref (ad 6)), (2, .int x2)]) [0, 2] rfl ?_
      exact w_Pa_parseTypes_36 hAD C hr σ6 x2 hm
    · rw [if_neg c9] at hm
      refine z_iconst (pc := 32) C d_Pa_parseTypes_32 ki_1 ?_
      refine z_goto (pc := 33) (tgt := 37) C d_Pa_parseTypes_33 (by decide) ?_
      refine z_lv (lv' := [(0, .ref (ad 6)), (2, .int x2)]) [0, 2] rfl ?_
      exact w_Pa_parseTypes_37 hAD C hr σ6 x2 (1 : Int32) hm
