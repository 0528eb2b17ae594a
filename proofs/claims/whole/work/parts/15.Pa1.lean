/-! Walks of Parser, first half. Written by program (wip/gen). -/
set_option maxHeartbeats 4000000 in
set_option maxRecDepth 100000 in
theorem k_Pa_expect {l : Launch} {D : va_G} {ad : Nat → Nat} {cA : Nat → ClassId} {F : Nat} (hAD : ∀ σ, va_D (owC ad) (wdC ad cA σ)) {σ : zS} {x1 : Int32} {r : Int32} {σ' : zS} (hm : Pa_expect F σ x1 = some (r, σ')) : kIC l D ad cA (sXC ad) y_Pa_expect bc_Pa_expect 2 .boolean 1 [.ref (ad 6), .int x1] σ r σ' := by
  refine kI_of (by decide) hAD sXC_P (Nat.le_of_ble_eq_true rfl) ?_
  intro p e s m below meth c C hr
  unfold Pa_expect at hm
  refine z_lv (lv' := [(0, .ref (ad 6)), (1, .int x1)]) [0, 1] rfl ?_
  refine z_aload_n (pc := 0) C d_Pa_expect_0 rfl 0 rfl ?_
  refine gC_Pa_9 (pc := 1) C  d_Pa_expect_1 ?_
  obtain ⟨r2, σ1, e3, hm⟩ := bi_s hm
  refine z_callIN (pc := 4) C (k_Ta_sort hAD e3) km_Ta_sort mC_106 rfl rfl oC_1 rfl (kR_of (Nat.le_of_ble_eq_true rfl) (Nat.le_of_ble_eq_true rfl)) rfl (Nat.le_of_ble_eq_true rfl) d_Pa_expect_4 ?_
  refine z_iload_n (pc := 7) C d_Pa_expect_7 rfl 1 rfl ?_
  refine z_icmp_eq (pc := 8) (tgt := 28) C d_Pa_expect_8 (by decide) (fun c4 => ?_) (fun c4 => ?_)
  · rw [if_pos c4] at hm
    refine z_aload_n (pc := 28) C d_Pa_expect_28 rfl 0 rfl ?_
    refine gC_Pa_9 (pc := 29) C  d_Pa_expect_29 ?_
    obtain ⟨σ5, e6, hm⟩ := bv_s hm
    refine z_callVN (pc := 32) C (k_Ta_step hAD e6) km_Ta_step mC_123 rfl rfl oC_1 rfl (kR_of (Nat.le_of_ble_eq_true rfl) (Nat.le_of_ble_eq_true rfl)) rfl (Nat.le_of_ble_eq_true rfl) d_Pa_expect_32 ?_
    refine z_iconst (pc := 35) C d_Pa_expect_35 ki_1 ?_
    exact z_zretE (pc := 36) C hr (by decide) hm d_Pa_expect_36
  · rw [if_neg c4] at hm
    refine z_aload_n (pc := 11) C d_Pa_expect_11 rfl 0 rfl ?_
    refine gC_Pa_27 (pc := 12) C  d_Pa_expect_12 ?_
    refine z_iconst (pc := 15) C d_Pa_expect_15 ki_1 ?_
    refine z_aload_n (pc := 16) C d_Pa_expect_16 rfl 0 rfl ?_
    refine gC_Pa_9 (pc := 17) C  d_Pa_expect_17 ?_
    obtain ⟨r8, σ7, e9, hm⟩ := bi_s hm
    refine z_callIN (pc := 20) C (k_Ta_start hAD e9) km_Ta_start mC_121 rfl rfl oC_1 rfl (kR_of (Nat.le_of_ble_eq_true rfl) (Nat.le_of_ble_eq_true rfl)) rfl (Nat.le_of_ble_eq_true rfl) d_Pa_expect_20 ?_
    obtain ⟨σ10, e11, hm⟩ := bv_s hm
    refine z_callVN (pc := 23) C (k_Fa_raise hAD e11) km_Fa_raise mC_122 rfl rfl oC_2 rfl (kR_of (Nat.le_of_ble_eq_true rfl) (Nat.le_of_ble_eq_true rfl)) rfl (Nat.le_of_ble_eq_true rfl) d_Pa_expect_23 ?_
    refine z_iconst (pc := 26) C d_Pa_expect_26 ki_0 ?_
    exact z_zretE (pc := 27) C hr (by decide) hm d_Pa_expect_27
set_option maxHeartbeats 4000000 in
set_option maxRecDepth 100000 in
theorem k_Pa_misfit {l : Launch} {D : va_G} {ad : Nat → Nat} {cA : Nat → ClassId} {F : Nat} (hAD : ∀ σ, va_D (owC ad) (wdC ad cA σ)) {σ : zS} {r : Int32} {σ' : zS} (hm : Pa_misfit F σ = some (r, σ')) : kIC l D ad cA (sXC ad) y_Pa_misfit bc_Pa_misfit 1 .boolean 1 [.ref (ad 6)] σ r σ' := by
  refine kI_of (by decide) hAD sXC_P (Nat.le_of_ble_eq_true rfl) ?_
  intro p e s m below meth c C hr
  unfold Pa_misfit at hm
  refine z_lv (lv' := [(0, .ref (ad 6))]) [0] rfl ?_
  refine z_aload_n (pc := 0) C d_Pa_misfit_0 rfl 0 rfl ?_
  refine gC_Pa_27 (pc := 1) C  d_Pa_misfit_1 ?_
  refine z_iconst (pc := 4) C d_Pa_misfit_4 ki_1 ?_
  refine z_aload_n (pc := 5) C d_Pa_misfit_5 rfl 0 rfl ?_
  refine gC_Pa_9 (pc := 6) C  d_Pa_misfit_6 ?_
  obtain ⟨r2, σ1, e3, hm⟩ := bi_s hm
  refine z_callIN (pc := 9) C (k_Ta_start hAD e3) km_Ta_start mC_121 rfl rfl oC_1 rfl (kR_of (Nat.le_of_ble_eq_true rfl) (Nat.le_of_ble_eq_true rfl)) rfl (Nat.le_of_ble_eq_true rfl) d_Pa_misfit_9 ?_
  obtain ⟨σ4, e5, hm⟩ := bv_s hm
  refine z_callVN (pc := 12) C (k_Fa_raise hAD e5) km_Fa_raise mC_122 rfl rfl oC_2 rfl (kR_of (Nat.le_of_ble_eq_true rfl) (Nat.le_of_ble_eq_true rfl)) rfl (Nat.le_of_ble_eq_true rfl) d_Pa_misfit_12 ?_
  refine z_iconst (pc := 15) C d_Pa_misfit_15 ki_0 ?_
  exact z_zretE (pc := 16) C hr (by decide) hm d_Pa_misfit_16
set_option maxHeartbeats 4000000 in
set_option maxRecDepth 100000 in
theorem k_Pa_tooMuch {l : Launch} {D : va_G} {ad : Nat → Nat} {cA : Nat → ClassId} {F : Nat} (hAD : ∀ σ, va_D (owC ad) (wdC ad cA σ)) {σ : zS} {r : Int32} {σ' : zS} (hm : Pa_tooMuch F σ = some (r, σ')) : kIC l D ad cA (sXC ad) y_Pa_tooMuch bc_Pa_tooMuch 1 .boolean 1 [.ref (ad 6)] σ r σ' := by
  refine kI_of (by decide) hAD sXC_P (Nat.le_of_ble_eq_true rfl) ?_
  intro p e s m below meth c C hr
  unfold Pa_tooMuch at hm
  refine z_lv (lv' := [(0, .ref (ad 6))]) [0] rfl ?_
  refine z_aload_n (pc := 0) C d_Pa_tooMuch_0 rfl 0 rfl ?_
  refine gC_Pa_27 (pc := 1) C  d_Pa_tooMuch_1 ?_
  refine z_iconst (pc := 4) C d_Pa_tooMuch_4 ki_2 ?_
  refine z_aload_n (pc := 5) C d_Pa_tooMuch_5 rfl 0 rfl ?_
  refine gC_Pa_9 (pc := 6) C  d_Pa_tooMuch_6 ?_
  obtain ⟨r2, σ1, e3, hm⟩ := bi_s hm
  refine z_callIN (pc := 9) C (k_Ta_start hAD e3) km_Ta_start mC_121 rfl rfl oC_1 rfl (kR_of (Nat.le_of_ble_eq_true rfl) (Nat.le_of_ble_eq_true rfl)) rfl (Nat.le_of_ble_eq_true rfl) d_Pa_tooMuch_9 ?_
  obtain ⟨σ4, e5, hm⟩ := bv_s hm
  refine z_callVN (pc := 12) C (k_Fa_raise hAD e5) km_Fa_raise mC_122 rfl rfl oC_2 rfl (kR_of (Nat.le_of_ble_eq_true rfl) (Nat.le_of_ble_eq_true rfl)) rfl (Nat.le_of_ble_eq_true rfl) d_Pa_tooMuch_12 ?_
  refine z_iconst (pc := 15) C d_Pa_tooMuch_15 ki_0 ?_
  exact z_zretE (pc := 16) C hr (by decide) hm d_Pa_tooMuch_16
set_option maxHeartbeats 4000000 in
set_option maxRecDepth 100000 in
theorem w_Pa_startsOne_35 {D : va_G} {ad : Nat → Nat} {cA : Nat → ClassId} {p : Program} {l : Launch} {e : Env} {s : State} {m : MethodId} {args : Array Value} {below : List Frame} {meth : Method} {c : Code} {F : Nat} (hAD : ∀ σ, va_D (owC ad) (wdC ad cA σ)) (C : CC D ad cA (sXC ad) p s m args meth c bc_Pa_startsOne "KindRounds$Parser" 2) (hr : meth.sig.returnType = some .boolean) {r : Int32} {σ' : zS} (σ : zS) (s0 : Int32) (hm : Pa_startsOne_35 F σ s0 = some (r, σ')) : ZC D ad cA p l e (rmK 1) s m args below meth c 2 (qiC D ad cA below args s r σ') 35 [] [.int s0] σ := by
  unfold Pa_startsOne_35 at hm
  obtain ⟨g1, hm⟩ := gd_s hm
  exact z_zretE (pc := 35) C hr g1 hm d_Pa_startsOne_35
set_option maxHeartbeats 4000000 in
set_option maxRecDepth 100000 in
theorem w_Pa_startsOne_30 {D : va_G} {ad : Nat → Nat} {cA : Nat → ClassId} {p : Program} {l : Launch} {e : Env} {s : State} {m : MethodId} {args : Array Value} {below : List Frame} {meth : Method} {c : Code} {F : Nat} (hAD : ∀ σ, va_D (owC ad) (wdC ad cA σ)) (C : CC D ad cA (sXC ad) p s m args meth c bc_Pa_startsOne "KindRounds$Parser" 2) (hr : meth.sig.returnType = some .boolean) {r : Int32} {σ' : zS} (σ : zS) (hm : Pa_startsOne_30 F σ = some (r, σ')) : ZC D ad cA p l e (rmK 1) s m args below meth c 2 (qiC D ad cA below args s r σ') 30 [] [] σ := by
  unfold Pa_startsOne_30 at hm
  refine z_iconst (pc := 30) C d_Pa_startsOne_30 ki_1 ?_
  refine z_goto (pc := 31) (tgt := 35) C d_Pa_startsOne_31 (by decide) ?_
  exact w_Pa_startsOne_35 hAD C hr σ (1 : Int32) hm
set_option maxHeartbeats 4000000 in
set_option maxRecDepth 100000 in
theorem k_Pa_startsOne {l : Launch} {D : va_G} {ad : Nat → Nat} {cA : Nat → ClassId} {F : Nat} (hAD : ∀ σ, va_D (owC ad) (wdC ad cA σ)) {σ : zS} {r : Int32} {σ' : zS} (hm : Pa_startsOne F σ = some (r, σ')) : kIC l D ad cA (sXC ad) y_Pa_startsOne bc_Pa_startsOne 2 .boolean 1 [.ref (ad 6)] σ r σ' := by
  refine kI_of (by decide) hAD sXC_P (Nat.le_of_ble_eq_true rfl) ?_
  intro p e s m below meth c C hr
  unfold Pa_startsOne at hm
  refine z_lv (lv' := [(0, .ref (ad 6))]) [0] rfl ?_
  refine z_aload_n (pc := 0) C d_Pa_startsOne_0 rfl 0 rfl ?_
  refine gC_Pa_9 (pc := 1) C  d_Pa_startsOne_1 ?_
  obtain ⟨r2, σ1, e3, hm⟩ := bi_s hm
  refine z_callIN (pc := 4) C (k_Ta_sort hAD e3) km_Ta_sort mC_106 rfl rfl oC_1 rfl (kR_of (Nat.le_of_ble_eq_true rfl) (Nat.le_of_ble_eq_true rfl)) rfl (Nat.le_of_ble_eq_true rfl) d_Pa_startsOne_4 ?_
  refine z_istore_n (pc := 7) (lv' := [(0, .ref (ad 6)), (1, .int r2)]) C d_Pa_startsOne_7 rfl (Nat.le_of_ble_eq_true rfl) [1, 0] rfl ?_
  refine z_iload_n (pc := 8) C d_Pa_startsOne_8 rfl 1 rfl ?_
  refine z_iconst (pc := 9) C d_Pa_startsOne_9 ki_2 ?_
  refine z_icmp_eq (pc := 10) (tgt := 30) C d_Pa_startsOne_10 (by decide) (fun c4 => ?_) (fun c4 => ?_)
  · rw [if_pos c4] at hm
    refine z_lv (lv' := []) [] rfl ?_
    exact w_Pa_startsOne_30 hAD C hr σ1 hm
  · rw [if_neg c4] at hm
    refine z_iload_n (pc := 13) C d_Pa_startsOne_13 rfl 1 rfl ?_
    refine z_iconst (pc := 14) C d_Pa_startsOne_14 ki_3 ?_
    refine z_icmp_eq (pc := 15) (tgt := 30) C d_Pa_startsOne_15 (by decide) (fun c5 => ?_) (fun c5 => ?_)
    · rw [if_pos c5] at hm
      refine z_lv (lv' := []) [] rfl ?_
      exact w_Pa_startsOne_30 hAD C hr σ1 hm
    · rw [if_neg c5] at hm
      refine z_iload_n (pc := 18) C d_Pa_startsOne_18 rfl 1 rfl ?_
      refine z_bipush (pc := 19) C d_Pa_startsOne_19 kb_40 ?_
      refine z_icmp_eq (pc := 21) (tgt := 30) C d_Pa_startsOne_21 (by decide) (fun c6 => ?_) (fun c6 => ?_)
      · rw [if_pos c6] at hm
        refine z_lv (lv' := []) [] rfl ?_
        exact w_Pa_startsOne_30 hAD C hr σ1 hm
      · rw [if_neg c6] at hm
        refine z_iload_n (pc := 24) C d_Pa_startsOne_24 rfl 1 rfl ?_
        refine z_bipush (pc := 25) C d_Pa_startsOne_25 kb_91 ?_
        refine z_icmp_ne (pc := 27) (tgt := 34) C d_Pa_startsOne_27 (by decide) (fun c7 => ?_) (fun c7 => ?_)
        · rw [if_neg c7] at hm
          refine z_iconst (pc := 34) C d_Pa_startsOne_34 ki_0 ?_
          refine z_lv (lv' := []) [] rfl ?_
          exact w_Pa_startsOne_35 hAD C hr σ1 (0 : Int32) hm
        · rw [if_pos c7] at hm
          refine z_lv (lv' := []) [] rfl ?_
          exact w_Pa_startsOne_30 hAD C hr σ1 hm
set_option maxHeartbeats 4000000 in
set_option maxRecDepth 100000 in
theorem k_Pa_parseHead {l : Launch} {D : va_G} {ad : Nat → Nat} {cA : Nat → ClassId} {F : Nat} (hAD : ∀ σ, va_D (owC ad) (wdC ad cA σ)) {σ : zS} {x1 : Int32} {r : Int32} {σ' : zS} (hm : Pa_parseHead F σ x1 = some (r, σ')) : kIC l D ad cA (sXC ad) y_Pa_parseHead bc_Pa_parseHead 2 .boolean 2 [.ref (ad 6), .int x1] σ r σ' := by
  refine kI_of (by decide) hAD sXC_P (Nat.le_of_ble_eq_true rfl) ?_
  intro p e s m below meth c C hr
  unfold Pa_parseHead at hm
  refine z_lv (lv' := [(0, .ref (ad 6)), (1, .int x1)]) [0, 1] rfl ?_
  refine z_aload_n (pc := 0) C d_Pa_parseHead_0 rfl 0 rfl ?_
  refine gC_Pa_9 (pc := 1) C  d_Pa_parseHead_1 ?_
  obtain ⟨σ1, e2, hm⟩ := bv_s hm
  refine z_callVN (pc := 4) C (k_Ta_step hAD e2) km_Ta_step mC_123 rfl rfl oC_1 rfl (kR_of (Nat.le_of_ble_eq_true rfl) (Nat.le_of_ble_eq_true rfl)) rfl (Nat.le_of_ble_eq_true rfl) d_Pa_parseHead_4 ?_
  refine z_aload_n (pc := 7) C d_Pa_parseHead_7 rfl 0 rfl ?_
  refine gC_Pa_9 (pc := 8) C  d_Pa_parseHead_8 ?_
  obtain ⟨r4, σ3, e5, hm⟩ := bi_s hm
  refine z_callIN (pc := 11) C (k_Ta_sort hAD e5) km_Ta_sort mC_106 rfl rfl oC_1 rfl (kR_of (Nat.le_of_ble_eq_true rfl) (Nat.le_of_ble_eq_true rfl)) rfl (Nat.le_of_ble_eq_true rfl) d_Pa_parseHead_11 ?_
  refine z_iconst (pc := 14) C d_Pa_parseHead_14 ki_2 ?_
  refine z_icmp_eq (pc := 15) (tgt := 23) C d_Pa_parseHead_15 (by decide) (fun c6 => ?_) (fun c6 => ?_)
  · rw [if_pos c6] at hm
    refine z_aload_n (pc := 23) C d_Pa_parseHead_23 rfl 0 rfl ?_
    refine gC_Pa_15 (pc := 24) C  d_Pa_parseHead_24 ?_
    refine gC_Pa_94 (pc := 27) (v := (gi σ3 400)) C rfl d_Pa_parseHead_27 ?_
    refine z_bipush (pc := 30) C d_Pa_parseHead_30 kb_16 ?_
    refine z_icmp_lt (pc := 32) (tgt := 40) C d_Pa_parseHead_32 (by decide) (fun c7 => ?_) (fun c7 => ?_)
    · rw [if_pos c7] at hm
      refine z_aload_n (pc := 40) C d_Pa_parseHead_40 rfl 0 rfl ?_
      refine z_aload_n (pc := 41) C d_Pa_parseHead_41 rfl 0 rfl ?_
      refine gC_Pa_15 (pc := 42) C  d_Pa_parseHead_42 ?_
      refine gC_Pa_94 (pc := 45) (v := (gi σ3 400)) C rfl d_Pa_parseHead_45 ?_
      refine pC_Pa_58 (pc := 48) C  d_Pa_parseHead_48 ?_
      refine z_aload_n (pc := 51) C d_Pa_parseHead_51 rfl 0 rfl ?_
      refine gC_Pa_15 (pc := 52) C  d_Pa_parseHead_52 ?_
      refine z_iload_n (pc := 55) C d_Pa_parseHead_55 rfl 1 rfl ?_
      refine z_aload_n (pc := 56) C d_Pa_parseHead_56 rfl 0 rfl ?_
      refine gC_Pa_9 (pc := 57) C  d_Pa_parseHead_57 ?_
      obtain ⟨r9, σ8, e10, hm⟩ := bi_s hm
      refine z_callLN (pc := 60) C (k_Ta_name hAD e10) km_Ta_name mC_125 rfl rfl oC_1 rfl (kR_of (Nat.le_of_ble_eq_true rfl) (Nat.le_of_ble_eq_true rfl)) rfl (Nat.le_of_ble_eq_true rfl) d_Pa_parseHead_60 ?_
      refine z_aload_n (pc := 63) C d_Pa_parseHead_63 rfl 0 rfl ?_
      refine gC_Pa_9 (pc := 64) C  d_Pa_parseHead_64 ?_
      obtain ⟨r12, σ11, e13, hm⟩ := bi_s hm
      refine z_callIN (pc := 67) C (k_Ta_start hAD e13) km_Ta_start mC_121 rfl rfl oC_1 rfl (kR_of (Nat.le_of_ble_eq_true rfl) (Nat.le_of_ble_eq_true rfl)) rfl (Nat.le_of_ble_eq_true rfl) d_Pa_parseHead_67 ?_
      obtain ⟨σ14, e15, hm⟩ := bv_s hm
      refine z_callVN (pc := 70) C (k_Te_declare hAD e15) km_Te_declare mC_126 rfl rfl oC_4 rfl (kR_of (Nat.le_of_ble_eq_true rfl) (Nat.le_of_ble_eq_true rfl)) rfl (Nat.le_of_ble_eq_true rfl) d_Pa_parseHead_70 ?_
      refine z_aload_n (pc := 73) C d_Pa_parseHead_73 rfl 0 rfl ?_
      refine gC_Pa_19 (pc := 74) C  d_Pa_parseHead_74 ?_
      refine z_iconst (pc := 77) C d_Pa_parseHead_77 ki_0 ?_
      refine z_aload_n (pc := 78) C d_Pa_parseHead_78 rfl 0 rfl ?_
      refine gC_Pa_58 (pc := 79) (v := (gi σ14 606)) C rfl d_Pa_parseHead_79 ?_
      refine z_aload_n (pc := 82) C d_Pa_parseHead_82 rfl 0 rfl ?_
      refine gC_Pa_9 (pc := 83) C  d_Pa_parseHead_83 ?_
      obtain ⟨σ16, e17, hm⟩ := bv_s hm
      refine z_callVN (pc := 86) C (k_Me_add hAD e17) km_Me_add mC_128 rfl rfl oC_5 rfl (kR_of (Nat.le_of_ble_eq_true rfl) (Nat.le_of_ble_eq_true rfl)) rfl (Nat.le_of_ble_eq_true rfl) d_Pa_parseHead_86 ?_
      refine z_aload_n (pc := 89) C d_Pa_parseHead_89 rfl 0 rfl ?_
      refine gC_Pa_9 (pc := 90) C  d_Pa_parseHead_90 ?_
      obtain ⟨σ18, e19, hm⟩ := bv_s hm
      refine z_callVN (pc := 93) C (k_Ta_step hAD e19) km_Ta_step mC_123 rfl rfl oC_1 rfl (kR_of (Nat.le_of_ble_eq_true rfl) (Nat.le_of_ble_eq_true rfl)) rfl (Nat.le_of_ble_eq_true rfl) d_Pa_parseHead_93 ?_
      refine z_iconst (pc := 96) C d_Pa_parseHead_96 ki_1 ?_
      exact z_zretE (pc := 97) C hr (by decide) hm d_Pa_parseHead_97
    · rw [if_neg c7] at hm
      refine z_aload_n (pc := 35) C d_Pa_parseHead_35 rfl 0 rfl ?_
      obtain ⟨r21, σ20, e22, hm⟩ := bi_s hm
      refine z_callI (pc := 36) C (k_Pa_tooMuch hAD e22) km_Pa_tooMuch mC_129 rfl rfl oC_6 rfl (kR_of (Nat.le_of_ble_eq_true rfl) (Nat.le_of_ble_eq_true rfl)) rfl (Nat.le_of_ble_eq_true rfl) d_Pa_parseHead_36 ?_
      obtain ⟨g23, hm⟩ := gd_s hm
      exact z_zretE (pc := 39) C hr g23 hm d_Pa_parseHead_39
  · rw [if_neg c6] at hm
    refine z_aload_n (pc := 18) C d_Pa_parseHead_18 rfl 0 rfl ?_
    obtain ⟨r25, σ24, e26, hm⟩ := bi_s hm
    refine z_callI (pc := 19) C (k_Pa_misfit hAD e26) km_Pa_misfit mC_117 rfl rfl oC_6 rfl (kR_of (Nat.le_of_ble_eq_true rfl) (Nat.le_of_ble_eq_true rfl)) rfl (Nat.le_of_ble_eq_true rfl) d_Pa_parseHead_19 ?_
    obtain ⟨g27, hm⟩ := gd_s hm
    exact z_zretE (pc := 22) C hr g27 hm d_Pa_parseHead_22
set_option maxHeartbeats 4000000 in
set_option maxRecDepth 100000 in
theorem k_Pa_parseParam {l : Launch} {D : va_G} {ad : Nat → Nat} {cA : Nat → ClassId} {F : Nat} (hAD : ∀ σ, va_D (owC ad) (wdC ad cA σ)) {σ : zS} {r : Int32} {σ' : zS} (hm : Pa_parseParam F σ = some (r, σ')) : kIC l D ad cA (sXC ad) y_Pa_parseParam bc_Pa_parseParam 1 .boolean 2 [.ref (ad 6)] σ r σ' := by
  refine kI_of (by decide) hAD sXC_P (Nat.le_of_ble_eq_true rfl) ?_
  intro p e s m below meth c C hr
  unfold Pa_parseParam at hm
  refine z_lv (lv' := [(0, .ref (ad 6))]) [0] rfl ?_
  refine z_aload_n (pc := 0) C d_Pa_parseParam_0 rfl 0 rfl ?_
  refine gC_Pa_9 (pc := 1) C  d_Pa_parseParam_1 ?_
  obtain ⟨r2, σ1, e3, hm⟩ := bi_s hm
  refine z_callIN (pc := 4) C (k_Ta_sort hAD e3) km_Ta_sort mC_106 rfl rfl oC_1 rfl (kR_of (Nat.le_of_ble_eq_true rfl) (Nat.le_of_ble_eq_true rfl)) rfl (Nat.le_of_ble_eq_true rfl) d_Pa_parseParam_4 ?_
  refine z_iconst (pc := 7) C d_Pa_parseParam_7 ki_3 ?_
  refine z_icmp_eq (pc := 8) (tgt := 16) C d_Pa_parseParam_8 (by decide) (fun c4 => ?_) (fun c4 => ?_)
  · rw [if_pos c4] at hm
    refine z_aload_n (pc := 16) C d_Pa_parseParam_16 rfl 0 rfl ?_
    refine gC_Pa_15 (pc := 17) C  d_Pa_parseParam_17 ?_
    refine gC_Pa_114 (pc := 20) C  d_Pa_parseParam_20 ?_
    refine z_aload_n (pc := 23) C d_Pa_parseParam_23 rfl 0 rfl ?_
    refine gC_Pa_58 (pc := 24) (v := (gi σ1 606)) C rfl d_Pa_parseParam_24 ?_
    obtain ⟨g5, hm⟩ := gd_s hm
    refine alC_32 (pc := 27) (v := (ga σ1 32 (gi σ1 606).toNatClampNeg)) C  rfl g5 d_Pa_parseParam_27 ?_
    refine z_iconst (pc := 28) C d_Pa_parseParam_28 ki_3 ?_
    refine z_icmp_lt (pc := 29) (tgt := 37) C d_Pa_parseParam_29 (by decide) (fun c6 => ?_) (fun c6 => ?_)
    · rw [if_pos c6] at hm
      refine z_aload_n (pc := 37) C d_Pa_parseParam_37 rfl 0 rfl ?_
      refine gC_Pa_15 (pc := 38) C  d_Pa_parseParam_38 ?_
      refine z_aload_n (pc := 41) C d_Pa_parseParam_41 rfl 0 rfl ?_
      refine gC_Pa_58 (pc := 42) (v := (gi σ1 606)) C rfl d_Pa_parseParam_42 ?_
      refine z_aload_n (pc := 45) C d_Pa_parseParam_45 rfl 0 rfl ?_
      refine gC_Pa_9 (pc := 46) C  d_Pa_parseParam_46 ?_
      obtain ⟨r8, σ7, e9, hm⟩ := bi_s hm
      refine z_callLN (pc := 49) C (k_Ta_name hAD e9) km_Ta_name mC_125 rfl rfl oC_1 rfl (kR_of (Nat.le_of_ble_eq_true rfl) (Nat.le_of_ble_eq_true rfl)) rfl (Nat.le_of_ble_eq_true rfl) d_Pa_parseParam_49 ?_
      obtain ⟨σ10, e11, hm⟩ := bv_s hm
      refine z_callVN (pc := 52) C (k_Te_addParam hAD e11) km_Te_addParam mC_131 rfl rfl oC_4 rfl (kR_of (Nat.le_of_ble_eq_true rfl) (Nat.le_of_ble_eq_true rfl)) rfl (Nat.le_of_ble_eq_true rfl) d_Pa_parseParam_52 ?_
      refine z_aload_n (pc := 55) C d_Pa_parseParam_55 rfl 0 rfl ?_
      refine gC_Pa_19 (pc := 56) C  d_Pa_parseParam_56 ?_
      refine z_iconst (pc := 59) C d_Pa_parseParam_59 ki_3 ?_
      refine z_aload_n (pc := 60) C d_Pa_parseParam_60 rfl 0 rfl ?_
      refine gC_Pa_58 (pc := 61) (v := (gi σ10 606)) C rfl d_Pa_parseParam_61 ?_
      refine z_aload_n (pc := 64) C d_Pa_parseParam_64 rfl 0 rfl ?_
      refine gC_Pa_9 (pc := 65) C  d_Pa_parseParam_65 ?_
      obtain ⟨σ12, e13, hm⟩ := bv_s hm
      refine z_callVN (pc := 68) C (k_Me_add hAD e13) km_Me_add mC_128 rfl rfl oC_5 rfl (kR_of (Nat.le_of_ble_eq_true rfl) (Nat.le_of_ble_eq_true rfl)) rfl (Nat.le_of_ble_eq_true rfl) d_Pa_parseParam_68 ?_
      refine z_aload_n (pc := 71) C d_Pa_parseParam_71 rfl 0 rfl ?_
      refine gC_Pa_9 (pc := 72) C  d_Pa_parseParam_72 ?_
      obtain ⟨σ14, e15, hm⟩ := bv_s hm
      refine z_callVN (pc := 75) C (k_Ta_step hAD e15) km_Ta_step mC_123 rfl rfl oC_1 rfl (kR_of (Nat.le_of_ble_eq_true rfl) (Nat.le_of_ble_eq_true rfl)) rfl (Nat.le_of_ble_eq_true rfl) d_Pa_parseParam_75 ?_
      refine z_iconst (pc := 78) C d_Pa_parseParam_78 ki_1 ?_
      exact z_zretE (pc := 79) C hr (by decide) hm d_Pa_parseParam_79
    · rw [if_neg c6] at hm
      refine z_aload_n (pc := 32) C d_Pa_parseParam_32 rfl 0 rfl ?_
      obtain ⟨r17, σ16, e18, hm⟩ := bi_s hm
      refine z_callI (pc := 33) C (k_Pa_tooMuch hAD e18) km_Pa_tooMuch mC_129 rfl rfl oC_6 rfl (kR_of (Nat.le_of_ble_eq_true rfl) (Nat.le_of_ble_eq_true rfl)) rfl (Nat.le_of_ble_eq_true rfl) d_Pa_parseParam_33 ?_
      obtain ⟨g19, hm⟩ := gd_s hm
      exact z_zretE (pc := 36) C hr g19 hm d_Pa_parseParam_36
  · rw [if_neg c4] at hm
    refine z_aload_n (pc := 11) C d_Pa_parseParam_11 rfl 0 rfl ?_
    obtain ⟨r21, σ20, e22, hm⟩ := bi_s hm
    refine z_callI (pc := 12) C (k_Pa_misfit hAD e22) km_Pa_misfit mC_117 rfl rfl oC_6 rfl (kR_of (Nat.le_of_ble_eq_true rfl) (Nat.le_of_ble_eq_true rfl)) rfl (Nat.le_of_ble_eq_true rfl) d_Pa_parseParam_12 ?_
    obtain ⟨g23, hm⟩ := gd_s hm
    exact z_zretE (pc := 15) C hr g23 hm d_Pa_parseParam_15
set_option maxHeartbeats 4000000 in
set_option maxRecDepth 100000 in
theorem w_Pa_parseParams_35 {D : va_G} {ad : Nat → Nat} {cA : Nat → ClassId} {p : Program} {l : Launch} {e : Env} {s : State} {m : MethodId} {args : Array Value} {below : List Frame} {meth : Method} {c : Code} {F : Nat} (hAD : ∀ σ, va_D (owC ad) (wdC ad cA σ)) (C : CC D ad cA (sXC ad) p s m args meth c bc_Pa_parseParams "KindRounds$Parser" 3) (hr : meth.sig.returnType = some .boolean) {r : Int32} {σ' : zS} (σ : zS) (x1 : Int32) (hm : Pa_parseParams_35 F σ x1 = some (r, σ')) : ZC D ad cA p l e (rmK 3) s m args below meth c 3 (qiC D ad cA below args s r σ') 35 [(1, .int x1)] [] σ := by
  unfold Pa_parseParams_35 at hm
  refine z_iload_n (pc := 35) C d_Pa_parseParams_35 rfl 0 rfl ?_
  obtain ⟨g1, hm⟩ := gd_s hm
  exact z_zretE (pc := 36) C hr g1 hm d_Pa_parseParams_36
set_option maxHeartbeats 4000000 in
set_option maxRecDepth 100000 in
theorem w_Pa_parseParams_4 {D : va_G} {ad : Nat → Nat} {cA : Nat → ClassId} {p : Program} {l : Launch} {e : Env} {s : State} {m : MethodId} {args : Array Value} {below : List Frame} {meth : Method} {c : Code} {F : Nat} (hAD : ∀ σ, va_D (owC ad) (wdC ad cA σ)) (C : CC D ad cA (sXC ad) p s m args meth c bc_Pa_parseParams "KindRounds$Parser" 3) (hr : meth.sig.returnType = some .boolean) {r : Int32} {σ' : zS} : ∀ (n : Nat) (σ : zS) (x1 : Int32) (x2 : Int32), Pa_parseParams_4 F n σ x1 x2 = some (r, σ') → ZC D ad cA p l e (rmK 3) s m args below meth c 3 (qiC D ad cA below args s r σ') 4 [(0, .ref (ad 6)), (1, .int x1), (2, .int x2)] [] σ := by
  intro n
  induction n with
  | zero => intro σ x1 x2 hm; cases hm
  | succ n h4 =>
    intro σ x1 x2 hm
    have hm : Pa_parseParams_b4 F (Pa_parseParams_4 F n) σ x1 x2 = some (r, σ') := hm
    unfold Pa_parseParams_b4 at hm
    refine z_iload_n (pc := 4) C d_Pa_parseParams_4 rfl 2 rfl ?_
    refine z_iconst (pc := 5) C d_Pa_parseParams_5 ki_3 ?_
    refine z_icmp_gt (pc := 6) (tgt := 35) C d_Pa_parseParams_6 (by decide) (fun c1 => ?_) (fun c1 => ?_)
    · rw [if_pos c1] at hm
      refine z_lv (lv' := [(1, .int x1)]) [1] rfl ?_
      exact w_Pa_parseParams_35 hAD C hr σ x1 hm
    · rw [if_neg c1] at hm
      refine z_iload_n (pc := 9) C d_Pa_parseParams_9 rfl 1 rfl ?_
      refine z_if_eq (pc := 10) (tgt := 35) C d_Pa_parseParams_10 (by decide) (fun c2 => ?_) (fun c2 => ?_)
      · rw [if_pos c2] at hm
        refine z_lv (lv' := [(1, .int x1)]) [1] rfl ?_
        exact w_Pa_parseParams_35 hAD C hr σ x1 hm
      · rw [if_neg c2] at hm
        refine z_aload_n (pc := 13) C d_Pa_parseParams_13 rfl 0 rfl ?_
        refine gC_Pa_9 (pc := 14) C  d_Pa_parseParams_14 ?_
        obtain ⟨r4, σ3, e5, hm⟩ := bi_s hm
        refine z_callIN (pc := 17) C (k_Ta_sort hAD e5) km_Ta_sort mC_106 rfl rfl oC_1 rfl (kR_of (Nat.le_of_ble_eq_true rfl) (Nat.le_of_ble_eq_true rfl)) rfl (Nat.le_of_ble_eq_true rfl) d_Pa_parseParams_17 ?_
        refine z_iconst (pc := 20) C d_Pa_parseParams_20 ki_3 ?_
        refine z_icmp_ne (pc := 21) (tgt := 35) C d_Pa_parseParams_21 (by decide) (fun c6 => ?_) (fun c6 => ?_)
        · rw [if_neg c6] at hm
          refine z_lv (lv' := [(1, .int x1)]) [1] rfl ?_
          exact w_Pa_parseParams_35 hAD C hr σ3 x1 hm
        · rw [if_pos c6] at hm
          refine z_aload_n (pc := 24) C d_Pa_parseParams_24 rfl 0 rfl ?_
          obtain ⟨r8, σ7, e9, hm⟩ := bi_s hm
          refine z_callI (pc := 25) C (k_Pa_parseParam hAD e9) km_Pa_parseParam mC_114 rfl rfl oC_6 rfl (kR_of (Nat.le_of_ble_eq_true rfl) (Nat.le_of_ble_eq_true rfl)) rfl (Nat.le_of_ble_eq_true rfl) d_Pa_parseParams_25 ?_
          refine z_istore_n (pc := 28) (lv' := [(0, .ref (ad 6)), (1, .int r8), (2, .int x2)]) C d_Pa_parseParams_28 rfl (Nat.le_of_ble_eq_true rfl) [1, 0, 2] rfl ?_
          refine z_iinc (pc := 29) (lv' := [(0, .ref (ad 6)), (1, .int r8), (2, .int (x2 + (1 : Int32)))]) C d_Pa_parseParams_29 2 rfl (ii ki_1) (Nat.le_of_ble_eq_true rfl) [1, 2, 0] rfl ?_
          refine z_goto (pc := 32) (tgt := 4) C d_Pa_parseParams_32 (by decide) ?_
          exact h4 σ7 r8 (x2 + (1 : Int32)) hm
set_option maxHeartbeats 4000000 in
set_option maxRecDepth 100000 in
theorem k_Pa_parseParams {l : Launch} {D : va_G} {ad : Nat → Nat} {cA : Nat → ClassId} {F : Nat} (hAD : ∀ σ, va_D (owC ad) (wdC ad cA σ)) {σ : zS} {r : Int32} {σ' : zS} (hm : Pa_parseParams F σ = some (r, σ')) : kIC l D ad cA (sXC ad) y_Pa_parseParams bc_Pa_parseParams 3 .boolean 3 [.ref (ad 6)] σ r σ' := by
  refine kI_of (by decide) hAD sXC_P (Nat.le_of_ble_eq_true rfl) ?_
  intro p e s m below meth c C hr
  unfold Pa_parseParams at hm
  refine z_lv (lv' := [(0, .ref (ad 6))]) [0] rfl ?_
  refine z_iconst (pc := 0) C d_Pa_parseParams_0 ki_1 ?_
  refine z_istore_n (pc := 1) (lv' := [(0, .ref (ad 6)), (1, .int (1 : Int32))]) C d_Pa_parseParams_1 rfl (Nat.le_of_ble_eq_true rfl) [1, 0] rfl ?_
  refine z_iconst (pc := 2) C d_Pa_parseParams_2 ki_0 ?_
  refine z_istore_n (pc := 3) (lv' := [(0, .ref (ad 6)), (1, .int (1 : Int32)), (2, .int (0 : Int32))]) C d_Pa_parseParams_3 rfl (Nat.le_of_ble_eq_true rfl) [1, 2, 0] rfl ?_
  exact w_Pa_parseParams_4 hAD C hr F σ (1 : Int32) (0 : Int32) hm
set_option maxHeartbeats 4000000 in
set_option maxRecDepth 100000 in
theorem w_Pa_parsePart_98 {D : va_G} {ad : Nat → Nat} {cA : Nat → ClassId} {p : Program} {l : Launch} {e : Env} {s : State} {m : MethodId} {args : Array Value} {below : List Frame} {meth : Method} {c : Code} {F : Nat} {d : Nat} (hAD : ∀ σ, va_D (owC ad) (wdC ad cA σ)) (C : CC D ad cA (sXC ad) p s m args meth c bc_Pa_parsePart "KindRounds$Parser" 4) (hr : meth.sig.returnType = some .int) {r : Int32} {σ' : zS} (rK : zS → Int32 → Option (Int32 × zS)) (hK : ∀ {σ : zS} {x1 : Int32} {r : Int32} {σ' : zS}, rK σ x1 = some (r, σ') → kIC l D ad cA (sXC ad) y_Pa_parseKind bc_Pa_parseKind 7 .int (3 * d + 6) [.ref (ad 6), .int x1] σ r σ') (σ : zS) (s0 : Int32) (hm : Pa_parsePart_98 F rK σ s0 = some (r, σ')) : ZC D ad cA p l e (rmK (3 * d + 7)) s m args below meth c 4 (qiC D ad cA below args s r σ') 98 [] [.int s0] σ := by
  unfold Pa_parsePart_98 at hm
  exact z_iretE (pc := 98) C hr hm d_Pa_parsePart_98
set_option maxHeartbeats 4000000 in
set_option maxRecDepth 100000 in
theorem w_Pa_parsePart_97 {D : va_G} {ad : Nat → Nat} {cA : Nat → ClassId} {p : Program} {l : Launch} {e : Env} {s : State} {m : MethodId} {args : Array Value} {below : List Frame} {meth : Method} {c : Code} {F : Nat} {d : Nat} (hAD : ∀ σ, va_D (owC ad) (wdC ad cA σ)) (C : CC D ad cA (sXC ad) p s m args meth c bc_Pa_parsePart "KindRounds$Parser" 4) (hr : meth.sig.returnType = some .int) {r : Int32} {σ' : zS} (rK : zS → Int32 → Option (Int32 × zS)) (hK : ∀ {σ : zS} {x1 : Int32} {r : Int32} {σ' : zS}, rK σ x1 = some (r, σ') → kIC l D ad cA (sXC ad) y_Pa_parseKind bc_Pa_parseKind 7 .int (3 * d + 6) [.ref (ad 6), .int x1] σ r σ') (σ : zS) (hm : Pa_parsePart_97 F rK σ = some (r, σ')) : ZC D ad cA p l e (rmK (3 * d + 7)) s m args below meth c 4 (qiC D ad cA below args s r σ') 97 [] [] σ := by
  unfold Pa_parsePart_97 at hm
  refine z_iconst (pc := 97) C d_Pa_parsePart_97 ki_m1 ?_
  exact w_Pa_parsePart_98 hAD C hr _ hK σ (-1 : Int32) hm
set_option maxHeartbeats 4000000 in
set_option maxRecDepth 100000 in
theorem w_Pa_parsePart_58 {D : va_G} {ad : Nat → Nat} {cA : Nat → ClassId} {p : Program} {l : Launch} {e : Env} {s : State} {m : MethodId} {args : Array Value} {below : List Frame} {meth : Method} {c : Code} {F : Nat} {d : Nat} (hAD : ∀ σ, va_D (owC ad) (wdC ad cA σ)) (C : CC D ad cA (sXC ad) p s m args meth c bc_Pa_parsePart "KindRounds$Parser" 4) (hr : meth.sig.returnType = some .int) {r : Int32} {σ' : zS} (rK : zS → Int32 → Option (Int32 × zS)) (hK : ∀ {σ : zS} {x1 : Int32} {r : Int32} {σ' : zS}, rK σ x1 = some (r, σ') → kIC l D ad cA (sXC ad) y_Pa_parseKind bc_Pa_parseKind 7 .int (3 * d + 6) [.ref (ad 6), .int x1] σ r σ') (σ : zS) (x1 : Int32) (s0 : Int32) (hm : Pa_parsePart_58 F rK σ x1 s0 = some (r, σ')) : ZC D ad cA p l e (rmK (3 * d + 7)) s m args below meth c 4 (qiC D ad cA below args s r σ') 58 [(0, .ref (ad 6)), (1, .int x1)] [.int s0] σ := by
  unfold Pa_parsePart_58 at hm
  refine z_istore_n (pc := 58) (lv' := [(0, .ref (ad 6)), (1, .int x1), (2, .int s0)]) C d_Pa_parsePart_58 rfl (Nat.le_of_ble_eq_true rfl) [1, 2, 0] rfl ?_
  refine z_iload_n (pc := 59) C d_Pa_parsePart_59 rfl 2 rfl ?_
  refine z_if_ne (pc := 60) (tgt := 65) C d_Pa_parsePart_60 (by decide) (fun c1 => ?_) (fun c1 => ?_)
  · rw [if_neg c1] at hm
    refine z_aload_n (pc := 65) C d_Pa_parsePart_65 rfl 0 rfl ?_
    refine gC_Pa_9 (pc := 66) C  d_Pa_parsePart_66 ?_
    obtain ⟨σ2, e3, hm⟩ := bv_s hm
    refine z_callVN (pc := 69) C (k_Ta_step hAD e3) km_Ta_step mC_123 rfl rfl oC_1 rfl (kR_of (by omega) (Nat.le_of_ble_eq_true rfl)) rfl (Nat.le_of_ble_eq_true rfl) d_Pa_parsePart_69 ?_
    refine z_aload_n (pc := 72) C d_Pa_parsePart_72 rfl 0 rfl ?_
    refine z_iload_n (pc := 73) C d_Pa_parsePart_73 rfl 1 rfl ?_
    refine z_iconst (pc := 74) C d_Pa_parsePart_74 ki_1 ?_
    refine z_iadd (pc := 75) C d_Pa_parsePart_75 ?_
    obtain ⟨r5, σ4, e6, hm⟩ := bi_s hm
    refine z_callI (pc := 76) C (hK e6) km_Pa_parseKind mC_136 rfl rfl oC_6 rfl (kR_of (by omega) (Nat.le_of_ble_eq_true rfl)) rfl (Nat.le_of_ble_eq_true rfl) d_Pa_parsePart_76 ?_
    refine z_istore_n (pc := 79) (lv' := [(0, .ref (ad 6)), (1, .int x1), (2, .int s0), (3, .int r5)]) C d_Pa_parsePart_79 rfl (Nat.le_of_ble_eq_true rfl) [1, 2, 3, 0] rfl ?_
    refine z_iload_n (pc := 80) C d_Pa_parsePart_80 rfl 3 rfl ?_
    refine z_if_lt (pc := 81) (tgt := 97) C d_Pa_parsePart_81 (by decide) (fun c7 => ?_) (fun c7 => ?_)
    · rw [if_pos c7] at hm
      refine z_lv (lv' := []) [] rfl ?_
      exact w_Pa_parsePart_97 hAD C hr _ hK σ4 hm
    · rw [if_neg c7] at hm
      refine z_aload_n (pc := 84) C d_Pa_parsePart_84 rfl 0 rfl ?_
      refine z_bipush (pc := 85) C d_Pa_parsePart_85 kb_41 ?_
      obtain ⟨r9, σ8, e10, hm⟩ := bi_s hm
      refine z_callI (pc := 87) C (k_Pa_expect hAD e10) km_Pa_expect mC_104 rfl rfl oC_6 rfl (kR_of (by omega) (Nat.le_of_ble_eq_true rfl)) rfl (Nat.le_of_ble_eq_true rfl) d_Pa_parsePart_87 ?_
      refine z_if_eq (pc := 90) (tgt := 97) C d_Pa_parsePart_90 (by decide) (fun c11 => ?_) (fun c11 => ?_)
      · rw [if_pos c11] at hm
        refine z_lv (lv' := []) [] rfl ?_
        exact w_Pa_parsePart_97 hAD C hr _ hK σ8 hm
      · rw [if_neg c11] at hm
        refine z_iload_n (pc := 93) C d_Pa_parsePart_93 rfl 3 rfl ?_
        refine z_goto (pc := 94) (tgt := 98) C d_Pa_parsePart_94 (by decide) ?_
        refine z_lv (lv' := []) [] rfl ?_
        exact w_Pa_parsePart_98 hAD C hr _ hK σ8 r5 hm
  · rw [if_pos c1] at hm
    refine z_iconst (pc := 63) C d_Pa_parsePart_63 ki_m1 ?_
    exact z_iretE (pc := 64) C hr hm d_Pa_parsePart_64
set_option maxHeartbeats 4000000 in
set_option maxRecDepth 100000 in
theorem w_Pa_parsePart_46 {D : va_G} {ad : Nat → Nat} {cA : Nat → ClassId} {p : Program} {l : Launch} {e : Env} {s : State} {m : MethodId} {args : Array Value} {below : List Frame} {meth : Method} {c : Code} {F : Nat} {d : Nat} (hAD : ∀ σ, va_D (owC ad) (wdC ad cA σ)) (C : CC D ad cA (sXC ad) p s m args meth c bc_Pa_parsePart "KindRounds$Parser" 4) (hr : meth.sig.returnType = some .int) {r : Int32} {σ' : zS} (rK : zS → Int32 → Option (Int32 × zS)) (hK : ∀ {σ : zS} {x1 : Int32} {r : Int32} {σ' : zS}, rK σ x1 = some (r, σ') → kIC l D ad cA (sXC ad) y_Pa_parseKind bc_Pa_parseKind 7 .int (3 * d + 6) [.ref (ad 6), .int x1] σ r σ') (σ : zS) (x1 : Int32) (hm : Pa_parsePart_46 F rK σ x1 = some (r, σ')) : ZC D ad cA p l e (rmK (3 * d + 7)) s m args below meth c 4 (qiC D ad cA below args s r σ') 46 [(0, .ref (ad 6)), (1, .int x1)] [] σ := by
  unfold Pa_parsePart_46 at hm
  refine z_iconst (pc := 46) C d_Pa_parsePart_46 ki_1 ?_
  refine z_goto (pc := 47) (tgt := 58) C d_Pa_parsePart_47 (by decide) ?_
  exact w_Pa_parsePart_58 hAD C hr _ hK σ x1 (1 : Int32) hm
set_option maxHeartbeats 4000000 in
set_option maxRecDepth 100000 in
theorem k_Pa_parsePart_m {l : Launch} {D : va_G} {ad : Nat → Nat} {cA : Nat → ClassId} {F : Nat} {d : Nat} (hAD : ∀ σ, va_D (owC ad) (wdC ad cA σ)) (rK : zS → Int32 → Option (Int32 × zS)) (hK : ∀ {σ : zS} {x1 : Int32} {r : Int32} {σ' : zS}, rK σ x1 = some (r, σ') → kIC l D ad cA (sXC ad) y_Pa_parseKind bc_Pa_parseKind 7 .int (3 * d + 6) [.ref (ad 6), .int x1] σ r σ') {σ : zS} {x1 : Int32} {r : Int32} {σ' : zS} (hm : Pa_parsePart_m F rK σ x1 = some (r, σ')) : kIC l D ad cA (sXC ad) y_Pa_parsePart bc_Pa_parsePart 4 .int (3 * d + 7) [.ref (ad 6), .int x1] σ r σ' := by
  refine kI_of (by decide) hAD sXC_P (Nat.le_of_ble_eq_true rfl) ?_
  intro p e s m below meth c C hr
  unfold Pa_parsePart_m at hm
  refine z_lv (lv' := [(0, .ref (ad 6)), (1, .int x1)]) [0, 1] rfl ?_
  refine z_aload_n (pc := 0) C d_Pa_parsePart_0 rfl 0 rfl ?_
  refine gC_Pa_9 (pc := 1) C  d_Pa_parsePart_1 ?_
  obtain ⟨r2, σ1, e3, hm⟩ := bi_s hm
  refine z_callIN (pc := 4) C (k_Ta_sort hAD e3) km_Ta_sort mC_106 rfl rfl oC_1 rfl (kR_of (by omega) (Nat.le_of_ble_eq_true rfl)) rfl (Nat.le_of_ble_eq_true rfl) d_Pa_parsePart_4 ?_
  refine z_bipush (pc := 7) C d_Pa_parsePart_7 kb_42 ?_
  refine z_icmp_ne (pc := 9) (tgt := 21) C d_Pa_parsePart_9 (by decide) (fun c4 => ?_) (fun c4 => ?_)
  · rw [if_neg c4] at hm
    refine z_aload_n (pc := 21) C d_Pa_parsePart_21 rfl 0 rfl ?_
    refine gC_Pa_9 (pc := 22) C  d_Pa_parsePart_22 ?_
    obtain ⟨r6, σ5, e7, hm⟩ := bi_s hm
    refine z_callIN (pc := 25) C (k_Ta_sort hAD e7) km_Ta_sort mC_106 rfl rfl oC_1 rfl (kR_of (by omega) (Nat.le_of_ble_eq_true rfl)) rfl (Nat.le_of_ble_eq_true rfl) d_Pa_parsePart_25 ?_
    refine z_bipush (pc := 28) C d_Pa_parsePart_28 kb_40 ?_
    refine z_icmp_ne (pc := 30) (tgt := 54) C d_Pa_parsePart_30 (by decide) (fun c8 => ?_) (fun c8 => ?_)
    · rw [if_neg c8] at hm
      refine z_aload_n (pc := 54) C d_Pa_parsePart_54 rfl 0 rfl ?_
      obtain ⟨r10, σ9, e11, hm⟩ := bi_s hm
      refine z_callI (pc := 55) C (k_Pa_misfit hAD e11) km_Pa_misfit mC_117 rfl rfl oC_6 rfl (kR_of (by omega) (Nat.le_of_ble_eq_true rfl)) rfl (Nat.le_of_ble_eq_true rfl) d_Pa_parsePart_55 ?_
      exact w_Pa_parsePart_58 hAD C hr _ hK σ9 x1 r10 hm
    · rw [if_pos c8] at hm
      refine z_iload_n (pc := 33) C d_Pa_parsePart_33 rfl 1 rfl ?_
      refine z_bipush (pc := 34) C d_Pa_parsePart_34 kb_8 ?_
      refine z_icmp_lt (pc := 36) (tgt := 46) C d_Pa_parsePart_36 (by decide) (fun c12 => ?_) (fun c12 => ?_)
      · rw [if_pos c12] at hm
        exact w_Pa_parsePart_46 hAD C hr _ hK σ5 x1 hm
      · rw [if_neg c12] at hm
        refine z_aload_n (pc := 39) C d_Pa_parsePart_39 rfl 0 rfl ?_
        obtain ⟨r14, σ13, e15, hm⟩ := bi_s hm
        refine z_callI (pc := 40) C (k_Pa_tooMuch hAD e15) km_Pa_tooMuch mC_129 rfl rfl oC_6 rfl (kR_of (by omega) (Nat.le_of_ble_eq_true rfl)) rfl (Nat.le_of_ble_eq_true rfl) d_Pa_parsePart_40 ?_
        refine z_if_eq (pc := 43) (tgt := 50) C d_Pa_parsePart_43 (by decide) (fun c16 => ?_) (fun c16 => ?_)
        · rw [if_pos c16] at hm
          refine z_iconst (pc := 50) C d_Pa_parsePart_50 ki_0 ?_
          refine z_goto (pc := 51) (tgt := 58) C d_Pa_parsePart_51 (by decide) ?_
          exact w_Pa_parsePart_58 hAD C hr _ hK σ13 x1 (0 : Int32) hm
        · rw [if_neg c16] at hm
          exact w_Pa_parsePart_46 hAD C hr _ hK σ13 x1 hm
  · rw [if_pos c4] at hm
    refine z_aload_n (pc := 12) C d_Pa_parsePart_12 rfl 0 rfl ?_
    refine gC_Pa_9 (pc := 13) C  d_Pa_parsePart_13 ?_
    obtain ⟨σ17, e18, hm⟩ := bv_s hm
    refine z_callVN (pc := 16) C (k_Ta_step hAD e18) km_Ta_step mC_123 rfl rfl oC_1 rfl (kR_of (by omega) (Nat.le_of_ble_eq_true rfl)) rfl (Nat.le_of_ble_eq_true rfl) d_Pa_parsePart_16 ?_
    refine z_iconst (pc := 19) C d_Pa_parsePart_19 ki_0 ?_
    exact z_iretE (pc := 20) C hr hm d_Pa_parsePart_20
set_option maxHeartbeats 4000000 in
set_option maxRecDepth 100000 in
theorem w_Pa_parseKind_93 {D : va_G} {ad : Nat → Nat} {cA : Nat → ClassId} {p : Program} {l : Launch} {e : Env} {s : State} {m : MethodId} {args : Array Value} {below : List Frame} {meth : Method} {c : Code} {F : Nat} {d : Nat} (hAD : ∀ σ, va_D (owC ad) (wdC ad cA σ)) (C : CC D ad cA (sXC ad) p s m args meth c bc_Pa_parseKind "KindRounds$Parser" 7) (hr : meth.sig.returnType = some .int) {r : Int32} {σ' : zS} (rP : zS → Int32 → Option (Int32 × zS)) (hP : ∀ {σ : zS} {x1 : Int32} {r : Int32} {σ' : zS}, rP σ x1 = some (r, σ') → kIC l D ad cA (sXC ad) y_Pa_parsePart bc_Pa_parsePart 4 .int (3 * d + 7) [.ref (ad 6), .int x1] σ r σ') (rc7 : zS → Int32 → Int32 → Int32 → Int32 → Option (Int32 × zS)) (h7 : ∀ σ x1 x2 x3 x4, rc7 σ x1 x2 x3 x4 = some (r, σ') → ZC D ad cA p l e (rmK (3 * d + 9)) s m args below meth c 7 (qiC D ad cA below args s r σ') 7 [(0, .ref (ad 6)), (1, .int x1), (2, .int x2), (3, .int x3), (4, .int x4)] [] σ) (σ : zS) (x1 : Int32) (x2 : Int32) (x4 : Int32) (x5 : Int32) (x6 : Int32) (hm : Pa_parseKind_93 F rP rc7 σ x1 x2 x4 x5 x6 = some (r, σ')) : ZC D ad cA p l e (rmK (3 * d + 9)) s m args below meth c 7 (qiC D ad cA below args s r σ') 93 [(0, .ref (ad 6)), (1, .int x1), (2, .int x2), (4, .int x4), (5, .int x5), (6, .int x6)] [] σ := by
  unfold Pa_parseKind_93 at hm
  refine z_iload (pc := 93) C d_Pa_parseKind_93 5 rfl ?_
  refine z_if_ne (pc := 95) (tgt := 100) C d_Pa_parseKind_95 (by decide) (fun c1 => ?_) (fun c1 => ?_)
  · rw [if_neg c1] at hm
    refine z_iload (pc := 100) C d_Pa_parseKind_100 4 rfl ?_
    refine z_istore_n (pc := 102) (lv' := [(0, .ref (ad 6)), (1, .int x1), (2, .int x2), (3, .int x5), (4, .int x4), (5, .int x5), (6, .int x6)]) C d_Pa_parseKind_102 rfl (Nat.le_of_ble_eq_true rfl) [1, 2, 3, 0, 4, 5, 6] rfl ?_
    refine z_iinc (pc := 103) (lv' := [(0, .ref (ad 6)), (1, .int x1), (2, .int x2), (3, .int x5), (4, .int (x4 + (1 : Int32))), (5, .int x5), (6, .int x6)]) C d_Pa_parseKind_103 4 rfl (ii ki_1) (Nat.le_of_ble_eq_true rfl) [1, 2, 3, 4, 0, 5, 6] rfl ?_
    refine z_goto (pc := 106) (tgt := 7) C d_Pa_parseKind_106 (by decide) ?_
    refine z_lv (lv' := [(0, .ref (ad 6)), (1, .int x1), (2, .int x2), (3, .int x5), (4, .int (x4 + (1 : Int32)))]) [0, 1, 2, 3, 4] rfl ?_
    exact h7 σ x1 x2 x5 (x4 + (1 : Int32)) hm
  · rw [if_pos c1] at hm
    refine z_iload_n (pc := 98) C d_Pa_parseKind_98 rfl 2 rfl ?_
    exact z_iretE (pc := 99) C hr hm d_Pa_parseKind_99
set_option maxHeartbeats 4000000 in
set_option maxRecDepth 100000 in
theorem w_Pa_parseKind_72 {D : va_G} {ad : Nat → Nat} {cA : Nat → ClassId} {p : Program} {l : Launch} {e : Env} {s : State} {m : MethodId} {args : Array Value} {below : List Frame} {meth : Method} {c : Code} {F : Nat} {d : Nat} (hAD : ∀ σ, va_D (owC ad) (wdC ad cA σ)) (C : CC D ad cA (sXC ad) p s m args meth c bc_Pa_parseKind "KindRounds$Parser" 7) (hr : meth.sig.returnType = some .int) {r : Int32} {σ' : zS} (rP : zS → Int32 → Option (Int32 × zS)) (hP : ∀ {σ : zS} {x1 : Int32} {r : Int32} {σ' : zS}, rP σ x1 = some (r, σ') → kIC l D ad cA (sXC ad) y_Pa_parsePart bc_Pa_parsePart 4 .int (3 * d + 7) [.ref (ad 6), .int x1] σ r σ') (rc7 : zS → Int32 → Int32 → Int32 → Int32 → Option (Int32 × zS)) (h7 : ∀ σ x1 x2 x3 x4, rc7 σ x1 x2 x3 x4 = some (r, σ') → ZC D ad cA p l e (rmK (3 * d + 9)) s m args below meth c 7 (qiC D ad cA below args s r σ') 7 [(0, .ref (ad 6)), (1, .int x1), (2, .int x2), (3, .int x3), (4, .int x4)] [] σ) (σ : zS) (x1 : Int32) (x2 : Int32) (x3 : Int32) (x4 : Int32) (x5 : Int32) (x6 : Int32) (hm : Pa_parseKind_72 F rP rc7 σ x1 x2 x3 x4 x5 x6 = some (r, σ')) : ZC D ad cA p l e (rmK (3 * d + 9)) s m args below meth c 7 (qiC D ad cA below args s r σ') 72 [(0, .ref (ad 6)), (1, .int x1), (2, .int x2), (3, .int x3), (4, .int x4), (5, .int x5), (6, .int x6)] [] σ := by
  unfold Pa_parseKind_72 at hm
  refine z_iload_n (pc := 72) C d_Pa_parseKind_72 rfl 3 rfl ?_
  refine z_if_lt (pc := 73) (tgt := 90) C d_Pa_parseKind_73 (by decide) (fun c1 => ?_) (fun c1 => ?_)
  · rw [if_pos c1] at hm
    refine z_iload (pc := 90) C d_Pa_parseKind_90 5 rfl ?_
    refine z_istore_n (pc := 92) (lv' := [(0, .ref (ad 6)), (1, .int x1), (2, .int x5), (3, .int x3), (4, .int x4), (5, .int x5), (6, .int x6)]) C d_Pa_parseKind_92 rfl (Nat.le_of_ble_eq_true rfl) [1, 2, 0, 3, 4, 5, 6] rfl ?_
    refine z_lv (lv' := [(0, .ref (ad 6)), (1, .int x1), (2, .int x5), (4, .int x4), (5, .int x5), (6, .int x6)]) [0, 1, 2, 4, 5, 6] rfl ?_
    exact w_Pa_parseKind_93 hAD C hr _ hP _ h7 σ x1 x5 x4 x5 x6 hm
  · rw [if_neg c1] at hm
    refine z_aload_n (pc := 76) C d_Pa_parseKind_76 rfl 0 rfl ?_
    refine gC_Pa_23 (pc := 77) C  d_Pa_parseKind_77 ?_
    refine gC_Pa_148 (pc := 80) C  d_Pa_parseKind_80 ?_
    refine z_iload_n (pc := 83) C d_Pa_parseKind_83 rfl 3 rfl ?_
    refine z_iload (pc := 84) C d_Pa_parseKind_84 5 rfl ?_
    obtain ⟨g2, hm⟩ := gd_s hm
    refine asC_24 (pc := 86) C  g2 d_Pa_parseKind_86 ?_
    refine z_goto (pc := 87) (tgt := 93) C d_Pa_parseKind_87 (by decide) ?_
    refine z_lv (lv' := [(0, .ref (ad 6)), (1, .int x1), (2, .int x2), (4, .int x4), (5, .int x5), (6, .int x6)]) [0, 1, 2, 4, 5, 6] rfl ?_
    exact w_Pa_parseKind_93 hAD C hr _ hP _ h7 (sa σ 24 x3.toNatClampNeg x5) x1 x2 x4 x5 x6 hm
set_option maxHeartbeats 4000000 in
set_option maxRecDepth 100000 in
theorem w_Pa_parseKind_46 {D : va_G} {ad : Nat → Nat} {cA : Nat → ClassId} {p : Program} {l : Launch} {e : Env} {s : State} {m : MethodId} {args : Array Value} {below : List Frame} {meth : Method} {c : Code} {F : Nat} {d : Nat} (hAD : ∀ σ, va_D (owC ad) (wdC ad cA σ)) (C : CC D ad cA (sXC ad) p s m args meth c bc_Pa_parseKind "KindRounds$Parser" 7) (hr : meth.sig.returnType = some .int) {r : Int32} {σ' : zS} (rP : zS → Int32 → Option (Int32 × zS)) (hP : ∀ {σ : zS} {x1 : Int32} {r : Int32} {σ' : zS}, rP σ x1 = some (r, σ') → kIC l D ad cA (sXC ad) y_Pa_parsePart bc_Pa_parsePart 4 .int (3 * d + 7) [.ref (ad 6), .int x1] σ r σ') (rc7 : zS → Int32 → Int32 → Int32 → Int32 → Option (Int32 × zS)) (h7 : ∀ σ x1 x2 x3 x4, rc7 σ x1 x2 x3 x4 = some (r, σ') → ZC D ad cA p l e (rmK (3 * d + 9)) s m args below meth c 7 (qiC D ad cA below args s r σ') 7 [(0, .ref (ad 6)), (1, .int x1), (2, .int x2), (3, .int x3), (4, .int x4)] [] σ) (σ : zS) (x1 : Int32) (x2 : Int32) (x3 : Int32) (x4 : Int32) (x5 : Int32) (s0 : Int32) (hm : Pa_parseKind_46 F rP rc7 σ x1 x2 x3 x4 x5 s0 = some (r, σ')) : ZC D ad cA p l e (rmK (3 * d + 9)) s m args below meth c 7 (qiC D ad cA below args s r σ') 46 [(0, .ref (ad 6)), (1, .int x1), (2, .int x2), (3, .int x3), (4, .int x4), (5, .int x5)] [.int s0] σ := by
  unfold Pa_parseKind_46 at hm
  refine z_istore (pc := 46) (lv' := [(0, .ref (ad 6)), (1, .int x1), (2, .int x2), (3, .int x3), (4, .int x4), (5, .int x5), (6, .int s0)]) C d_Pa_parseKind_46 (Nat.le_of_ble_eq_true rfl) [1, 2, 3, 4, 5, 6, 0] rfl ?_
  refine z_iload (pc := 48) C d_Pa_parseKind_48 6 rfl ?_
  refine z_if_eq (pc := 50) (tgt := 72) C d_Pa_parseKind_50 (by decide) (fun c1 => ?_) (fun c1 => ?_)
  · rw [if_pos c1] at hm
    exact w_Pa_parseKind_72 hAD C hr _ hP _ h7 σ x1 x2 x3 x4 x5 s0 hm
  · rw [if_neg c1] at hm
    refine z_aload_n (pc := 53) C d_Pa_parseKind_53 rfl 0 rfl ?_
    refine gC_Pa_9 (pc := 54) C  d_Pa_parseKind_54 ?_
    obtain ⟨σ2, e3, hm⟩ := bv_s hm
    refine z_callVN (pc := 57) C (k_Ta_step hAD e3) km_Ta_step mC_123 rfl rfl oC_1 rfl (kR_of (by omega) (Nat.le_of_ble_eq_true rfl)) rfl (Nat.le_of_ble_eq_true rfl) d_Pa_parseKind_57 ?_
    refine z_aload_n (pc := 60) C d_Pa_parseKind_60 rfl 0 rfl ?_
    refine gC_Pa_23 (pc := 61) C  d_Pa_parseKind_61 ?_
    refine z_iload (pc := 64) C d_Pa_parseKind_64 5 rfl ?_
    refine z_iconst (pc := 66) C d_Pa_parseKind_66 ki_0 ?_
    obtain ⟨r5, σ4, e6, hm⟩ := bi_s hm
    refine z_callIN (pc := 67) C (k_Ki_makeArrow hAD e6) km_Ki_makeArrow mC_140 rfl rfl oC_3 rfl (kR_of (by omega) (Nat.le_of_ble_eq_true rfl)) rfl (Nat.le_of_ble_eq_true rfl) d_Pa_parseKind_67 ?_
    refine z_istore (pc := 70) (lv' := [(0, .ref (ad 6)), (1, .int x1), (2, .int x2), (3, .int x3), (4, .int x4), (5, .int r5), (6, .int s0)]) C d_Pa_parseKind_70 (Nat.le_of_ble_eq_true rfl) [1, 2, 3, 4, 5, 0, 6] rfl ?_
    exact w_Pa_parseKind_72 hAD C hr _ hP _ h7 σ4 x1 x2 x3 x4 r5 s0 hm
set_option maxHeartbeats 4000000 in
set_option maxRecDepth 100000 in
theorem w_Pa_parseKind_7 {D : va_G} {ad : Nat → Nat} {cA : Nat → ClassId} {p : Program} {l : Launch} {e : Env} {s : State} {m : MethodId} {args : Array Value} {below : List Frame} {meth : Method} {c : Code} {F : Nat} {d : Nat} (hAD : ∀ σ, va_D (owC ad) (wdC ad cA σ)) (C : CC D ad cA (sXC ad) p s m args meth c bc_Pa_parseKind "KindRounds$Parser" 7) (hr : meth.sig.returnType = some .int) {r : Int32} {σ' : zS} (rP : zS → Int32 → Option (Int32 × zS)) (hP : ∀ {σ : zS} {x1 : Int32} {r : Int32} {σ' : zS}, rP σ x1 = some (r, σ') → kIC l D ad cA (sXC ad) y_Pa_parsePart bc_Pa_parsePart 4 .int (3 * d + 7) [.ref (ad 6), .int x1] σ r σ') : ∀ (n : Nat) (σ : zS) (x1 : Int32) (x2 : Int32) (x3 : Int32) (x4 : Int32), Pa_parseKind_7 F rP n σ x1 x2 x3 x4 = some (r, σ') → ZC D ad cA p l e (rmK (3 * d + 9)) s m args below meth c 7 (qiC D ad cA below args s r σ') 7 [(0, .ref (ad 6)), (1, .int x1), (2, .int x2), (3, .int x3), (4, .int x4)] [] σ := by
  intro n
  induction n with
  | zero => intro σ x1 x2 x3 x4 hm; cases hm
  | succ n h7 =>
    intro σ x1 x2 x3 x4 hm
    have hm : Pa_parseKind_b7 F rP (Pa_parseKind_7 F rP n) σ x1 x2 x3 x4 = some (r, σ') := hm
    unfold Pa_parseKind_b7 at hm
    refine z_iload (pc := 7) C d_Pa_parseKind_7 4 rfl ?_
    refine z_sipush (pc := 9) C d_Pa_parseKind_9 ks_1200 ?_
    refine z_icmp_ge (pc := 12) (tgt := 109) C d_Pa_parseKind_12 (by decide) (fun c1 => ?_) (fun c1 => ?_)
    · rw [if_pos c1] at hm
      refine z_iconst (pc := 109) C d_Pa_parseKind_109 ki_m1 ?_
      exact z_iretE (pc := 110) C hr hm d_Pa_parseKind_110
    · rw [if_neg c1] at hm
      refine z_aload_n (pc := 15) C d_Pa_parseKind_15 rfl 0 rfl ?_
      refine z_iload_n (pc := 16) C d_Pa_parseKind_16 rfl 1 rfl ?_
      obtain ⟨r3, σ2, e4, hm⟩ := bi_s hm
      refine z_callI (pc := 17) C (hP e4) km_Pa_parsePart mC_141 rfl rfl oC_6 rfl (kR_of (by omega) (Nat.le_of_ble_eq_true rfl)) rfl (Nat.le_of_ble_eq_true rfl) d_Pa_parseKind_17 ?_
      refine z_istore (pc := 20) (lv' := [(0, .ref (ad 6)), (1, .int x1), (2, .int x2), (3, .int x3), (4, .int x4), (5, .int r3)]) C d_Pa_parseKind_20 (Nat.le_of_ble_eq_true rfl) [1, 2, 3, 4, 5, 0] rfl ?_
      refine z_iload (pc := 22) C d_Pa_parseKind_22 5 rfl ?_
      refine z_if_ge (pc := 24) (tgt := 29) C d_Pa_parseKind_24 (by decide) (fun c5 => ?_) (fun c5 => ?_)
      · rw [if_pos c5] at hm
        refine z_aload_n (pc := 29) C d_Pa_parseKind_29 rfl 0 rfl ?_
        refine gC_Pa_9 (pc := 30) C  d_Pa_parseKind_30 ?_
        obtain ⟨r7, σ6, e8, hm⟩ := bi_s hm
        refine z_callIN (pc := 33) C (k_Ta_sort hAD e8) km_Ta_sort mC_106 rfl rfl oC_1 rfl (kR_of (by omega) (Nat.le_of_ble_eq_true rfl)) rfl (Nat.le_of_ble_eq_true rfl) d_Pa_parseKind_33 ?_
        refine z_bipush (pc := 36) C d_Pa_parseKind_36 kb_45 ?_
        refine z_icmp_ne (pc := 38) (tgt := 45) C d_Pa_parseKind_38 (by decide) (fun c9 => ?_) (fun c9 => ?_)
        · rw [if_neg c9] at hm
          refine z_iconst (pc := 45) C d_Pa_parseKind_45 ki_0 ?_
          exact w_Pa_parseKind_46 hAD C hr _ hP _ h7 σ6 x1 x2 x3 x4 r3 (0 : Int32) hm
        · rw [if_pos c9] at hm
          refine z_iconst (pc := 41) C d_Pa_parseKind_41 ki_1 ?_
          refine z_goto (pc := 42) (tgt := 46) C d_Pa_parseKind_42 (by decide) ?_
          exact w_Pa_parseKind_46 hAD C hr _ hP _ h7 σ6 x1 x2 x3 x4 r3 (1 : Int32) hm
      · rw [if_neg c5] at hm
        refine z_iconst (pc := 27) C d_Pa_parseKind_27 ki_m1 ?_
        exact z_iretE (pc := 28) C hr hm d_Pa_parseKind_28
set_option maxHeartbeats 4000000 in
set_option maxRecDepth 100000 in
theorem k_Pa_parseKind_m {l : Launch} {D : va_G} {ad : Nat → Nat} {cA : Nat → ClassId} {F : Nat} {d : Nat} (hAD : ∀ σ, va_D (owC ad) (wdC ad cA σ)) (rP : zS → Int32 → Option (Int32 × zS)) (hP : ∀ {σ : zS} {x1 : Int32} {r : Int32} {σ' : zS}, rP σ x1 = some (r, σ') → kIC l D ad cA (sXC ad) y_Pa_parsePart bc_Pa_parsePart 4 .int (3 * d + 7) [.ref (ad 6), .int x1] σ r σ') {σ : zS} {x1 : Int32} {r : Int32} {σ' : zS} (hm : Pa_parseKind_m F rP σ x1 = some (r, σ')) : kIC l D ad cA (sXC ad) y_Pa_parseKind bc_Pa_parseKind 7 .int (3 * d + 9) [.ref (ad 6), .int x1] σ r σ' := by
  refine kI_of (by decide) hAD sXC_P (Nat.le_of_ble_eq_true rfl) ?_
  intro p e s m below meth c C hr
  unfold Pa_parseKind_m at hm
  refine z_lv (lv' := [(0, .ref (ad 6)), (1, .int x1)]) [0, 1] rfl ?_
  refine z_iconst (pc := 0) C d_Pa_parseKind_0 ki_m1 ?_
  refine z_istore_n (pc := 1) (lv' := [(0, .ref (ad 6)), (1, .int x1), (2, .int (-1 : Int32))]) C d_Pa_parseKind_1 rfl (Nat.le_of_ble_eq_true rfl) [1, 2, 0] rfl ?_
  refine z_iconst (pc := 2) C d_Pa_parseKind_2 ki_m1 ?_
  refine z_istore_n (pc := 3) (lv' := [(0, .ref (ad 6)), (1, .int x1), (2, .int (-1 : Int32)), (3, .int (-1 : Int32))]) C d_Pa_parseKind_3 rfl (Nat.le_of_ble_eq_true rfl) [1, 2, 3, 0] rfl ?_
  refine z_iconst (pc := 4) C d_Pa_parseKind_4 ki_0 ?_
  refine z_istore (pc := 5) (lv' := [(0, .ref (ad 6)), (1, .int x1), (2, .int (-1 : Int32)), (3, .int (-1 : Int32)), (4, .int (0 : Int32))]) C d_Pa_parseKind_5 (Nat.le_of_ble_eq_true rfl) [1, 2, 3, 4, 0] rfl ?_
  exact w_Pa_parseKind_7 hAD C hr _ hP F σ x1 (-1 : Int32) (-1 : Int32) (0 : Int32) hm
set_option maxHeartbeats 4000000 in
set_option maxRecDepth 100000 in
theorem w_Pa_parseOne_66 {D : va_G} {ad : Nat → Nat} {cA : Nat → ClassId} {p : Program} {l : Launch} {e : Env} {s : State} {m : MethodId} {args : Array Value} {below : List Frame} {meth : Method} {c : Code} {F : Nat} {d : Nat} (hAD : ∀ σ, va_D (owC ad) (wdC ad cA σ)) (C : CC D ad cA (sXC ad) p s m args meth c bc_Pa_parseOne "KindRounds$Parser" 5) (hr : meth.sig.returnType = some .boolean) {r : Int32} {σ' : zS} (rT : zS → Int32 → Option (Int32 × zS)) (hT : ∀ {σ : zS} {x1 : Int32} {r : Int32} {σ' : zS}, rT σ x1 = some (r, σ') → kIC l D ad cA (sXC ad) y_Pa_parseType bc_Pa_parseType 4 .boolean (3 * d + 6) [.ref (ad 6), .int x1] σ r σ') (σ : zS) (s1 : Int32) (hm : Pa_parseOne_66 F rT σ s1 = some (r, σ')) : ZC D ad cA p l e (rmK (3 * d + 7)) s m args below meth c 5 (qiC D ad cA below args s r σ') 66 [(0, .ref (ad 6))] [.int s1, .ref (ad 5)] σ := by
  unfold Pa_parseOne_66 at hm
  refine z_aload_n (pc := 66) C d_Pa_parseOne_66 rfl 0 rfl ?_
  refine gC_Pa_58 (pc := 67) (v := (gi σ 606)) C rfl d_Pa_parseOne_67 ?_
  refine z_aload_n (pc := 70) C d_Pa_parseOne_70 rfl 0 rfl ?_
  refine gC_Pa_9 (pc := 71) C  d_Pa_parseOne_71 ?_
  obtain ⟨σ1, e2, hm⟩ := bv_s hm
  refine z_callVN (pc := 74) C (k_Me_add hAD e2) km_Me_add mC_128 rfl rfl oC_5 rfl (kR_of (by omega) (Nat.le_of_ble_eq_true rfl)) rfl (Nat.le_of_ble_eq_true rfl) d_Pa_parseOne_74 ?_
  refine z_aload_n (pc := 77) C d_Pa_parseOne_77 rfl 0 rfl ?_
  refine gC_Pa_9 (pc := 78) C  d_Pa_parseOne_78 ?_
  obtain ⟨σ3, e4, hm⟩ := bv_s hm
  refine z_callVN (pc := 81) C (k_Ta_step hAD e4) km_Ta_step mC_123 rfl rfl oC_1 rfl (kR_of (by omega) (Nat.le_of_ble_eq_true rfl)) rfl (Nat.le_of_ble_eq_true rfl) d_Pa_parseOne_81 ?_
  refine z_iconst (pc := 84) C d_Pa_parseOne_84 ki_1 ?_
  exact z_zretE (pc := 85) C hr (by decide) hm d_Pa_parseOne_85
set_option maxHeartbeats 4000000 in
set_option maxRecDepth 100000 in
theorem w_Pa_parseOne_26 {D : va_G} {ad : Nat → Nat} {cA : Nat → ClassId} {p : Program} {l : Launch} {e : Env} {s : State} {m : MethodId} {args : Array Value} {below : List Frame} {meth : Method} {c : Code} {F : Nat} {d : Nat} (hAD : ∀ σ, va_D (owC ad) (wdC ad cA σ)) (C : CC D ad cA (sXC ad) p s m args meth c bc_Pa_parseOne "KindRounds$Parser" 5) (hr : meth.sig.returnType = some .boolean) {r : Int32} {σ' : zS} (rT : zS → Int32 → Option (Int32 × zS)) (hT : ∀ {σ : zS} {x1 : Int32} {r : Int32} {σ' : zS}, rT σ x1 = some (r, σ') → kIC l D ad cA (sXC ad) y_Pa_parseType bc_Pa_parseType 4 .boolean (3 * d + 6) [.ref (ad 6), .int x1] σ r σ') (σ : zS) (x2 : Int32) (x3 : Int32) (hm : Pa_parseOne_26 F rT σ x2 x3 = some (r, σ')) : ZC D ad cA p l e (rmK (3 * d + 7)) s m args below meth c 5 (qiC D ad cA below args s r σ') 26 [(0, .ref (ad 6)), (2, .int x2), (3, .int x3)] [] σ := by
  unfold Pa_parseOne_26 at hm
  refine z_aload_n (pc := 26) C d_Pa_parseOne_26 rfl 0 rfl ?_
  refine gC_Pa_37 (pc := 27) (v := (gr σ 605)) C rfl d_Pa_parseOne_27 ?_
  refine z_iload_n (pc := 30) C d_Pa_parseOne_30 rfl 1 rfl ?_
  refine z_aload_n (pc := 31) C d_Pa_parseOne_31 rfl 0 rfl ?_
  refine gC_Pa_9 (pc := 32) C  d_Pa_parseOne_32 ?_
  obtain ⟨r2, σ1, e3, hm⟩ := bi_s hm
  refine z_callLN (pc := 35) C (k_Ta_name hAD e3) km_Ta_name mC_125 rfl rfl oC_1 rfl (kR_of (by omega) (Nat.le_of_ble_eq_true rfl)) rfl (Nat.le_of_ble_eq_true rfl) d_Pa_parseOne_35 ?_
  refine z_iconst (pc := 38) C d_Pa_parseOne_38 ki_0 ?_
  refine z_iload_n (pc := 39) C d_Pa_parseOne_39 rfl 2 rfl ?_
  obtain ⟨g5, hm⟩ := gd_s hm
  obtain ⟨r6, σ4, e7, hm⟩ := bi_s hm
  refine z_callIN (pc := 40) C (k_Ro_add hAD e7) km_Ro_add mC_147 rfl rfl (oC_Ro g5) rfl (kR_of (by omega) (Nat.le_of_ble_eq_true rfl)) rfl (Nat.le_of_ble_eq_true rfl) d_Pa_parseOne_40 ?_
  refine z_if_ne (pc := 43) (tgt := 51) C d_Pa_parseOne_43 (by decide) (fun c8 => ?_) (fun c8 => ?_)
  · rw [if_neg c8] at hm
    refine z_aload_n (pc := 51) C d_Pa_parseOne_51 rfl 0 rfl ?_
    refine gC_Pa_19 (pc := 52) C  d_Pa_parseOne_52 ?_
    refine z_iload_n (pc := 55) C d_Pa_parseOne_55 rfl 1 rfl ?_
    refine z_iconst (pc := 56) C d_Pa_parseOne_56 ki_2 ?_
    refine z_icmp_ne (pc := 57) (tgt := 64) C d_Pa_parseOne_57 (by decide) (fun c9 => ?_) (fun c9 => ?_)
    · rw [if_neg c9] at hm
      refine z_bipush (pc := 64) C d_Pa_parseOne_64 kb_6 ?_
      refine z_lv (lv' := [(0, .ref (ad 6))]) [0] rfl ?_
      exact w_Pa_parseOne_66 hAD C hr _ hT σ4 (6 : Int32) hm
    · rw [if_pos c9] at hm
      refine z_iconst (pc := 60) C d_Pa_parseOne_60 ki_5 ?_
      refine z_goto (pc := 61) (tgt := 66) C d_Pa_parseOne_61 (by decide) ?_
      refine z_lv (lv' := [(0, .ref (ad 6))]) [0] rfl ?_
      exact w_Pa_parseOne_66 hAD C hr _ hT σ4 (5 : Int32) hm
  · rw [if_pos c8] at hm
    refine z_aload_n (pc := 46) C d_Pa_parseOne_46 rfl 0 rfl ?_
    obtain ⟨r11, σ10, e12, hm⟩ := bi_s hm
    refine z_callI (pc := 47) C (k_Pa_tooMuch hAD e12) km_Pa_tooMuch mC_129 rfl rfl oC_6 rfl (kR_of (by omega) (Nat.le_of_ble_eq_true rfl)) rfl (Nat.le_of_ble_eq_true rfl) d_Pa_parseOne_47 ?_
    obtain ⟨g13, hm⟩ := gd_s hm
    exact z_zretE (pc := 50) C hr g13 hm d_Pa_parseOne_50
set_option maxHeartbeats 4000000 in
set_option maxRecDepth 100000 in
theorem w_Pa_parseOne_193 {D : va_G} {ad : Nat → Nat} {cA : Nat → ClassId} {p : Program} {l : Launch} {e : Env} {s : State} {m : MethodId} {args : Array Value} {below : List Frame} {meth : Method} {c : Code} {F : Nat} {d : Nat} (hAD : ∀ σ, va_D (owC ad) (wdC ad cA σ)) (C : CC D ad cA (sXC ad) p s m args meth c bc_Pa_parseOne "KindRounds$Parser" 5) (hr : meth.sig.returnType = some .boolean) {r : Int32} {σ' : zS} (rT : zS → Int32 → Option (Int32 × zS)) (hT : ∀ {σ : zS} {x1 : Int32} {r : Int32} {σ' : zS}, rT σ x1 = some (r, σ') → kIC l D ad cA (sXC ad) y_Pa_parseType bc_Pa_parseType 4 .boolean (3 * d + 6) [.ref (ad 6), .int x1] σ r σ') (σ : zS) (s1 : Int32) (hm : Pa_parseOne_193 F rT σ s1 = some (r, σ')) : ZC D ad cA p l e (rmK (3 * d + 7)) s m args below meth c 5 (qiC D ad cA below args s r σ') 193 [] [.int s1, .ref (ad 6)] σ := by
  unfold Pa_parseOne_193 at hm
  obtain ⟨r2, σ1, e3, hm⟩ := bi_s hm
  refine z_callI (pc := 193) C (k_Pa_expect hAD e3) km_Pa_expect mC_104 rfl rfl oC_6 rfl (kR_of (by omega) (Nat.le_of_ble_eq_true rfl)) rfl (Nat.le_of_ble_eq_true rfl) d_Pa_parseOne_193 ?_
  obtain ⟨g4, hm⟩ := gd_s hm
  exact z_zretE (pc := 196) C hr g4 hm d_Pa_parseOne_196
set_option maxHeartbeats 4000000 in
set_option maxRecDepth 100000 in
theorem w_Pa_parseOne_149 {D : va_G} {ad : Nat → Nat} {cA : Nat → ClassId} {p : Program} {l : Launch} {e : Env} {s : State} {m : MethodId} {args : Array Value} {below : List Frame} {meth : Method} {c : Code} {F : Nat} {d : Nat} (hAD : ∀ σ, va_D (owC ad) (wdC ad cA σ)) (C : CC D ad cA (sXC ad) p s m args meth c bc_Pa_parseOne "KindRounds$Parser" 5) (hr : meth.sig.returnType = some .boolean) {r : Int32} {σ' : zS} (rT : zS → Int32 → Option (Int32 × zS)) (hT : ∀ {σ : zS} {x1 : Int32} {r : Int32} {σ' : zS}, rT σ x1 = some (r, σ') → kIC l D ad cA (sXC ad) y_Pa_parseType bc_Pa_parseType 4 .boolean (3 * d + 6) [.ref (ad 6), .int x1] σ r σ') (σ : zS) (x1 : Int32) (x2 : Int32) (x3 : Int32) (x4 : Int32) (hm : Pa_parseOne_149 F rT σ x1 x2 x3 x4 = some (r, σ')) : ZC D ad cA p l e (rmK (3 * d + 7)) s m args below meth c 5 (qiC D ad cA below args s r σ') 149 [(0, .ref (ad 6)), (1, .int x1), (2, .int x2), (3, .int x3), (4, .int x4)] [] σ := by
  unfold Pa_parseOne_149 at hm
  refine z_aload_n (pc := 149) C d_Pa_parseOne_149 rfl 0 rfl ?_
  refine gC_Pa_9 (pc := 150) C  d_Pa_parseOne_150 ?_
  obtain ⟨σ1, e2, hm⟩ := bv_s hm
  refine z_callVN (pc := 153) C (k_Ta_step hAD e2) km_Ta_step mC_123 rfl rfl oC_1 rfl (kR_of (by omega) (Nat.le_of_ble_eq_true rfl)) rfl (Nat.le_of_ble_eq_true rfl) d_Pa_parseOne_153 ?_
  refine z_aload_n (pc := 156) C d_Pa_parseOne_156 rfl 0 rfl ?_
  refine z_iload_n (pc := 157) C d_Pa_parseOne_157 rfl 1 rfl ?_
  refine z_iconst (pc := 158) C d_Pa_parseOne_158 ki_1 ?_
  refine z_iadd (pc := 159) C d_Pa_parseOne_159 ?_
  obtain ⟨r4, σ3, e5, hm⟩ := bi_s hm
  refine z_callI (pc := 160) C (hT e5) km_Pa_parseType mC_113 rfl rfl oC_6 rfl (kR_of (by omega) (Nat.le_of_ble_eq_true rfl)) rfl (Nat.le_of_ble_eq_true rfl) d_Pa_parseOne_160 ?_
  refine z_if_ne (pc := 163) (tgt := 168) C d_Pa_parseOne_163 (by decide) (fun c6 => ?_) (fun c6 => ?_)
  · rw [if_neg c6] at hm
    refine z_aload_n (pc := 168) C d_Pa_parseOne_168 rfl 0 rfl ?_
    refine gC_Pa_37 (pc := 169) (v := (gr σ3 605)) C rfl d_Pa_parseOne_169 ?_
    obtain ⟨g7, hm⟩ := gd_s hm
    refine gC_Pa_168 (pc := 172) C g7  d_Pa_parseOne_172 ?_
    refine z_iload (pc := 175) C d_Pa_parseOne_175 4 rfl ?_
    refine z_iload_n (pc := 177) C d_Pa_parseOne_177 rfl 3 rfl ?_
    obtain ⟨g8, hm⟩ := gd_s hm
    refine asC_Ro_3 (pc := 178) C (x := (gr σ3 605)) g7 g8 d_Pa_parseOne_178 ?_
    refine z_aload_n (pc := 179) C d_Pa_parseOne_179 rfl 0 rfl ?_
    refine z_iload_n (pc := 180) C d_Pa_parseOne_180 rfl 2 rfl ?_
    refine z_bipush (pc := 181) C d_Pa_parseOne_181 kb_91 ?_
    refine z_icmp_ne (pc := 183) (tgt := 191) C d_Pa_parseOne_183 (by decide) (fun c9 => ?_) (fun c9 => ?_)
    · rw [if_neg c9] at hm
      refine z_bipush (pc := 191) C d_Pa_parseOne_191 kb_41 ?_
      refine z_lv (lv' := []) [] rfl ?_
      exact w_Pa_parseOne_193 hAD C hr _ hT (ta σ3 (rA (gr σ3 605) 3) x4.toNatClampNeg x3) (41 : Int32) hm
    · rw [if_pos c9] at hm
      refine z_bipush (pc := 186) C d_Pa_parseOne_186 kb_93 ?_
      refine z_goto (pc := 188) (tgt := 193) C d_Pa_parseOne_188 (by decide) ?_
      refine z_lv (lv' := []) [] rfl ?_
      exact w_Pa_parseOne_193 hAD C hr _ hT (ta σ3 (rA (gr σ3 605) 3) x4.toNatClampNeg x3) (93 : Int32) hm
  · rw [if_pos c6] at hm
    refine z_iconst (pc := 166) C d_Pa_parseOne_166 ki_0 ?_
    exact z_zretE (pc := 167) C hr (by decide) hm d_Pa_parseOne_167
set_option maxHeartbeats 4000000 in
set_option maxRecDepth 100000 in
theorem w_Pa_parseOne_103 {D : va_G} {ad : Nat → Nat} {cA : Nat → ClassId} {p : Program} {l : Launch} {e : Env} {s : State} {m : MethodId} {args : Array Value} {below : List Frame} {meth : Method} {c : Code} {F : Nat} {d : Nat} (hAD : ∀ σ, va_D (owC ad) (wdC ad cA σ)) (C : CC D ad cA (sXC ad) p s m args meth c bc_Pa_parseOne "KindRounds$Parser" 5) (hr : meth.sig.returnType = some .boolean) {r : Int32} {σ' : zS} (rT : zS → Int32 → Option (Int32 × zS)) (hT : ∀ {σ : zS} {x1 : Int32} {r : Int32} {σ' : zS}, rT σ x1 = some (r, σ') → kIC l D ad cA (sXC ad) y_Pa_parseType bc_Pa_parseType 4 .boolean (3 * d + 6) [.ref (ad 6), .int x1] σ r σ') (σ : zS) (x1 : Int32) (x2 : Int32) (x3 : Int32) (hm : Pa_parseOne_103 F rT σ x1 x2 x3 = some (r, σ')) : ZC D ad cA p l e (rmK (3 * d + 7)) s m args below meth c 5 (qiC D ad cA below args s r σ') 103 [(0, .ref (ad 6)), (1, .int x1), (2, .int x2), (3, .int x3)] [] σ := by
  unfold Pa_parseOne_103 at hm
  refine z_iload_n (pc := 103) C d_Pa_parseOne_103 rfl 1 rfl ?_
  refine z_bipush (pc := 104) C d_Pa_parseOne_104 kb_8 ?_
  refine z_icmp_lt (pc := 106) (tgt := 114) C d_Pa_parseOne_106 (by decide) (fun c1 => ?_) (fun c1 => ?_)
  · rw [if_pos c1] at hm
    refine z_aload_n (pc := 114) C d_Pa_parseOne_114 rfl 0 rfl ?_
    refine gC_Pa_37 (pc := 115) (v := (gr σ 605)) C rfl d_Pa_parseOne_115 ?_
    obtain ⟨g2, hm⟩ := gd_s hm
    refine gC_Pa_151 (pc := 118) (v := (mi σ (100 * (gr σ 605) + 4))) C g2 rfl d_Pa_parseOne_118 ?_
    refine z_istore (pc := 121) (lv' := [(0, .ref (ad 6)), (1, .int x1), (2, .int x2), (3, .int x3), (4, .int (mi σ (100 * (gr σ 605) + 4)))]) C d_Pa_parseOne_121 (Nat.le_of_ble_eq_true rfl) [1, 2, 3, 4, 0] rfl ?_
    refine z_iload_n (pc := 123) C d_Pa_parseOne_123 rfl 2 rfl ?_
    refine z_bipush (pc := 124) C d_Pa_parseOne_124 kb_91 ?_
    refine z_icmp_ne (pc := 126) (tgt := 149) C d_Pa_parseOne_126 (by decide) (fun c3 => ?_) (fun c3 => ?_)
    · rw [if_neg c3] at hm
      exact w_Pa_parseOne_149 hAD C hr _ hT σ x1 x2 x3 (mi σ (100 * (gr σ 605) + 4)) hm
    · rw [if_pos c3] at hm
      refine z_aload_n (pc := 129) C d_Pa_parseOne_129 rfl 0 rfl ?_
      refine gC_Pa_37 (pc := 130) (v := (gr σ 605)) C rfl d_Pa_parseOne_130 ?_
      refine z_bipush (pc := 133) C d_Pa_parseOne_133 kb_91 ?_
      refine z_lconst (pc := 135) C d_Pa_parseOne_135 rfl ?_
      refine z_iconst (pc := 136) C d_Pa_parseOne_136 ki_1 ?_
      refine z_iload_n (pc := 137) C d_Pa_parseOne_137 rfl 3 rfl ?_
      obtain ⟨r5, σ4, e6, hm⟩ := bi_s hm
      refine z_callIN (pc := 138) C (k_Ro_add hAD e6) km_Ro_add mC_147 rfl rfl (oC_Ro g2) rfl (kR_of (by omega) (Nat.le_of_ble_eq_true rfl)) rfl (Nat.le_of_ble_eq_true rfl) d_Pa_parseOne_138 ?_
      refine z_if_ne (pc := 141) (tgt := 149) C d_Pa_parseOne_141 (by decide) (fun c7 => ?_) (fun c7 => ?_)
      · rw [if_neg c7] at hm
        exact w_Pa_parseOne_149 hAD C hr _ hT σ4 x1 x2 x3 (mi σ (100 * (gr σ 605) + 4)) hm
      · rw [if_pos c7] at hm
        refine z_aload_n (pc := 144) C d_Pa_parseOne_144 rfl 0 rfl ?_
        obtain ⟨r9, σ8, e10, hm⟩ := bi_s hm
        refine z_callI (pc := 145) C (k_Pa_tooMuch hAD e10) km_Pa_tooMuch mC_129 rfl rfl oC_6 rfl (kR_of (by omega) (Nat.le_of_ble_eq_true rfl)) rfl (Nat.le_of_ble_eq_true rfl) d_Pa_parseOne_145 ?_
        obtain ⟨g11, hm⟩ := gd_s hm
        exact z_zretE (pc := 148) C hr g11 hm d_Pa_parseOne_148
  · rw [if_neg c1] at hm
    refine z_aload_n (pc := 109) C d_Pa_parseOne_109 rfl 0 rfl ?_
    obtain ⟨r13, σ12, e14, hm⟩ := bi_s hm
    refine z_callI (pc := 110) C (k_Pa_tooMuch hAD e14) km_Pa_tooMuch mC_129 rfl rfl oC_6 rfl (kR_of (by omega) (Nat.le_of_ble_eq_true rfl)) rfl (Nat.le_of_ble_eq_true rfl) d_Pa_parseOne_110 ?_
    obtain ⟨g15, hm⟩ := gd_s hm
    exact z_zretE (pc := 113) C hr g15 hm d_Pa_parseOne_113
set_option maxHeartbeats 4000000 in
set_option maxRecDepth 100000 in
theorem k_Pa_parseOne_m {l : Launch} {D : va_G} {ad : Nat → Nat} {cA : Nat → ClassId} {F : Nat} {d : Nat} (hAD : ∀ σ, va_D (owC ad) (wdC ad cA σ)) (rT : zS → Int32 → Option (Int32 × zS)) (hT : ∀ {σ : zS} {x1 : Int32} {r : Int32} {σ' : zS}, rT σ x1 = some (r, σ') → kIC l D ad cA (sXC ad) y_Pa_parseType bc_Pa_parseType 4 .boolean (3 * d + 6) [.ref (ad 6), .int x1] σ r σ') {σ : zS} {x1 : Int32} {r : Int32} {σ' : zS} (hm : Pa_parseOne_m F rT σ x1 = some (r, σ')) : kIC l D ad cA (sXC ad) y_Pa_parseOne bc_Pa_parseOne 5 .boolean (3 * d + 7) [.ref (ad 6), .int x1] σ r σ' := by
  refine kI_of (by decide) hAD sXC_P (Nat.le_of_ble_eq_true rfl) ?_
  intro p e s m below meth c C hr
  unfold Pa_parseOne_m at hm
  refine z_lv (lv' := [(0, .ref (ad 6)), (1, .int x1)]) [0, 1] rfl ?_
  refine z_aload_n (pc := 0) C d_Pa_parseOne_0 rfl 0 rfl ?_
  refine gC_Pa_9 (pc := 1) C  d_Pa_parseOne_1 ?_
  obtain ⟨r2, σ1, e3, hm⟩ := bi_s hm
  refine z_callIN (pc := 4) C (k_Ta_sort hAD e3) km_Ta_sort mC_106 rfl rfl oC_1 rfl (kR_of (by omega) (Nat.le_of_ble_eq_true rfl)) rfl (Nat.le_of_ble_eq_true rfl) d_Pa_parseOne_4 ?_
  refine z_istore_n (pc := 7) (lv' := [(0, .ref (ad 6)), (1, .int x1), (2, .int r2)]) C d_Pa_parseOne_7 rfl (Nat.le_of_ble_eq_true rfl) [1, 2, 0] rfl ?_
  refine z_aload_n (pc := 8) C d_Pa_parseOne_8 rfl 0 rfl ?_
  refine gC_Pa_9 (pc := 9) C  d_Pa_parseOne_9 ?_
  obtain ⟨r5, σ4, e6, hm⟩ := bi_s hm
  refine z_callIN (pc := 12) C (k_Ta_start hAD e6) km_Ta_start mC_121 rfl rfl oC_1 rfl (kR_of (by omega) (Nat.le_of_ble_eq_true rfl)) rfl (Nat.le_of_ble_eq_true rfl) d_Pa_parseOne_12 ?_
  refine z_istore_n (pc := 15) (lv' := [(0, .ref (ad 6)), (1, .int x1), (2, .int r2), (3, .int r5)]) C d_Pa_parseOne_15 rfl (Nat.le_of_ble_eq_true rfl) [1, 2, 3, 0] rfl ?_
  refine z_iload_n (pc := 16) C d_Pa_parseOne_16 rfl 2 rfl ?_
  refine z_iconst (pc := 17) C d_Pa_parseOne_17 ki_2 ?_
  refine z_icmp_eq (pc := 18) (tgt := 26) C d_Pa_parseOne_18 (by decide) (fun c7 => ?_) (fun c7 => ?_)
  · rw [if_pos c7] at hm
    refine z_lv (lv' := [(0, .ref (ad 6)), (2, .int r2), (3, .int r5)]) [0, 2, 3] rfl ?_
    exact w_Pa_parseOne_26 hAD C hr _ hT σ4 r2 r5 hm
  · rw [if_neg c7] at hm
    refine z_iload_n (pc := 21) C d_Pa_parseOne_21 rfl 2 rfl ?_
    refine z_iconst (pc := 22) C d_Pa_parseOne_22 ki_3 ?_
    refine z_icmp_ne (pc := 23) (tgt := 86) C d_Pa_parseOne_23 (by decide) (fun c8 => ?_) (fun c8 => ?_)
    · rw [if_neg c8] at hm
      refine z_iload_n (pc := 86) C d_Pa_parseOne_86 rfl 2 rfl ?_
      refine z_bipush (pc := 87) C d_Pa_parseOne_87 kb_40 ?_
      refine z_icmp_eq (pc := 89) (tgt := 103) C d_Pa_parseOne_89 (by decide) (fun c9 => ?_) (fun c9 => ?_)
      · rw [if_pos c9] at hm
        exact w_Pa_parseOne_103 hAD C hr _ hT σ4 x1 r2 r5 hm
      · rw [if_neg c9] at hm
        refine z_iload_n (pc := 92) C d_Pa_parseOne_92 rfl 2 rfl ?_
        refine z_bipush (pc := 93) C d_Pa_parseOne_93 kb_91 ?_
        refine z_icmp_eq (pc := 95) (tgt := 103) C d_Pa_parseOne_95 (by decide) (fun c10 => ?_) (fun c10 => ?_)
        · rw [if_pos c10] at hm
          exact w_Pa_parseOne_103 hAD C hr _ hT σ4 x1 r2 r5 hm
        · rw [if_neg c10] at hm
          refine z_aload_n (pc := 98) C d_Pa_parseOne_98 rfl 0 rfl ?_
          obtain ⟨r12, σ11, e13, hm⟩ := bi_s hm
          refine z_callI (pc := 99) C (k_Pa_misfit hAD e13) km_Pa_misfit mC_117 rfl rfl oC_6 rfl (kR_of (by omega) (Nat.le_of_ble_eq_true rfl)) rfl (Nat.le_of_ble_eq_true rfl) d_Pa_parseOne_99 ?_
          obtain ⟨g14, hm⟩ := gd_s hm
          exact z_zretE (pc := 102) C hr g14 hm d_Pa_parseOne_102
    · rw [if_pos c8] at hm
      refine z_lv (lv' := [(0, .ref (ad 6)), (2, .int r2), (3, .int r5)]) [0, 2, 3] rfl ?_
      exact w_Pa_parseOne_26 hAD C hr _ hT σ4 r2 r5 hm
set_option maxHeartbeats 4000000 in
set_option maxRecDepth 100000 in
theorem w_Pa_parseSome_113 {D : va_G} {ad : Nat → Nat} {cA : Nat → ClassId} {p : Program} {l : Launch} {e : Env} {s : State} {m : MethodId} {args : Array Value} {below : List Frame} {meth : Method} {c : Code} {F : Nat} {d : Nat} (hAD : ∀ σ, va_D (owC ad) (wdC ad cA σ)) (C : CC D ad cA (sXC ad) p s m args meth c bc_Pa_parseSome "KindRounds$Parser" 7) (hr : meth.sig.returnType = some .boolean) {r : Int32} {σ' : zS} (rO : zS → Int32 → Option (Int32 × zS)) (hO : ∀ {σ : zS} {x1 : Int32} {r : Int32} {σ' : zS}, rO σ x1 = some (r, σ') → kIC l D ad cA (sXC ad) y_Pa_parseOne bc_Pa_parseOne 5 .boolean (3 * d + 7) [.ref (ad 6), .int x1] σ r σ') (σ : zS) (hm : Pa_parseSome_113 F rO σ = some (r, σ')) : ZC D ad cA p l e (rmK (3 * d + 8)) s m args below meth c 7 (qiC D ad cA below args s r σ') 113 [] [] σ := by
  unfold Pa_parseSome_113 at hm
  refine z_iconst (pc := 113) C d_Pa_parseSome_113 ki_1 ?_
  exact z_zretE (pc := 114) C hr (by decide) hm d_Pa_parseSome_114
set_option maxHeartbeats 4000000 in
set_option maxRecDepth 100000 in
theorem w_Pa_parseSome_84 {D : va_G} {ad : Nat → Nat} {cA : Nat → ClassId} {p : Program} {l : Launch} {e : Env} {s : State} {m : MethodId} {args : Array Value} {below : List Frame} {meth : Method} {c : Code} {F : Nat} {d : Nat} (hAD : ∀ σ, va_D (owC ad) (wdC ad cA σ)) (C : CC D ad cA (sXC ad) p s m args meth c bc_Pa_parseSome "KindRounds$Parser" 7) (hr : meth.sig.returnType = some .boolean) {r : Int32} {σ' : zS} (rO : zS → Int32 → Option (Int32 × zS)) (hO : ∀ {σ : zS} {x1 : Int32} {r : Int32} {σ' : zS}, rO σ x1 = some (r, σ') → kIC l D ad cA (sXC ad) y_Pa_parseOne bc_Pa_parseOne 5 .boolean (3 * d + 7) [.ref (ad 6), .int x1] σ r σ') (σ : zS) (x2 : Int32) (x3 : Int32) (x4 : Int32) (x5 : Int32) (hm : Pa_parseSome_84 F rO σ x2 x3 x4 x5 = some (r, σ')) : ZC D ad cA p l e (rmK (3 * d + 8)) s m args below meth c 7 (qiC D ad cA below args s r σ') 84 [(0, .ref (ad 6)), (2, .int x2), (3, .int x3), (4, .int x4), (5, .int x5)] [] σ := by
  unfold Pa_parseSome_84 at hm
  refine z_aload_n (pc := 84) C d_Pa_parseSome_84 rfl 0 rfl ?_
  refine gC_Pa_37 (pc := 85) (v := (gr σ 605)) C rfl d_Pa_parseSome_85 ?_
  obtain ⟨g1, hm⟩ := gd_s hm
  refine gC_Pa_162 (pc := 88) C g1  d_Pa_parseSome_88 ?_
  refine z_iload_n (pc := 91) C d_Pa_parseSome_91 rfl 1 rfl ?_
  refine z_dup2 (pc := 92) C d_Pa_parseSome_92 rfl rfl ?_
  obtain ⟨g2, hm⟩ := gd_s hm
  refine alC_Ro_2 (pc := 93) (v := (ma σ (rA (gr σ 605) 2) x2.toNatClampNeg)) C (x := (gr σ 605)) g1 rfl g2 d_Pa_parseSome_93 ?_
  refine z_iload (pc := 94) C d_Pa_parseSome_94 4 rfl ?_
  refine z_iadd (pc := 96) C d_Pa_parseSome_96 ?_
  refine asC_Ro_2 (pc := 97) C (x := (gr σ 605)) g1 g2 d_Pa_parseSome_97 ?_
  refine z_iload (pc := 98) C d_Pa_parseSome_98 3 rfl ?_
  refine z_if_eq (pc := 100) (tgt := 113) C d_Pa_parseSome_100 (by decide) (fun c3 => ?_) (fun c3 => ?_)
  · rw [if_pos c3] at hm
    refine z_lv (lv' := []) [] rfl ?_
    exact w_Pa_parseSome_113 hAD C hr _ hO (ta σ (rA (gr σ 605) 2) x2.toNatClampNeg ((ma σ (rA (gr σ 605) 2) x2.toNatClampNeg) + x5)) hm
  · rw [if_neg c3] at hm
    refine z_aload_n (pc := 103) C d_Pa_parseSome_103 rfl 0 rfl ?_
    refine gC_Pa_19 (pc := 104) C  d_Pa_parseSome_104 ?_
    refine z_iload_n (pc := 107) C d_Pa_parseSome_107 rfl 2 rfl ?_
    refine z_iload (pc := 108) C d_Pa_parseSome_108 4 rfl ?_
    obtain ⟨σ4, e5, hm⟩ := bv_s hm
    refine z_callVN (pc := 110) C (k_Me_setValue hAD e5) km_Me_setValue mC_137 rfl rfl oC_5 rfl (kR_of (by omega) (Nat.le_of_ble_eq_true rfl)) rfl (Nat.le_of_ble_eq_true rfl) d_Pa_parseSome_110 ?_
    refine z_lv (lv' := []) [] rfl ?_
    exact w_Pa_parseSome_113 hAD C hr _ hO σ4 hm
set_option maxHeartbeats 4000000 in
set_option maxRecDepth 100000 in
theorem w_Pa_parseSome_50 {D : va_G} {ad : Nat → Nat} {cA : Nat → ClassId} {p : Program} {l : Launch} {e : Env} {s : State} {m : MethodId} {args : Array Value} {below : List Frame} {meth : Method} {c : Code} {F : Nat} {d : Nat} (hAD : ∀ σ, va_D (owC ad) (wdC ad cA σ)) (C : CC D ad cA (sXC ad) p s m args meth c bc_Pa_parseSome "KindRounds$Parser" 7) (hr : meth.sig.returnType = some .boolean) {r : Int32} {σ' : zS} (rO : zS → Int32 → Option (Int32 × zS)) (hO : ∀ {σ : zS} {x1 : Int32} {r : Int32} {σ' : zS}, rO σ x1 = some (r, σ') → kIC l D ad cA (sXC ad) y_Pa_parseOne bc_Pa_parseOne 5 .boolean (3 * d + 7) [.ref (ad 6), .int x1] σ r σ') : ∀ (n : Nat) (σ : zS) (x1 : Int32) (x2 : Int32) (x3 : Int32) (x4 : Int32) (x5 : Int32) (x6 : Int32), Pa_parseSome_50 F rO n σ x1 x2 x3 x4 x5 x6 = some (r, σ') → ZC D ad cA p l e (rmK (3 * d + 8)) s m args below meth c 7 (qiC D ad cA below args s r σ') 50 [(0, .ref (ad 6)), (1, .int x1), (2, .int x2), (3, .int x3), (4, .int x4), (5, .int x5), (6, .int x6)] [] σ := by
  intro n
  induction n with
  | zero => intro σ x1 x2 x3 x4 x5 x6 hm; cases hm
  | succ n h50 =>
    intro σ x1 x2 x3 x4 x5 x6 hm
    have hm : Pa_parseSome_b50 F rO (Pa_parseSome_50 F rO n) σ x1 x2 x3 x4 x5 x6 = some (r, σ') := hm
    unfold Pa_parseSome_b50 at hm
    refine z_iload (pc := 50) C d_Pa_parseSome_50 6 rfl ?_
    refine z_sipush (pc := 52) C d_Pa_parseSome_52 ks_200 ?_
    refine z_icmp_gt (pc := 55) (tgt := 84) C d_Pa_parseSome_55 (by decide) (fun c1 => ?_) (fun c1 => ?_)
    · rw [if_pos c1] at hm
      refine z_lv (lv' := [(0, .ref (ad 6)), (2, .int x2), (3, .int x3), (4, .int x4), (5, .int x5)]) [0, 2, 3, 4, 5] rfl ?_
      exact w_Pa_parseSome_84 hAD C hr _ hO σ x2 x3 x4 x5 hm
    · rw [if_neg c1] at hm
      refine z_aload_n (pc := 58) C d_Pa_parseSome_58 rfl 0 rfl ?_
      obtain ⟨r3, σ2, e4, hm⟩ := bi_s hm
      refine z_callI (pc := 59) C (k_Pa_startsOne hAD e4) km_Pa_startsOne mC_132 rfl rfl oC_6 rfl (kR_of (by omega) (Nat.le_of_ble_eq_true rfl)) rfl (Nat.le_of_ble_eq_true rfl) d_Pa_parseSome_59 ?_
      refine z_if_eq (pc := 62) (tgt := 84) C d_Pa_parseSome_62 (by decide) (fun c5 => ?_) (fun c5 => ?_)
      · rw [if_pos c5] at hm
        refine z_lv (lv' := [(0, .ref (ad 6)), (2, .int x2), (3, .int x3), (4, .int x4), (5, .int x5)]) [0, 2, 3, 4, 5] rfl ?_
        exact w_Pa_parseSome_84 hAD C hr _ hO σ2 x2 x3 x4 x5 hm
      · rw [if_neg c5] at hm
        refine z_aload_n (pc := 65) C d_Pa_parseSome_65 rfl 0 rfl ?_
        refine z_iload_n (pc := 66) C d_Pa_parseSome_66 rfl 1 rfl ?_
        obtain ⟨r7, σ6, e8, hm⟩ := bi_s hm
        refine z_callI (pc := 67) C (hO e8) km_Pa_parseOne mC_133 rfl rfl oC_6 rfl (kR_of (by omega) (Nat.le_of_ble_eq_true rfl)) rfl (Nat.le_of_ble_eq_true rfl) d_Pa_parseSome_67 ?_
        refine z_if_ne (pc := 70) (tgt := 75) C d_Pa_parseSome_70 (by decide) (fun c9 => ?_) (fun c9 => ?_)
        · rw [if_neg c9] at hm
          refine z_iinc (pc := 75) (lv' := [(0, .ref (ad 6)), (1, .int x1), (2, .int x2), (3, .int x3), (4, .int x4), (5, .int (x5 + (1 : Int32))), (6, .int x6)]) C d_Pa_parseSome_75 5 rfl (ii ki_1) (Nat.le_of_ble_eq_true rfl) [1, 2, 3, 4, 5, 0, 6] rfl ?_
          refine z_iinc (pc := 78) (lv' := [(0, .ref (ad 6)), (1, .int x1), (2, .int x2), (3, .int x3), (4, .int x4), (5, .int (x5 + (1 : Int32))), (6, .int (x6 + (1 : Int32)))]) C d_Pa_parseSome_78 6 rfl (ii ki_1) (Nat.le_of_ble_eq_true rfl) [1, 2, 3, 4, 5, 6, 0] rfl ?_
          refine z_goto (pc := 81) (tgt := 50) C d_Pa_parseSome_81 (by decide) ?_
          exact h50 σ6 x1 x2 x3 x4 (x5 + (1 : Int32)) (x6 + (1 : Int32)) hm
        · rw [if_pos c9] at hm
          refine z_iconst (pc := 73) C d_Pa_parseSome_73 ki_0 ?_
          exact z_zretE (pc := 74) C hr (by decide) hm d_Pa_parseSome_74
set_option maxHeartbeats 4000000 in
set_option maxRecDepth 100000 in
theorem w_Pa_parseSome_32 {D : va_G} {ad : Nat → Nat} {cA : Nat → ClassId} {p : Program} {l : Launch} {e : Env} {s : State} {m : MethodId} {args : Array Value} {below : List Frame} {meth : Method} {c : Code} {F : Nat} {d : Nat} (hAD : ∀ σ, va_D (owC ad) (wdC ad cA σ)) (C : CC D ad cA (sXC ad) p s m args meth c bc_Pa_parseSome "KindRounds$Parser" 7) (hr : meth.sig.returnType = some .boolean) {r : Int32} {σ' : zS} (rO : zS → Int32 → Option (Int32 × zS)) (hO : ∀ {σ : zS} {x1 : Int32} {r : Int32} {σ' : zS}, rO σ x1 = some (r, σ') → kIC l D ad cA (sXC ad) y_Pa_parseOne bc_Pa_parseOne 5 .boolean (3 * d + 7) [.ref (ad 6), .int x1] σ r σ') (σ : zS) (x1 : Int32) (x2 : Int32) (x3 : Int32) (s0 : Int32) (hm : Pa_parseSome_32 F rO σ x1 x2 x3 s0 = some (r, σ')) : ZC D ad cA p l e (rmK (3 * d + 8)) s m args below meth c 7 (qiC D ad cA below args s r σ') 32 [(0, .ref (ad 6)), (1, .int x1), (2, .int x2), (3, .int x3)] [.int s0] σ := by
  unfold Pa_parseSome_32 at hm
  refine z_istore (pc := 32) (lv' := [(0, .ref (ad 6)), (1, .int x1), (2, .int x2), (3, .int x3), (4, .int s0)]) C d_Pa_parseSome_32 (Nat.le_of_ble_eq_true rfl) [1, 2, 3, 4, 0] rfl ?_
  refine z_aload_n (pc := 34) C d_Pa_parseSome_34 rfl 0 rfl ?_
  refine z_iload_n (pc := 35) C d_Pa_parseSome_35 rfl 1 rfl ?_
  obtain ⟨r2, σ1, e3, hm⟩ := bi_s hm
  refine z_callI (pc := 36) C (hO e3) km_Pa_parseOne mC_133 rfl rfl oC_6 rfl (kR_of (by omega) (Nat.le_of_ble_eq_true rfl)) rfl (Nat.le_of_ble_eq_true rfl) d_Pa_parseSome_36 ?_
  refine z_if_ne (pc := 39) (tgt := 44) C d_Pa_parseSome_39 (by decide) (fun c4 => ?_) (fun c4 => ?_)
  · rw [if_neg c4] at hm
    refine z_iconst (pc := 44) C d_Pa_parseSome_44 ki_0 ?_
    refine z_istore (pc := 45) (lv' := [(0, .ref (ad 6)), (1, .int x1), (2, .int x2), (3, .int x3), (4, .int s0), (5, .int (0 : Int32))]) C d_Pa_parseSome_45 (Nat.le_of_ble_eq_true rfl) [1, 2, 3, 4, 5, 0] rfl ?_
    refine z_iconst (pc := 47) C d_Pa_parseSome_47 ki_0 ?_
    refine z_istore (pc := 48) (lv' := [(0, .ref (ad 6)), (1, .int x1), (2, .int x2), (3, .int x3), (4, .int s0), (5, .int (0 : Int32)), (6, .int (0 : Int32))]) C d_Pa_parseSome_48 (Nat.le_of_ble_eq_true rfl) [1, 2, 3, 4, 5, 6, 0] rfl ?_
    exact w_Pa_parseSome_50 hAD C hr _ hO F σ1 x1 x2 x3 s0 (0 : Int32) (0 : Int32) hm
  · rw [if_pos c4] at hm
    refine z_iconst (pc := 42) C d_Pa_parseSome_42 ki_0 ?_
    exact z_zretE (pc := 43) C hr (by decide) hm d_Pa_parseSome_43
set_option maxHeartbeats 4000000 in
set_option maxRecDepth 100000 in
theorem k_Pa_parseSome_m {l : Launch} {D : va_G} {ad : Nat → Nat} {cA : Nat → ClassId} {F : Nat} {d : Nat} (hAD : ∀ σ, va_D (owC ad) (wdC ad cA σ)) (rO : zS → Int32 → Option (Int32 × zS)) (hO : ∀ {σ : zS} {x1 : Int32} {r : Int32} {σ' : zS}, rO σ x1 = some (r, σ') → kIC l D ad cA (sXC ad) y_Pa_parseOne bc_Pa_parseOne 5 .boolean (3 * d + 7) [.ref (ad 6), .int x1] σ r σ') {σ : zS} {x1 : Int32} {r : Int32} {σ' : zS} (hm : Pa_parseSome_m F rO σ x1 = some (r, σ')) : kIC l D ad cA (sXC ad) y_Pa_parseSome bc_Pa_parseSome 7 .boolean (3 * d + 8) [.ref (ad 6), .int x1] σ r σ' := by
  refine kI_of (by decide) hAD sXC_P (Nat.le_of_ble_eq_true rfl) ?_
  intro p e s m below meth c C hr
  unfold Pa_parseSome_m at hm
  refine z_lv (lv' := [(0, .ref (ad 6)), (1, .int x1)]) [0, 1] rfl ?_
  refine z_aload_n (pc := 0) C d_Pa_parseSome_0 rfl 0 rfl ?_
  refine gC_Pa_37 (pc := 1) (v := (gr σ 605)) C rfl d_Pa_parseSome_1 ?_
  obtain ⟨g1, hm⟩ := gd_s hm
  refine gC_Pa_151 (pc := 4) (v := (mi σ (100 * (gr σ 605) + 4))) C g1 rfl d_Pa_parseSome_4 ?_
  refine z_istore_n (pc := 7) (lv' := [(0, .ref (ad 6)), (1, .int x1), (2, .int (mi σ (100 * (gr σ 605) + 4)))]) C d_Pa_parseSome_7 rfl (Nat.le_of_ble_eq_true rfl) [1, 2, 0] rfl ?_
  refine z_aload_n (pc := 8) C d_Pa_parseSome_8 rfl 0 rfl ?_
  refine gC_Pa_19 (pc := 9) C  d_Pa_parseSome_9 ?_
  refine gC_Pa_131 (pc := 12) (v := (gi σ 505)) C rfl d_Pa_parseSome_12 ?_
  refine z_istore_n (pc := 15) (lv' := [(0, .ref (ad 6)), (1, .int x1), (2, .int (mi σ (100 * (gr σ 605) + 4))), (3, .int (gi σ 505))]) C d_Pa_parseSome_15 rfl (Nat.le_of_ble_eq_true rfl) [1, 2, 3, 0] rfl ?_
  refine z_aload_n (pc := 16) C d_Pa_parseSome_16 rfl 0 rfl ?_
  refine gC_Pa_9 (pc := 17) C  d_Pa_parseSome_17 ?_
  obtain ⟨r3, σ2, e4, hm⟩ := bi_s hm
  refine z_callIN (pc := 20) C (k_Ta_sort hAD e4) km_Ta_sort mC_106 rfl rfl oC_1 rfl (kR_of (by omega) (Nat.le_of_ble_eq_true rfl)) rfl (Nat.le_of_ble_eq_true rfl) d_Pa_parseSome_20 ?_
  refine z_iconst (pc := 23) C d_Pa_parseSome_23 ki_2 ?_
  refine z_icmp_ne (pc := 24) (tgt := 31) C d_Pa_parseSome_24 (by decide) (fun c5 => ?_) (fun c5 => ?_)
  · rw [if_neg c5] at hm
    refine z_iconst (pc := 31) C d_Pa_parseSome_31 ki_0 ?_
    exact w_Pa_parseSome_32 hAD C hr _ hO σ2 x1 (mi σ (100 * (gr σ 605) + 4)) (gi σ 505) (0 : Int32) hm
  · rw [if_pos c5] at hm
    refine z_iconst (pc := 27) C d_Pa_parseSome_27 ki_1 ?_
    refine z_goto (pc := 28) (tgt := 32) C d_Pa_parseSome_28 (by decide) ?_
    exact w_Pa_parseSome_32 hAD C hr _ hO σ2 x1 (mi σ (100 * (gr σ 605) + 4)) (gi σ 505) (1 : Int32) hm
set_option maxHeartbeats 4000000 in
set_option maxRecDepth 100000 in
theorem w_Pa_parseType_2 {D : va_G} {ad : Nat → Nat} {cA : Nat → ClassId} {p : Program} {l : Launch} {e : Env} {s : State} {m : MethodId} {args : Array Value} {below : List Frame} {meth : Method} {c : Code} {F : Nat} {d : Nat} (hAD : ∀ σ, va_D (owC ad) (wdC ad cA σ)) (C : CC D ad cA (sXC ad) p s m args meth c bc_Pa_parseType "KindRounds$Parser" 4) (hr : meth.sig.returnType = some .boolean) {r : Int32} {σ' : zS} (rS : zS → Int32 → Option (Int32 × zS)) (hS : ∀ {σ : zS} {x1 : Int32} {r : Int32} {σ' : zS}, rS σ x1 = some (r, σ') → kIC l D ad cA (sXC ad) y_Pa_parseSome bc_Pa_parseSome 7 .boolean (3 * d + 8) [.ref (ad 6), .int x1] σ r σ') : ∀ (n : Nat) (σ : zS) (x1 : Int32) (x2 : Int32), Pa_parseType_2 F rS n σ x1 x2 = some (r, σ') → ZC D ad cA p l e (rmK (3 * d + 9)) s m args below meth c 4 (qiC D ad cA below args s r σ') 2 [(0, .ref (ad 6)), (1, .int x1), (2, .int x2)] [] σ := by
  intro n
  induction n with
  | zero => intro σ x1 x2 hm; cases hm
  | succ n h2 =>
    intro σ x1 x2 hm
    have hm : Pa_parseType_b2 F rS (Pa_parseType_2 F rS n) σ x1 x2 = some (r, σ') := hm
    unfold Pa_parseType_b2 at hm
    refine z_iload_n (pc := 2) C d_Pa_parseType_2 rfl 2 rfl ?_
    refine z_sipush (pc := 3) C d_Pa_parseType_3 ks_200 ?_
    refine z_icmp_gt (pc := 6) (tgt := 77) C d_Pa_parseType_6 (by decide) (fun c1 => ?_) (fun c1 => ?_)
    · rw [if_pos c1] at hm
      refine z_iconst (pc := 77) C d_Pa_parseType_77 ki_0 ?_
      exact z_zretE (pc := 78) C hr (by decide) hm d_Pa_parseType_78
    · rw [if_neg c1] at hm
      refine z_aload_n (pc := 9) C d_Pa_parseType_9 rfl 0 rfl ?_
      refine gC_Pa_37 (pc := 10) (v := (gr σ 605)) C rfl d_Pa_parseType_10 ?_
      obtain ⟨g2, hm⟩ := gd_s hm
      refine gC_Pa_151 (pc := 13) (v := (mi σ (100 * (gr σ 605) + 4))) C g2 rfl d_Pa_parseType_13 ?_
      refine z_istore_n (pc := 16) (lv' := [(0, .ref (ad 6)), (1, .int x1), (2, .int x2), (3, .int (mi σ (100 * (gr σ 605) + 4)))]) C d_Pa_parseType_16 rfl (Nat.le_of_ble_eq_true rfl) [1, 2, 3, 0] rfl ?_
      refine z_aload_n (pc := 17) C d_Pa_parseType_17 rfl 0 rfl ?_
      refine z_iload_n (pc := 18) C d_Pa_parseType_18 rfl 1 rfl ?_
      obtain ⟨r4, σ3, e5, hm⟩ := bi_s hm
      refine z_callI (pc := 19) C (hS e5) km_Pa_parseSome mC_143 rfl rfl oC_6 rfl (kR_of (by omega) (Nat.le_of_ble_eq_true rfl)) rfl (Nat.le_of_ble_eq_true rfl) d_Pa_parseType_19 ?_
      refine z_if_ne (pc := 22) (tgt := 27) C d_Pa_parseType_22 (by decide) (fun c6 => ?_) (fun c6 => ?_)
      · rw [if_neg c6] at hm
        refine z_aload_n (pc := 27) C d_Pa_parseType_27 rfl 0 rfl ?_
        refine gC_Pa_9 (pc := 28) C  d_Pa_parseType_28 ?_
        obtain ⟨r8, σ7, e9, hm⟩ := bi_s hm
        refine z_callIN (pc := 31) C (k_Ta_sort hAD e9) km_Ta_sort mC_106 rfl rfl oC_1 rfl (kR_of (by omega) (Nat.le_of_ble_eq_true rfl)) rfl (Nat.le_of_ble_eq_true rfl) d_Pa_parseType_31 ?_
        refine z_bipush (pc := 34) C d_Pa_parseType_34 kb_45 ?_
        refine z_icmp_eq (pc := 36) (tgt := 41) C d_Pa_parseType_36 (by decide) (fun c10 => ?_) (fun c10 => ?_)
        · rw [if_pos c10] at hm
          refine z_aload_n (pc := 41) C d_Pa_parseType_41 rfl 0 rfl ?_
          refine gC_Pa_37 (pc := 42) (v := (gr σ7 605)) C rfl d_Pa_parseType_42 ?_
          obtain ⟨g12, hm⟩ := gd_s hm
          obtain ⟨r13, σ11, e14, hm⟩ := bi_s hm
          refine z_callIN (pc := 45) C (k_Ro_isFull hAD e14) km_Ro_isFull mC_144 rfl rfl (oC_Ro g12) rfl (kR_of (by omega) (Nat.le_of_ble_eq_true rfl)) rfl (Nat.le_of_ble_eq_true rfl) d_Pa_parseType_45 ?_
          refine z_if_eq (pc := 48) (tgt := 56) C d_Pa_parseType_48 (by decide) (fun c15 => ?_) (fun c15 => ?_)
          · rw [if_pos c15] at hm
            refine z_aload_n (pc := 56) C d_Pa_parseType_56 rfl 0 rfl ?_
            refine gC_Pa_37 (pc := 57) (v := (gr σ11 605)) C rfl d_Pa_parseType_57 ?_
            refine z_iload_n (pc := 60) C d_Pa_parseType_60 rfl 3 rfl ?_
            obtain ⟨g17, hm⟩ := gd_s hm
            obtain ⟨σ16, e18, hm⟩ := bv_s hm
            refine z_callVN (pc := 61) C (k_Ro_insertArrow hAD e18) km_Ro_insertArrow mC_145 rfl rfl (oC_Ro g17) rfl (kR_of (by omega) (Nat.le_of_ble_eq_true rfl)) rfl (Nat.le_of_ble_eq_true rfl) d_Pa_parseType_61 ?_
            refine z_aload_n (pc := 64) C d_Pa_parseType_64 rfl 0 rfl ?_
            refine gC_Pa_9 (pc := 65) C  d_Pa_parseType_65 ?_
            obtain ⟨σ19, e20, hm⟩ := bv_s hm
            refine z_callVN (pc := 68) C (k_Ta_step hAD e20) km_Ta_step mC_123 rfl rfl oC_1 rfl (kR_of (by omega) (Nat.le_of_ble_eq_true rfl)) rfl (Nat.le_of_ble_eq_true rfl) d_Pa_parseType_68 ?_
            refine z_iinc (pc := 71) (lv' := [(0, .ref (ad 6)), (1, .int x1), (2, .int (x2 + (1 : Int32))), (3, .int (mi σ (100 * (gr σ 605) + 4)))]) C d_Pa_parseType_71 2 rfl (ii ki_1) (Nat.le_of_ble_eq_true rfl) [1, 2, 0, 3] rfl ?_
            refine z_goto (pc := 74) (tgt := 2) C d_Pa_parseType_74 (by decide) ?_
            refine z_lv (lv' := [(0, .ref (ad 6)), (1, .int x1), (2, .int (x2 + (1 : Int32)))]) [0, 1, 2] rfl ?_
            exact h2 σ19 x1 (x2 + (1 : Int32)) hm
          · rw [if_neg c15] at hm
            refine z_aload_n (pc := 51) C d_Pa_parseType_51 rfl 0 rfl ?_
            obtain ⟨r22, σ21, e23, hm⟩ := bi_s hm
            refine z_callI (pc := 52) C (k_Pa_tooMuch hAD e23) km_Pa_tooMuch mC_129 rfl rfl oC_6 rfl (kR_of (by omega) (Nat.le_of_ble_eq_true rfl)) rfl (Nat.le_of_ble_eq_true rfl) d_Pa_parseType_52 ?_
            obtain ⟨g24, hm⟩ := gd_s hm
            exact z_zretE (pc := 55) C hr g24 hm d_Pa_parseType_55
        · rw [if_neg c10] at hm
          refine z_iconst (pc := 39) C d_Pa_parseType_39 ki_1 ?_
          exact z_zretE (pc := 40) C hr (by decide) hm d_Pa_parseType_40
      · rw [if_pos c6] at hm
        refine z_iconst (pc := 25) C d_Pa_parseType_25 ki_0 ?_
        exact z_zretE (pc := 26) C hr (by decide) hm d_Pa_parseType_26
set_option maxHeartbeats 4000000 in
set_option maxRecDepth 100000 in
theorem k_Pa_parseType_m {l : Launch} {D : va_G} {ad : Nat → Nat} {cA : Nat → ClassId} {F : Nat} {d : Nat} (hAD : ∀ σ, va_D (owC ad) (wdC ad cA σ)) (rS : zS → Int32 → Option (Int32 × zS)) (hS : ∀ {σ : zS} {x1 : Int32} {r : Int32} {σ' : zS}, rS σ x1 = some (r, σ') → kIC l D ad cA (sXC ad) y_Pa_parseSome bc_Pa_parseSome 7 .boolean (3 * d + 8) [.ref (ad 6), .int x1] σ r σ') {σ : zS} {x1 : Int32} {r : Int32} {σ' : zS} (hm : Pa_parseType_m F rS σ x1 = some (r, σ')) : kIC l D ad cA (sXC ad) y_Pa_parseType bc_Pa_parseType 4 .boolean (3 * d + 9) [.ref (ad 6), .int x1] σ r σ' := by
  refine kI_of (by decide) hAD sXC_P (Nat.le_of_ble_eq_true rfl) ?_
  intro p e s m below meth c C hr
  unfold Pa_parseType_m at hm
  refine z_lv (lv' := [(0, .ref (ad 6)), (1, .int x1)]) [0, 1] rfl ?_
  refine z_iconst (pc := 0) C d_Pa_parseType_0 ki_0 ?_
  refine z_istore_n (pc := 1) (lv' := [(0, .ref (ad 6)), (1, .int x1), (2, .int (0 : Int32))]) C d_Pa_parseType_1 rfl (Nat.le_of_ble_eq_true rfl) [1, 2, 0] rfl ?_
  exact w_Pa_parseType_2 hAD C hr _ hS F σ x1 (0 : Int32) hm
theorem k_Pa_parseKindD {l : Launch} {D : va_G} {ad : Nat → Nat} {cA : Nat → ClassId} {F : Nat} (hAD : ∀ σ, va_D (owC ad) (wdC ad cA σ)) : ∀ (d : Nat) {σ : zS} {x1 : Int32} {r : Int32} {σ' : zS}, Pa_parseKind F d σ x1 = some (r, σ') → kIC l D ad cA (sXC ad) y_Pa_parseKind bc_Pa_parseKind 7 .int (3 * d + 6) [.ref (ad 6), .int x1] σ r σ' := by
  intro d
  induction d with
  | zero => intro σ x1 r σ' hm; cases hm
  | succ d ih =>
    intro σ x1 r σ' hm
    exact kI_rk (by omega) (k_Pa_parseKind_m (d := d) hAD _ (fun h => k_Pa_parsePart_m (d := d) hAD _ (fun h => ih h) h) hm)
theorem k_Pa_parseKind {l : Launch} {D : va_G} {ad : Nat → Nat} {cA : Nat → ClassId} {F : Nat} (hAD : ∀ σ, va_D (owC ad) (wdC ad cA σ)) {σ : zS} {x1 : Int32} {r : Int32} {σ' : zS} (hm : Pa_parseKind F 12 σ x1 = some (r, σ')) : kIC l D ad cA (sXC ad) y_Pa_parseKind bc_Pa_parseKind 7 .int 42 [.ref (ad 6), .int x1] σ r σ' := k_Pa_parseKindD hAD 12 hm
theorem k_Pa_parseTypeD {l : Launch} {D : va_G} {ad : Nat → Nat} {cA : Nat → ClassId} {F : Nat} (hAD : ∀ σ, va_D (owC ad) (wdC ad cA σ)) : ∀ (d : Nat) {σ : zS} {x1 : Int32} {r : Int32} {σ' : zS}, Pa_parseType F d σ x1 = some (r, σ') → kIC l D ad cA (sXC ad) y_Pa_parseType bc_Pa_parseType 4 .boolean (3 * d + 6) [.ref (ad 6), .int x1] σ r σ' := by
  intro d
  induction d with
  | zero => intro σ x1 r σ' hm; cases hm
  | succ d ih =>
    intro σ x1 r σ' hm
    exact kI_rk (by omega) (k_Pa_parseType_m (d := d) hAD _ (fun h => k_Pa_parseSome_m (d := d) hAD _ (fun h => k_Pa_parseOne_m (d := d) hAD _ (fun h => ih h) h) h) hm)
theorem k_Pa_parseType {l : Launch} {D : va_G} {ad : Nat → Nat} {cA : Nat → ClassId} {F : Nat} (hAD : ∀ σ, va_D (owC ad) (wdC ad cA σ)) {σ : zS} {x1 : Int32} {r : Int32} {σ' : zS} (hm : Pa_parseType F 12 σ x1 = some (r, σ')) : kIC l D ad cA (sXC ad) y_Pa_parseType bc_Pa_parseType 4 .boolean 42 [.ref (ad 6), .int x1] σ r σ' := k_Pa_parseTypeD hAD 12 hm
theorem k_Pa_parseOne {l : Launch} {D : va_G} {ad : Nat → Nat} {cA : Nat → ClassId} {F : Nat} (hAD : ∀ σ, va_D (owC ad) (wdC ad cA σ)) {σ : zS} {x1 : Int32} {r : Int32} {σ' : zS} (hm : Pa_parseOne F 12 σ x1 = some (r, σ')) : kIC l D ad cA (sXC ad) y_Pa_parseOne bc_Pa_parseOne 5 .boolean 43 [.ref (ad 6), .int x1] σ r σ' :=
  k_Pa_parseOne_m (d := 12) hAD _ (fun h => k_Pa_parseTypeD hAD 12 h) hm
