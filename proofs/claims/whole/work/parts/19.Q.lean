/-! Walks of Q. Written by program (wip/gen). -/
set_option maxHeartbeats 4000000 in
set_option maxRecDepth 100000 in
theorem k_Q_feed {l : Launch} {D : va_G} {ad : Nat → Nat} {cA : Nat → ClassId} {F : Nat} (hAD : ∀ σ, va_D (owC ad) (wdC ad cA σ)) {σ : zS} {x1 : Int32} {x2 : Int32} {x3 : Int32} {x4 : Int32} {x5 : Int32} {r : Int32} {σ' : zS} (hm : Q_feed F σ x1 x2 x3 x4 x5 = some (r, σ')) : kIC l D ad cA (sXC ad) y_Q_feed bc_Q_feed 6 .int 1 [.ref (ad 0), .int x1, .int x2, .int x3, .int x4, .int x5] σ r σ' := by
  refine kI_of (by decide) hAD sXC_P (Nat.le_of_ble_eq_true rfl) ?_
  intro p e s m below meth c C hr
  unfold Q_feed at hm
  refine z_lv (lv' := [(0, .ref (ad 0)), (1, .int x1), (2, .int x2), (3, .int x3), (4, .int x4), (5, .int x5)]) [0, 1, 2, 3, 4, 5] rfl ?_
  refine z_aload_n (pc := 0) C d_Q_feed_0 rfl 0 rfl ?_
  refine gC_Q_10 (pc := 1) C  d_Q_feed_1 ?_
  obtain ⟨r2, σ1, e3, hm⟩ := bi_s hm
  refine z_callIN (pc := 4) C (k_Ta_hasRoom hAD e3) km_Ta_hasRoom mC_280 rfl rfl oC_1 rfl (kR_of (Nat.le_of_ble_eq_true rfl) (Nat.le_of_ble_eq_true rfl)) rfl (Nat.le_of_ble_eq_true rfl) d_Q_feed_4 ?_
  refine z_if_ne (pc := 7) (tgt := 13) C d_Q_feed_7 (by decide) (fun c4 => ?_) (fun c4 => ?_)
  · rw [if_neg c4] at hm
    refine z_aload_n (pc := 13) C d_Q_feed_13 rfl 0 rfl ?_
    refine gC_Q_10 (pc := 14) C  d_Q_feed_14 ?_
    refine z_iload_n (pc := 17) C d_Q_feed_17 rfl 1 rfl ?_
    obtain ⟨σ5, e6, hm⟩ := bv_s hm
    refine z_callVN (pc := 18) C (k_Ta_append hAD e6) km_Ta_append mC_281 rfl rfl oC_1 rfl (kR_of (Nat.le_of_ble_eq_true rfl) (Nat.le_of_ble_eq_true rfl)) rfl (Nat.le_of_ble_eq_true rfl) d_Q_feed_18 ?_
    refine z_aload_n (pc := 21) C d_Q_feed_21 rfl 0 rfl ?_
    refine gC_Q_10 (pc := 22) C  d_Q_feed_22 ?_
    refine z_iload_n (pc := 25) C d_Q_feed_25 rfl 2 rfl ?_
    obtain ⟨σ7, e8, hm⟩ := bv_s hm
    refine z_callVN (pc := 26) C (k_Ta_append hAD e8) km_Ta_append mC_281 rfl rfl oC_1 rfl (kR_of (Nat.le_of_ble_eq_true rfl) (Nat.le_of_ble_eq_true rfl)) rfl (Nat.le_of_ble_eq_true rfl) d_Q_feed_26 ?_
    refine z_aload_n (pc := 29) C d_Q_feed_29 rfl 0 rfl ?_
    refine gC_Q_10 (pc := 30) C  d_Q_feed_30 ?_
    refine z_iload_n (pc := 33) C d_Q_feed_33 rfl 3 rfl ?_
    obtain ⟨σ9, e10, hm⟩ := bv_s hm
    refine z_callVN (pc := 34) C (k_Ta_append hAD e10) km_Ta_append mC_281 rfl rfl oC_1 rfl (kR_of (Nat.le_of_ble_eq_true rfl) (Nat.le_of_ble_eq_true rfl)) rfl (Nat.le_of_ble_eq_true rfl) d_Q_feed_34 ?_
    refine z_aload_n (pc := 37) C d_Q_feed_37 rfl 0 rfl ?_
    refine gC_Q_10 (pc := 38) C  d_Q_feed_38 ?_
    refine z_iload (pc := 41) C d_Q_feed_41 4 rfl ?_
    obtain ⟨σ11, e12, hm⟩ := bv_s hm
    refine z_callVN (pc := 43) C (k_Ta_append hAD e12) km_Ta_append mC_281 rfl rfl oC_1 rfl (kR_of (Nat.le_of_ble_eq_true rfl) (Nat.le_of_ble_eq_true rfl)) rfl (Nat.le_of_ble_eq_true rfl) d_Q_feed_43 ?_
    refine z_aload_n (pc := 46) C d_Q_feed_46 rfl 0 rfl ?_
    refine gC_Q_10 (pc := 47) C  d_Q_feed_47 ?_
    refine z_iload (pc := 50) C d_Q_feed_50 5 rfl ?_
    obtain ⟨σ13, e14, hm⟩ := bv_s hm
    refine z_callVN (pc := 52) C (k_Ta_append hAD e14) km_Ta_append mC_281 rfl rfl oC_1 rfl (kR_of (Nat.le_of_ble_eq_true rfl) (Nat.le_of_ble_eq_true rfl)) rfl (Nat.le_of_ble_eq_true rfl) d_Q_feed_52 ?_
    refine z_aload_n (pc := 55) C d_Q_feed_55 rfl 0 rfl ?_
    refine gC_Q_10 (pc := 56) C  d_Q_feed_56 ?_
    refine gC_Q_105 (pc := 59) (v := (gi σ13 101)) C rfl d_Q_feed_59 ?_
    exact z_iretE (pc := 62) C hr hm d_Q_feed_62
  · rw [if_pos c4] at hm
    refine z_bipush (pc := 10) C d_Q_feed_10 kb_m4 ?_
    exact z_iretE (pc := 12) C hr hm d_Q_feed_12
set_option maxHeartbeats 4000000 in
set_option maxRecDepth 100000 in
theorem w_Q_cut_15 {D : va_G} {ad : Nat → Nat} {cA : Nat → ClassId} {p : Program} {l : Launch} {e : Env} {s : State} {m : MethodId} {args : Array Value} {below : List Frame} {meth : Method} {c : Code} {F : Nat} (hAD : ∀ σ, va_D (owC ad) (wdC ad cA σ)) (C : CC D ad cA (sXC ad) p s m args meth c bc_Q_cut "KindRounds" 3) (hr : meth.sig.returnType = some .int) {r : Int32} {σ' : zS} (σ : zS) (hm : Q_cut_15 F σ = some (r, σ')) : ZC D ad cA p l e (rmK 0) s m args below meth c 3 (qiC D ad cA below args s r σ') 15 [] [] σ := by
  unfold Q_cut_15 at hm
  refine z_bipush (pc := 15) C d_Q_cut_15 kb_m2 ?_
  exact z_iretE (pc := 17) C hr hm d_Q_cut_17
set_option maxHeartbeats 4000000 in
set_option maxRecDepth 100000 in
theorem k_Q_cut {l : Launch} {D : va_G} {ad : Nat → Nat} {cA : Nat → ClassId} {F : Nat} (hAD : ∀ σ, va_D (owC ad) (wdC ad cA σ)) {σ : zS} {x1 : Int32} {r : Int32} {σ' : zS} (hm : Q_cut F σ x1 = some (r, σ')) : kIC l D ad cA (sXC ad) y_Q_cut bc_Q_cut 3 .int 0 [.ref (ad 0), .int x1] σ r σ' := by
  refine kI_of (by decide) hAD sXC_P (Nat.le_of_ble_eq_true rfl) ?_
  intro p e s m below meth c C hr
  unfold Q_cut at hm
  refine z_lv (lv' := [(0, .ref (ad 0)), (1, .int x1)]) [0, 1] rfl ?_
  refine z_iload_n (pc := 0) C d_Q_cut_0 rfl 1 rfl ?_
  refine z_if_lt (pc := 1) (tgt := 15) C d_Q_cut_1 (by decide) (fun c1 => ?_) (fun c1 => ?_)
  · rw [if_pos c1] at hm
    refine z_lv (lv' := []) [] rfl ?_
    exact w_Q_cut_15 hAD C hr σ hm
  · rw [if_neg c1] at hm
    refine z_iload_n (pc := 4) C d_Q_cut_4 rfl 1 rfl ?_
    refine z_aload_n (pc := 5) C d_Q_cut_5 rfl 0 rfl ?_
    refine gC_Q_10 (pc := 6) C  d_Q_cut_6 ?_
    refine gC_Q_105 (pc := 9) (v := (gi σ 101)) C rfl d_Q_cut_9 ?_
    refine z_icmp_le (pc := 12) (tgt := 18) C d_Q_cut_12 (by decide) (fun c2 => ?_) (fun c2 => ?_)
    · rw [if_pos c2] at hm
      refine z_aload_n (pc := 18) C d_Q_cut_18 rfl 0 rfl ?_
      refine gC_Q_10 (pc := 19) C  d_Q_cut_19 ?_
      refine gC_Q_105 (pc := 22) (v := (gi σ 101)) C rfl d_Q_cut_22 ?_
      refine z_iload_n (pc := 25) C d_Q_cut_25 rfl 1 rfl ?_
      refine z_isub (pc := 26) C d_Q_cut_26 ?_
      refine z_istore_n (pc := 27) (lv' := [(0, .ref (ad 0)), (1, .int x1), (2, .int ((gi σ 101) - x1))]) C d_Q_cut_27 rfl (Nat.le_of_ble_eq_true rfl) [1, 2, 0] rfl ?_
      refine z_aload_n (pc := 28) C d_Q_cut_28 rfl 0 rfl ?_
      refine gC_Q_10 (pc := 29) C  d_Q_cut_29 ?_
      refine z_iload_n (pc := 32) C d_Q_cut_32 rfl 1 rfl ?_
      refine pC_Q_105 (pc := 33) C  d_Q_cut_33 ?_
      refine z_iload_n (pc := 36) C d_Q_cut_36 rfl 2 rfl ?_
      exact z_iretE (pc := 37) C hr hm d_Q_cut_37
    · rw [if_neg c2] at hm
      refine z_lv (lv' := []) [] rfl ?_
      exact w_Q_cut_15 hAD C hr σ hm
set_option maxHeartbeats 4000000 in
set_option maxRecDepth 100000 in
theorem w_Q_read_81 {D : va_G} {ad : Nat → Nat} {cA : Nat → ClassId} {p : Program} {l : Launch} {e : Env} {s : State} {m : MethodId} {args : Array Value} {below : List Frame} {meth : Method} {c : Code} {F : Nat} (hAD : ∀ σ, va_D (owC ad) (wdC ad cA σ)) (C : CC D ad cA (sXC ad) p s m args meth c bc_Q_read "KindRounds" 1) (hr : meth.sig.returnType = some .int) {r : Int32} {σ' : zS} (σ : zS) (hm : Q_read_81 F σ = some (r, σ')) : ZC D ad cA p l e (rmK 46) s m args below meth c 1 (qiC D ad cA below args s r σ') 81 [(0, .ref (ad 0))] [] σ := by
  unfold Q_read_81 at hm
  refine z_aload_n (pc := 81) C d_Q_read_81 rfl 0 rfl ?_
  refine gC_Q_19 (pc := 82) C  d_Q_read_82 ?_
  obtain ⟨r2, σ1, e3, hm⟩ := bi_s hm
  refine z_callIN (pc := 85) C (k_Fa_isThere hAD e3) km_Fa_isThere mC_284 rfl rfl oC_2 rfl (kR_of (Nat.le_of_ble_eq_true rfl) (Nat.le_of_ble_eq_true rfl)) rfl (Nat.le_of_ble_eq_true rfl) d_Q_read_85 ?_
  refine z_if_eq (pc := 88) (tgt := 109) C d_Q_read_88 (by decide) (fun c4 => ?_) (fun c4 => ?_)
  · rw [if_pos c4] at hm
    refine z_aload_n (pc := 109) C d_Q_read_109 rfl 0 rfl ?_
    refine gC_Q_33 (pc := 110) C  d_Q_read_110 ?_
    refine gC_Q_136 (pc := 113) (v := (gi σ1 400)) C rfl d_Q_read_113 ?_
    exact z_iretE (pc := 116) C hr hm d_Q_read_116
  · rw [if_neg c4] at hm
    refine z_aload_n (pc := 91) C d_Q_read_91 rfl 0 rfl ?_
    refine gC_Q_33 (pc := 92) C  d_Q_read_92 ?_
    obtain ⟨σ5, e6, hm⟩ := bv_s hm
    refine z_callVN (pc := 95) C (k_Te_clear hAD e6) km_Te_clear mC_287 rfl rfl oC_4 rfl (kR_of (Nat.le_of_ble_eq_true rfl) (Nat.le_of_ble_eq_true rfl)) rfl (Nat.le_of_ble_eq_true rfl) d_Q_read_95 ?_
    refine z_bipush (pc := 98) C d_Q_read_98 kb_m10 ?_
    refine z_aload_n (pc := 100) C d_Q_read_100 rfl 0 rfl ?_
    refine gC_Q_19 (pc := 101) C  d_Q_read_101 ?_
    refine gC_Q_133 (pc := 104) (v := (gi σ5 200)) C rfl d_Q_read_104 ?_
    refine z_isub (pc := 107) C d_Q_read_107 ?_
    exact z_iretE (pc := 108) C hr hm d_Q_read_108
set_option maxHeartbeats 4000000 in
set_option maxRecDepth 100000 in
theorem k_Q_read {l : Launch} {D : va_G} {ad : Nat → Nat} {cA : Nat → ClassId} {F : Nat} (hAD : ∀ σ, va_D (owC ad) (wdC ad cA σ)) {σ : zS} {r : Int32} {σ' : zS} (hm : Q_read F σ = some (r, σ')) : kIC l D ad cA (sXC ad) y_Q_read bc_Q_read 1 .int 46 [.ref (ad 0)] σ r σ' := by
  refine kI_of (by decide) hAD sXC_P (Nat.le_of_ble_eq_true rfl) ?_
  intro p e s m below meth c C hr
  unfold Q_read at hm
  refine z_lv (lv' := [(0, .ref (ad 0))]) [0] rfl ?_
  refine z_aload_n (pc := 0) C d_Q_read_0 rfl 0 rfl ?_
  refine gC_Q_19 (pc := 1) C  d_Q_read_1 ?_
  obtain ⟨σ1, e2, hm⟩ := bv_s hm
  refine z_callVN (pc := 4) C (k_Fa_clear hAD e2) km_Fa_clear mC_289 rfl rfl oC_2 rfl (kR_of (Nat.le_of_ble_eq_true rfl) (Nat.le_of_ble_eq_true rfl)) rfl (Nat.le_of_ble_eq_true rfl) d_Q_read_4 ?_
  refine z_aload_n (pc := 7) C d_Q_read_7 rfl 0 rfl ?_
  refine gC_Q_40 (pc := 8) C  d_Q_read_8 ?_
  obtain ⟨σ3, e4, hm⟩ := bv_s hm
  refine z_callVN (pc := 11) C (k_Me_clear hAD e4) km_Me_clear mC_291 rfl rfl oC_5 rfl (kR_of (Nat.le_of_ble_eq_true rfl) (Nat.le_of_ble_eq_true rfl)) rfl (Nat.le_of_ble_eq_true rfl) d_Q_read_11 ?_
  refine z_aload_n (pc := 14) C d_Q_read_14 rfl 0 rfl ?_
  refine gC_Q_26 (pc := 15) C  d_Q_read_15 ?_
  obtain ⟨σ5, e6, hm⟩ := bv_s hm
  refine z_callVN (pc := 18) C (k_Ki_clear hAD e6) km_Ki_clear mC_293 rfl rfl oC_3 rfl (kR_of (Nat.le_of_ble_eq_true rfl) (Nat.le_of_ble_eq_true rfl)) rfl (Nat.le_of_ble_eq_true rfl) d_Q_read_18 ?_
  refine z_aload_n (pc := 21) C d_Q_read_21 rfl 0 rfl ?_
  refine gC_Q_33 (pc := 22) C  d_Q_read_22 ?_
  obtain ⟨σ7, e8, hm⟩ := bv_s hm
  refine z_callVN (pc := 25) C (k_Te_clear hAD e8) km_Te_clear mC_287 rfl rfl oC_4 rfl (kR_of (Nat.le_of_ble_eq_true rfl) (Nat.le_of_ble_eq_true rfl)) rfl (Nat.le_of_ble_eq_true rfl) d_Q_read_25 ?_
  refine z_aload_n (pc := 28) C d_Q_read_28 rfl 0 rfl ?_
  refine gC_Q_10 (pc := 29) C  d_Q_read_29 ?_
  obtain ⟨σ9, e10, hm⟩ := bv_s hm
  refine z_callVN (pc := 32) C (k_Ta_scan hAD e10) km_Ta_scan mC_294 rfl rfl oC_1 rfl (kR_of (Nat.le_of_ble_eq_true rfl) (Nat.le_of_ble_eq_true rfl)) rfl (Nat.le_of_ble_eq_true rfl) d_Q_read_32 ?_
  refine z_aload_n (pc := 35) C d_Q_read_35 rfl 0 rfl ?_
  refine gC_Q_56 (pc := 36) C  d_Q_read_36 ?_
  obtain ⟨σ11, e12, hm⟩ := bv_s hm
  refine z_callVN (pc := 39) C (k_Pa_parseText hAD e12) km_Pa_parseText mC_296 rfl rfl oC_6 rfl (kR_of (Nat.le_of_ble_eq_true rfl) (Nat.le_of_ble_eq_true rfl)) rfl (Nat.le_of_ble_eq_true rfl) d_Q_read_39 ?_
  refine z_aload_n (pc := 42) C d_Q_read_42 rfl 0 rfl ?_
  refine gC_Q_10 (pc := 43) C  d_Q_read_43 ?_
  refine z_iconst (pc := 46) C d_Q_read_46 ki_0 ?_
  refine pC_Q_105 (pc := 47) C  d_Q_read_47 ?_
  refine z_aload_n (pc := 50) C d_Q_read_50 rfl 0 rfl ?_
  refine gC_Q_65 (pc := 51) C  d_Q_read_51 ?_
  obtain ⟨σ13, e14, hm⟩ := bv_s hm
  refine z_callVN (pc := 54) C (k_Ch_checkText hAD e14) km_Ch_checkText mC_298 rfl rfl oC_7 rfl (kR_of (Nat.le_of_ble_eq_true rfl) (Nat.le_of_ble_eq_true rfl)) rfl (Nat.le_of_ble_eq_true rfl) d_Q_read_54 ?_
  refine z_aload_n (pc := 57) C d_Q_read_57 rfl 0 rfl ?_
  refine gC_Q_19 (pc := 58) C  d_Q_read_58 ?_
  obtain ⟨r16, σ15, e17, hm⟩ := bi_s hm
  refine z_callIN (pc := 61) C (k_Fa_isThere hAD e17) km_Fa_isThere mC_284 rfl rfl oC_2 rfl (kR_of (Nat.le_of_ble_eq_true rfl) (Nat.le_of_ble_eq_true rfl)) rfl (Nat.le_of_ble_eq_true rfl) d_Q_read_61 ?_
  refine z_if_ne (pc := 64) (tgt := 81) C d_Q_read_64 (by decide) (fun c18 => ?_) (fun c18 => ?_)
  · rw [if_neg c18] at hm
    exact w_Q_read_81 hAD C hr σ15 hm
  · rw [if_pos c18] at hm
    refine z_aload_n (pc := 67) C d_Q_read_67 rfl 0 rfl ?_
    refine gC_Q_33 (pc := 68) C  d_Q_read_68 ?_
    obtain ⟨σ19, e20, hm⟩ := bv_s hm
    refine z_callVN (pc := 71) C (k_Te_formGroups hAD e20) km_Te_formGroups mC_299 rfl rfl oC_4 rfl (kR_of (Nat.le_of_ble_eq_true rfl) (Nat.le_of_ble_eq_true rfl)) rfl (Nat.le_of_ble_eq_true rfl) d_Q_read_71 ?_
    refine z_aload_n (pc := 74) C d_Q_read_74 rfl 0 rfl ?_
    refine gC_Q_74 (pc := 75) C  d_Q_read_75 ?_
    obtain ⟨σ21, e22, hm⟩ := bv_s hm
    refine z_callVN (pc := 78) C (k_So_solveText hAD e22) km_So_solveText mC_301 rfl rfl oC_8 rfl (kR_of (Nat.le_of_ble_eq_true rfl) (Nat.le_of_ble_eq_true rfl)) rfl (Nat.le_of_ble_eq_true rfl) d_Q_read_78 ?_
    exact w_Q_read_81 hAD C hr σ21 hm
set_option maxHeartbeats 4000000 in
set_option maxRecDepth 100000 in
theorem w_Q_place_22 {D : va_G} {ad : Nat → Nat} {cA : Nat → ClassId} {p : Program} {l : Launch} {e : Env} {s : State} {m : MethodId} {args : Array Value} {below : List Frame} {meth : Method} {c : Code} {F : Nat} (hAD : ∀ σ, va_D (owC ad) (wdC ad cA σ)) (C : CC D ad cA (sXC ad) p s m args meth c bc_Q_place "KindRounds" 1) (hr : meth.sig.returnType = some .int) {r : Int32} {σ' : zS} (σ : zS) (s0 : Int32) (hm : Q_place_22 F σ s0 = some (r, σ')) : ZC D ad cA p l e (rmK 1) s m args below meth c 1 (qiC D ad cA below args s r σ') 22 [] [.int s0] σ := by
  unfold Q_place_22 at hm
  exact z_iretE (pc := 22) C hr hm d_Q_place_22
set_option maxHeartbeats 4000000 in
set_option maxRecDepth 100000 in
theorem k_Q_place {l : Launch} {D : va_G} {ad : Nat → Nat} {cA : Nat → ClassId} {F : Nat} (hAD : ∀ σ, va_D (owC ad) (wdC ad cA σ)) {σ : zS} {r : Int32} {σ' : zS} (hm : Q_place F σ = some (r, σ')) : kIC l D ad cA (sXC ad) y_Q_place bc_Q_place 1 .int 1 [.ref (ad 0)] σ r σ' := by
  refine kI_of (by decide) hAD sXC_P (Nat.le_of_ble_eq_true rfl) ?_
  intro p e s m below meth c C hr
  unfold Q_place at hm
  refine z_lv (lv' := [(0, .ref (ad 0))]) [0] rfl ?_
  refine z_aload_n (pc := 0) C d_Q_place_0 rfl 0 rfl ?_
  refine gC_Q_19 (pc := 1) C  d_Q_place_1 ?_
  obtain ⟨r2, σ1, e3, hm⟩ := bi_s hm
  refine z_callIN (pc := 4) C (k_Fa_isThere hAD e3) km_Fa_isThere mC_284 rfl rfl oC_2 rfl (kR_of (Nat.le_of_ble_eq_true rfl) (Nat.le_of_ble_eq_true rfl)) rfl (Nat.le_of_ble_eq_true rfl) d_Q_place_4 ?_
  refine z_if_eq (pc := 7) (tgt := 20) C d_Q_place_7 (by decide) (fun c4 => ?_) (fun c4 => ?_)
  · rw [if_pos c4] at hm
    refine z_bipush (pc := 20) C d_Q_place_20 kb_m3 ?_
    refine z_lv (lv' := []) [] rfl ?_
    exact w_Q_place_22 hAD C hr σ1 (-3 : Int32) hm
  · rw [if_neg c4] at hm
    refine z_aload_n (pc := 10) C d_Q_place_10 rfl 0 rfl ?_
    refine gC_Q_19 (pc := 11) C  d_Q_place_11 ?_
    refine gC_Q_139 (pc := 14) (v := (gi σ1 201)) C rfl d_Q_place_14 ?_
    refine z_goto (pc := 17) (tgt := 22) C d_Q_place_17 (by decide) ?_
    refine z_lv (lv' := []) [] rfl ?_
    exact w_Q_place_22 hAD C hr σ1 (gi σ1 201) hm
set_option maxHeartbeats 4000000 in
set_option maxRecDepth 100000 in
theorem w_Q_side_48 {D : va_G} {ad : Nat → Nat} {cA : Nat → ClassId} {p : Program} {l : Launch} {e : Env} {s : State} {m : MethodId} {args : Array Value} {below : List Frame} {meth : Method} {c : Code} {F : Nat} (hAD : ∀ σ, va_D (owC ad) (wdC ad cA σ)) (C : CC D ad cA (sXC ad) p s m args meth c bc_Q_side "KindRounds" 3) (hr : meth.sig.returnType = some .int) {r : Int32} {σ' : zS} (σ : zS) (s0 : Nat) (hm : Q_side_48 F σ s0 = some (r, σ')) : ZC D ad cA p l e (rmK 3) s m args below meth c 3 (qiC D ad cA below args s r σ') 48 [(0, .ref (ad 0))] [.ref (ad s0)] σ := by
  unfold Q_side_48 at hm
  refine z_astore_n (pc := 48) (lv' := [(0, .ref (ad 0)), (2, .ref (ad s0))]) C d_Q_side_48 rfl (Nat.le_of_ble_eq_true rfl) [1, 0] rfl ?_
  refine z_aload_n (pc := 49) C d_Q_side_49 rfl 1 rfl ?_
  obtain ⟨g1, hm⟩ := gd_s hm
  refine gC_Q_148 (pc := 50) (v := (mi σ (100 * s0 + 1))) C g1 rfl d_Q_side_50 ?_
  refine z_sipush (pc := 53) C d_Q_side_53 ks_2000 ?_
  refine z_icmp_le (pc := 56) (tgt := 62) C d_Q_side_56 (by decide) (fun c2 => ?_) (fun c2 => ?_)
  · rw [if_pos c2] at hm
    refine z_aload_n (pc := 62) C d_Q_side_62 rfl 0 rfl ?_
    refine gC_Q_90 (pc := 63) (v := (gr σ 10)) C rfl d_Q_side_63 ?_
    refine z_aload_n (pc := 66) C d_Q_side_66 rfl 1 rfl ?_
    obtain ⟨g4, hm⟩ := gd_s hm
    obtain ⟨σ3, e5, hm⟩ := bv_s hm
    refine z_callVN (pc := 67) C (k_Li_copy hAD e5) km_Li_copy mC_305 rfl rfl (oC_Li g4) rfl (kR_of (Nat.le_of_ble_eq_true rfl) (Nat.le_of_ble_eq_true rfl)) rfl (Nat.le_of_ble_eq_true rfl) d_Q_side_67 ?_
    refine z_aload_n (pc := 70) C d_Q_side_70 rfl 0 rfl ?_
    refine gC_Q_90 (pc := 71) (v := (gr σ3 10)) C rfl d_Q_side_71 ?_
    obtain ⟨g6, hm⟩ := gd_s hm
    refine gC_Q_148 (pc := 74) (v := (mi σ3 (100 * (gr σ3 10) + 1))) C g6 rfl d_Q_side_74 ?_
    exact z_iretE (pc := 77) C hr hm d_Q_side_77
  · rw [if_neg c2] at hm
    refine z_bipush (pc := 59) C d_Q_side_59 kb_m4 ?_
    exact z_iretE (pc := 61) C hr hm d_Q_side_61
set_option maxHeartbeats 4000000 in
set_option maxRecDepth 100000 in
theorem w_Q_side_12 {D : va_G} {ad : Nat → Nat} {cA : Nat → ClassId} {p : Program} {l : Launch} {e : Env} {s : State} {m : MethodId} {args : Array Value} {below : List Frame} {meth : Method} {c : Code} {F : Nat} (hAD : ∀ σ, va_D (owC ad) (wdC ad cA σ)) (C : CC D ad cA (sXC ad) p s m args meth c bc_Q_side "KindRounds" 3) (hr : meth.sig.returnType = some .int) {r : Int32} {σ' : zS} (σ : zS) (x1 : Int32) (hm : Q_side_12 F σ x1 = some (r, σ')) : ZC D ad cA p l e (rmK 3) s m args below meth c 3 (qiC D ad cA below args s r σ') 12 [(0, .ref (ad 0)), (1, .int x1)] [] σ := by
  unfold Q_side_12 at hm
  refine z_aload_n (pc := 12) C d_Q_side_12 rfl 0 rfl ?_
  refine gC_Q_19 (pc := 13) C  d_Q_side_13 ?_
  refine gC_Q_133 (pc := 16) (v := (gi σ 200)) C rfl d_Q_side_16 ?_
  refine z_bipush (pc := 19) C d_Q_side_19 kb_6 ?_
  refine z_icmp_eq (pc := 21) (tgt := 27) C d_Q_side_21 (by decide) (fun c1 => ?_) (fun c1 => ?_)
  · rw [if_pos c1] at hm
    refine z_iload_n (pc := 27) C d_Q_side_27 rfl 1 rfl ?_
    refine z_if_ne (pc := 28) (tgt := 41) C d_Q_side_28 (by decide) (fun c2 => ?_) (fun c2 => ?_)
    · rw [if_neg c2] at hm
      refine z_aload_n (pc := 41) C d_Q_side_41 rfl 0 rfl ?_
      refine gC_Q_19 (pc := 42) C  d_Q_side_42 ?_
      refine gC_Q_145 (pc := 45) C  d_Q_side_45 ?_
      refine z_lv (lv' := [(0, .ref (ad 0))]) [0] rfl ?_
      exact w_Q_side_48 hAD C hr σ 16 hm
    · rw [if_pos c2] at hm
      refine z_aload_n (pc := 31) C d_Q_side_31 rfl 0 rfl ?_
      refine gC_Q_19 (pc := 32) C  d_Q_side_32 ?_
      refine gC_Q_142 (pc := 35) C  d_Q_side_35 ?_
      refine z_goto (pc := 38) (tgt := 48) C d_Q_side_38 (by decide) ?_
      refine z_lv (lv' := [(0, .ref (ad 0))]) [0] rfl ?_
      exact w_Q_side_48 hAD C hr σ 15 hm
  · rw [if_neg c1] at hm
    refine z_bipush (pc := 24) C d_Q_side_24 kb_m3 ?_
    exact z_iretE (pc := 26) C hr hm d_Q_side_26
set_option maxHeartbeats 4000000 in
set_option maxRecDepth 100000 in
theorem k_Q_side {l : Launch} {D : va_G} {ad : Nat → Nat} {cA : Nat → ClassId} {F : Nat} (hAD : ∀ σ, va_D (owC ad) (wdC ad cA σ)) {σ : zS} {x1 : Int32} {r : Int32} {σ' : zS} (hm : Q_side F σ x1 = some (r, σ')) : kIC l D ad cA (sXC ad) y_Q_side bc_Q_side 3 .int 3 [.ref (ad 0), .int x1] σ r σ' := by
  refine kI_of (by decide) hAD sXC_P (Nat.le_of_ble_eq_true rfl) ?_
  intro p e s m below meth c C hr
  unfold Q_side at hm
  refine z_lv (lv' := [(0, .ref (ad 0)), (1, .int x1)]) [0, 1] rfl ?_
  refine z_iload_n (pc := 0) C d_Q_side_0 rfl 1 rfl ?_
  refine z_if_eq (pc := 1) (tgt := 12) C d_Q_side_1 (by decide) (fun c1 => ?_) (fun c1 => ?_)
  · rw [if_pos c1] at hm
    exact w_Q_side_12 hAD C hr σ x1 hm
  · rw [if_neg c1] at hm
    refine z_iload_n (pc := 4) C d_Q_side_4 rfl 1 rfl ?_
    refine z_iconst (pc := 5) C d_Q_side_5 ki_1 ?_
    refine z_icmp_eq (pc := 6) (tgt := 12) C d_Q_side_6 (by decide) (fun c2 => ?_) (fun c2 => ?_)
    · rw [if_pos c2] at hm
      exact w_Q_side_12 hAD C hr σ x1 hm
    · rw [if_neg c2] at hm
      refine z_bipush (pc := 9) C d_Q_side_9 kb_m2 ?_
      exact z_iretE (pc := 11) C hr hm d_Q_side_11
set_option maxHeartbeats 4000000 in
set_option maxRecDepth 100000 in
theorem w_Q_out_28 {D : va_G} {ad : Nat → Nat} {cA : Nat → ClassId} {p : Program} {l : Launch} {e : Env} {s : State} {m : MethodId} {args : Array Value} {below : List Frame} {meth : Method} {c : Code} {F : Nat} (hAD : ∀ σ, va_D (owC ad) (wdC ad cA σ)) (C : CC D ad cA (sXC ad) p s m args meth c bc_Q_out "KindRounds" 2) (hr : meth.sig.returnType = some .int) {r : Int32} {σ' : zS} (σ : zS) (s0 : Int32) (hm : Q_out_28 F σ s0 = some (r, σ')) : ZC D ad cA p l e (rmK 0) s m args below meth c 2 (qiC D ad cA below args s r σ') 28 [] [.int s0] σ := by
  unfold Q_out_28 at hm
  exact z_iretE (pc := 28) C hr hm d_Q_out_28
set_option maxHeartbeats 4000000 in
set_option maxRecDepth 100000 in
theorem w_Q_out_27 {D : va_G} {ad : Nat → Nat} {cA : Nat → ClassId} {p : Program} {l : Launch} {e : Env} {s : State} {m : MethodId} {args : Array Value} {below : List Frame} {meth : Method} {c : Code} {F : Nat} (hAD : ∀ σ, va_D (owC ad) (wdC ad cA σ)) (C : CC D ad cA (sXC ad) p s m args meth c bc_Q_out "KindRounds" 2) (hr : meth.sig.returnType = some .int) {r : Int32} {σ' : zS} (σ : zS) (hm : Q_out_27 F σ = some (r, σ')) : ZC D ad cA p l e (rmK 0) s m args below meth c 2 (qiC D ad cA below args s r σ') 27 [] [] σ := by
  unfold Q_out_27 at hm
  refine z_iconst (pc := 27) C d_Q_out_27 ki_m1 ?_
  exact w_Q_out_28 hAD C hr σ (-1 : Int32) hm
set_option maxHeartbeats 4000000 in
set_option maxRecDepth 100000 in
theorem k_Q_out {l : Launch} {D : va_G} {ad : Nat → Nat} {cA : Nat → ClassId} {F : Nat} (hAD : ∀ σ, va_D (owC ad) (wdC ad cA σ)) {σ : zS} {x1 : Int32} {r : Int32} {σ' : zS} (hm : Q_out F σ x1 = some (r, σ')) : kIC l D ad cA (sXC ad) y_Q_out bc_Q_out 2 .int 0 [.ref (ad 0), .int x1] σ r σ' := by
  refine kI_of (by decide) hAD sXC_P (Nat.le_of_ble_eq_true rfl) ?_
  intro p e s m below meth c C hr
  unfold Q_out at hm
  refine z_lv (lv' := [(0, .ref (ad 0)), (1, .int x1)]) [0, 1] rfl ?_
  refine z_iload_n (pc := 0) C d_Q_out_0 rfl 1 rfl ?_
  refine z_if_lt (pc := 1) (tgt := 27) C d_Q_out_1 (by decide) (fun c1 => ?_) (fun c1 => ?_)
  · rw [if_pos c1] at hm
    refine z_lv (lv' := []) [] rfl ?_
    exact w_Q_out_27 hAD C hr σ hm
  · rw [if_neg c1] at hm
    refine z_iload_n (pc := 4) C d_Q_out_4 rfl 1 rfl ?_
    refine z_aload_n (pc := 5) C d_Q_out_5 rfl 0 rfl ?_
    refine gC_Q_90 (pc := 6) (v := (gr σ 10)) C rfl d_Q_out_6 ?_
    obtain ⟨g2, hm⟩ := gd_s hm
    refine gC_Q_148 (pc := 9) (v := (mi σ (100 * (gr σ 10) + 1))) C g2 rfl d_Q_out_9 ?_
    refine z_icmp_ge (pc := 12) (tgt := 27) C d_Q_out_12 (by decide) (fun c3 => ?_) (fun c3 => ?_)
    · rw [if_pos c3] at hm
      refine z_lv (lv' := []) [] rfl ?_
      exact w_Q_out_27 hAD C hr σ hm
    · rw [if_neg c3] at hm
      refine z_aload_n (pc := 15) C d_Q_out_15 rfl 0 rfl ?_
      refine gC_Q_90 (pc := 16) (v := (gr σ 10)) C rfl d_Q_out_16 ?_
      refine gC_Q_153 (pc := 19) C g2  d_Q_out_19 ?_
      refine z_iload_n (pc := 22) C d_Q_out_22 rfl 1 rfl ?_
      obtain ⟨g4, hm⟩ := gd_s hm
      refine alC_Li_0 (pc := 23) (v := (ma σ (lA (gr σ 10)) x1.toNatClampNeg)) C (x := (gr σ 10)) g2 rfl g4 d_Q_out_23 ?_
      refine z_goto (pc := 24) (tgt := 28) C d_Q_out_24 (by decide) ?_
      refine z_lv (lv' := []) [] rfl ?_
      exact w_Q_out_28 hAD C hr σ (ma σ (lA (gr σ 10)) x1.toNatClampNeg) hm
set_option maxHeartbeats 4000000 in
set_option maxRecDepth 100000 in
theorem k_Q_told {l : Launch} {D : va_G} {ad : Nat → Nat} {cA : Nat → ClassId} {F : Nat} (hAD : ∀ σ, va_D (owC ad) (wdC ad cA σ)) {σ : zS} {x1 : Int32} {x2 : Int32} {r : Int32} {σ' : zS} (hm : Q_told F σ x1 x2 = some (r, σ')) : kIC l D ad cA (sXC ad) y_Q_told bc_Q_told 3 .int 1 [.ref (ad 0), .int x1, .int x2] σ r σ' := by
  refine kI_of (by decide) hAD sXC_P (Nat.le_of_ble_eq_true rfl) ?_
  intro p e s m below meth c C hr
  unfold Q_told at hm
  refine z_lv (lv' := [(0, .ref (ad 0)), (1, .int x1), (2, .int x2)]) [0, 1, 2] rfl ?_
  refine z_aload_n (pc := 0) C d_Q_told_0 rfl 0 rfl ?_
  refine gC_Q_33 (pc := 1) C  d_Q_told_1 ?_
  refine z_iload_n (pc := 4) C d_Q_told_4 rfl 1 rfl ?_
  obtain ⟨r2, σ1, e3, hm⟩ := bi_s hm
  refine z_callIN (pc := 5) C (k_Te_has hAD e3) km_Te_has mC_309 rfl rfl oC_4 rfl (kR_of (Nat.le_of_ble_eq_true rfl) (Nat.le_of_ble_eq_true rfl)) rfl (Nat.le_of_ble_eq_true rfl) d_Q_told_5 ?_
  refine z_if_ne (pc := 8) (tgt := 13) C d_Q_told_8 (by decide) (fun c4 => ?_) (fun c4 => ?_)
  · rw [if_neg c4] at hm
    refine z_iload_n (pc := 13) C d_Q_told_13 rfl 2 rfl ?_
    by_cases c6 : x2 = (0 : Int32)
    · rw [if_pos c6] at hm
      refine z_tableIn (pc := 14) (off := 38) (tgt := 52) C d_Q_told_14 (by rw [c6]; decide) (by rw [c6]; decide) (by rw [c6]; decide) (by decide) ?_
      refine z_aload_n (pc := 52) C d_Q_told_52 rfl 0 rfl ?_
      refine gC_Q_33 (pc := 53) C  d_Q_told_53 ?_
      refine gC_Q_161 (pc := 56) C  d_Q_told_56 ?_
      refine z_iload_n (pc := 59) C d_Q_told_59 rfl 1 rfl ?_
      obtain ⟨g5, hm⟩ := gd_s hm
      refine alC_29 (pc := 60) (v := (ga σ1 29 x1.toNatClampNeg)) C  rfl g5 d_Q_told_60 ?_
      exact z_iretE (pc := 61) C hr hm d_Q_told_61
    · rw [if_neg c6] at hm
      by_cases c8 : x2 = (1 : Int32)
      · rw [if_pos c8] at hm
        refine z_tableIn (pc := 14) (off := 48) (tgt := 62) C d_Q_told_14 (by rw [c8]; decide) (by rw [c8]; decide) (by rw [c8]; decide) (by decide) ?_
        refine z_aload_n (pc := 62) C d_Q_told_62 rfl 0 rfl ?_
        refine gC_Q_33 (pc := 63) C  d_Q_told_63 ?_
        refine gC_Q_165 (pc := 66) C  d_Q_told_66 ?_
        refine z_iload_n (pc := 69) C d_Q_told_69 rfl 1 rfl ?_
        obtain ⟨g7, hm⟩ := gd_s hm
        refine alC_32 (pc := 70) (v := (ga σ1 32 x1.toNatClampNeg)) C  rfl g7 d_Q_told_70 ?_
        exact z_iretE (pc := 71) C hr hm d_Q_told_71
      · rw [if_neg c8] at hm
        by_cases c10 : x2 = (2 : Int32)
        · rw [if_pos c10] at hm
          refine z_tableIn (pc := 14) (off := 58) (tgt := 72) C d_Q_told_14 (by rw [c10]; decide) (by rw [c10]; decide) (by rw [c10]; decide) (by decide) ?_
          refine z_aload_n (pc := 72) C d_Q_told_72 rfl 0 rfl ?_
          refine gC_Q_33 (pc := 73) C  d_Q_told_73 ?_
          refine gC_Q_168 (pc := 76) C  d_Q_told_76 ?_
          refine z_iload_n (pc := 79) C d_Q_told_79 rfl 1 rfl ?_
          obtain ⟨g9, hm⟩ := gd_s hm
          refine alC_36 (pc := 80) (v := (ga σ1 36 x1.toNatClampNeg)) C  rfl g9 d_Q_told_80 ?_
          exact z_iretE (pc := 81) C hr hm d_Q_told_81
        · rw [if_neg c10] at hm
          by_cases c12 : x2 = (3 : Int32)
          · rw [if_pos c12] at hm
            refine z_tableIn (pc := 14) (off := 68) (tgt := 82) C d_Q_told_14 (by rw [c12]; decide) (by rw [c12]; decide) (by rw [c12]; decide) (by decide) ?_
            refine z_aload_n (pc := 82) C d_Q_told_82 rfl 0 rfl ?_
            refine gC_Q_33 (pc := 83) C  d_Q_told_83 ?_
            refine gC_Q_171 (pc := 86) C  d_Q_told_86 ?_
            refine z_iload_n (pc := 89) C d_Q_told_89 rfl 1 rfl ?_
            obtain ⟨g11, hm⟩ := gd_s hm
            refine alC_31 (pc := 90) (v := (ga σ1 31 x1.toNatClampNeg)) C  rfl g11 d_Q_told_90 ?_
            exact z_iretE (pc := 91) C hr hm d_Q_told_91
          · rw [if_neg c12] at hm
            by_cases c14 : x2 = (4 : Int32)
            · rw [if_pos c14] at hm
              refine z_tableIn (pc := 14) (off := 78) (tgt := 92) C d_Q_told_14 (by rw [c14]; decide) (by rw [c14]; decide) (by rw [c14]; decide) (by decide) ?_
              refine z_aload_n (pc := 92) C d_Q_told_92 rfl 0 rfl ?_
              refine gC_Q_33 (pc := 93) C  d_Q_told_93 ?_
              refine gC_Q_174 (pc := 96) C  d_Q_told_96 ?_
              refine z_iload_n (pc := 99) C d_Q_told_99 rfl 1 rfl ?_
              obtain ⟨g13, hm⟩ := gd_s hm
              refine alC_34 (pc := 100) (v := (ga σ1 34 x1.toNatClampNeg)) C  rfl g13 d_Q_told_100 ?_
              exact z_iretE (pc := 101) C hr hm d_Q_told_101
            · rw [if_neg c14] at hm
              by_cases c16 : x2 = (5 : Int32)
              · rw [if_pos c16] at hm
                refine z_tableIn (pc := 14) (off := 88) (tgt := 102) C d_Q_told_14 (by rw [c16]; decide) (by rw [c16]; decide) (by rw [c16]; decide) (by decide) ?_
                refine z_aload_n (pc := 102) C d_Q_told_102 rfl 0 rfl ?_
                refine gC_Q_33 (pc := 103) C  d_Q_told_103 ?_
                refine gC_Q_177 (pc := 106) C  d_Q_told_106 ?_
                refine z_iload_n (pc := 109) C d_Q_told_109 rfl 1 rfl ?_
                obtain ⟨g15, hm⟩ := gd_s hm
                refine alC_35 (pc := 110) (v := (ga σ1 35 x1.toNatClampNeg)) C  rfl g15 d_Q_told_110 ?_
                exact z_iretE (pc := 111) C hr hm d_Q_told_111
              · rw [if_neg c16] at hm
                refine z_tableOut (pc := 14) (tgt := 112) C d_Q_told_14 (sw_out0_5 c6 c8 c10 c12 c14 c16) (by decide) ?_
                refine z_bipush (pc := 112) C d_Q_told_112 kb_m2 ?_
                exact z_iretE (pc := 114) C hr hm d_Q_told_114
  · rw [if_pos c4] at hm
    refine z_iconst (pc := 11) C d_Q_told_11 ki_m1 ?_
    exact z_iretE (pc := 12) C hr hm d_Q_told_12
set_option maxHeartbeats 4000000 in
set_option maxRecDepth 100000 in
theorem k_Q_swapLines {l : Launch} {D : va_G} {ad : Nat → Nat} {cA : Nat → ClassId} {F : Nat} (hAD : ∀ σ, va_D (owC ad) (wdC ad cA σ)) {σ : zS} {σ' : zS} (hm : Q_swapLines F σ = some σ') : kVC l D ad cA (sXC ad) y_Q_swapLines bc_Q_swapLines 2 0 [.ref (ad 0)] σ σ' := by
  refine kV_of (by decide) hAD sXC_P (Nat.le_of_ble_eq_true rfl) ?_
  intro p e s m below meth c C hr
  unfold Q_swapLines at hm
  refine z_lv (lv' := [(0, .ref (ad 0))]) [0] rfl ?_
  refine z_aload_n (pc := 0) C d_Q_swapLines_0 rfl 0 rfl ?_
  refine gC_Q_90 (pc := 1) (v := (gr σ 10)) C rfl d_Q_swapLines_1 ?_
  refine z_astore_n (pc := 4) (lv' := [(0, .ref (ad 0)), (1, .ref (ad (gr σ 10)))]) C d_Q_swapLines_4 rfl (Nat.le_of_ble_eq_true rfl) [1, 0] rfl ?_
  refine z_aload_n (pc := 5) C d_Q_swapLines_5 rfl 0 rfl ?_
  refine z_aload_n (pc := 6) C d_Q_swapLines_6 rfl 0 rfl ?_
  refine gC_Q_94 (pc := 7) (v := (gr σ 11)) C rfl d_Q_swapLines_7 ?_
  refine pC_Q_90 (pc := 10) C  d_Q_swapLines_10 ?_
  refine z_aload_n (pc := 13) C d_Q_swapLines_13 rfl 0 rfl ?_
  refine z_aload_n (pc := 14) C d_Q_swapLines_14 rfl 1 rfl ?_
  refine pC_Q_94 (pc := 15) C  d_Q_swapLines_15 ?_
  exact z_vretE (pc := 18) C hr hm d_Q_swapLines_18
set_option maxHeartbeats 4000000 in
set_option maxRecDepth 100000 in
theorem k_Q_showKind {l : Launch} {D : va_G} {ad : Nat → Nat} {cA : Nat → ClassId} {F : Nat} (hAD : ∀ σ, va_D (owC ad) (wdC ad cA σ)) {σ : zS} {x1 : Int32} {r : Int32} {σ' : zS} (hm : Q_showKind F σ x1 = some (r, σ')) : kIC l D ad cA (sXC ad) y_Q_showKind bc_Q_showKind 2 .int 3 [.ref (ad 0), .int x1] σ r σ' := by
  refine kI_of (by decide) hAD sXC_P (Nat.le_of_ble_eq_true rfl) ?_
  intro p e s m below meth c C hr
  unfold Q_showKind at hm
  refine z_lv (lv' := [(0, .ref (ad 0)), (1, .int x1)]) [0, 1] rfl ?_
  refine z_aload_n (pc := 0) C d_Q_showKind_0 rfl 0 rfl ?_
  refine gC_Q_94 (pc := 1) (v := (gr σ 11)) C rfl d_Q_showKind_1 ?_
  obtain ⟨g2, hm⟩ := gd_s hm
  obtain ⟨σ1, e3, hm⟩ := bv_s hm
  refine z_callVN (pc := 4) C (k_Li_clear hAD e3) km_Li_clear mC_337 rfl rfl (oC_Li g2) rfl (kR_of (Nat.le_of_ble_eq_true rfl) (Nat.le_of_ble_eq_true rfl)) rfl (Nat.le_of_ble_eq_true rfl) d_Q_showKind_4 ?_
  refine z_aload_n (pc := 7) C d_Q_showKind_7 rfl 0 rfl ?_
  refine gC_Q_26 (pc := 8) C  d_Q_showKind_8 ?_
  refine z_iload_n (pc := 11) C d_Q_showKind_11 rfl 1 rfl ?_
  refine z_aload_n (pc := 12) C d_Q_showKind_12 rfl 0 rfl ?_
  refine gC_Q_94 (pc := 13) (v := (gr σ1 11)) C rfl d_Q_showKind_13 ?_
  refine z_iconst (pc := 16) C d_Q_showKind_16 ki_0 ?_
  obtain ⟨σ4, e5, hm⟩ := bv_s hm
  refine z_callVN (pc := 17) C (k_Ki_show hAD e5) km_Ki_show mC_338 rfl rfl oC_3 rfl (kR_of (Nat.le_of_ble_eq_true rfl) (Nat.le_of_ble_eq_true rfl)) rfl (Nat.le_of_ble_eq_true rfl) d_Q_showKind_17 ?_
  refine z_aload_n (pc := 20) C d_Q_showKind_20 rfl 0 rfl ?_
  refine gC_Q_94 (pc := 21) (v := (gr σ4 11)) C rfl d_Q_showKind_21 ?_
  obtain ⟨g6, hm⟩ := gd_s hm
  refine gC_Q_148 (pc := 24) (v := (mi σ4 (100 * (gr σ4 11) + 1))) C g6 rfl d_Q_showKind_24 ?_
  refine z_sipush (pc := 27) C d_Q_showKind_27 ks_2000 ?_
  refine z_icmp_le (pc := 30) (tgt := 36) C d_Q_showKind_30 (by decide) (fun c7 => ?_) (fun c7 => ?_)
  · rw [if_pos c7] at hm
    refine z_aload_n (pc := 36) C d_Q_showKind_36 rfl 0 rfl ?_
    obtain ⟨σ8, e9, hm⟩ := bv_s hm
    refine z_callV (pc := 37) C (k_Q_swapLines hAD e9) km_Q_swapLines mC_329 rfl rfl oC_0 rfl (kR_of (Nat.le_of_ble_eq_true rfl) (Nat.le_of_ble_eq_true rfl)) rfl (Nat.le_of_ble_eq_true rfl) d_Q_showKind_37 ?_
    refine z_aload_n (pc := 40) C d_Q_showKind_40 rfl 0 rfl ?_
    refine gC_Q_90 (pc := 41) (v := (gr σ8 10)) C rfl d_Q_showKind_41 ?_
    obtain ⟨g10, hm⟩ := gd_s hm
    refine gC_Q_148 (pc := 44) (v := (mi σ8 (100 * (gr σ8 10) + 1))) C g10 rfl d_Q_showKind_44 ?_
    exact z_iretE (pc := 47) C hr hm d_Q_showKind_47
  · rw [if_neg c7] at hm
    refine z_bipush (pc := 33) C d_Q_showKind_33 kb_m4 ?_
    exact z_iretE (pc := 35) C hr hm d_Q_showKind_35
set_option maxHeartbeats 4000000 in
set_option maxRecDepth 100000 in
theorem w_Q_kindOf_29 {D : va_G} {ad : Nat → Nat} {cA : Nat → ClassId} {p : Program} {l : Launch} {e : Env} {s : State} {m : MethodId} {args : Array Value} {below : List Frame} {meth : Method} {c : Code} {F : Nat} (hAD : ∀ σ, va_D (owC ad) (wdC ad cA σ)) (C : CC D ad cA (sXC ad) p s m args meth c bc_Q_kindOf "KindRounds" 3) (hr : meth.sig.returnType = some .int) {r : Int32} {σ' : zS} (σ : zS) (hm : Q_kindOf_29 F σ = some (r, σ')) : ZC D ad cA p l e (rmK 4) s m args below meth c 3 (qiC D ad cA below args s r σ') 29 [] [] σ := by
  unfold Q_kindOf_29 at hm
  refine z_iconst (pc := 29) C d_Q_kindOf_29 ki_m1 ?_
  exact z_iretE (pc := 30) C hr hm d_Q_kindOf_30
set_option maxHeartbeats 4000000 in
set_option maxRecDepth 100000 in
theorem w_Q_kindOf_61 {D : va_G} {ad : Nat → Nat} {cA : Nat → ClassId} {p : Program} {l : Launch} {e : Env} {s : State} {m : MethodId} {args : Array Value} {below : List Frame} {meth : Method} {c : Code} {F : Nat} (hAD : ∀ σ, va_D (owC ad) (wdC ad cA σ)) (C : CC D ad cA (sXC ad) p s m args meth c bc_Q_kindOf "KindRounds" 3) (hr : meth.sig.returnType = some .int) {r : Int32} {σ' : zS} (σ : zS) (s1 : Int32) (hm : Q_kindOf_61 F σ s1 = some (r, σ')) : ZC D ad cA p l e (rmK 4) s m args below meth c 3 (qiC D ad cA below args s r σ') 61 [] [.int s1, .ref (ad 0)] σ := by
  unfold Q_kindOf_61 at hm
  obtain ⟨r2, σ1, e3, hm⟩ := bi_s hm
  refine z_callI (pc := 61) C (k_Q_showKind hAD e3) km_Q_showKind mC_316 rfl rfl oC_0 rfl (kR_of (Nat.le_of_ble_eq_true rfl) (Nat.le_of_ble_eq_true rfl)) rfl (Nat.le_of_ble_eq_true rfl) d_Q_kindOf_61 ?_
  exact z_iretE (pc := 64) C hr hm d_Q_kindOf_64
set_option maxHeartbeats 4000000 in
set_option maxRecDepth 100000 in
theorem k_Q_kindOf {l : Launch} {D : va_G} {ad : Nat → Nat} {cA : Nat → ClassId} {F : Nat} (hAD : ∀ σ, va_D (owC ad) (wdC ad cA σ)) {σ : zS} {x1 : Int32} {x2 : Int32} {r : Int32} {σ' : zS} (hm : Q_kindOf F σ x1 x2 = some (r, σ')) : kIC l D ad cA (sXC ad) y_Q_kindOf bc_Q_kindOf 3 .int 4 [.ref (ad 0), .int x1, .int x2] σ r σ' := by
  refine kI_of (by decide) hAD sXC_P (Nat.le_of_ble_eq_true rfl) ?_
  intro p e s m below meth c C hr
  unfold Q_kindOf at hm
  refine z_lv (lv' := [(0, .ref (ad 0)), (1, .int x1), (2, .int x2)]) [0, 1, 2] rfl ?_
  refine z_aload_n (pc := 0) C d_Q_kindOf_0 rfl 0 rfl ?_
  refine gC_Q_33 (pc := 1) C  d_Q_kindOf_1 ?_
  refine z_iload_n (pc := 4) C d_Q_kindOf_4 rfl 1 rfl ?_
  obtain ⟨r2, σ1, e3, hm⟩ := bi_s hm
  refine z_callIN (pc := 5) C (k_Te_has hAD e3) km_Te_has mC_309 rfl rfl oC_4 rfl (kR_of (Nat.le_of_ble_eq_true rfl) (Nat.le_of_ble_eq_true rfl)) rfl (Nat.le_of_ble_eq_true rfl) d_Q_kindOf_5 ?_
  refine z_if_eq (pc := 8) (tgt := 29) C d_Q_kindOf_8 (by decide) (fun c4 => ?_) (fun c4 => ?_)
  · rw [if_pos c4] at hm
    refine z_lv (lv' := []) [] rfl ?_
    exact w_Q_kindOf_29 hAD C hr σ1 hm
  · rw [if_neg c4] at hm
    refine z_iload_n (pc := 11) C d_Q_kindOf_11 rfl 2 rfl ?_
    refine z_iconst (pc := 12) C d_Q_kindOf_12 ki_m1 ?_
    refine z_icmp_lt (pc := 13) (tgt := 29) C d_Q_kindOf_13 (by decide) (fun c5 => ?_) (fun c5 => ?_)
    · rw [if_pos c5] at hm
      refine z_lv (lv' := []) [] rfl ?_
      exact w_Q_kindOf_29 hAD C hr σ1 hm
    · rw [if_neg c5] at hm
      refine z_iload_n (pc := 16) C d_Q_kindOf_16 rfl 2 rfl ?_
      refine z_aload_n (pc := 17) C d_Q_kindOf_17 rfl 0 rfl ?_
      refine gC_Q_33 (pc := 18) C  d_Q_kindOf_18 ?_
      refine gC_Q_165 (pc := 21) C  d_Q_kindOf_21 ?_
      refine z_iload_n (pc := 24) C d_Q_kindOf_24 rfl 1 rfl ?_
      obtain ⟨g6, hm⟩ := gd_s hm
      refine alC_32 (pc := 25) (v := (ga σ1 32 x1.toNatClampNeg)) C  rfl g6 d_Q_kindOf_25 ?_
      refine z_icmp_lt (pc := 26) (tgt := 31) C d_Q_kindOf_26 (by decide) (fun c7 => ?_) (fun c7 => ?_)
      · rw [if_pos c7] at hm
        refine z_aload_n (pc := 31) C d_Q_kindOf_31 rfl 0 rfl ?_
        refine z_iload_n (pc := 32) C d_Q_kindOf_32 rfl 2 rfl ?_
        refine z_if_ge (pc := 33) (tgt := 48) C d_Q_kindOf_33 (by decide) (fun c8 => ?_) (fun c8 => ?_)
        · rw [if_pos c8] at hm
          refine z_aload_n (pc := 48) C d_Q_kindOf_48 rfl 0 rfl ?_
          refine gC_Q_33 (pc := 49) C  d_Q_kindOf_49 ?_
          refine gC_Q_182 (pc := 52) C  d_Q_kindOf_52 ?_
          refine z_iload_n (pc := 55) C d_Q_kindOf_55 rfl 1 rfl ?_
          refine z_iconst (pc := 56) C d_Q_kindOf_56 ki_3 ?_
          refine z_imul (pc := 57) C d_Q_kindOf_57 ?_
          refine z_iload_n (pc := 58) C d_Q_kindOf_58 rfl 2 rfl ?_
          refine z_iadd (pc := 59) C d_Q_kindOf_59 ?_
          obtain ⟨g9, hm⟩ := gd_s hm
          refine alC_41 (pc := 60) (v := (ga σ1 41 ((x1 * (3 : Int32)) + x2).toNatClampNeg)) C  rfl g9 d_Q_kindOf_60 ?_
          refine z_lv (lv' := []) [] rfl ?_
          exact w_Q_kindOf_61 hAD C hr σ1 (ga σ1 41 ((x1 * (3 : Int32)) + x2).toNatClampNeg) hm
        · rw [if_neg c8] at hm
          refine z_aload_n (pc := 36) C d_Q_kindOf_36 rfl 0 rfl ?_
          refine gC_Q_33 (pc := 37) C  d_Q_kindOf_37 ?_
          refine gC_Q_180 (pc := 40) C  d_Q_kindOf_40 ?_
          refine z_iload_n (pc := 43) C d_Q_kindOf_43 rfl 1 rfl ?_
          refine alC_40 (pc := 44) (v := (ga σ1 40 x1.toNatClampNeg)) C  rfl g6 d_Q_kindOf_44 ?_
          refine z_goto (pc := 45) (tgt := 61) C d_Q_kindOf_45 (by decide) ?_
          refine z_lv (lv' := []) [] rfl ?_
          exact w_Q_kindOf_61 hAD C hr σ1 (ga σ1 40 x1.toNatClampNeg) hm
      · rw [if_neg c7] at hm
        refine z_lv (lv' := []) [] rfl ?_
        exact w_Q_kindOf_29 hAD C hr σ1 hm
set_option maxHeartbeats 4000000 in
set_option maxRecDepth 100000 in
theorem k_Q_groups {l : Launch} {D : va_G} {ad : Nat → Nat} {cA : Nat → ClassId} {F : Nat} (hAD : ∀ σ, va_D (owC ad) (wdC ad cA σ)) {σ : zS} {r : Int32} {σ' : zS} (hm : Q_groups F σ = some (r, σ')) : kIC l D ad cA (sXC ad) y_Q_groups bc_Q_groups 1 .int 0 [.ref (ad 0)] σ r σ' := by
  refine kI_of (by decide) hAD sXC_P (Nat.le_of_ble_eq_true rfl) ?_
  intro p e s m below meth c C hr
  unfold Q_groups at hm
  refine z_lv (lv' := [(0, .ref (ad 0))]) [0] rfl ?_
  refine z_aload_n (pc := 0) C d_Q_groups_0 rfl 0 rfl ?_
  refine gC_Q_33 (pc := 1) C  d_Q_groups_1 ?_
  refine gC_Q_189 (pc := 4) (v := (gi σ 412)) C rfl d_Q_groups_4 ?_
  exact z_iretE (pc := 7) C hr hm d_Q_groups_7
set_option maxHeartbeats 4000000 in
set_option maxRecDepth 100000 in
theorem w_Q_member_19 {D : va_G} {ad : Nat → Nat} {cA : Nat → ClassId} {p : Program} {l : Launch} {e : Env} {s : State} {m : MethodId} {args : Array Value} {below : List Frame} {meth : Method} {c : Code} {F : Nat} (hAD : ∀ σ, va_D (owC ad) (wdC ad cA σ)) (C : CC D ad cA (sXC ad) p s m args meth c bc_Q_member "KindRounds" 3) (hr : meth.sig.returnType = some .int) {r : Int32} {σ' : zS} (σ : zS) (hm : Q_member_19 F σ = some (r, σ')) : ZC D ad cA p l e (rmK 1) s m args below meth c 3 (qiC D ad cA below args s r σ') 19 [] [] σ := by
  unfold Q_member_19 at hm
  refine z_iconst (pc := 19) C d_Q_member_19 ki_m1 ?_
  exact z_iretE (pc := 20) C hr hm d_Q_member_20
set_option maxHeartbeats 4000000 in
set_option maxRecDepth 100000 in
theorem k_Q_member {l : Launch} {D : va_G} {ad : Nat → Nat} {cA : Nat → ClassId} {F : Nat} (hAD : ∀ σ, va_D (owC ad) (wdC ad cA σ)) {σ : zS} {x1 : Int32} {x2 : Int32} {r : Int32} {σ' : zS} (hm : Q_member F σ x1 x2 = some (r, σ')) : kIC l D ad cA (sXC ad) y_Q_member bc_Q_member 3 .int 1 [.ref (ad 0), .int x1, .int x2] σ r σ' := by
  refine kI_of (by decide) hAD sXC_P (Nat.le_of_ble_eq_true rfl) ?_
  intro p e s m below meth c C hr
  unfold Q_member at hm
  refine z_lv (lv' := [(0, .ref (ad 0)), (1, .int x1), (2, .int x2)]) [0, 1, 2] rfl ?_
  refine z_iload_n (pc := 0) C d_Q_member_0 rfl 1 rfl ?_
  refine z_if_lt (pc := 1) (tgt := 19) C d_Q_member_1 (by decide) (fun c1 => ?_) (fun c1 => ?_)
  · rw [if_pos c1] at hm
    refine z_lv (lv' := []) [] rfl ?_
    exact w_Q_member_19 hAD C hr σ hm
  · rw [if_neg c1] at hm
    refine z_iload_n (pc := 4) C d_Q_member_4 rfl 1 rfl ?_
    refine z_aload_n (pc := 5) C d_Q_member_5 rfl 0 rfl ?_
    refine gC_Q_33 (pc := 6) C  d_Q_member_6 ?_
    refine gC_Q_189 (pc := 9) (v := (gi σ 412)) C rfl d_Q_member_9 ?_
    refine z_icmp_ge (pc := 12) (tgt := 19) C d_Q_member_12 (by decide) (fun c2 => ?_) (fun c2 => ?_)
    · rw [if_pos c2] at hm
      refine z_lv (lv' := []) [] rfl ?_
      exact w_Q_member_19 hAD C hr σ hm
    · rw [if_neg c2] at hm
      refine z_iload_n (pc := 15) C d_Q_member_15 rfl 2 rfl ?_
      refine z_if_ge (pc := 16) (tgt := 21) C d_Q_member_16 (by decide) (fun c3 => ?_) (fun c3 => ?_)
      · rw [if_pos c3] at hm
        refine z_aload_n (pc := 21) C d_Q_member_21 rfl 0 rfl ?_
        refine gC_Q_33 (pc := 22) C  d_Q_member_22 ?_
        refine z_iload_n (pc := 25) C d_Q_member_25 rfl 1 rfl ?_
        refine z_iload_n (pc := 26) C d_Q_member_26 rfl 2 rfl ?_
        obtain ⟨r5, σ4, e6, hm⟩ := bi_s hm
        refine z_callIN (pc := 27) C (k_Te_findMember hAD e6) km_Te_findMember mC_320 rfl rfl oC_4 rfl (kR_of (Nat.le_of_ble_eq_true rfl) (Nat.le_of_ble_eq_true rfl)) rfl (Nat.le_of_ble_eq_true rfl) d_Q_member_27 ?_
        exact z_iretE (pc := 30) C hr hm d_Q_member_30
      · rw [if_neg c3] at hm
        refine z_lv (lv' := []) [] rfl ?_
        exact w_Q_member_19 hAD C hr σ hm
set_option maxHeartbeats 4000000 in
set_option maxRecDepth 100000 in
theorem w_Q_needs_22 {D : va_G} {ad : Nat → Nat} {cA : Nat → ClassId} {p : Program} {l : Launch} {e : Env} {s : State} {m : MethodId} {args : Array Value} {below : List Frame} {meth : Method} {c : Code} {F : Nat} (hAD : ∀ σ, va_D (owC ad) (wdC ad cA σ)) (C : CC D ad cA (sXC ad) p s m args meth c bc_Q_needs "KindRounds" 3) (hr : meth.sig.returnType = some .int) {r : Int32} {σ' : zS} (σ : zS) (hm : Q_needs_22 F σ = some (r, σ')) : ZC D ad cA p l e (rmK 1) s m args below meth c 3 (qiC D ad cA below args s r σ') 22 [] [] σ := by
  unfold Q_needs_22 at hm
  refine z_iconst (pc := 22) C d_Q_needs_22 ki_m1 ?_
  exact z_iretE (pc := 23) C hr hm d_Q_needs_23
set_option maxHeartbeats 4000000 in
set_option maxRecDepth 100000 in
theorem k_Q_needs {l : Launch} {D : va_G} {ad : Nat → Nat} {cA : Nat → ClassId} {F : Nat} (hAD : ∀ σ, va_D (owC ad) (wdC ad cA σ)) {σ : zS} {x1 : Int32} {x2 : Int32} {r : Int32} {σ' : zS} (hm : Q_needs F σ x1 x2 = some (r, σ')) : kIC l D ad cA (sXC ad) y_Q_needs bc_Q_needs 3 .int 1 [.ref (ad 0), .int x1, .int x2] σ r σ' := by
  refine kI_of (by decide) hAD sXC_P (Nat.le_of_ble_eq_true rfl) ?_
  intro p e s m below meth c C hr
  unfold Q_needs at hm
  refine z_lv (lv' := [(0, .ref (ad 0)), (1, .int x1), (2, .int x2)]) [0, 1, 2] rfl ?_
  refine z_aload_n (pc := 0) C d_Q_needs_0 rfl 0 rfl ?_
  refine gC_Q_33 (pc := 1) C  d_Q_needs_1 ?_
  refine z_iload_n (pc := 4) C d_Q_needs_4 rfl 1 rfl ?_
  obtain ⟨r2, σ1, e3, hm⟩ := bi_s hm
  refine z_callIN (pc := 5) C (k_Te_has hAD e3) km_Te_has mC_309 rfl rfl oC_4 rfl (kR_of (Nat.le_of_ble_eq_true rfl) (Nat.le_of_ble_eq_true rfl)) rfl (Nat.le_of_ble_eq_true rfl) d_Q_needs_5 ?_
  refine z_if_eq (pc := 8) (tgt := 22) C d_Q_needs_8 (by decide) (fun c4 => ?_) (fun c4 => ?_)
  · rw [if_pos c4] at hm
    refine z_lv (lv' := []) [] rfl ?_
    exact w_Q_needs_22 hAD C hr σ1 hm
  · rw [if_neg c4] at hm
    refine z_aload_n (pc := 11) C d_Q_needs_11 rfl 0 rfl ?_
    refine gC_Q_33 (pc := 12) C  d_Q_needs_12 ?_
    refine z_iload_n (pc := 15) C d_Q_needs_15 rfl 2 rfl ?_
    obtain ⟨r6, σ5, e7, hm⟩ := bi_s hm
    refine z_callIN (pc := 16) C (k_Te_has hAD e7) km_Te_has mC_309 rfl rfl oC_4 rfl (kR_of (Nat.le_of_ble_eq_true rfl) (Nat.le_of_ble_eq_true rfl)) rfl (Nat.le_of_ble_eq_true rfl) d_Q_needs_16 ?_
    refine z_if_ne (pc := 19) (tgt := 24) C d_Q_needs_19 (by decide) (fun c8 => ?_) (fun c8 => ?_)
    · rw [if_neg c8] at hm
      refine z_aload_n (pc := 24) C d_Q_needs_24 rfl 0 rfl ?_
      refine gC_Q_33 (pc := 25) C  d_Q_needs_25 ?_
      refine gC_Q_196 (pc := 28) C  d_Q_needs_28 ?_
      refine z_iload_n (pc := 31) C d_Q_needs_31 rfl 1 rfl ?_
      obtain ⟨g9, hm⟩ := gd_s hm
      refine alC_38 (pc := 32) (v := (ga σ5 38 x1.toNatClampNeg)) C  rfl g9 d_Q_needs_32 ?_
      refine z_iload_n (pc := 33) C d_Q_needs_33 rfl 2 rfl ?_
      refine z_ishr (pc := 34) C d_Q_needs_34 ?_
      refine z_iconst (pc := 35) C d_Q_needs_35 ki_1 ?_
      refine z_iand (pc := 36) C d_Q_needs_36 ?_
      exact z_iretE (pc := 37) C hr hm d_Q_needs_37
    · rw [if_pos c8] at hm
      refine z_lv (lv' := []) [] rfl ?_
      exact w_Q_needs_22 hAD C hr σ5 hm
set_option maxHeartbeats 4000000 in
set_option maxRecDepth 100000 in
theorem w_Q_takeTypes_112 {D : va_G} {ad : Nat → Nat} {cA : Nat → ClassId} {p : Program} {l : Launch} {e : Env} {s : State} {m : MethodId} {args : Array Value} {below : List Frame} {meth : Method} {c : Code} {F : Nat} (hAD : ∀ σ, va_D (owC ad) (wdC ad cA σ)) (C : CC D ad cA (sXC ad) p s m args meth c bc_Q_takeTypes "KindRounds" 3) (hr : meth.sig.returnType = some .boolean) {r : Int32} {σ' : zS} (σ : zS) (s0 : Int32) (hm : Q_takeTypes_112 F σ s0 = some (r, σ')) : ZC D ad cA p l e (rmK 44) s m args below meth c 3 (qiC D ad cA below args s r σ') 112 [] [.int s0] σ := by
  unfold Q_takeTypes_112 at hm
  obtain ⟨g1, hm⟩ := gd_s hm
  exact z_zretE (pc := 112) C hr g1 hm d_Q_takeTypes_112
set_option maxHeartbeats 4000000 in
set_option maxRecDepth 100000 in
theorem w_Q_takeTypes_97 {D : va_G} {ad : Nat → Nat} {cA : Nat → ClassId} {p : Program} {l : Launch} {e : Env} {s : State} {m : MethodId} {args : Array Value} {below : List Frame} {meth : Method} {c : Code} {F : Nat} (hAD : ∀ σ, va_D (owC ad) (wdC ad cA σ)) (C : CC D ad cA (sXC ad) p s m args meth c bc_Q_takeTypes "KindRounds" 3) (hr : meth.sig.returnType = some .boolean) {r : Int32} {σ' : zS} (σ : zS) (hm : Q_takeTypes_97 F σ = some (r, σ')) : ZC D ad cA p l e (rmK 44) s m args below meth c 3 (qiC D ad cA below args s r σ') 97 [(0, .ref (ad 0))] [] σ := by
  unfold Q_takeTypes_97 at hm
  refine z_aload_n (pc := 97) C d_Q_takeTypes_97 rfl 0 rfl ?_
  refine gC_Q_19 (pc := 98) C  d_Q_takeTypes_98 ?_
  obtain ⟨r2, σ1, e3, hm⟩ := bi_s hm
  refine z_callIN (pc := 101) C (k_Fa_isThere hAD e3) km_Fa_isThere mC_284 rfl rfl oC_2 rfl (kR_of (Nat.le_of_ble_eq_true rfl) (Nat.le_of_ble_eq_true rfl)) rfl (Nat.le_of_ble_eq_true rfl) d_Q_takeTypes_101 ?_
  refine z_if_ne (pc := 104) (tgt := 111) C d_Q_takeTypes_104 (by decide) (fun c4 => ?_) (fun c4 => ?_)
  · rw [if_neg c4] at hm
    refine z_iconst (pc := 111) C d_Q_takeTypes_111 ki_0 ?_
    refine z_lv (lv' := []) [] rfl ?_
    exact w_Q_takeTypes_112 hAD C hr σ1 (0 : Int32) hm
  · rw [if_pos c4] at hm
    refine z_iconst (pc := 107) C d_Q_takeTypes_107 ki_1 ?_
    refine z_goto (pc := 108) (tgt := 112) C d_Q_takeTypes_108 (by decide) ?_
    refine z_lv (lv' := []) [] rfl ?_
    exact w_Q_takeTypes_112 hAD C hr σ1 (1 : Int32) hm
set_option maxHeartbeats 4000000 in
set_option maxRecDepth 100000 in
theorem w_Q_takeTypes_64 {D : va_G} {ad : Nat → Nat} {cA : Nat → ClassId} {p : Program} {l : Launch} {e : Env} {s : State} {m : MethodId} {args : Array Value} {below : List Frame} {meth : Method} {c : Code} {F : Nat} (hAD : ∀ σ, va_D (owC ad) (wdC ad cA σ)) (C : CC D ad cA (sXC ad) p s m args meth c bc_Q_takeTypes "KindRounds" 3) (hr : meth.sig.returnType = some .boolean) {r : Int32} {σ' : zS} : ∀ (n : Nat) (σ : zS) (x1 : Int32) (x2 : Int32), Q_takeTypes_64 F n σ x1 x2 = some (r, σ') → ZC D ad cA p l e (rmK 44) s m args below meth c 3 (qiC D ad cA below args s r σ') 64 [(0, .ref (ad 0)), (1, .int x1), (2, .int x2)] [] σ := by
  intro n
  induction n with
  | zero => intro σ x1 x2 hm; cases hm
  | succ n h64 =>
    intro σ x1 x2 hm
    have hm : Q_takeTypes_b64 F (Q_takeTypes_64 F n) σ x1 x2 = some (r, σ') := hm
    unfold Q_takeTypes_b64 at hm
    refine z_iload_n (pc := 64) C d_Q_takeTypes_64 rfl 2 rfl ?_
    refine z_iload_n (pc := 65) C d_Q_takeTypes_65 rfl 1 rfl ?_
    refine z_icmp_ge (pc := 66) (tgt := 97) C d_Q_takeTypes_66 (by decide) (fun c1 => ?_) (fun c1 => ?_)
    · rw [if_pos c1] at hm
      refine z_lv (lv' := [(0, .ref (ad 0))]) [0] rfl ?_
      exact w_Q_takeTypes_97 hAD C hr σ hm
    · rw [if_neg c1] at hm
      refine z_aload_n (pc := 69) C d_Q_takeTypes_69 rfl 0 rfl ?_
      refine gC_Q_19 (pc := 70) C  d_Q_takeTypes_70 ?_
      obtain ⟨r3, σ2, e4, hm⟩ := bi_s hm
      refine z_callIN (pc := 73) C (k_Fa_isThere hAD e4) km_Fa_isThere mC_284 rfl rfl oC_2 rfl (kR_of (Nat.le_of_ble_eq_true rfl) (Nat.le_of_ble_eq_true rfl)) rfl (Nat.le_of_ble_eq_true rfl) d_Q_takeTypes_73 ?_
      refine z_if_ne (pc := 76) (tgt := 97) C d_Q_takeTypes_76 (by decide) (fun c5 => ?_) (fun c5 => ?_)
      · rw [if_neg c5] at hm
        refine z_lv (lv' := [(0, .ref (ad 0))]) [0] rfl ?_
        exact w_Q_takeTypes_97 hAD C hr σ2 hm
      · rw [if_pos c5] at hm
        refine z_aload_n (pc := 79) C d_Q_takeTypes_79 rfl 0 rfl ?_
        refine gC_Q_74 (pc := 80) C  d_Q_takeTypes_80 ?_
        refine z_aload_n (pc := 83) C d_Q_takeTypes_83 rfl 0 rfl ?_
        refine gC_Q_47 (pc := 84) C  d_Q_takeTypes_84 ?_
        refine z_iload_n (pc := 87) C d_Q_takeTypes_87 rfl 2 rfl ?_
        obtain ⟨σ6, e7, hm⟩ := bv_s hm
        refine z_callVN (pc := 88) C (k_So_solveAsked hAD e7) km_So_solveAsked mC_332 rfl rfl oC_8 rfl (kR_of (Nat.le_of_ble_eq_true rfl) (Nat.le_of_ble_eq_true rfl)) rfl (Nat.le_of_ble_eq_true rfl) d_Q_takeTypes_88 ?_
        refine z_iinc (pc := 91) (lv' := [(0, .ref (ad 0)), (1, .int x1), (2, .int (x2 + (1 : Int32)))]) C d_Q_takeTypes_91 2 rfl (ii ki_1) (Nat.le_of_ble_eq_true rfl) [1, 2, 0] rfl ?_
        refine z_goto (pc := 94) (tgt := 64) C d_Q_takeTypes_94 (by decide) ?_
        exact h64 σ6 x1 (x2 + (1 : Int32)) hm
set_option maxHeartbeats 4000000 in
set_option maxRecDepth 100000 in
theorem k_Q_takeTypes {l : Launch} {D : va_G} {ad : Nat → Nat} {cA : Nat → ClassId} {F : Nat} (hAD : ∀ σ, va_D (owC ad) (wdC ad cA σ)) {σ : zS} {x1 : Int32} {r : Int32} {σ' : zS} (hm : Q_takeTypes F σ x1 = some (r, σ')) : kIC l D ad cA (sXC ad) y_Q_takeTypes bc_Q_takeTypes 3 .boolean 44 [.ref (ad 0), .int x1] σ r σ' := by
  refine kI_of (by decide) hAD sXC_P (Nat.le_of_ble_eq_true rfl) ?_
  intro p e s m below meth c C hr
  unfold Q_takeTypes at hm
  refine z_lv (lv' := [(0, .ref (ad 0)), (1, .int x1)]) [0, 1] rfl ?_
  refine z_aload_n (pc := 0) C d_Q_takeTypes_0 rfl 0 rfl ?_
  refine gC_Q_19 (pc := 1) C  d_Q_takeTypes_1 ?_
  obtain ⟨σ1, e2, hm⟩ := bv_s hm
  refine z_callVN (pc := 4) C (k_Fa_clear hAD e2) km_Fa_clear mC_289 rfl rfl oC_2 rfl (kR_of (Nat.le_of_ble_eq_true rfl) (Nat.le_of_ble_eq_true rfl)) rfl (Nat.le_of_ble_eq_true rfl) d_Q_takeTypes_4 ?_
  refine z_aload_n (pc := 7) C d_Q_takeTypes_7 rfl 0 rfl ?_
  refine gC_Q_40 (pc := 8) C  d_Q_takeTypes_8 ?_
  obtain ⟨σ3, e4, hm⟩ := bv_s hm
  refine z_callVN (pc := 11) C (k_Me_clear hAD e4) km_Me_clear mC_291 rfl rfl oC_5 rfl (kR_of (Nat.le_of_ble_eq_true rfl) (Nat.le_of_ble_eq_true rfl)) rfl (Nat.le_of_ble_eq_true rfl) d_Q_takeTypes_11 ?_
  refine z_aload_n (pc := 14) C d_Q_takeTypes_14 rfl 0 rfl ?_
  refine gC_Q_47 (pc := 15) C  d_Q_takeTypes_15 ?_
  obtain ⟨g6, hm⟩ := gd_s hm
  obtain ⟨σ5, e7, hm⟩ := bv_s hm
  refine z_callVN (pc := 18) C (k_Ro_clear hAD e7) km_Ro_clear mC_333 rfl rfl (oC_Ro g6) rfl (kR_of (Nat.le_of_ble_eq_true rfl) (Nat.le_of_ble_eq_true rfl)) rfl (Nat.le_of_ble_eq_true rfl) d_Q_takeTypes_18 ?_
  refine z_aload_n (pc := 21) C d_Q_takeTypes_21 rfl 0 rfl ?_
  refine gC_Q_26 (pc := 22) C  d_Q_takeTypes_22 ?_
  obtain ⟨σ8, e9, hm⟩ := bv_s hm
  refine z_callVN (pc := 25) C (k_Ki_dropAsked hAD e9) km_Ki_dropAsked mC_334 rfl rfl oC_3 rfl (kR_of (Nat.le_of_ble_eq_true rfl) (Nat.le_of_ble_eq_true rfl)) rfl (Nat.le_of_ble_eq_true rfl) d_Q_takeTypes_25 ?_
  refine z_aload_n (pc := 28) C d_Q_takeTypes_28 rfl 0 rfl ?_
  refine gC_Q_10 (pc := 29) C  d_Q_takeTypes_29 ?_
  obtain ⟨σ10, e11, hm⟩ := bv_s hm
  refine z_callVN (pc := 32) C (k_Ta_scan hAD e11) km_Ta_scan mC_294 rfl rfl oC_1 rfl (kR_of (Nat.le_of_ble_eq_true rfl) (Nat.le_of_ble_eq_true rfl)) rfl (Nat.le_of_ble_eq_true rfl) d_Q_takeTypes_32 ?_
  refine z_aload_n (pc := 35) C d_Q_takeTypes_35 rfl 0 rfl ?_
  refine gC_Q_56 (pc := 36) C  d_Q_takeTypes_36 ?_
  refine z_aload_n (pc := 39) C d_Q_takeTypes_39 rfl 0 rfl ?_
  refine gC_Q_47 (pc := 40) C  d_Q_takeTypes_40 ?_
  refine z_iload_n (pc := 43) C d_Q_takeTypes_43 rfl 1 rfl ?_
  obtain ⟨σ12, e13, hm⟩ := bv_s hm
  refine z_callVN (pc := 44) C (k_Pa_parseTypes hAD e13) km_Pa_parseTypes mC_335 rfl rfl oC_6 rfl (kR_of (Nat.le_of_ble_eq_true rfl) (Nat.le_of_ble_eq_true rfl)) rfl (Nat.le_of_ble_eq_true rfl) d_Q_takeTypes_44 ?_
  refine z_aload_n (pc := 47) C d_Q_takeTypes_47 rfl 0 rfl ?_
  refine gC_Q_10 (pc := 48) C  d_Q_takeTypes_48 ?_
  refine z_iconst (pc := 51) C d_Q_takeTypes_51 ki_0 ?_
  refine pC_Q_105 (pc := 52) C  d_Q_takeTypes_52 ?_
  refine z_aload_n (pc := 55) C d_Q_takeTypes_55 rfl 0 rfl ?_
  refine gC_Q_65 (pc := 56) C  d_Q_takeTypes_56 ?_
  obtain ⟨σ14, e15, hm⟩ := bv_s hm
  refine z_callVN (pc := 59) C (k_Ch_checkTypes hAD e15) km_Ch_checkTypes mC_336 rfl rfl oC_7 rfl (kR_of (Nat.le_of_ble_eq_true rfl) (Nat.le_of_ble_eq_true rfl)) rfl (Nat.le_of_ble_eq_true rfl) d_Q_takeTypes_59 ?_
  refine z_iconst (pc := 62) C d_Q_takeTypes_62 ki_0 ?_
  refine z_istore_n (pc := 63) (lv' := [(0, .ref (ad 0)), (1, .int x1), (2, .int (0 : Int32))]) C d_Q_takeTypes_63 rfl (Nat.le_of_ble_eq_true rfl) [1, 2, 0] rfl ?_
  exact w_Q_takeTypes_64 hAD C hr F σ14 x1 (0 : Int32) hm
set_option maxHeartbeats 4000000 in
set_option maxRecDepth 100000 in
theorem k_Q_kind {l : Launch} {D : va_G} {ad : Nat → Nat} {cA : Nat → ClassId} {F : Nat} (hAD : ∀ σ, va_D (owC ad) (wdC ad cA σ)) {σ : zS} {r : Int32} {σ' : zS} (hm : Q_kind F σ = some (r, σ')) : kIC l D ad cA (sXC ad) y_Q_kind bc_Q_kind 1 .int 45 [.ref (ad 0)] σ r σ' := by
  refine kI_of (by decide) hAD sXC_P (Nat.le_of_ble_eq_true rfl) ?_
  intro p e s m below meth c C hr
  unfold Q_kind at hm
  refine z_lv (lv' := [(0, .ref (ad 0))]) [0] rfl ?_
  refine z_aload_n (pc := 0) C d_Q_kind_0 rfl 0 rfl ?_
  refine z_iconst (pc := 1) C d_Q_kind_1 ki_1 ?_
  obtain ⟨r2, σ1, e3, hm⟩ := bi_s hm
  refine z_callI (pc := 2) C (k_Q_takeTypes hAD e3) km_Q_takeTypes mC_322 rfl rfl oC_0 rfl (kR_of (Nat.le_of_ble_eq_true rfl) (Nat.le_of_ble_eq_true rfl)) rfl (Nat.le_of_ble_eq_true rfl) d_Q_kind_2 ?_
  refine z_if_ne (pc := 5) (tgt := 19) C d_Q_kind_5 (by decide) (fun c4 => ?_) (fun c4 => ?_)
  · rw [if_neg c4] at hm
    refine z_aload_n (pc := 19) C d_Q_kind_19 rfl 0 rfl ?_
    refine z_aload_n (pc := 20) C d_Q_kind_20 rfl 0 rfl ?_
    refine gC_Q_74 (pc := 21) C  d_Q_kind_21 ?_
    refine gC_Q_202 (pc := 24) (v := (gi σ1 815)) C rfl d_Q_kind_24 ?_
    obtain ⟨r6, σ5, e7, hm⟩ := bi_s hm
    refine z_callI (pc := 27) C (k_Q_showKind hAD e7) km_Q_showKind mC_316 rfl rfl oC_0 rfl (kR_of (Nat.le_of_ble_eq_true rfl) (Nat.le_of_ble_eq_true rfl)) rfl (Nat.le_of_ble_eq_true rfl) d_Q_kind_27 ?_
    exact z_iretE (pc := 30) C hr hm d_Q_kind_30
  · rw [if_pos c4] at hm
    refine z_bipush (pc := 8) C d_Q_kind_8 kb_m10 ?_
    refine z_aload_n (pc := 10) C d_Q_kind_10 rfl 0 rfl ?_
    refine gC_Q_19 (pc := 11) C  d_Q_kind_11 ?_
    refine gC_Q_133 (pc := 14) (v := (gi σ1 200)) C rfl d_Q_kind_14 ?_
    refine z_isub (pc := 17) C d_Q_kind_17 ?_
    exact z_iretE (pc := 18) C hr hm d_Q_kind_18
set_option maxHeartbeats 4000000 in
set_option maxRecDepth 100000 in
theorem k_Q_plain {l : Launch} {D : va_G} {ad : Nat → Nat} {cA : Nat → ClassId} {F : Nat} (hAD : ∀ σ, va_D (owC ad) (wdC ad cA σ)) {σ : zS} {r : Int32} {σ' : zS} (hm : Q_plain F σ = some (r, σ')) : kIC l D ad cA (sXC ad) y_Q_plain bc_Q_plain 1 .int 45 [.ref (ad 0)] σ r σ' := by
  refine kI_of (by decide) hAD sXC_P (Nat.le_of_ble_eq_true rfl) ?_
  intro p e s m below meth c C hr
  unfold Q_plain at hm
  refine z_lv (lv' := [(0, .ref (ad 0))]) [0] rfl ?_
  refine z_aload_n (pc := 0) C d_Q_plain_0 rfl 0 rfl ?_
  refine z_iconst (pc := 1) C d_Q_plain_1 ki_1 ?_
  obtain ⟨r2, σ1, e3, hm⟩ := bi_s hm
  refine z_callI (pc := 2) C (k_Q_takeTypes hAD e3) km_Q_takeTypes mC_322 rfl rfl oC_0 rfl (kR_of (Nat.le_of_ble_eq_true rfl) (Nat.le_of_ble_eq_true rfl)) rfl (Nat.le_of_ble_eq_true rfl) d_Q_plain_2 ?_
  refine z_if_ne (pc := 5) (tgt := 19) C d_Q_plain_5 (by decide) (fun c4 => ?_) (fun c4 => ?_)
  · rw [if_neg c4] at hm
    refine z_aload_n (pc := 19) C d_Q_plain_19 rfl 0 rfl ?_
    refine gC_Q_83 (pc := 20) C  d_Q_plain_20 ?_
    refine z_aload_n (pc := 23) C d_Q_plain_23 rfl 0 rfl ?_
    refine gC_Q_47 (pc := 24) C  d_Q_plain_24 ?_
    refine z_iconst (pc := 27) C d_Q_plain_27 ki_0 ?_
    obtain ⟨r6, σ5, e7, hm⟩ := bi_s hm
    refine z_callIN (pc := 28) C (k_Pl_replaceAll hAD e7) km_Pl_replaceAll mC_326 rfl rfl oC_9 rfl (kR_of (Nat.le_of_ble_eq_true rfl) (Nat.le_of_ble_eq_true rfl)) rfl (Nat.le_of_ble_eq_true rfl) d_Q_plain_28 ?_
    refine z_if_ne (pc := 31) (tgt := 37) C d_Q_plain_31 (by decide) (fun c8 => ?_) (fun c8 => ?_)
    · rw [if_neg c8] at hm
      refine z_aload_n (pc := 37) C d_Q_plain_37 rfl 0 rfl ?_
      refine gC_Q_83 (pc := 38) C  d_Q_plain_38 ?_
      refine z_aload_n (pc := 41) C d_Q_plain_41 rfl 0 rfl ?_
      refine gC_Q_94 (pc := 42) (v := (gr σ5 11)) C rfl d_Q_plain_42 ?_
      obtain ⟨σ9, e10, hm⟩ := bv_s hm
      refine z_callVN (pc := 45) C (k_Pl_show hAD e10) km_Pl_show mC_328 rfl rfl oC_9 rfl (kR_of (Nat.le_of_ble_eq_true rfl) (Nat.le_of_ble_eq_true rfl)) rfl (Nat.le_of_ble_eq_true rfl) d_Q_plain_45 ?_
      refine z_aload_n (pc := 48) C d_Q_plain_48 rfl 0 rfl ?_
      obtain ⟨σ11, e12, hm⟩ := bv_s hm
      refine z_callV (pc := 49) C (k_Q_swapLines hAD e12) km_Q_swapLines mC_329 rfl rfl oC_0 rfl (kR_of (Nat.le_of_ble_eq_true rfl) (Nat.le_of_ble_eq_true rfl)) rfl (Nat.le_of_ble_eq_true rfl) d_Q_plain_49 ?_
      refine z_aload_n (pc := 52) C d_Q_plain_52 rfl 0 rfl ?_
      refine gC_Q_90 (pc := 53) (v := (gr σ11 10)) C rfl d_Q_plain_53 ?_
      obtain ⟨g13, hm⟩ := gd_s hm
      refine gC_Q_148 (pc := 56) (v := (mi σ11 (100 * (gr σ11 10) + 1))) C g13 rfl d_Q_plain_56 ?_
      exact z_iretE (pc := 59) C hr hm d_Q_plain_59
    · rw [if_pos c8] at hm
      refine z_bipush (pc := 34) C d_Q_plain_34 kb_m4 ?_
      exact z_iretE (pc := 36) C hr hm d_Q_plain_36
  · rw [if_pos c4] at hm
    refine z_bipush (pc := 8) C d_Q_plain_8 kb_m10 ?_
    refine z_aload_n (pc := 10) C d_Q_plain_10 rfl 0 rfl ?_
    refine gC_Q_19 (pc := 11) C  d_Q_plain_11 ?_
    refine gC_Q_133 (pc := 14) (v := (gi σ1 200)) C rfl d_Q_plain_14 ?_
    refine z_isub (pc := 17) C d_Q_plain_17 ?_
    exact z_iretE (pc := 18) C hr hm d_Q_plain_18
set_option maxHeartbeats 4000000 in
set_option maxRecDepth 100000 in
theorem w_Q_same_77 {D : va_G} {ad : Nat → Nat} {cA : Nat → ClassId} {p : Program} {l : Launch} {e : Env} {s : State} {m : MethodId} {args : Array Value} {below : List Frame} {meth : Method} {c : Code} {F : Nat} (hAD : ∀ σ, va_D (owC ad) (wdC ad cA σ)) (C : CC D ad cA (sXC ad) p s m args meth c bc_Q_same "KindRounds" 1) (hr : meth.sig.returnType = some .int) {r : Int32} {σ' : zS} (σ : zS) (s0 : Int32) (hm : Q_same_77 F σ s0 = some (r, σ')) : ZC D ad cA p l e (rmK 45) s m args below meth c 1 (qiC D ad cA below args s r σ') 77 [] [.int s0] σ := by
  unfold Q_same_77 at hm
  exact z_iretE (pc := 77) C hr hm d_Q_same_77
set_option maxHeartbeats 4000000 in
set_option maxRecDepth 100000 in
theorem k_Q_same {l : Launch} {D : va_G} {ad : Nat → Nat} {cA : Nat → ClassId} {F : Nat} (hAD : ∀ σ, va_D (owC ad) (wdC ad cA σ)) {σ : zS} {r : Int32} {σ' : zS} (hm : Q_same F σ = some (r, σ')) : kIC l D ad cA (sXC ad) y_Q_same bc_Q_same 1 .int 45 [.ref (ad 0)] σ r σ' := by
  refine kI_of (by decide) hAD sXC_P (Nat.le_of_ble_eq_true rfl) ?_
  intro p e s m below meth c C hr
  unfold Q_same at hm
  refine z_lv (lv' := [(0, .ref (ad 0))]) [0] rfl ?_
  refine z_aload_n (pc := 0) C d_Q_same_0 rfl 0 rfl ?_
  refine z_iconst (pc := 1) C d_Q_same_1 ki_2 ?_
  obtain ⟨r2, σ1, e3, hm⟩ := bi_s hm
  refine z_callI (pc := 2) C (k_Q_takeTypes hAD e3) km_Q_takeTypes mC_322 rfl rfl oC_0 rfl (kR_of (Nat.le_of_ble_eq_true rfl) (Nat.le_of_ble_eq_true rfl)) rfl (Nat.le_of_ble_eq_true rfl) d_Q_same_2 ?_
  refine z_if_ne (pc := 5) (tgt := 19) C d_Q_same_5 (by decide) (fun c4 => ?_) (fun c4 => ?_)
  · rw [if_neg c4] at hm
    refine z_aload_n (pc := 19) C d_Q_same_19 rfl 0 rfl ?_
    refine gC_Q_83 (pc := 20) C  d_Q_same_20 ?_
    refine z_aload_n (pc := 23) C d_Q_same_23 rfl 0 rfl ?_
    refine gC_Q_47 (pc := 24) C  d_Q_same_24 ?_
    refine z_iconst (pc := 27) C d_Q_same_27 ki_0 ?_
    obtain ⟨r6, σ5, e7, hm⟩ := bi_s hm
    refine z_callIN (pc := 28) C (k_Pl_replaceAll hAD e7) km_Pl_replaceAll mC_326 rfl rfl oC_9 rfl (kR_of (Nat.le_of_ble_eq_true rfl) (Nat.le_of_ble_eq_true rfl)) rfl (Nat.le_of_ble_eq_true rfl) d_Q_same_28 ?_
    refine z_if_ne (pc := 31) (tgt := 37) C d_Q_same_31 (by decide) (fun c8 => ?_) (fun c8 => ?_)
    · rw [if_neg c8] at hm
      refine z_aload_n (pc := 37) C d_Q_same_37 rfl 0 rfl ?_
      refine gC_Q_83 (pc := 38) C  d_Q_same_38 ?_
      obtain ⟨σ9, e10, hm⟩ := bv_s hm
      refine z_callVN (pc := 41) C (k_Pl_keep hAD e10) km_Pl_keep mC_330 rfl rfl oC_9 rfl (kR_of (Nat.le_of_ble_eq_true rfl) (Nat.le_of_ble_eq_true rfl)) rfl (Nat.le_of_ble_eq_true rfl) d_Q_same_41 ?_
      refine z_aload_n (pc := 44) C d_Q_same_44 rfl 0 rfl ?_
      refine gC_Q_83 (pc := 45) C  d_Q_same_45 ?_
      refine z_aload_n (pc := 48) C d_Q_same_48 rfl 0 rfl ?_
      refine gC_Q_47 (pc := 49) C  d_Q_same_49 ?_
      refine z_iconst (pc := 52) C d_Q_same_52 ki_1 ?_
      obtain ⟨r12, σ11, e13, hm⟩ := bi_s hm
      refine z_callIN (pc := 53) C (k_Pl_replaceAll hAD e13) km_Pl_replaceAll mC_326 rfl rfl oC_9 rfl (kR_of (Nat.le_of_ble_eq_true rfl) (Nat.le_of_ble_eq_true rfl)) rfl (Nat.le_of_ble_eq_true rfl) d_Q_same_53 ?_
      refine z_if_ne (pc := 56) (tgt := 62) C d_Q_same_56 (by decide) (fun c14 => ?_) (fun c14 => ?_)
      · rw [if_neg c14] at hm
        refine z_aload_n (pc := 62) C d_Q_same_62 rfl 0 rfl ?_
        refine gC_Q_83 (pc := 63) C  d_Q_same_63 ?_
        obtain ⟨r16, σ15, e17, hm⟩ := bi_s hm
        refine z_callIN (pc := 66) C (k_Pl_isAsKept hAD e17) km_Pl_isAsKept mC_331 rfl rfl oC_9 rfl (kR_of (Nat.le_of_ble_eq_true rfl) (Nat.le_of_ble_eq_true rfl)) rfl (Nat.le_of_ble_eq_true rfl) d_Q_same_66 ?_
        refine z_if_eq (pc := 69) (tgt := 76) C d_Q_same_69 (by decide) (fun c18 => ?_) (fun c18 => ?_)
        · rw [if_pos c18] at hm
          refine z_iconst (pc := 76) C d_Q_same_76 ki_0 ?_
          refine z_lv (lv' := []) [] rfl ?_
          exact w_Q_same_77 hAD C hr σ15 (0 : Int32) hm
        · rw [if_neg c18] at hm
          refine z_iconst (pc := 72) C d_Q_same_72 ki_1 ?_
          refine z_goto (pc := 73) (tgt := 77) C d_Q_same_73 (by decide) ?_
          refine z_lv (lv' := []) [] rfl ?_
          exact w_Q_same_77 hAD C hr σ15 (1 : Int32) hm
      · rw [if_pos c14] at hm
        refine z_bipush (pc := 59) C d_Q_same_59 kb_m4 ?_
        exact z_iretE (pc := 61) C hr hm d_Q_same_61
    · rw [if_pos c8] at hm
      refine z_bipush (pc := 34) C d_Q_same_34 kb_m4 ?_
      exact z_iretE (pc := 36) C hr hm d_Q_same_36
  · rw [if_pos c4] at hm
    refine z_bipush (pc := 8) C d_Q_same_8 kb_m10 ?_
    refine z_aload_n (pc := 10) C d_Q_same_10 rfl 0 rfl ?_
    refine gC_Q_19 (pc := 11) C  d_Q_same_11 ?_
    refine gC_Q_133 (pc := 14) (v := (gi σ1 200)) C rfl d_Q_same_14 ?_
    refine z_isub (pc := 17) C d_Q_same_17 ?_
    exact z_iretE (pc := 18) C hr hm d_Q_same_18
