/-! Walks of KindRoundsModel, 4 of 4. Written by program (wip/gen). -/
set_option maxHeartbeats 4000000 in
set_option maxRecDepth 100000 in
theorem w_Md_read_128 {D : va_G} {ad : Nat → Nat} {cA : Nat → ClassId} {p : Program} {l : Launch} {e : Env} {s : State} {m : MethodId} {args : Array Value} {below : List Frame} {meth : Method} {c : Code} {F : Nat} (hAD : ∀ σ, va_D (owM ad) (wdM ad cA σ)) (C : CM D ad cA xTr p s m args meth c bc_Md_read "KindRoundsModel" 1) (hr : meth.sig.returnType = some .int) {r : Int32} {σ' : zS} (σ : zS) (s0 : Int32) (hm : Md_read_128 F σ s0 = some (r, σ')) : ZM D ad cA p l e (rmK 12) s m args below meth c 1 (qiM D ad cA below args s r σ') 128 [] [.int s0] σ := by
  unfold Md_read_128 at hm
  exact z_iretE (pc := 128) C hr hm d_Md_read_128
set_option maxHeartbeats 4000000 in
set_option maxRecDepth 100000 in
theorem w_Md_read_76 {D : va_G} {ad : Nat → Nat} {cA : Nat → ClassId} {p : Program} {l : Launch} {e : Env} {s : State} {m : MethodId} {args : Array Value} {below : List Frame} {meth : Method} {c : Code} {F : Nat} (hAD : ∀ σ, va_D (owM ad) (wdM ad cA σ)) (C : CM D ad cA xTr p s m args meth c bc_Md_read "KindRoundsModel" 1) (hr : meth.sig.returnType = some .int) {r : Int32} {σ' : zS} (σ : zS) (hm : Md_read_76 F σ = some (r, σ')) : ZM D ad cA p l e (rmK 12) s m args below meth c 1 (qiM D ad cA below args s r σ') 76 [(0, .ref (ad 0))] [] σ := by
  unfold Md_read_76 at hm
  refine z_aload_n (pc := 76) C d_Md_read_76 rfl 0 rfl ?_
  refine z_aload_n (pc := 77) C d_Md_read_77 rfl 0 rfl ?_
  refine gM_Md_209 (pc := 78) (v := (gi σ 48)) C rfl d_Md_read_78 ?_
  refine pM_Md_212 (pc := 81) C  d_Md_read_81 ?_
  refine z_aload_n (pc := 84) C d_Md_read_84 rfl 0 rfl ?_
  refine z_aload_n (pc := 85) C d_Md_read_85 rfl 0 rfl ?_
  refine gM_Md_288 (pc := 86) (v := (gi σ 16)) C rfl d_Md_read_86 ?_
  refine pM_Md_530 (pc := 89) C  d_Md_read_89 ?_
  refine z_aload_n (pc := 92) C d_Md_read_92 rfl 0 rfl ?_
  refine gM_Md_100 (pc := 93) C  d_Md_read_93 ?_
  refine z_aload_n (pc := 96) C d_Md_read_96 rfl 0 rfl ?_
  refine gM_Md_187 (pc := 97) C  d_Md_read_97 ?_
  refine z_aload_n (pc := 100) C d_Md_read_100 rfl 0 rfl ?_
  refine gM_Md_209 (pc := 101) (v := (gi σ 48)) C rfl d_Md_read_101 ?_
  obtain ⟨σ1, e2, hm⟩ := bv_s hm
  refine z_callSV (pc := 104) C (k_Md_copy hAD e2) kz_Md_copy mM_134 rfl (kR_of (Nat.le_of_ble_eq_true rfl) (Nat.le_of_ble_eq_true rfl)) rfl (Nat.le_of_ble_eq_true rfl) d_Md_read_104 ?_
  refine z_aload_n (pc := 107) C d_Md_read_107 rfl 0 rfl ?_
  refine gM_Md_221 (pc := 108) (v := (gi σ1 8)) C rfl d_Md_read_108 ?_
  refine z_if_le (pc := 111) (tgt := 124) C d_Md_read_111 (by decide) (fun c3 => ?_) (fun c3 => ?_)
  · rw [if_pos c3] at hm
    refine z_aload_n (pc := 124) C d_Md_read_124 rfl 0 rfl ?_
    refine gM_Md_364 (pc := 125) (v := (gi σ1 52)) C rfl d_Md_read_125 ?_
    refine z_lv (lv' := []) [] rfl ?_
    exact w_Md_read_128 hAD C hr σ1 (gi σ1 52) hm
  · rw [if_neg c3] at hm
    refine z_bipush (pc := 114) C d_Md_read_114 kb_m10 ?_
    refine z_aload_n (pc := 116) C d_Md_read_116 rfl 0 rfl ?_
    refine gM_Md_221 (pc := 117) (v := (gi σ1 8)) C rfl d_Md_read_117 ?_
    refine z_isub (pc := 120) C d_Md_read_120 ?_
    refine z_goto (pc := 121) (tgt := 128) C d_Md_read_121 (by decide) ?_
    refine z_lv (lv' := []) [] rfl ?_
    exact w_Md_read_128 hAD C hr σ1 ((-10 : Int32) - (gi σ1 8)) hm
set_option maxHeartbeats 4000000 in
set_option maxRecDepth 100000 in
theorem w_Md_read_54 {D : va_G} {ad : Nat → Nat} {cA : Nat → ClassId} {p : Program} {l : Launch} {e : Env} {s : State} {m : MethodId} {args : Array Value} {below : List Frame} {meth : Method} {c : Code} {F : Nat} (hAD : ∀ σ, va_D (owM ad) (wdM ad cA σ)) (C : CM D ad cA xTr p s m args meth c bc_Md_read "KindRoundsModel" 1) (hr : meth.sig.returnType = some .int) {r : Int32} {σ' : zS} (σ : zS) (hm : Md_read_54 F σ = some (r, σ')) : ZM D ad cA p l e (rmK 12) s m args below meth c 1 (qiM D ad cA below args s r σ') 54 [(0, .ref (ad 0))] [] σ := by
  unfold Md_read_54 at hm
  refine z_aload_n (pc := 54) C d_Md_read_54 rfl 0 rfl ?_
  refine z_iconst (pc := 55) C d_Md_read_55 ki_0 ?_
  refine pM_Md_218 (pc := 56) C  d_Md_read_56 ?_
  refine z_aload_n (pc := 59) C d_Md_read_59 rfl 0 rfl ?_
  refine gM_Md_221 (pc := 60) (v := (gi σ 8)) C rfl d_Md_read_60 ?_
  refine z_if_le (pc := 63) (tgt := 76) C d_Md_read_63 (by decide) (fun c1 => ?_) (fun c1 => ?_)
  · rw [if_pos c1] at hm
    exact w_Md_read_76 hAD C hr (si σ 2 (0 : Int32)) hm
  · rw [if_neg c1] at hm
    refine z_aload_n (pc := 66) C d_Md_read_66 rfl 0 rfl ?_
    refine z_iconst (pc := 67) C d_Md_read_67 ki_0 ?_
    refine pM_Md_364 (pc := 68) C  d_Md_read_68 ?_
    refine z_aload_n (pc := 71) C d_Md_read_71 rfl 0 rfl ?_
    refine z_iconst (pc := 72) C d_Md_read_72 ki_0 ?_
    refine pM_Md_432 (pc := 73) C  d_Md_read_73 ?_
    exact w_Md_read_76 hAD C hr (si (si (si σ 2 (0 : Int32)) 52 (0 : Int32)) 71 (0 : Int32)) hm
set_option maxHeartbeats 4000000 in
set_option maxRecDepth 100000 in
theorem w_Md_read_43 {D : va_G} {ad : Nat → Nat} {cA : Nat → ClassId} {p : Program} {l : Launch} {e : Env} {s : State} {m : MethodId} {args : Array Value} {below : List Frame} {meth : Method} {c : Code} {F : Nat} (hAD : ∀ σ, va_D (owM ad) (wdM ad cA σ)) (C : CM D ad cA xTr p s m args meth c bc_Md_read "KindRoundsModel" 1) (hr : meth.sig.returnType = some .int) {r : Int32} {σ' : zS} (σ : zS) (hm : Md_read_43 F σ = some (r, σ')) : ZM D ad cA p l e (rmK 12) s m args below meth c 1 (qiM D ad cA below args s r σ') 43 [(0, .ref (ad 0))] [] σ := by
  unfold Md_read_43 at hm
  refine z_aload_n (pc := 43) C d_Md_read_43 rfl 0 rfl ?_
  refine gM_Md_221 (pc := 44) (v := (gi σ 8)) C rfl d_Md_read_44 ?_
  refine z_if_ne (pc := 47) (tgt := 54) C d_Md_read_47 (by decide) (fun c1 => ?_) (fun c1 => ?_)
  · rw [if_neg c1] at hm
    exact w_Md_read_54 hAD C hr σ hm
  · rw [if_pos c1] at hm
    refine z_aload_n (pc := 50) C d_Md_read_50 rfl 0 rfl ?_
    obtain ⟨σ2, e3, hm⟩ := bv_s hm
    refine z_callV (pc := 51) C (k_Md_solveAll hAD e3) kz_Md_solveAll mM_158 rfl rfl oM_0 rfl (kR_of (Nat.le_of_ble_eq_true rfl) (Nat.le_of_ble_eq_true rfl)) rfl (Nat.le_of_ble_eq_true rfl) d_Md_read_51 ?_
    exact w_Md_read_54 hAD C hr σ2 hm
set_option maxHeartbeats 4000000 in
set_option maxRecDepth 100000 in
theorem w_Md_read_32 {D : va_G} {ad : Nat → Nat} {cA : Nat → ClassId} {p : Program} {l : Launch} {e : Env} {s : State} {m : MethodId} {args : Array Value} {below : List Frame} {meth : Method} {c : Code} {F : Nat} (hAD : ∀ σ, va_D (owM ad) (wdM ad cA σ)) (C : CM D ad cA xTr p s m args meth c bc_Md_read "KindRoundsModel" 1) (hr : meth.sig.returnType = some .int) {r : Int32} {σ' : zS} (σ : zS) (hm : Md_read_32 F σ = some (r, σ')) : ZM D ad cA p l e (rmK 12) s m args below meth c 1 (qiM D ad cA below args s r σ') 32 [(0, .ref (ad 0))] [] σ := by
  unfold Md_read_32 at hm
  refine z_aload_n (pc := 32) C d_Md_read_32 rfl 0 rfl ?_
  refine gM_Md_221 (pc := 33) (v := (gi σ 8)) C rfl d_Md_read_33 ?_
  refine z_if_ne (pc := 36) (tgt := 43) C d_Md_read_36 (by decide) (fun c1 => ?_) (fun c1 => ?_)
  · rw [if_neg c1] at hm
    exact w_Md_read_43 hAD C hr σ hm
  · rw [if_pos c1] at hm
    refine z_aload_n (pc := 39) C d_Md_read_39 rfl 0 rfl ?_
    obtain ⟨σ2, e3, hm⟩ := bv_s hm
    refine z_callV (pc := 40) C (k_Md_lookTakes hAD e3) kz_Md_lookTakes mM_159 rfl rfl oM_0 rfl (kR_of (Nat.le_of_ble_eq_true rfl) (Nat.le_of_ble_eq_true rfl)) rfl (Nat.le_of_ble_eq_true rfl) d_Md_read_40 ?_
    exact w_Md_read_43 hAD C hr σ2 hm
set_option maxHeartbeats 4000000 in
set_option maxRecDepth 100000 in
theorem w_Md_read_21 {D : va_G} {ad : Nat → Nat} {cA : Nat → ClassId} {p : Program} {l : Launch} {e : Env} {s : State} {m : MethodId} {args : Array Value} {below : List Frame} {meth : Method} {c : Code} {F : Nat} (hAD : ∀ σ, va_D (owM ad) (wdM ad cA σ)) (C : CM D ad cA xTr p s m args meth c bc_Md_read "KindRoundsModel" 1) (hr : meth.sig.returnType = some .int) {r : Int32} {σ' : zS} (σ : zS) (hm : Md_read_21 F σ = some (r, σ')) : ZM D ad cA p l e (rmK 12) s m args below meth c 1 (qiM D ad cA below args s r σ') 21 [(0, .ref (ad 0))] [] σ := by
  unfold Md_read_21 at hm
  refine z_aload_n (pc := 21) C d_Md_read_21 rfl 0 rfl ?_
  refine gM_Md_221 (pc := 22) (v := (gi σ 8)) C rfl d_Md_read_22 ?_
  refine z_if_ne (pc := 25) (tgt := 32) C d_Md_read_25 (by decide) (fun c1 => ?_) (fun c1 => ?_)
  · rw [if_neg c1] at hm
    exact w_Md_read_32 hAD C hr σ hm
  · rw [if_pos c1] at hm
    refine z_aload_n (pc := 28) C d_Md_read_28 rfl 0 rfl ?_
    obtain ⟨σ2, e3, hm⟩ := bv_s hm
    refine z_callV (pc := 29) C (k_Md_lookRings hAD e3) kz_Md_lookRings mM_160 rfl rfl oM_0 rfl (kR_of (Nat.le_of_ble_eq_true rfl) (Nat.le_of_ble_eq_true rfl)) rfl (Nat.le_of_ble_eq_true rfl) d_Md_read_29 ?_
    exact w_Md_read_32 hAD C hr σ2 hm
set_option maxHeartbeats 4000000 in
set_option maxRecDepth 100000 in
theorem k_Md_read {l : Launch} {D : va_G} {ad : Nat → Nat} {cA : Nat → ClassId} {F : Nat} (hAD : ∀ σ, va_D (owM ad) (wdM ad cA σ)) {σ : zS} {r : Int32} {σ' : zS} (hm : Md_read F σ = some (r, σ')) : kIM l D ad cA xTr y_Md_read bc_Md_read 1 .int 12 [.ref (ad 0)] σ r σ' := by
  refine kI_of (by decide) hAD xTr_P (Nat.le_of_ble_eq_true rfl) ?_
  intro p e s m below meth c C hr
  unfold Md_read at hm
  refine z_lv (lv' := [(0, .ref (ad 0))]) [0] rfl ?_
  refine z_aload_n (pc := 0) C d_Md_read_0 rfl 0 rfl ?_
  refine z_iconst (pc := 1) C d_Md_read_1 ki_0 ?_
  refine pM_Md_215 (pc := 2) C  d_Md_read_2 ?_
  refine z_aload_n (pc := 5) C d_Md_read_5 rfl 0 rfl ?_
  obtain ⟨σ1, e2, hm⟩ := bv_s hm
  refine z_callV (pc := 6) C (k_Md_readText hAD e2) kz_Md_readText mM_162 rfl rfl oM_0 rfl (kR_of (Nat.le_of_ble_eq_true rfl) (Nat.le_of_ble_eq_true rfl)) rfl (Nat.le_of_ble_eq_true rfl) d_Md_read_6 ?_
  refine z_aload_n (pc := 9) C d_Md_read_9 rfl 0 rfl ?_
  refine gM_Md_221 (pc := 10) (v := (gi σ1 8)) C rfl d_Md_read_10 ?_
  refine z_if_ne (pc := 13) (tgt := 21) C d_Md_read_13 (by decide) (fun c3 => ?_) (fun c3 => ?_)
  · rw [if_neg c3] at hm
    exact w_Md_read_21 hAD C hr σ1 hm
  · rw [if_pos c3] at hm
    refine z_aload_n (pc := 16) C d_Md_read_16 rfl 0 rfl ?_
    refine z_iconst (pc := 17) C d_Md_read_17 ki_1 ?_
    obtain ⟨σ4, e5, hm⟩ := bv_s hm
    refine z_callV (pc := 18) C (k_Md_lookNames hAD e5) kz_Md_lookNames mM_163 rfl rfl oM_0 rfl (kR_of (Nat.le_of_ble_eq_true rfl) (Nat.le_of_ble_eq_true rfl)) rfl (Nat.le_of_ble_eq_true rfl) d_Md_read_18 ?_
    exact w_Md_read_21 hAD C hr σ4 hm
set_option maxHeartbeats 4000000 in
set_option maxRecDepth 100000 in
theorem k_Md_place {l : Launch} {D : va_G} {ad : Nat → Nat} {cA : Nat → ClassId} {F : Nat} (hAD : ∀ σ, va_D (owM ad) (wdM ad cA σ)) {σ : zS} {r : Int32} {σ' : zS} (hm : Md_place F σ = some (r, σ')) : kIM l D ad cA xTr y_Md_place bc_Md_place 1 .int 0 [.ref (ad 0)] σ r σ' := by
  refine kI_of (by decide) hAD xTr_P (Nat.le_of_ble_eq_true rfl) ?_
  intro p e s m below meth c C hr
  unfold Md_place at hm
  refine z_lv (lv' := [(0, .ref (ad 0))]) [0] rfl ?_
  refine z_aload_n (pc := 0) C d_Md_place_0 rfl 0 rfl ?_
  refine z_iconst (pc := 1) C d_Md_place_1 ki_0 ?_
  refine pM_Md_215 (pc := 2) C  d_Md_place_2 ?_
  refine z_aload_n (pc := 5) C d_Md_place_5 rfl 0 rfl ?_
  refine gM_Md_13 (pc := 6) (v := (gi σ 9)) C rfl d_Md_place_6 ?_
  exact z_iretE (pc := 9) C hr hm d_Md_place_9
set_option maxHeartbeats 4000000 in
set_option maxRecDepth 100000 in
theorem w_Md_side_73 {D : va_G} {ad : Nat → Nat} {cA : Nat → ClassId} {p : Program} {l : Launch} {e : Env} {s : State} {m : MethodId} {args : Array Value} {below : List Frame} {meth : Method} {c : Code} {F : Nat} (hAD : ∀ σ, va_D (owM ad) (wdM ad cA σ)) (C : CM D ad cA xTr p s m args meth c bc_Md_side "KindRoundsModel" 3) (hr : meth.sig.returnType = some .int) {r : Int32} {σ' : zS} (σ : zS) (s1 : Int32) (hm : Md_side_73 F σ s1 = some (r, σ')) : ZM D ad cA p l e (rmK 4) s m args below meth c 3 (qiM D ad cA below args s r σ') 73 [(0, .ref (ad 0))] [.int s1, .ref (ad 0)] σ := by
  unfold Md_side_73 at hm
  obtain ⟨r2, σ1, e3, hm⟩ := bi_s hm
  refine z_callI (pc := 73) C (k_Md_showKind hAD e3) kz_Md_showKind mM_164 rfl rfl oM_0 rfl (kR_of (Nat.le_of_ble_eq_true rfl) (Nat.le_of_ble_eq_true rfl)) rfl (Nat.le_of_ble_eq_true rfl) d_Md_side_73 ?_
  refine z_istore_n (pc := 76) (lv' := [(0, .ref (ad 0)), (2, .int r2)]) C d_Md_side_76 rfl (Nat.le_of_ble_eq_true rfl) [1, 0] rfl ?_
  refine z_aload_n (pc := 77) C d_Md_side_77 rfl 0 rfl ?_
  refine z_iconst (pc := 78) C d_Md_side_78 ki_0 ?_
  refine pM_Md_506 (pc := 79) C (by decide)  d_Md_side_79 ?_
  refine z_iload_n (pc := 82) C d_Md_side_82 rfl 1 rfl ?_
  exact z_iretE (pc := 83) C hr hm d_Md_side_83
set_option maxHeartbeats 4000000 in
set_option maxRecDepth 100000 in
theorem w_Md_side_17 {D : va_G} {ad : Nat → Nat} {cA : Nat → ClassId} {p : Program} {l : Launch} {e : Env} {s : State} {m : MethodId} {args : Array Value} {below : List Frame} {meth : Method} {c : Code} {F : Nat} (hAD : ∀ σ, va_D (owM ad) (wdM ad cA σ)) (C : CM D ad cA xTr p s m args meth c bc_Md_side "KindRoundsModel" 3) (hr : meth.sig.returnType = some .int) {r : Int32} {σ' : zS} (σ : zS) (x1 : Int32) (hm : Md_side_17 F σ x1 = some (r, σ')) : ZM D ad cA p l e (rmK 4) s m args below meth c 3 (qiM D ad cA below args s r σ') 17 [(0, .ref (ad 0)), (1, .int x1)] [] σ := by
  unfold Md_side_17 at hm
  refine z_aload_n (pc := 17) C d_Md_side_17 rfl 0 rfl ?_
  refine gM_Md_354 (pc := 18) (v := (gi σ 10)) C rfl d_Md_side_18 ?_
  refine z_if_ne (pc := 21) (tgt := 27) C d_Md_side_21 (by decide) (fun c1 => ?_) (fun c1 => ?_)
  · rw [if_neg c1] at hm
    refine z_aload_n (pc := 27) C d_Md_side_27 rfl 0 rfl ?_
    obtain ⟨σ2, e3, hm⟩ := bv_s hm
    refine z_callV (pc := 28) C (k_Md_unmark hAD e3) kz_Md_unmark mM_143 rfl rfl oM_0 rfl (kR_of (Nat.le_of_ble_eq_true rfl) (Nat.le_of_ble_eq_true rfl)) rfl (Nat.le_of_ble_eq_true rfl) d_Md_side_28 ?_
    refine z_aload_n (pc := 31) C d_Md_side_31 rfl 0 rfl ?_
    refine z_iconst (pc := 32) C d_Md_side_32 ki_0 ?_
    refine pM_Md_497 (pc := 33) C  d_Md_side_33 ?_
    refine z_aload_n (pc := 36) C d_Md_side_36 rfl 0 rfl ?_
    refine z_aload_n (pc := 37) C d_Md_side_37 rfl 0 rfl ?_
    refine gM_Md_476 (pc := 38) (v := (gi σ2 79)) C rfl d_Md_side_38 ?_
    obtain ⟨σ4, e5, hm⟩ := bv_s hm
    refine z_callV (pc := 41) C (k_Md_giveLetters hAD e5) kz_Md_giveLetters mM_165 rfl rfl oM_0 rfl (kR_of (Nat.le_of_ble_eq_true rfl) (Nat.le_of_ble_eq_true rfl)) rfl (Nat.le_of_ble_eq_true rfl) d_Md_side_41 ?_
    refine z_aload_n (pc := 44) C d_Md_side_44 rfl 0 rfl ?_
    refine z_aload_n (pc := 45) C d_Md_side_45 rfl 0 rfl ?_
    refine gM_Md_479 (pc := 46) (v := (gi σ4 80)) C rfl d_Md_side_46 ?_
    obtain ⟨σ6, e7, hm⟩ := bv_s hm
    refine z_callV (pc := 49) C (k_Md_giveLetters hAD e7) kz_Md_giveLetters mM_165 rfl rfl oM_0 rfl (kR_of (Nat.le_of_ble_eq_true rfl) (Nat.le_of_ble_eq_true rfl)) rfl (Nat.le_of_ble_eq_true rfl) d_Md_side_49 ?_
    refine z_aload_n (pc := 52) C d_Md_side_52 rfl 0 rfl ?_
    refine z_iconst (pc := 53) C d_Md_side_53 ki_1 ?_
    refine pM_Md_506 (pc := 54) C (by decide)  d_Md_side_54 ?_
    refine z_aload_n (pc := 57) C d_Md_side_57 rfl 0 rfl ?_
    refine z_iload_n (pc := 58) C d_Md_side_58 rfl 1 rfl ?_
    refine z_if_ne (pc := 59) (tgt := 69) C d_Md_side_59 (by decide) (fun c8 => ?_) (fun c8 => ?_)
    · rw [if_neg c8] at hm
      refine z_aload_n (pc := 69) C d_Md_side_69 rfl 0 rfl ?_
      refine gM_Md_479 (pc := 70) (v := (gi σ6 80)) C rfl d_Md_side_70 ?_
      refine z_lv (lv' := [(0, .ref (ad 0))]) [0] rfl ?_
      exact w_Md_side_73 hAD C hr (si σ6 85 (1 : Int32)) (gi σ6 80) hm
    · rw [if_pos c8] at hm
      refine z_aload_n (pc := 62) C d_Md_side_62 rfl 0 rfl ?_
      refine gM_Md_476 (pc := 63) (v := (gi σ6 79)) C rfl d_Md_side_63 ?_
      refine z_goto (pc := 66) (tgt := 73) C d_Md_side_66 (by decide) ?_
      refine z_lv (lv' := [(0, .ref (ad 0))]) [0] rfl ?_
      exact w_Md_side_73 hAD C hr (si σ6 85 (1 : Int32)) (gi σ6 79) hm
  · rw [if_pos c1] at hm
    refine z_bipush (pc := 24) C d_Md_side_24 kb_m3 ?_
    exact z_iretE (pc := 26) C hr hm d_Md_side_26
set_option maxHeartbeats 4000000 in
set_option maxRecDepth 100000 in
theorem k_Md_side {l : Launch} {D : va_G} {ad : Nat → Nat} {cA : Nat → ClassId} {F : Nat} (hAD : ∀ σ, va_D (owM ad) (wdM ad cA σ)) {σ : zS} {x1 : Int32} {r : Int32} {σ' : zS} (hm : Md_side F σ x1 = some (r, σ')) : kIM l D ad cA xTr y_Md_side bc_Md_side 3 .int 4 [.ref (ad 0), .int x1] σ r σ' := by
  refine kI_of (by decide) hAD xTr_P (Nat.le_of_ble_eq_true rfl) ?_
  intro p e s m below meth c C hr
  unfold Md_side at hm
  refine z_lv (lv' := [(0, .ref (ad 0)), (1, .int x1)]) [0, 1] rfl ?_
  refine z_aload_n (pc := 0) C d_Md_side_0 rfl 0 rfl ?_
  refine z_iconst (pc := 1) C d_Md_side_1 ki_0 ?_
  refine pM_Md_215 (pc := 2) C  d_Md_side_2 ?_
  refine z_iload_n (pc := 5) C d_Md_side_5 rfl 1 rfl ?_
  refine z_if_eq (pc := 6) (tgt := 17) C d_Md_side_6 (by decide) (fun c1 => ?_) (fun c1 => ?_)
  · rw [if_pos c1] at hm
    exact w_Md_side_17 hAD C hr (si σ 0 (0 : Int32)) x1 hm
  · rw [if_neg c1] at hm
    refine z_iload_n (pc := 9) C d_Md_side_9 rfl 1 rfl ?_
    refine z_iconst (pc := 10) C d_Md_side_10 ki_1 ?_
    refine z_icmp_eq (pc := 11) (tgt := 17) C d_Md_side_11 (by decide) (fun c2 => ?_) (fun c2 => ?_)
    · rw [if_pos c2] at hm
      exact w_Md_side_17 hAD C hr (si σ 0 (0 : Int32)) x1 hm
    · rw [if_neg c2] at hm
      refine z_bipush (pc := 14) C d_Md_side_14 kb_m2 ?_
      exact z_iretE (pc := 16) C hr hm d_Md_side_16
set_option maxHeartbeats 4000000 in
set_option maxRecDepth 100000 in
theorem w_Md_out_27 {D : va_G} {ad : Nat → Nat} {cA : Nat → ClassId} {p : Program} {l : Launch} {e : Env} {s : State} {m : MethodId} {args : Array Value} {below : List Frame} {meth : Method} {c : Code} {F : Nat} (hAD : ∀ σ, va_D (owM ad) (wdM ad cA σ)) (C : CM D ad cA xTr p s m args meth c bc_Md_out "KindRoundsModel" 2) (hr : meth.sig.returnType = some .int) {r : Int32} {σ' : zS} (σ : zS) (s0 : Int32) (hm : Md_out_27 F σ s0 = some (r, σ')) : ZM D ad cA p l e (rmK 0) s m args below meth c 2 (qiM D ad cA below args s r σ') 27 [] [.int s0] σ := by
  unfold Md_out_27 at hm
  exact z_iretE (pc := 27) C hr hm d_Md_out_27
set_option maxHeartbeats 4000000 in
set_option maxRecDepth 100000 in
theorem w_Md_out_26 {D : va_G} {ad : Nat → Nat} {cA : Nat → ClassId} {p : Program} {l : Launch} {e : Env} {s : State} {m : MethodId} {args : Array Value} {below : List Frame} {meth : Method} {c : Code} {F : Nat} (hAD : ∀ σ, va_D (owM ad) (wdM ad cA σ)) (C : CM D ad cA xTr p s m args meth c bc_Md_out "KindRoundsModel" 2) (hr : meth.sig.returnType = some .int) {r : Int32} {σ' : zS} (σ : zS) (hm : Md_out_26 F σ = some (r, σ')) : ZM D ad cA p l e (rmK 0) s m args below meth c 2 (qiM D ad cA below args s r σ') 26 [] [] σ := by
  unfold Md_out_26 at hm
  refine z_iconst (pc := 26) C d_Md_out_26 ki_m1 ?_
  exact w_Md_out_27 hAD C hr σ (-1 : Int32) hm
set_option maxHeartbeats 4000000 in
set_option maxRecDepth 100000 in
theorem k_Md_out {l : Launch} {D : va_G} {ad : Nat → Nat} {cA : Nat → ClassId} {F : Nat} (hAD : ∀ σ, va_D (owM ad) (wdM ad cA σ)) {σ : zS} {x1 : Int32} {r : Int32} {σ' : zS} (hm : Md_out F σ x1 = some (r, σ')) : kIM l D ad cA xTr y_Md_out bc_Md_out 2 .int 0 [.ref (ad 0), .int x1] σ r σ' := by
  refine kI_of (by decide) hAD xTr_P (Nat.le_of_ble_eq_true rfl) ?_
  intro p e s m below meth c C hr
  unfold Md_out at hm
  refine z_lv (lv' := [(0, .ref (ad 0)), (1, .int x1)]) [0, 1] rfl ?_
  refine z_aload_n (pc := 0) C d_Md_out_0 rfl 0 rfl ?_
  refine z_iconst (pc := 1) C d_Md_out_1 ki_0 ?_
  refine pM_Md_215 (pc := 2) C  d_Md_out_2 ?_
  refine z_iload_n (pc := 5) C d_Md_out_5 rfl 1 rfl ?_
  refine z_if_lt (pc := 6) (tgt := 26) C d_Md_out_6 (by decide) (fun c1 => ?_) (fun c1 => ?_)
  · rw [if_pos c1] at hm
    refine z_lv (lv' := []) [] rfl ?_
    exact w_Md_out_26 hAD C hr (si σ 0 (0 : Int32)) hm
  · rw [if_neg c1] at hm
    refine z_iload_n (pc := 9) C d_Md_out_9 rfl 1 rfl ?_
    refine z_aload_n (pc := 10) C d_Md_out_10 rfl 0 rfl ?_
    refine gM_Md_494 (pc := 11) (v := (gi σ 84)) C rfl d_Md_out_11 ?_
    refine z_icmp_ge (pc := 14) (tgt := 26) C d_Md_out_14 (by decide) (fun c2 => ?_) (fun c2 => ?_)
    · rw [if_pos c2] at hm
      refine z_lv (lv' := []) [] rfl ?_
      exact w_Md_out_26 hAD C hr (si σ 0 (0 : Int32)) hm
    · rw [if_neg c2] at hm
      refine z_aload_n (pc := 17) C d_Md_out_17 rfl 0 rfl ?_
      refine gM_Md_181 (pc := 18) C  d_Md_out_18 ?_
      refine z_iload_n (pc := 21) C d_Md_out_21 rfl 1 rfl ?_
      obtain ⟨g3, hm⟩ := gd_s hm
      refine alM_56 (pc := 22) (v := (ga σ 56 x1.toNatClampNeg)) C  rfl g3 d_Md_out_22 ?_
      refine z_goto (pc := 23) (tgt := 27) C d_Md_out_23 (by decide) ?_
      refine z_lv (lv' := []) [] rfl ?_
      exact w_Md_out_27 hAD C hr (si σ 0 (0 : Int32)) (ga σ 56 x1.toNatClampNeg) hm
set_option maxHeartbeats 4000000 in
set_option maxRecDepth 100000 in
theorem w_Md_isDecl_17 {D : va_G} {ad : Nat → Nat} {cA : Nat → ClassId} {p : Program} {l : Launch} {e : Env} {s : State} {m : MethodId} {args : Array Value} {below : List Frame} {meth : Method} {c : Code} {F : Nat} (hAD : ∀ σ, va_D (owM ad) (wdM ad cA σ)) (C : CM D ad cA xTr p s m args meth c bc_Md_isDecl "KindRoundsModel" 2) (hr : meth.sig.returnType = some .boolean) {r : Int32} {σ' : zS} (σ : zS) (s0 : Int32) (hm : Md_isDecl_17 F σ s0 = some (r, σ')) : ZM D ad cA p l e (rmK 0) s m args below meth c 2 (qiM D ad cA below args s r σ') 17 [] [.int s0] σ := by
  unfold Md_isDecl_17 at hm
  obtain ⟨g1, hm⟩ := gd_s hm
  exact z_zretE (pc := 17) C hr g1 hm d_Md_isDecl_17
set_option maxHeartbeats 4000000 in
set_option maxRecDepth 100000 in
theorem w_Md_isDecl_16 {D : va_G} {ad : Nat → Nat} {cA : Nat → ClassId} {p : Program} {l : Launch} {e : Env} {s : State} {m : MethodId} {args : Array Value} {below : List Frame} {meth : Method} {c : Code} {F : Nat} (hAD : ∀ σ, va_D (owM ad) (wdM ad cA σ)) (C : CM D ad cA xTr p s m args meth c bc_Md_isDecl "KindRoundsModel" 2) (hr : meth.sig.returnType = some .boolean) {r : Int32} {σ' : zS} (σ : zS) (hm : Md_isDecl_16 F σ = some (r, σ')) : ZM D ad cA p l e (rmK 0) s m args below meth c 2 (qiM D ad cA below args s r σ') 16 [] [] σ := by
  unfold Md_isDecl_16 at hm
  refine z_iconst (pc := 16) C d_Md_isDecl_16 ki_0 ?_
  exact w_Md_isDecl_17 hAD C hr σ (0 : Int32) hm
set_option maxHeartbeats 4000000 in
set_option maxRecDepth 100000 in
theorem k_Md_isDecl {l : Launch} {D : va_G} {ad : Nat → Nat} {cA : Nat → ClassId} {F : Nat} (hAD : ∀ σ, va_D (owM ad) (wdM ad cA σ)) {σ : zS} {x1 : Int32} {r : Int32} {σ' : zS} (hm : Md_isDecl F σ x1 = some (r, σ')) : kIM l D ad cA xTr y_Md_isDecl bc_Md_isDecl 2 .boolean 0 [.ref (ad 0), .int x1] σ r σ' := by
  refine kI_of (by decide) hAD xTr_P (Nat.le_of_ble_eq_true rfl) ?_
  intro p e s m below meth c C hr
  unfold Md_isDecl at hm
  refine z_lv (lv' := [(0, .ref (ad 0)), (1, .int x1)]) [0, 1] rfl ?_
  refine z_iload_n (pc := 0) C d_Md_isDecl_0 rfl 1 rfl ?_
  refine z_if_lt (pc := 1) (tgt := 16) C d_Md_isDecl_1 (by decide) (fun c1 => ?_) (fun c1 => ?_)
  · rw [if_pos c1] at hm
    refine z_lv (lv' := []) [] rfl ?_
    exact w_Md_isDecl_16 hAD C hr σ hm
  · rw [if_neg c1] at hm
    refine z_iload_n (pc := 4) C d_Md_isDecl_4 rfl 1 rfl ?_
    refine z_aload_n (pc := 5) C d_Md_isDecl_5 rfl 0 rfl ?_
    refine gM_Md_364 (pc := 6) (v := (gi σ 52)) C rfl d_Md_isDecl_6 ?_
    refine z_icmp_ge (pc := 9) (tgt := 16) C d_Md_isDecl_9 (by decide) (fun c2 => ?_) (fun c2 => ?_)
    · rw [if_pos c2] at hm
      refine z_lv (lv' := []) [] rfl ?_
      exact w_Md_isDecl_16 hAD C hr σ hm
    · rw [if_neg c2] at hm
      refine z_iconst (pc := 12) C d_Md_isDecl_12 ki_1 ?_
      refine z_goto (pc := 13) (tgt := 17) C d_Md_isDecl_13 (by decide) ?_
      refine z_lv (lv' := []) [] rfl ?_
      exact w_Md_isDecl_17 hAD C hr σ (1 : Int32) hm
set_option maxHeartbeats 4000000 in
set_option maxRecDepth 100000 in
theorem k_Md_told {l : Launch} {D : va_G} {ad : Nat → Nat} {cA : Nat → ClassId} {F : Nat} (hAD : ∀ σ, va_D (owM ad) (wdM ad cA σ)) {σ : zS} {x1 : Int32} {x2 : Int32} {r : Int32} {σ' : zS} (hm : Md_told F σ x1 x2 = some (r, σ')) : kIM l D ad cA xTr y_Md_told bc_Md_told 3 .int 1 [.ref (ad 0), .int x1, .int x2] σ r σ' := by
  refine kI_of (by decide) hAD xTr_P (Nat.le_of_ble_eq_true rfl) ?_
  intro p e s m below meth c C hr
  unfold Md_told at hm
  refine z_lv (lv' := [(0, .ref (ad 0)), (1, .int x1), (2, .int x2)]) [0, 1, 2] rfl ?_
  refine z_aload_n (pc := 0) C d_Md_told_0 rfl 0 rfl ?_
  refine z_iconst (pc := 1) C d_Md_told_1 ki_0 ?_
  refine pM_Md_215 (pc := 2) C  d_Md_told_2 ?_
  refine z_aload_n (pc := 5) C d_Md_told_5 rfl 0 rfl ?_
  refine z_iload_n (pc := 6) C d_Md_told_6 rfl 1 rfl ?_
  obtain ⟨r2, σ1, e3, hm⟩ := bi_s hm
  refine z_callI (pc := 7) C (k_Md_isDecl hAD e3) kz_Md_isDecl mM_166 rfl rfl oM_0 rfl (kR_of (Nat.le_of_ble_eq_true rfl) (Nat.le_of_ble_eq_true rfl)) rfl (Nat.le_of_ble_eq_true rfl) d_Md_told_7 ?_
  refine z_if_ne (pc := 10) (tgt := 15) C d_Md_told_10 (by decide) (fun c4 => ?_) (fun c4 => ?_)
  · rw [if_neg c4] at hm
    refine z_iload_n (pc := 15) C d_Md_told_15 rfl 2 rfl ?_
    by_cases c6 : x2 = (0 : Int32)
    · rw [if_pos c6] at hm
      refine z_tableIn (pc := 16) (off := 40) (tgt := 56) C d_Md_told_16 (by rw [c6]; decide) (by rw [c6]; decide) (by rw [c6]; decide) (by decide) ?_
      refine z_aload_n (pc := 56) C d_Md_told_56 rfl 0 rfl ?_
      refine gM_Md_112 (pc := 57) C  d_Md_told_57 ?_
      refine z_iload_n (pc := 60) C d_Md_told_60 rfl 1 rfl ?_
      obtain ⟨g5, hm⟩ := gd_s hm
      refine alM_33 (pc := 61) (v := (ga σ1 33 x1.toNatClampNeg)) C  rfl g5 d_Md_told_61 ?_
      exact z_iretE (pc := 62) C hr hm d_Md_told_62
    · rw [if_neg c6] at hm
      by_cases c8 : x2 = (1 : Int32)
      · rw [if_pos c8] at hm
        refine z_tableIn (pc := 16) (off := 47) (tgt := 63) C d_Md_told_16 (by rw [c8]; decide) (by rw [c8]; decide) (by rw [c8]; decide) (by decide) ?_
        refine z_aload_n (pc := 63) C d_Md_told_63 rfl 0 rfl ?_
        refine gM_Md_121 (pc := 64) C  d_Md_told_64 ?_
        refine z_iload_n (pc := 67) C d_Md_told_67 rfl 1 rfl ?_
        obtain ⟨g7, hm⟩ := gd_s hm
        refine alM_36 (pc := 68) (v := (ga σ1 36 x1.toNatClampNeg)) C  rfl g7 d_Md_told_68 ?_
        exact z_iretE (pc := 69) C hr hm d_Md_told_69
      · rw [if_neg c8] at hm
        by_cases c10 : x2 = (2 : Int32)
        · rw [if_pos c10] at hm
          refine z_tableIn (pc := 16) (off := 54) (tgt := 70) C d_Md_told_16 (by rw [c10]; decide) (by rw [c10]; decide) (by rw [c10]; decide) (by decide) ?_
          refine z_aload_n (pc := 70) C d_Md_told_70 rfl 0 rfl ?_
          refine gM_Md_157 (pc := 71) C  d_Md_told_71 ?_
          refine z_iload_n (pc := 74) C d_Md_told_74 rfl 1 rfl ?_
          obtain ⟨g9, hm⟩ := gd_s hm
          refine alM_48 (pc := 75) (v := (ga σ1 48 x1.toNatClampNeg)) C  rfl g9 d_Md_told_75 ?_
          exact z_iretE (pc := 76) C hr hm d_Md_told_76
        · rw [if_neg c10] at hm
          by_cases c12 : x2 = (3 : Int32)
          · rw [if_pos c12] at hm
            refine z_tableIn (pc := 16) (off := 61) (tgt := 77) C d_Md_told_16 (by rw [c12]; decide) (by rw [c12]; decide) (by rw [c12]; decide) (by decide) ?_
            refine z_aload_n (pc := 77) C d_Md_told_77 rfl 0 rfl ?_
            refine gM_Md_118 (pc := 78) C  d_Md_told_78 ?_
            refine z_iload_n (pc := 81) C d_Md_told_81 rfl 1 rfl ?_
            obtain ⟨g11, hm⟩ := gd_s hm
            refine alM_35 (pc := 82) (v := (ga σ1 35 x1.toNatClampNeg)) C  rfl g11 d_Md_told_82 ?_
            exact z_iretE (pc := 83) C hr hm d_Md_told_83
          · rw [if_neg c12] at hm
            by_cases c14 : x2 = (4 : Int32)
            · rw [if_pos c14] at hm
              refine z_tableIn (pc := 16) (off := 68) (tgt := 84) C d_Md_told_16 (by rw [c14]; decide) (by rw [c14]; decide) (by rw [c14]; decide) (by decide) ?_
              refine z_aload_n (pc := 84) C d_Md_told_84 rfl 0 rfl ?_
              refine gM_Md_127 (pc := 85) C  d_Md_told_85 ?_
              refine z_iload_n (pc := 88) C d_Md_told_88 rfl 1 rfl ?_
              obtain ⟨g13, hm⟩ := gd_s hm
              refine alM_38 (pc := 89) (v := (ga σ1 38 x1.toNatClampNeg)) C  rfl g13 d_Md_told_89 ?_
              exact z_iretE (pc := 90) C hr hm d_Md_told_90
            · rw [if_neg c14] at hm
              by_cases c16 : x2 = (5 : Int32)
              · rw [if_pos c16] at hm
                refine z_tableIn (pc := 16) (off := 75) (tgt := 91) C d_Md_told_16 (by rw [c16]; decide) (by rw [c16]; decide) (by rw [c16]; decide) (by decide) ?_
                refine z_aload_n (pc := 91) C d_Md_told_91 rfl 0 rfl ?_
                refine gM_Md_169 (pc := 92) C  d_Md_told_92 ?_
                refine z_iload_n (pc := 95) C d_Md_told_95 rfl 1 rfl ?_
                obtain ⟨g15, hm⟩ := gd_s hm
                refine alM_52 (pc := 96) (v := (ga σ1 52 x1.toNatClampNeg)) C  rfl g15 d_Md_told_96 ?_
                exact z_iretE (pc := 97) C hr hm d_Md_told_97
              · rw [if_neg c16] at hm
                refine z_tableOut (pc := 16) (tgt := 98) C d_Md_told_16 (sw_out0_5 c6 c8 c10 c12 c14 c16) (by decide) ?_
                refine z_bipush (pc := 98) C d_Md_told_98 kb_m2 ?_
                exact z_iretE (pc := 100) C hr hm d_Md_told_100
  · rw [if_pos c4] at hm
    refine z_iconst (pc := 13) C d_Md_told_13 ki_m1 ?_
    exact z_iretE (pc := 14) C hr hm d_Md_told_14
set_option maxHeartbeats 4000000 in
set_option maxRecDepth 100000 in
theorem w_Md_kindOf_28 {D : va_G} {ad : Nat → Nat} {cA : Nat → ClassId} {p : Program} {l : Launch} {e : Env} {s : State} {m : MethodId} {args : Array Value} {below : List Frame} {meth : Method} {c : Code} {F : Nat} (hAD : ∀ σ, va_D (owM ad) (wdM ad cA σ)) (C : CM D ad cA xTr p s m args meth c bc_Md_kindOf "KindRoundsModel" 3) (hr : meth.sig.returnType = some .int) {r : Int32} {σ' : zS} (σ : zS) (hm : Md_kindOf_28 F σ = some (r, σ')) : ZM D ad cA p l e (rmK 4) s m args below meth c 3 (qiM D ad cA below args s r σ') 28 [] [] σ := by
  unfold Md_kindOf_28 at hm
  refine z_iconst (pc := 28) C d_Md_kindOf_28 ki_m1 ?_
  exact z_iretE (pc := 29) C hr hm d_Md_kindOf_29
set_option maxHeartbeats 4000000 in
set_option maxRecDepth 100000 in
theorem w_Md_kindOf_54 {D : va_G} {ad : Nat → Nat} {cA : Nat → ClassId} {p : Program} {l : Launch} {e : Env} {s : State} {m : MethodId} {args : Array Value} {below : List Frame} {meth : Method} {c : Code} {F : Nat} (hAD : ∀ σ, va_D (owM ad) (wdM ad cA σ)) (C : CM D ad cA xTr p s m args meth c bc_Md_kindOf "KindRoundsModel" 3) (hr : meth.sig.returnType = some .int) {r : Int32} {σ' : zS} (σ : zS) (s1 : Int32) (hm : Md_kindOf_54 F σ s1 = some (r, σ')) : ZM D ad cA p l e (rmK 4) s m args below meth c 3 (qiM D ad cA below args s r σ') 54 [] [.int s1, .ref (ad 0)] σ := by
  unfold Md_kindOf_54 at hm
  obtain ⟨r2, σ1, e3, hm⟩ := bi_s hm
  refine z_callI (pc := 54) C (k_Md_showKind hAD e3) kz_Md_showKind mM_164 rfl rfl oM_0 rfl (kR_of (Nat.le_of_ble_eq_true rfl) (Nat.le_of_ble_eq_true rfl)) rfl (Nat.le_of_ble_eq_true rfl) d_Md_kindOf_54 ?_
  exact z_iretE (pc := 57) C hr hm d_Md_kindOf_57
set_option maxHeartbeats 4000000 in
set_option maxRecDepth 100000 in
theorem k_Md_kindOf {l : Launch} {D : va_G} {ad : Nat → Nat} {cA : Nat → ClassId} {F : Nat} (hAD : ∀ σ, va_D (owM ad) (wdM ad cA σ)) {σ : zS} {x1 : Int32} {x2 : Int32} {r : Int32} {σ' : zS} (hm : Md_kindOf F σ x1 x2 = some (r, σ')) : kIM l D ad cA xTr y_Md_kindOf bc_Md_kindOf 3 .int 4 [.ref (ad 0), .int x1, .int x2] σ r σ' := by
  refine kI_of (by decide) hAD xTr_P (Nat.le_of_ble_eq_true rfl) ?_
  intro p e s m below meth c C hr
  unfold Md_kindOf at hm
  refine z_lv (lv' := [(0, .ref (ad 0)), (1, .int x1), (2, .int x2)]) [0, 1, 2] rfl ?_
  refine z_aload_n (pc := 0) C d_Md_kindOf_0 rfl 0 rfl ?_
  refine z_iconst (pc := 1) C d_Md_kindOf_1 ki_0 ?_
  refine pM_Md_215 (pc := 2) C  d_Md_kindOf_2 ?_
  refine z_aload_n (pc := 5) C d_Md_kindOf_5 rfl 0 rfl ?_
  refine z_iload_n (pc := 6) C d_Md_kindOf_6 rfl 1 rfl ?_
  obtain ⟨r2, σ1, e3, hm⟩ := bi_s hm
  refine z_callI (pc := 7) C (k_Md_isDecl hAD e3) kz_Md_isDecl mM_166 rfl rfl oM_0 rfl (kR_of (Nat.le_of_ble_eq_true rfl) (Nat.le_of_ble_eq_true rfl)) rfl (Nat.le_of_ble_eq_true rfl) d_Md_kindOf_7 ?_
  refine z_if_eq (pc := 10) (tgt := 28) C d_Md_kindOf_10 (by decide) (fun c4 => ?_) (fun c4 => ?_)
  · rw [if_pos c4] at hm
    refine z_lv (lv' := []) [] rfl ?_
    exact w_Md_kindOf_28 hAD C hr σ1 hm
  · rw [if_neg c4] at hm
    refine z_iload_n (pc := 13) C d_Md_kindOf_13 rfl 2 rfl ?_
    refine z_iconst (pc := 14) C d_Md_kindOf_14 ki_m1 ?_
    refine z_icmp_lt (pc := 15) (tgt := 28) C d_Md_kindOf_15 (by decide) (fun c5 => ?_) (fun c5 => ?_)
    · rw [if_pos c5] at hm
      refine z_lv (lv' := []) [] rfl ?_
      exact w_Md_kindOf_28 hAD C hr σ1 hm
    · rw [if_neg c5] at hm
      refine z_iload_n (pc := 18) C d_Md_kindOf_18 rfl 2 rfl ?_
      refine z_aload_n (pc := 19) C d_Md_kindOf_19 rfl 0 rfl ?_
      refine gM_Md_121 (pc := 20) C  d_Md_kindOf_20 ?_
      refine z_iload_n (pc := 23) C d_Md_kindOf_23 rfl 1 rfl ?_
      obtain ⟨g6, hm⟩ := gd_s hm
      refine alM_36 (pc := 24) (v := (ga σ1 36 x1.toNatClampNeg)) C  rfl g6 d_Md_kindOf_24 ?_
      refine z_icmp_lt (pc := 25) (tgt := 30) C d_Md_kindOf_25 (by decide) (fun c7 => ?_) (fun c7 => ?_)
      · rw [if_pos c7] at hm
        refine z_aload_n (pc := 30) C d_Md_kindOf_30 rfl 0 rfl ?_
        refine z_iload_n (pc := 31) C d_Md_kindOf_31 rfl 2 rfl ?_
        refine z_if_ge (pc := 32) (tgt := 44) C d_Md_kindOf_32 (by decide) (fun c8 => ?_) (fun c8 => ?_)
        · rw [if_pos c8] at hm
          refine z_aload_n (pc := 44) C d_Md_kindOf_44 rfl 0 rfl ?_
          refine gM_Md_163 (pc := 45) C  d_Md_kindOf_45 ?_
          refine z_iconst (pc := 48) C d_Md_kindOf_48 ki_3 ?_
          refine z_iload_n (pc := 49) C d_Md_kindOf_49 rfl 1 rfl ?_
          refine z_imul (pc := 50) C d_Md_kindOf_50 ?_
          refine z_iload_n (pc := 51) C d_Md_kindOf_51 rfl 2 rfl ?_
          refine z_iadd (pc := 52) C d_Md_kindOf_52 ?_
          obtain ⟨g9, hm⟩ := gd_s hm
          refine alM_50 (pc := 53) (v := (ga σ1 50 (((3 : Int32) * x1) + x2).toNatClampNeg)) C  rfl g9 d_Md_kindOf_53 ?_
          refine z_lv (lv' := []) [] rfl ?_
          exact w_Md_kindOf_54 hAD C hr σ1 (ga σ1 50 (((3 : Int32) * x1) + x2).toNatClampNeg) hm
        · rw [if_neg c8] at hm
          refine z_aload_n (pc := 35) C d_Md_kindOf_35 rfl 0 rfl ?_
          refine gM_Md_160 (pc := 36) C  d_Md_kindOf_36 ?_
          refine z_iload_n (pc := 39) C d_Md_kindOf_39 rfl 1 rfl ?_
          obtain ⟨g10, hm⟩ := gd_s hm
          refine alM_49 (pc := 40) (v := (ga σ1 49 x1.toNatClampNeg)) C  rfl g10 d_Md_kindOf_40 ?_
          refine z_goto (pc := 41) (tgt := 54) C d_Md_kindOf_41 (by decide) ?_
          refine z_lv (lv' := []) [] rfl ?_
          exact w_Md_kindOf_54 hAD C hr σ1 (ga σ1 49 x1.toNatClampNeg) hm
      · rw [if_neg c7] at hm
        refine z_lv (lv' := []) [] rfl ?_
        exact w_Md_kindOf_28 hAD C hr σ1 hm
set_option maxHeartbeats 4000000 in
set_option maxRecDepth 100000 in
theorem k_Md_groups {l : Launch} {D : va_G} {ad : Nat → Nat} {cA : Nat → ClassId} {F : Nat} (hAD : ∀ σ, va_D (owM ad) (wdM ad cA σ)) {σ : zS} {r : Int32} {σ' : zS} (hm : Md_groups F σ = some (r, σ')) : kIM l D ad cA xTr y_Md_groups bc_Md_groups 1 .int 0 [.ref (ad 0)] σ r σ' := by
  refine kI_of (by decide) hAD xTr_P (Nat.le_of_ble_eq_true rfl) ?_
  intro p e s m below meth c C hr
  unfold Md_groups at hm
  refine z_lv (lv' := [(0, .ref (ad 0))]) [0] rfl ?_
  refine z_aload_n (pc := 0) C d_Md_groups_0 rfl 0 rfl ?_
  refine z_iconst (pc := 1) C d_Md_groups_1 ki_0 ?_
  refine pM_Md_215 (pc := 2) C  d_Md_groups_2 ?_
  refine z_aload_n (pc := 5) C d_Md_groups_5 rfl 0 rfl ?_
  refine gM_Md_432 (pc := 6) (v := (gi σ 71)) C rfl d_Md_groups_6 ?_
  exact z_iretE (pc := 9) C hr hm d_Md_groups_9
set_option maxHeartbeats 4000000 in
set_option maxRecDepth 100000 in
theorem w_Md_member_63 {D : va_G} {ad : Nat → Nat} {cA : Nat → ClassId} {p : Program} {l : Launch} {e : Env} {s : State} {m : MethodId} {args : Array Value} {below : List Frame} {meth : Method} {c : Code} {F : Nat} (hAD : ∀ σ, va_D (owM ad) (wdM ad cA σ)) (C : CM D ad cA xTr p s m args meth c bc_Md_member "KindRoundsModel" 5) (hr : meth.sig.returnType = some .int) {r : Int32} {σ' : zS} (σ : zS) (hm : Md_member_63 F σ = some (r, σ')) : ZM D ad cA p l e (rmK 0) s m args below meth c 5 (qiM D ad cA below args s r σ') 63 [] [] σ := by
  unfold Md_member_63 at hm
  refine z_iconst (pc := 63) C d_Md_member_63 ki_m1 ?_
  exact z_iretE (pc := 64) C hr hm d_Md_member_64
set_option maxHeartbeats 4000000 in
set_option maxRecDepth 100000 in
theorem w_Md_member_57 {D : va_G} {ad : Nat → Nat} {cA : Nat → ClassId} {p : Program} {l : Launch} {e : Env} {s : State} {m : MethodId} {args : Array Value} {below : List Frame} {meth : Method} {c : Code} {F : Nat} (hAD : ∀ σ, va_D (owM ad) (wdM ad cA σ)) (C : CM D ad cA xTr p s m args meth c bc_Md_member "KindRoundsModel" 5) (hr : meth.sig.returnType = some .int) {r : Int32} {σ' : zS} (rc10 : zS → Int32 → Int32 → Int32 → Int32 → Option (Int32 × zS)) (h10 : ∀ σ x1 x2 x3 x4, rc10 σ x1 x2 x3 x4 = some (r, σ') → ZM D ad cA p l e (rmK 0) s m args below meth c 5 (qiM D ad cA below args s r σ') 10 [(0, .ref (ad 0)), (1, .int x1), (2, .int x2), (3, .int x3), (4, .int x4)] [] σ) (σ : zS) (x1 : Int32) (x2 : Int32) (x3 : Int32) (x4 : Int32) (hm : Md_member_57 F rc10 σ x1 x2 x3 x4 = some (r, σ')) : ZM D ad cA p l e (rmK 0) s m args below meth c 5 (qiM D ad cA below args s r σ') 57 [(0, .ref (ad 0)), (1, .int x1), (2, .int x2), (3, .int x3), (4, .int x4)] [] σ := by
  unfold Md_member_57 at hm
  refine z_iinc (pc := 57) (lv' := [(0, .ref (ad 0)), (1, .int x1), (2, .int x2), (3, .int x3), (4, .int (x4 + (1 : Int32)))]) C d_Md_member_57 4 rfl (ii ki_1) (Nat.le_of_ble_eq_true rfl) [1, 2, 3, 4, 0] rfl ?_
  refine z_goto (pc := 60) (tgt := 10) C d_Md_member_60 (by decide) ?_
  exact h10 σ x1 x2 x3 (x4 + (1 : Int32)) hm
set_option maxHeartbeats 4000000 in
set_option maxRecDepth 100000 in
theorem w_Md_member_10 {D : va_G} {ad : Nat → Nat} {cA : Nat → ClassId} {p : Program} {l : Launch} {e : Env} {s : State} {m : MethodId} {args : Array Value} {below : List Frame} {meth : Method} {c : Code} {F : Nat} (hAD : ∀ σ, va_D (owM ad) (wdM ad cA σ)) (C : CM D ad cA xTr p s m args meth c bc_Md_member "KindRoundsModel" 5) (hr : meth.sig.returnType = some .int) {r : Int32} {σ' : zS} : ∀ (n : Nat) (σ : zS) (x1 : Int32) (x2 : Int32) (x3 : Int32) (x4 : Int32), Md_member_10 F n σ x1 x2 x3 x4 = some (r, σ') → ZM D ad cA p l e (rmK 0) s m args below meth c 5 (qiM D ad cA below args s r σ') 10 [(0, .ref (ad 0)), (1, .int x1), (2, .int x2), (3, .int x3), (4, .int x4)] [] σ := by
  intro n
  induction n with
  | zero => intro σ x1 x2 x3 x4 hm; cases hm
  | succ n h10 =>
    intro σ x1 x2 x3 x4 hm
    have hm : Md_member_b10 F (Md_member_10 F n) σ x1 x2 x3 x4 = some (r, σ') := hm
    unfold Md_member_b10 at hm
    refine z_iload (pc := 10) C d_Md_member_10 4 rfl ?_
    refine z_aload_n (pc := 12) C d_Md_member_12 rfl 0 rfl ?_
    refine gM_Md_364 (pc := 13) (v := (gi σ 52)) C rfl d_Md_member_13 ?_
    refine z_icmp_ge (pc := 16) (tgt := 63) C d_Md_member_16 (by decide) (fun c1 => ?_) (fun c1 => ?_)
    · rw [if_pos c1] at hm
      refine z_lv (lv' := []) [] rfl ?_
      exact w_Md_member_63 hAD C hr σ hm
    · rw [if_neg c1] at hm
      refine z_iload_n (pc := 19) C d_Md_member_19 rfl 1 rfl ?_
      refine z_if_lt (pc := 20) (tgt := 63) C d_Md_member_20 (by decide) (fun c2 => ?_) (fun c2 => ?_)
      · rw [if_pos c2] at hm
        refine z_lv (lv' := []) [] rfl ?_
        exact w_Md_member_63 hAD C hr σ hm
      · rw [if_neg c2] at hm
        refine z_iload_n (pc := 23) C d_Md_member_23 rfl 1 rfl ?_
        refine z_aload_n (pc := 24) C d_Md_member_24 rfl 0 rfl ?_
        refine gM_Md_432 (pc := 25) (v := (gi σ 71)) C rfl d_Md_member_25 ?_
        refine z_icmp_ge (pc := 28) (tgt := 63) C d_Md_member_28 (by decide) (fun c3 => ?_) (fun c3 => ?_)
        · rw [if_pos c3] at hm
          refine z_lv (lv' := []) [] rfl ?_
          exact w_Md_member_63 hAD C hr σ hm
        · rw [if_neg c3] at hm
          refine z_iload_n (pc := 31) C d_Md_member_31 rfl 2 rfl ?_
          refine z_if_lt (pc := 32) (tgt := 63) C d_Md_member_32 (by decide) (fun c4 => ?_) (fun c4 => ?_)
          · rw [if_pos c4] at hm
            refine z_lv (lv' := []) [] rfl ?_
            exact w_Md_member_63 hAD C hr σ hm
          · rw [if_neg c4] at hm
            refine z_aload_n (pc := 35) C d_Md_member_35 rfl 0 rfl ?_
            refine gM_Md_157 (pc := 36) C  d_Md_member_36 ?_
            refine z_iload (pc := 39) C d_Md_member_39 4 rfl ?_
            obtain ⟨g5, hm⟩ := gd_s hm
            refine alM_48 (pc := 41) (v := (ga σ 48 x4.toNatClampNeg)) C  rfl g5 d_Md_member_41 ?_
            refine z_iload_n (pc := 42) C d_Md_member_42 rfl 1 rfl ?_
            refine z_icmp_ne (pc := 43) (tgt := 57) C d_Md_member_43 (by decide) (fun c6 => ?_) (fun c6 => ?_)
            · rw [if_neg c6] at hm
              exact w_Md_member_57 hAD C hr _ h10 σ x1 x2 x3 x4 hm
            · rw [if_pos c6] at hm
              refine z_iload_n (pc := 46) C d_Md_member_46 rfl 3 rfl ?_
              refine z_iload_n (pc := 47) C d_Md_member_47 rfl 2 rfl ?_
              refine z_icmp_ne (pc := 48) (tgt := 54) C d_Md_member_48 (by decide) (fun c7 => ?_) (fun c7 => ?_)
              · rw [if_neg c7] at hm
                refine z_iinc (pc := 54) (lv' := [(0, .ref (ad 0)), (1, .int x1), (2, .int x2), (3, .int (x3 + (1 : Int32))), (4, .int x4)]) C d_Md_member_54 3 rfl (ii ki_1) (Nat.le_of_ble_eq_true rfl) [1, 2, 3, 0, 4] rfl ?_
                exact w_Md_member_57 hAD C hr _ h10 σ x1 x2 (x3 + (1 : Int32)) x4 hm
              · rw [if_pos c7] at hm
                refine z_iload (pc := 51) C d_Md_member_51 4 rfl ?_
                exact z_iretE (pc := 53) C hr hm d_Md_member_53
set_option maxHeartbeats 4000000 in
set_option maxRecDepth 100000 in
theorem k_Md_member {l : Launch} {D : va_G} {ad : Nat → Nat} {cA : Nat → ClassId} {F : Nat} (hAD : ∀ σ, va_D (owM ad) (wdM ad cA σ)) {σ : zS} {x1 : Int32} {x2 : Int32} {r : Int32} {σ' : zS} (hm : Md_member F σ x1 x2 = some (r, σ')) : kIM l D ad cA xTr y_Md_member bc_Md_member 5 .int 0 [.ref (ad 0), .int x1, .int x2] σ r σ' := by
  refine kI_of (by decide) hAD xTr_P (Nat.le_of_ble_eq_true rfl) ?_
  intro p e s m below meth c C hr
  unfold Md_member at hm
  refine z_lv (lv' := [(0, .ref (ad 0)), (1, .int x1), (2, .int x2)]) [0, 1, 2] rfl ?_
  refine z_aload_n (pc := 0) C d_Md_member_0 rfl 0 rfl ?_
  refine z_iconst (pc := 1) C d_Md_member_1 ki_0 ?_
  refine pM_Md_215 (pc := 2) C  d_Md_member_2 ?_
  refine z_iconst (pc := 5) C d_Md_member_5 ki_0 ?_
  refine z_istore_n (pc := 6) (lv' := [(0, .ref (ad 0)), (1, .int x1), (2, .int x2), (3, .int (0 : Int32))]) C d_Md_member_6 rfl (Nat.le_of_ble_eq_true rfl) [1, 2, 3, 0] rfl ?_
  refine z_iconst (pc := 7) C d_Md_member_7 ki_0 ?_
  refine z_istore (pc := 8) (lv' := [(0, .ref (ad 0)), (1, .int x1), (2, .int x2), (3, .int (0 : Int32)), (4, .int (0 : Int32))]) C d_Md_member_8 (Nat.le_of_ble_eq_true rfl) [1, 2, 3, 4, 0] rfl ?_
  exact w_Md_member_10 hAD C hr F (si σ 0 (0 : Int32)) x1 x2 (0 : Int32) (0 : Int32) hm
set_option maxHeartbeats 4000000 in
set_option maxRecDepth 100000 in
theorem w_Md_needs_44 {D : va_G} {ad : Nat → Nat} {cA : Nat → ClassId} {p : Program} {l : Launch} {e : Env} {s : State} {m : MethodId} {args : Array Value} {below : List Frame} {meth : Method} {c : Code} {F : Nat} (hAD : ∀ σ, va_D (owM ad) (wdM ad cA σ)) (C : CM D ad cA xTr p s m args meth c bc_Md_needs "KindRoundsModel" 3) (hr : meth.sig.returnType = some .int) {r : Int32} {σ' : zS} (σ : zS) (s0 : Int32) (hm : Md_needs_44 F σ s0 = some (r, σ')) : ZM D ad cA p l e (rmK 1) s m args below meth c 3 (qiM D ad cA below args s r σ') 44 [] [.int s0] σ := by
  unfold Md_needs_44 at hm
  exact z_iretE (pc := 44) C hr hm d_Md_needs_44
set_option maxHeartbeats 4000000 in
set_option maxRecDepth 100000 in
theorem w_Md_needs_43 {D : va_G} {ad : Nat → Nat} {cA : Nat → ClassId} {p : Program} {l : Launch} {e : Env} {s : State} {m : MethodId} {args : Array Value} {below : List Frame} {meth : Method} {c : Code} {F : Nat} (hAD : ∀ σ, va_D (owM ad) (wdM ad cA σ)) (C : CM D ad cA xTr p s m args meth c bc_Md_needs "KindRoundsModel" 3) (hr : meth.sig.returnType = some .int) {r : Int32} {σ' : zS} (σ : zS) (hm : Md_needs_43 F σ = some (r, σ')) : ZM D ad cA p l e (rmK 1) s m args below meth c 3 (qiM D ad cA below args s r σ') 43 [] [] σ := by
  unfold Md_needs_43 at hm
  refine z_iconst (pc := 43) C d_Md_needs_43 ki_m1 ?_
  exact w_Md_needs_44 hAD C hr σ (-1 : Int32) hm
set_option maxHeartbeats 4000000 in
set_option maxRecDepth 100000 in
theorem k_Md_needs {l : Launch} {D : va_G} {ad : Nat → Nat} {cA : Nat → ClassId} {F : Nat} (hAD : ∀ σ, va_D (owM ad) (wdM ad cA σ)) {σ : zS} {x1 : Int32} {x2 : Int32} {r : Int32} {σ' : zS} (hm : Md_needs F σ x1 x2 = some (r, σ')) : kIM l D ad cA xTr y_Md_needs bc_Md_needs 3 .int 1 [.ref (ad 0), .int x1, .int x2] σ r σ' := by
  refine kI_of (by decide) hAD xTr_P (Nat.le_of_ble_eq_true rfl) ?_
  intro p e s m below meth c C hr
  unfold Md_needs at hm
  refine z_lv (lv' := [(0, .ref (ad 0)), (1, .int x1), (2, .int x2)]) [0, 1, 2] rfl ?_
  refine z_aload_n (pc := 0) C d_Md_needs_0 rfl 0 rfl ?_
  refine z_iconst (pc := 1) C d_Md_needs_1 ki_0 ?_
  refine pM_Md_215 (pc := 2) C  d_Md_needs_2 ?_
  refine z_aload_n (pc := 5) C d_Md_needs_5 rfl 0 rfl ?_
  refine z_iload_n (pc := 6) C d_Md_needs_6 rfl 1 rfl ?_
  obtain ⟨r2, σ1, e3, hm⟩ := bi_s hm
  refine z_callI (pc := 7) C (k_Md_isDecl hAD e3) kz_Md_isDecl mM_166 rfl rfl oM_0 rfl (kR_of (Nat.le_of_ble_eq_true rfl) (Nat.le_of_ble_eq_true rfl)) rfl (Nat.le_of_ble_eq_true rfl) d_Md_needs_7 ?_
  refine z_if_eq (pc := 10) (tgt := 43) C d_Md_needs_10 (by decide) (fun c4 => ?_) (fun c4 => ?_)
  · rw [if_pos c4] at hm
    refine z_lv (lv' := []) [] rfl ?_
    exact w_Md_needs_43 hAD C hr σ1 hm
  · rw [if_neg c4] at hm
    refine z_aload_n (pc := 13) C d_Md_needs_13 rfl 0 rfl ?_
    refine z_iload_n (pc := 14) C d_Md_needs_14 rfl 2 rfl ?_
    obtain ⟨r6, σ5, e7, hm⟩ := bi_s hm
    refine z_callI (pc := 15) C (k_Md_isDecl hAD e7) kz_Md_isDecl mM_166 rfl rfl oM_0 rfl (kR_of (Nat.le_of_ble_eq_true rfl) (Nat.le_of_ble_eq_true rfl)) rfl (Nat.le_of_ble_eq_true rfl) d_Md_needs_15 ?_
    refine z_if_eq (pc := 18) (tgt := 43) C d_Md_needs_18 (by decide) (fun c8 => ?_) (fun c8 => ?_)
    · rw [if_pos c8] at hm
      refine z_lv (lv' := []) [] rfl ?_
      exact w_Md_needs_43 hAD C hr σ5 hm
    · rw [if_neg c8] at hm
      refine z_aload_n (pc := 21) C d_Md_needs_21 rfl 0 rfl ?_
      refine gM_Md_151 (pc := 22) C  d_Md_needs_22 ?_
      refine z_bipush (pc := 25) C d_Md_needs_25 kb_16 ?_
      refine z_iload_n (pc := 27) C d_Md_needs_27 rfl 1 rfl ?_
      refine z_imul (pc := 28) C d_Md_needs_28 ?_
      refine z_iload_n (pc := 29) C d_Md_needs_29 rfl 2 rfl ?_
      refine z_iadd (pc := 30) C d_Md_needs_30 ?_
      obtain ⟨g9, hm⟩ := gd_s hm
      refine alM_46 (pc := 31) (v := (ga σ5 46 (((16 : Int32) * x1) + x2).toNatClampNeg)) C  rfl g9 d_Md_needs_31 ?_
      refine z_if_eq (pc := 32) (tgt := 39) C d_Md_needs_32 (by decide) (fun c10 => ?_) (fun c10 => ?_)
      · rw [if_pos c10] at hm
        refine z_iconst (pc := 39) C d_Md_needs_39 ki_0 ?_
        refine z_goto (pc := 40) (tgt := 44) C d_Md_needs_40 (by decide) ?_
        refine z_lv (lv' := []) [] rfl ?_
        exact w_Md_needs_44 hAD C hr σ5 (0 : Int32) hm
      · rw [if_neg c10] at hm
        refine z_iconst (pc := 35) C d_Md_needs_35 ki_1 ?_
        refine z_goto (pc := 36) (tgt := 44) C d_Md_needs_36 (by decide) ?_
        refine z_lv (lv' := []) [] rfl ?_
        exact w_Md_needs_44 hAD C hr σ5 (1 : Int32) hm
set_option maxHeartbeats 4000000 in
set_option maxRecDepth 100000 in
theorem w_Md_readAsked_190 {D : va_G} {ad : Nat → Nat} {cA : Nat → ClassId} {p : Program} {l : Launch} {e : Env} {s : State} {m : MethodId} {args : Array Value} {below : List Frame} {meth : Method} {c : Code} {F : Nat} (hAD : ∀ σ, va_D (owM ad) (wdM ad cA σ)) (C : CM D ad cA xTr p s m args meth c bc_Md_readAsked "KindRoundsModel" 4) (hr : meth.sig.returnType = some .int) {r : Int32} {σ' : zS} (σ : zS) (x2 : Int32) (hm : Md_readAsked_190 F σ x2 = some (r, σ')) : ZM D ad cA p l e (rmK 8) s m args below meth c 4 (qiM D ad cA below args s r σ') 190 [(0, .ref (ad 0)), (2, .int x2)] [] σ := by
  unfold Md_readAsked_190 at hm
  refine z_aload_n (pc := 190) C d_Md_readAsked_190 rfl 0 rfl ?_
  refine z_iconst (pc := 191) C d_Md_readAsked_191 ki_0 ?_
  refine pM_Md_218 (pc := 192) C  d_Md_readAsked_192 ?_
  refine z_iload_n (pc := 195) C d_Md_readAsked_195 rfl 1 rfl ?_
  exact z_iretE (pc := 196) C hr hm d_Md_readAsked_196
set_option maxHeartbeats 4000000 in
set_option maxRecDepth 100000 in
theorem w_Md_readAsked_163 {D : va_G} {ad : Nat → Nat} {cA : Nat → ClassId} {p : Program} {l : Launch} {e : Env} {s : State} {m : MethodId} {args : Array Value} {below : List Frame} {meth : Method} {c : Code} {F : Nat} (hAD : ∀ σ, va_D (owM ad) (wdM ad cA σ)) (C : CM D ad cA xTr p s m args meth c bc_Md_readAsked "KindRoundsModel" 4) (hr : meth.sig.returnType = some .int) {r : Int32} {σ' : zS} : ∀ (n : Nat) (σ : zS) (x2 : Int32) (x3 : Int32), Md_readAsked_163 F n σ x2 x3 = some (r, σ') → ZM D ad cA p l e (rmK 8) s m args below meth c 4 (qiM D ad cA below args s r σ') 163 [(0, .ref (ad 0)), (2, .int x2), (3, .int x3)] [] σ := by
  intro n
  induction n with
  | zero => intro σ x2 x3 hm; cases hm
  | succ n h163 =>
    intro σ x2 x3 hm
    have hm : Md_readAsked_b163 F (Md_readAsked_163 F n) σ x2 x3 = some (r, σ') := hm
    unfold Md_readAsked_b163 at hm
    refine z_iload_n (pc := 163) C d_Md_readAsked_163 rfl 2 rfl ?_
    refine z_aload_n (pc := 164) C d_Md_readAsked_164 rfl 0 rfl ?_
    refine gM_Md_285 (pc := 165) (v := (gi σ 23)) C rfl d_Md_readAsked_165 ?_
    refine z_icmp_ge (pc := 168) (tgt := 190) C d_Md_readAsked_168 (by decide) (fun c1 => ?_) (fun c1 => ?_)
    · rw [if_pos c1] at hm
      refine z_lv (lv' := [(0, .ref (ad 0)), (2, .int x2)]) [0, 1] rfl ?_
      exact w_Md_readAsked_190 hAD C hr σ x2 hm
    · rw [if_neg c1] at hm
      refine z_aload_n (pc := 171) C d_Md_readAsked_171 rfl 0 rfl ?_
      refine gM_Md_221 (pc := 172) (v := (gi σ 8)) C rfl d_Md_readAsked_172 ?_
      refine z_if_ne (pc := 175) (tgt := 190) C d_Md_readAsked_175 (by decide) (fun c2 => ?_) (fun c2 => ?_)
      · rw [if_neg c2] at hm
        refine z_lv (lv' := [(0, .ref (ad 0)), (2, .int x2)]) [0, 1] rfl ?_
        exact w_Md_readAsked_190 hAD C hr σ x2 hm
      · rw [if_pos c2] at hm
        refine z_aload_n (pc := 178) C d_Md_readAsked_178 rfl 0 rfl ?_
        refine z_iload_n (pc := 179) C d_Md_readAsked_179 rfl 2 rfl ?_
        refine z_iconst (pc := 180) C d_Md_readAsked_180 ki_0 ?_
        obtain ⟨σ3, e4, hm⟩ := bv_s hm
        refine z_callV (pc := 181) C (k_Md_doAct hAD e4) kz_Md_doAct mM_125 rfl rfl oM_0 rfl (kR_of (Nat.le_of_ble_eq_true rfl) (Nat.le_of_ble_eq_true rfl)) rfl (Nat.le_of_ble_eq_true rfl) d_Md_readAsked_181 ?_
        refine z_iinc (pc := 184) (lv' := [(0, .ref (ad 0)), (2, .int x2), (3, .int (x3 + (1 : Int32)))]) C d_Md_readAsked_184 2 rfl (ii ki_1) (Nat.le_of_ble_eq_true rfl) [1, 2, 0] rfl ?_
        refine z_goto (pc := 187) (tgt := 163) C d_Md_readAsked_187 (by decide) ?_
        exact h163 σ3 x2 (x3 + (1 : Int32)) hm
set_option maxHeartbeats 4000000 in
set_option maxRecDepth 100000 in
theorem w_Md_readAsked_161 {D : va_G} {ad : Nat → Nat} {cA : Nat → ClassId} {p : Program} {l : Launch} {e : Env} {s : State} {m : MethodId} {args : Array Value} {below : List Frame} {meth : Method} {c : Code} {F : Nat} (hAD : ∀ σ, va_D (owM ad) (wdM ad cA σ)) (C : CM D ad cA xTr p s m args meth c bc_Md_readAsked "KindRoundsModel" 4) (hr : meth.sig.returnType = some .int) {r : Int32} {σ' : zS} (σ : zS) (x2 : Int32) (hm : Md_readAsked_161 F σ x2 = some (r, σ')) : ZM D ad cA p l e (rmK 8) s m args below meth c 4 (qiM D ad cA below args s r σ') 161 [(0, .ref (ad 0)), (2, .int x2)] [] σ := by
  unfold Md_readAsked_161 at hm
  refine z_iconst (pc := 161) C d_Md_readAsked_161 ki_0 ?_
  refine z_istore_n (pc := 162) (lv' := [(0, .ref (ad 0)), (2, .int x2), (3, .int (0 : Int32))]) C d_Md_readAsked_162 rfl (Nat.le_of_ble_eq_true rfl) [1, 2, 0] rfl ?_
  exact w_Md_readAsked_163 hAD C hr F σ x2 (0 : Int32) hm
set_option maxHeartbeats 4000000 in
set_option maxRecDepth 100000 in
theorem w_Md_readAsked_155 {D : va_G} {ad : Nat → Nat} {cA : Nat → ClassId} {p : Program} {l : Launch} {e : Env} {s : State} {m : MethodId} {args : Array Value} {below : List Frame} {meth : Method} {c : Code} {F : Nat} (hAD : ∀ σ, va_D (owM ad) (wdM ad cA σ)) (C : CM D ad cA xTr p s m args meth c bc_Md_readAsked "KindRoundsModel" 4) (hr : meth.sig.returnType = some .int) {r : Int32} {σ' : zS} (rc121 : zS → Int32 → Int32 → Option (Int32 × zS)) (h121 : ∀ σ x2 x3, rc121 σ x2 x3 = some (r, σ') → ZM D ad cA p l e (rmK 8) s m args below meth c 4 (qiM D ad cA below args s r σ') 121 [(0, .ref (ad 0)), (2, .int x2), (3, .int x3)] [] σ) (σ : zS) (x2 : Int32) (x3 : Int32) (hm : Md_readAsked_155 F rc121 σ x2 x3 = some (r, σ')) : ZM D ad cA p l e (rmK 8) s m args below meth c 4 (qiM D ad cA below args s r σ') 155 [(0, .ref (ad 0)), (2, .int x2), (3, .int x3)] [] σ := by
  unfold Md_readAsked_155 at hm
  refine z_iinc (pc := 155) (lv' := [(0, .ref (ad 0)), (2, .int x2), (3, .int (x3 + (1 : Int32)))]) C d_Md_readAsked_155 2 rfl (ii ki_1) (Nat.le_of_ble_eq_true rfl) [1, 2, 0] rfl ?_
  refine z_goto (pc := 158) (tgt := 121) C d_Md_readAsked_158 (by decide) ?_
  exact h121 σ x2 (x3 + (1 : Int32)) hm
set_option maxHeartbeats 4000000 in
set_option maxRecDepth 100000 in
theorem w_Md_readAsked_121 {D : va_G} {ad : Nat → Nat} {cA : Nat → ClassId} {p : Program} {l : Launch} {e : Env} {s : State} {m : MethodId} {args : Array Value} {below : List Frame} {meth : Method} {c : Code} {F : Nat} (hAD : ∀ σ, va_D (owM ad) (wdM ad cA σ)) (C : CM D ad cA xTr p s m args meth c bc_Md_readAsked "KindRoundsModel" 4) (hr : meth.sig.returnType = some .int) {r : Int32} {σ' : zS} : ∀ (n : Nat) (σ : zS) (x2 : Int32) (x3 : Int32), Md_readAsked_121 F n σ x2 x3 = some (r, σ') → ZM D ad cA p l e (rmK 8) s m args below meth c 4 (qiM D ad cA below args s r σ') 121 [(0, .ref (ad 0)), (2, .int x2), (3, .int x3)] [] σ := by
  intro n
  induction n with
  | zero => intro σ x2 x3 hm; cases hm
  | succ n h121 =>
    intro σ x2 x3 hm
    have hm : Md_readAsked_b121 F (Md_readAsked_121 F n) σ x2 x3 = some (r, σ') := hm
    unfold Md_readAsked_b121 at hm
    refine z_iload_n (pc := 121) C d_Md_readAsked_121 rfl 2 rfl ?_
    refine z_aload_n (pc := 122) C d_Md_readAsked_122 rfl 0 rfl ?_
    refine gM_Md_288 (pc := 123) (v := (gi σ 16)) C rfl d_Md_readAsked_123 ?_
    refine z_icmp_ge (pc := 126) (tgt := 161) C d_Md_readAsked_126 (by decide) (fun c1 => ?_) (fun c1 => ?_)
    · rw [if_pos c1] at hm
      refine z_lv (lv' := [(0, .ref (ad 0)), (2, .int x2)]) [0, 1] rfl ?_
      exact w_Md_readAsked_161 hAD C hr σ x2 hm
    · rw [if_neg c1] at hm
      refine z_aload_n (pc := 129) C d_Md_readAsked_129 rfl 0 rfl ?_
      refine gM_Md_221 (pc := 130) (v := (gi σ 8)) C rfl d_Md_readAsked_130 ?_
      refine z_if_ne (pc := 133) (tgt := 161) C d_Md_readAsked_133 (by decide) (fun c2 => ?_) (fun c2 => ?_)
      · rw [if_neg c2] at hm
        refine z_lv (lv' := [(0, .ref (ad 0)), (2, .int x2)]) [0, 1] rfl ?_
        exact w_Md_readAsked_161 hAD C hr σ x2 hm
      · rw [if_pos c2] at hm
        refine z_aload_n (pc := 136) C d_Md_readAsked_136 rfl 0 rfl ?_
        refine gM_Md_17 (pc := 137) C  d_Md_readAsked_137 ?_
        refine z_iload_n (pc := 140) C d_Md_readAsked_140 rfl 2 rfl ?_
        obtain ⟨g3, hm⟩ := gd_s hm
        refine alM_2 (pc := 141) (v := (ga σ 2 x3.toNatClampNeg)) C  rfl g3 d_Md_readAsked_141 ?_
        refine z_iconst (pc := 142) C d_Md_readAsked_142 ki_2 ?_
        refine z_icmp_eq (pc := 143) (tgt := 155) C d_Md_readAsked_143 (by decide) (fun c4 => ?_) (fun c4 => ?_)
        · rw [if_pos c4] at hm
          exact w_Md_readAsked_155 hAD C hr _ h121 σ x2 x3 hm
        · rw [if_neg c4] at hm
          refine z_aload_n (pc := 146) C d_Md_readAsked_146 rfl 0 rfl ?_
          refine z_iload_n (pc := 147) C d_Md_readAsked_147 rfl 2 rfl ?_
          refine z_aload_n (pc := 148) C d_Md_readAsked_148 rfl 0 rfl ?_
          refine gM_Md_530 (pc := 149) (v := (gi σ 89)) C rfl d_Md_readAsked_149 ?_
          obtain ⟨σ5, e6, hm⟩ := bv_s hm
          refine z_callV (pc := 152) C (k_Md_layKind hAD e6) kz_Md_layKind mM_130 rfl rfl oM_0 rfl (kR_of (Nat.le_of_ble_eq_true rfl) (Nat.le_of_ble_eq_true rfl)) rfl (Nat.le_of_ble_eq_true rfl) d_Md_readAsked_152 ?_
          exact w_Md_readAsked_155 hAD C hr _ h121 σ5 x2 x3 hm
set_option maxHeartbeats 4000000 in
set_option maxRecDepth 100000 in
theorem w_Md_readAsked_116 {D : va_G} {ad : Nat → Nat} {cA : Nat → ClassId} {p : Program} {l : Launch} {e : Env} {s : State} {m : MethodId} {args : Array Value} {below : List Frame} {meth : Method} {c : Code} {F : Nat} (hAD : ∀ σ, va_D (owM ad) (wdM ad cA σ)) (C : CM D ad cA xTr p s m args meth c bc_Md_readAsked "KindRoundsModel" 4) (hr : meth.sig.returnType = some .int) {r : Int32} {σ' : zS} (σ : zS) (x2 : Int32) (hm : Md_readAsked_116 F σ x2 = some (r, σ')) : ZM D ad cA p l e (rmK 8) s m args below meth c 4 (qiM D ad cA below args s r σ') 116 [(0, .ref (ad 0)), (2, .int x2)] [] σ := by
  unfold Md_readAsked_116 at hm
  refine z_aload_n (pc := 116) C d_Md_readAsked_116 rfl 0 rfl ?_
  refine gM_Md_530 (pc := 117) (v := (gi σ 89)) C rfl d_Md_readAsked_117 ?_
  refine z_istore_n (pc := 120) (lv' := [(0, .ref (ad 0)), (2, .int x2), (3, .int (gi σ 89))]) C d_Md_readAsked_120 rfl (Nat.le_of_ble_eq_true rfl) [1, 2, 0] rfl ?_
  exact w_Md_readAsked_121 hAD C hr F σ x2 (gi σ 89) hm
set_option maxHeartbeats 4000000 in
set_option maxRecDepth 100000 in
theorem w_Md_readAsked_105 {D : va_G} {ad : Nat → Nat} {cA : Nat → ClassId} {p : Program} {l : Launch} {e : Env} {s : State} {m : MethodId} {args : Array Value} {below : List Frame} {meth : Method} {c : Code} {F : Nat} (hAD : ∀ σ, va_D (owM ad) (wdM ad cA σ)) (C : CM D ad cA xTr p s m args meth c bc_Md_readAsked "KindRoundsModel" 4) (hr : meth.sig.returnType = some .int) {r : Int32} {σ' : zS} (σ : zS) (x2 : Int32) (hm : Md_readAsked_105 F σ x2 = some (r, σ')) : ZM D ad cA p l e (rmK 8) s m args below meth c 4 (qiM D ad cA below args s r σ') 105 [(0, .ref (ad 0)), (2, .int x2)] [] σ := by
  unfold Md_readAsked_105 at hm
  refine z_aload_n (pc := 105) C d_Md_readAsked_105 rfl 0 rfl ?_
  refine gM_Md_221 (pc := 106) (v := (gi σ 8)) C rfl d_Md_readAsked_106 ?_
  refine z_if_ne (pc := 109) (tgt := 116) C d_Md_readAsked_109 (by decide) (fun c1 => ?_) (fun c1 => ?_)
  · rw [if_neg c1] at hm
    exact w_Md_readAsked_116 hAD C hr σ x2 hm
  · rw [if_pos c1] at hm
    refine z_aload_n (pc := 112) C d_Md_readAsked_112 rfl 0 rfl ?_
    obtain ⟨σ2, e3, hm⟩ := bv_s hm
    refine z_callV (pc := 113) C (k_Md_lookTakes hAD e3) kz_Md_lookTakes mM_159 rfl rfl oM_0 rfl (kR_of (Nat.le_of_ble_eq_true rfl) (Nat.le_of_ble_eq_true rfl)) rfl (Nat.le_of_ble_eq_true rfl) d_Md_readAsked_113 ?_
    exact w_Md_readAsked_116 hAD C hr σ2 x2 hm
set_option maxHeartbeats 4000000 in
set_option maxRecDepth 100000 in
theorem w_Md_readAsked_93 {D : va_G} {ad : Nat → Nat} {cA : Nat → ClassId} {p : Program} {l : Launch} {e : Env} {s : State} {m : MethodId} {args : Array Value} {below : List Frame} {meth : Method} {c : Code} {F : Nat} (hAD : ∀ σ, va_D (owM ad) (wdM ad cA σ)) (C : CM D ad cA xTr p s m args meth c bc_Md_readAsked "KindRoundsModel" 4) (hr : meth.sig.returnType = some .int) {r : Int32} {σ' : zS} (σ : zS) (x2 : Int32) (hm : Md_readAsked_93 F σ x2 = some (r, σ')) : ZM D ad cA p l e (rmK 8) s m args below meth c 4 (qiM D ad cA below args s r σ') 93 [(0, .ref (ad 0)), (2, .int x2)] [] σ := by
  unfold Md_readAsked_93 at hm
  refine z_aload_n (pc := 93) C d_Md_readAsked_93 rfl 0 rfl ?_
  refine gM_Md_221 (pc := 94) (v := (gi σ 8)) C rfl d_Md_readAsked_94 ?_
  refine z_if_ne (pc := 97) (tgt := 105) C d_Md_readAsked_97 (by decide) (fun c1 => ?_) (fun c1 => ?_)
  · rw [if_neg c1] at hm
    exact w_Md_readAsked_105 hAD C hr σ x2 hm
  · rw [if_pos c1] at hm
    refine z_aload_n (pc := 100) C d_Md_readAsked_100 rfl 0 rfl ?_
    refine z_iconst (pc := 101) C d_Md_readAsked_101 ki_0 ?_
    obtain ⟨σ2, e3, hm⟩ := bv_s hm
    refine z_callV (pc := 102) C (k_Md_lookNames hAD e3) kz_Md_lookNames mM_163 rfl rfl oM_0 rfl (kR_of (Nat.le_of_ble_eq_true rfl) (Nat.le_of_ble_eq_true rfl)) rfl (Nat.le_of_ble_eq_true rfl) d_Md_readAsked_102 ?_
    exact w_Md_readAsked_105 hAD C hr σ2 x2 hm
set_option maxHeartbeats 4000000 in
set_option maxRecDepth 100000 in
theorem w_Md_readAsked_74 {D : va_G} {ad : Nat → Nat} {cA : Nat → ClassId} {p : Program} {l : Launch} {e : Env} {s : State} {m : MethodId} {args : Array Value} {below : List Frame} {meth : Method} {c : Code} {F : Nat} (hAD : ∀ σ, va_D (owM ad) (wdM ad cA σ)) (C : CM D ad cA xTr p s m args meth c bc_Md_readAsked "KindRoundsModel" 4) (hr : meth.sig.returnType = some .int) {r : Int32} {σ' : zS} (σ : zS) (x2 : Int32) (hm : Md_readAsked_74 F σ x2 = some (r, σ')) : ZM D ad cA p l e (rmK 8) s m args below meth c 4 (qiM D ad cA below args s r σ') 74 [(0, .ref (ad 0)), (2, .int x2)] [] σ := by
  unfold Md_readAsked_74 at hm
  refine z_aload_n (pc := 74) C d_Md_readAsked_74 rfl 0 rfl ?_
  refine gM_Md_221 (pc := 75) (v := (gi σ 8)) C rfl d_Md_readAsked_75 ?_
  refine z_if_ne (pc := 78) (tgt := 93) C d_Md_readAsked_78 (by decide) (fun c1 => ?_) (fun c1 => ?_)
  · rw [if_neg c1] at hm
    exact w_Md_readAsked_93 hAD C hr σ x2 hm
  · rw [if_pos c1] at hm
    refine z_aload_n (pc := 81) C d_Md_readAsked_81 rfl 0 rfl ?_
    refine gM_Md_241 (pc := 82) (v := (gi σ 4)) C rfl d_Md_readAsked_82 ?_
    refine z_iconst (pc := 85) C d_Md_readAsked_85 ki_5 ?_
    refine z_icmp_eq (pc := 86) (tgt := 93) C d_Md_readAsked_86 (by decide) (fun c2 => ?_) (fun c2 => ?_)
    · rw [if_pos c2] at hm
      exact w_Md_readAsked_93 hAD C hr σ x2 hm
    · rw [if_neg c2] at hm
      refine z_aload_n (pc := 89) C d_Md_readAsked_89 rfl 0 rfl ?_
      obtain ⟨σ3, e4, hm⟩ := bv_s hm
      refine z_callV (pc := 90) C (k_Md_cannot hAD e4) kz_Md_cannot mM_20 rfl rfl oM_0 rfl (kR_of (Nat.le_of_ble_eq_true rfl) (Nat.le_of_ble_eq_true rfl)) rfl (Nat.le_of_ble_eq_true rfl) d_Md_readAsked_90 ?_
      exact w_Md_readAsked_93 hAD C hr σ3 x2 hm
set_option maxHeartbeats 4000000 in
set_option maxRecDepth 100000 in
theorem k_Md_readAsked {l : Launch} {D : va_G} {ad : Nat → Nat} {cA : Nat → ClassId} {F : Nat} (hAD : ∀ σ, va_D (owM ad) (wdM ad cA σ)) {σ : zS} {x1 : Int32} {r : Int32} {σ' : zS} (hm : Md_readAsked F σ x1 = some (r, σ')) : kIM l D ad cA xTr y_Md_readAsked bc_Md_readAsked 4 .int 8 [.ref (ad 0), .int x1] σ r σ' := by
  refine kI_of (by decide) hAD xTr_P (Nat.le_of_ble_eq_true rfl) ?_
  intro p e s m below meth c C hr
  unfold Md_readAsked at hm
  refine z_lv (lv' := [(0, .ref (ad 0)), (1, .int x1)]) [0, 1] rfl ?_
  refine z_aload_n (pc := 0) C d_Md_readAsked_0 rfl 0 rfl ?_
  refine gM_Md_187 (pc := 1) C  d_Md_readAsked_1 ?_
  refine z_aload_n (pc := 4) C d_Md_readAsked_4 rfl 0 rfl ?_
  refine gM_Md_100 (pc := 5) C  d_Md_readAsked_5 ?_
  refine z_aload_n (pc := 8) C d_Md_readAsked_8 rfl 0 rfl ?_
  refine gM_Md_212 (pc := 9) (v := (gi σ 88)) C rfl d_Md_readAsked_9 ?_
  obtain ⟨σ1, e2, hm⟩ := bv_s hm
  refine z_callSV (pc := 12) C (k_Md_copy hAD e2) kz_Md_copy mM_134 rfl (kR_of (Nat.le_of_ble_eq_true rfl) (Nat.le_of_ble_eq_true rfl)) rfl (Nat.le_of_ble_eq_true rfl) d_Md_readAsked_12 ?_
  refine z_aload_n (pc := 15) C d_Md_readAsked_15 rfl 0 rfl ?_
  refine z_aload_n (pc := 16) C d_Md_readAsked_16 rfl 0 rfl ?_
  refine gM_Md_212 (pc := 17) (v := (gi σ1 88)) C rfl d_Md_readAsked_17 ?_
  refine pM_Md_209 (pc := 20) C  d_Md_readAsked_20 ?_
  refine z_aload_n (pc := 23) C d_Md_readAsked_23 rfl 0 rfl ?_
  refine z_aload_n (pc := 24) C d_Md_readAsked_24 rfl 0 rfl ?_
  refine gM_Md_530 (pc := 25) (v := (gi σ1 89)) C rfl d_Md_readAsked_25 ?_
  refine pM_Md_288 (pc := 28) C  d_Md_readAsked_28 ?_
  refine z_aload_n (pc := 31) C d_Md_readAsked_31 rfl 0 rfl ?_
  refine z_iconst (pc := 32) C d_Md_readAsked_32 ki_0 ?_
  refine pM_Md_279 (pc := 33) C  d_Md_readAsked_33 ?_
  refine z_aload_n (pc := 36) C d_Md_readAsked_36 rfl 0 rfl ?_
  refine z_iconst (pc := 37) C d_Md_readAsked_37 ki_0 ?_
  refine pM_Md_285 (pc := 38) C  d_Md_readAsked_38 ?_
  refine z_aload_n (pc := 41) C d_Md_readAsked_41 rfl 0 rfl ?_
  obtain ⟨σ3, e4, hm⟩ := bv_s hm
  refine z_callV (pc := 42) C (k_Md_begin hAD e4) kz_Md_begin mM_104 rfl rfl oM_0 rfl (kR_of (Nat.le_of_ble_eq_true rfl) (Nat.le_of_ble_eq_true rfl)) rfl (Nat.le_of_ble_eq_true rfl) d_Md_readAsked_42 ?_
  refine z_aload_n (pc := 45) C d_Md_readAsked_45 rfl 0 rfl ?_
  obtain ⟨r6, σ5, e7, hm⟩ := bi_s hm
  refine z_callI (pc := 46) C (k_Md_readType hAD e7) kz_Md_readType mM_98 rfl rfl oM_0 rfl (kR_of (Nat.le_of_ble_eq_true rfl) (Nat.le_of_ble_eq_true rfl)) rfl (Nat.le_of_ble_eq_true rfl) d_Md_readAsked_46 ?_
  refine z_istore_n (pc := 49) (lv' := [(0, .ref (ad 0)), (1, .int x1), (2, .int r6)]) C d_Md_readAsked_49 rfl (Nat.le_of_ble_eq_true rfl) [1, 2, 0] rfl ?_
  refine z_iload_n (pc := 50) C d_Md_readAsked_50 rfl 1 rfl ?_
  refine z_if_eq (pc := 51) (tgt := 74) C d_Md_readAsked_51 (by decide) (fun c8 => ?_) (fun c8 => ?_)
  · rw [if_pos c8] at hm
    refine z_lv (lv' := [(0, .ref (ad 0)), (2, .int r6)]) [0, 2] rfl ?_
    exact w_Md_readAsked_74 hAD C hr σ5 r6 hm
  · rw [if_neg c8] at hm
    refine z_aload_n (pc := 54) C d_Md_readAsked_54 rfl 0 rfl ?_
    refine z_bipush (pc := 55) C d_Md_readAsked_55 kb_44 ?_
    obtain ⟨σ9, e10, hm⟩ := bv_s hm
    refine z_callV (pc := 57) C (k_Md_want hAD e10) kz_Md_want mM_60 rfl rfl oM_0 rfl (kR_of (Nat.le_of_ble_eq_true rfl) (Nat.le_of_ble_eq_true rfl)) rfl (Nat.le_of_ble_eq_true rfl) d_Md_readAsked_57 ?_
    refine z_aload_n (pc := 60) C d_Md_readAsked_60 rfl 0 rfl ?_
    refine z_bipush (pc := 61) C d_Md_readAsked_61 kb_m2 ?_
    refine pM_Md_282 (pc := 63) C  d_Md_readAsked_63 ?_
    refine z_aload_n (pc := 66) C d_Md_readAsked_66 rfl 0 rfl ?_
    refine z_aload_n (pc := 67) C d_Md_readAsked_67 rfl 0 rfl ?_
    obtain ⟨r12, σ11, e13, hm⟩ := bi_s hm
    refine z_callI (pc := 68) C (k_Md_readType hAD e13) kz_Md_readType mM_98 rfl rfl oM_0 rfl (kR_of (Nat.le_of_ble_eq_true rfl) (Nat.le_of_ble_eq_true rfl)) rfl (Nat.le_of_ble_eq_true rfl) d_Md_readAsked_68 ?_
    refine pM_Md_542 (pc := 71) C  d_Md_readAsked_71 ?_
    refine z_lv (lv' := [(0, .ref (ad 0)), (2, .int r6)]) [0, 2] rfl ?_
    exact w_Md_readAsked_74 hAD C hr (si σ11 91 r12) r6 hm
set_option maxHeartbeats 4000000 in
set_option maxRecDepth 100000 in
theorem w_Md_kind_38 {D : va_G} {ad : Nat → Nat} {cA : Nat → ClassId} {p : Program} {l : Launch} {e : Env} {s : State} {m : MethodId} {args : Array Value} {below : List Frame} {meth : Method} {c : Code} {F : Nat} (hAD : ∀ σ, va_D (owM ad) (wdM ad cA σ)) (C : CM D ad cA xTr p s m args meth c bc_Md_kind "KindRoundsModel" 2) (hr : meth.sig.returnType = some .int) {r : Int32} {σ' : zS} (σ : zS) (s0 : Int32) (hm : Md_kind_38 F σ s0 = some (r, σ')) : ZM D ad cA p l e (rmK 9) s m args below meth c 2 (qiM D ad cA below args s r σ') 38 [] [.int s0] σ := by
  unfold Md_kind_38 at hm
  exact z_iretE (pc := 38) C hr hm d_Md_kind_38
set_option maxHeartbeats 4000000 in
set_option maxRecDepth 100000 in
theorem k_Md_kind {l : Launch} {D : va_G} {ad : Nat → Nat} {cA : Nat → ClassId} {F : Nat} (hAD : ∀ σ, va_D (owM ad) (wdM ad cA σ)) {σ : zS} {r : Int32} {σ' : zS} (hm : Md_kind F σ = some (r, σ')) : kIM l D ad cA xTr y_Md_kind bc_Md_kind 2 .int 9 [.ref (ad 0)] σ r σ' := by
  refine kI_of (by decide) hAD xTr_P (Nat.le_of_ble_eq_true rfl) ?_
  intro p e s m below meth c C hr
  unfold Md_kind at hm
  refine z_lv (lv' := [(0, .ref (ad 0))]) [0] rfl ?_
  refine z_aload_n (pc := 0) C d_Md_kind_0 rfl 0 rfl ?_
  refine z_iconst (pc := 1) C d_Md_kind_1 ki_0 ?_
  refine pM_Md_215 (pc := 2) C  d_Md_kind_2 ?_
  refine z_aload_n (pc := 5) C d_Md_kind_5 rfl 0 rfl ?_
  refine z_iconst (pc := 6) C d_Md_kind_6 ki_0 ?_
  obtain ⟨r2, σ1, e3, hm⟩ := bi_s hm
  refine z_callI (pc := 7) C (k_Md_readAsked hAD e3) kz_Md_readAsked mM_168 rfl rfl oM_0 rfl (kR_of (Nat.le_of_ble_eq_true rfl) (Nat.le_of_ble_eq_true rfl)) rfl (Nat.le_of_ble_eq_true rfl) d_Md_kind_7 ?_
  refine z_istore_n (pc := 10) (lv' := [(0, .ref (ad 0)), (1, .int r2)]) C d_Md_kind_10 rfl (Nat.le_of_ble_eq_true rfl) [1, 0] rfl ?_
  refine z_aload_n (pc := 11) C d_Md_kind_11 rfl 0 rfl ?_
  refine gM_Md_221 (pc := 12) (v := (gi σ1 8)) C rfl d_Md_kind_12 ?_
  refine z_if_le (pc := 15) (tgt := 28) C d_Md_kind_15 (by decide) (fun c4 => ?_) (fun c4 => ?_)
  · rw [if_pos c4] at hm
    refine z_aload_n (pc := 28) C d_Md_kind_28 rfl 0 rfl ?_
    refine z_aload_n (pc := 29) C d_Md_kind_29 rfl 0 rfl ?_
    refine gM_Md_30 (pc := 30) C  d_Md_kind_30 ?_
    refine z_iload_n (pc := 33) C d_Md_kind_33 rfl 1 rfl ?_
    obtain ⟨g5, hm⟩ := gd_s hm
    refine alM_6 (pc := 34) (v := (ga σ1 6 r2.toNatClampNeg)) C  rfl g5 d_Md_kind_34 ?_
    obtain ⟨r7, σ6, e8, hm⟩ := bi_s hm
    refine z_callI (pc := 35) C (k_Md_showKind hAD e8) kz_Md_showKind mM_164 rfl rfl oM_0 rfl (kR_of (Nat.le_of_ble_eq_true rfl) (Nat.le_of_ble_eq_true rfl)) rfl (Nat.le_of_ble_eq_true rfl) d_Md_kind_35 ?_
    refine z_lv (lv' := []) [] rfl ?_
    exact w_Md_kind_38 hAD C hr σ6 r7 hm
  · rw [if_neg c4] at hm
    refine z_bipush (pc := 18) C d_Md_kind_18 kb_m10 ?_
    refine z_aload_n (pc := 20) C d_Md_kind_20 rfl 0 rfl ?_
    refine gM_Md_221 (pc := 21) (v := (gi σ1 8)) C rfl d_Md_kind_21 ?_
    refine z_isub (pc := 24) C d_Md_kind_24 ?_
    refine z_goto (pc := 25) (tgt := 38) C d_Md_kind_25 (by decide) ?_
    refine z_lv (lv' := []) [] rfl ?_
    exact w_Md_kind_38 hAD C hr σ1 ((-10 : Int32) - (gi σ1 8)) hm
set_option maxHeartbeats 4000000 in
set_option maxRecDepth 100000 in
theorem w_Md_lay_138 {D : va_G} {ad : Nat → Nat} {cA : Nat → ClassId} {p : Program} {l : Launch} {e : Env} {s : State} {m : MethodId} {args : Array Value} {below : List Frame} {meth : Method} {c : Code} {F : Nat} (hAD : ∀ σ, va_D (owM ad) (wdM ad cA σ)) (C : CM D ad cA xTr p s m args meth c bc_Md_lay "KindRoundsModel" 6) (hr : meth.sig.returnType = some .int) {r : Int32} {σ' : zS} (rc12 : zS → Nat → Int32 → Int32 → Option (Int32 × zS)) (h12 : ∀ σ x2 x3 x4, rc12 σ x2 x3 x4 = some (r, σ') → ZM D ad cA p l e (rmK 0) s m args below meth c 6 (qiM D ad cA below args s r σ') 12 [(0, .ref (ad 0)), (2, .ref (ad x2)), (3, .int x3), (4, .int x4)] [] σ) (σ : zS) (x2 : Nat) (x3 : Int32) (x4 : Int32) (hm : Md_lay_138 F rc12 σ x2 x3 x4 = some (r, σ')) : ZM D ad cA p l e (rmK 0) s m args below meth c 6 (qiM D ad cA below args s r σ') 138 [(0, .ref (ad 0)), (2, .ref (ad x2)), (3, .int x3), (4, .int x4)] [] σ := by
  unfold Md_lay_138 at hm
  refine z_iinc (pc := 138) (lv' := [(0, .ref (ad 0)), (2, .ref (ad x2)), (3, .int x3), (4, .int (x4 + (1 : Int32)))]) C d_Md_lay_138 3 rfl (ii ki_1) (Nat.le_of_ble_eq_true rfl) [1, 2, 3, 0] rfl ?_
  refine z_goto (pc := 141) (tgt := 12) C d_Md_lay_141 (by decide) ?_
  exact h12 σ x2 x3 (x4 + (1 : Int32)) hm
set_option maxHeartbeats 4000000 in
set_option maxRecDepth 100000 in
theorem w_Md_lay_48 {D : va_G} {ad : Nat → Nat} {cA : Nat → ClassId} {p : Program} {l : Launch} {e : Env} {s : State} {m : MethodId} {args : Array Value} {below : List Frame} {meth : Method} {c : Code} {F : Nat} (hAD : ∀ σ, va_D (owM ad) (wdM ad cA σ)) (C : CM D ad cA xTr p s m args meth c bc_Md_lay "KindRoundsModel" 6) (hr : meth.sig.returnType = some .int) {r : Int32} {σ' : zS} (rc12 : zS → Nat → Int32 → Int32 → Option (Int32 × zS)) (h12 : ∀ σ x2 x3 x4, rc12 σ x2 x3 x4 = some (r, σ') → ZM D ad cA p l e (rmK 0) s m args below meth c 6 (qiM D ad cA below args s r σ') 12 [(0, .ref (ad 0)), (2, .ref (ad x2)), (3, .int x3), (4, .int x4)] [] σ) (σ : zS) (x2 : Nat) (x3 : Int32) (x4 : Int32) (x5 : Int32) (hm : Md_lay_48 F rc12 σ x2 x3 x4 x5 = some (r, σ')) : ZM D ad cA p l e (rmK 0) s m args below meth c 6 (qiM D ad cA below args s r σ') 48 [(0, .ref (ad 0)), (2, .ref (ad x2)), (3, .int x3), (4, .int x4), (5, .int x5)] [] σ := by
  unfold Md_lay_48 at hm
  refine z_aload_n (pc := 48) C d_Md_lay_48 rfl 1 rfl ?_
  refine z_iload (pc := 49) C d_Md_lay_49 3 rfl ?_
  refine z_bipush (pc := 51) C d_Md_lay_51 kb_10 ?_
  refine z_iload (pc := 53) C d_Md_lay_53 4 rfl ?_
  refine z_iadd (pc := 55) C d_Md_lay_55 ?_
  obtain ⟨g1, hm⟩ := gd_s hm
  obtain ⟨g2, hm⟩ := gd_s hm
  refine asM_isPt (pc := 56) C (x := x2) g1 g2 d_Md_lay_56 ?_
  refine z_goto (pc := 57) (tgt := 138) C d_Md_lay_57 (by decide) ?_
  refine z_lv (lv' := [(0, .ref (ad 0)), (2, .ref (ad x2)), (3, .int x3), (4, .int x4)]) [0, 1, 2, 3] rfl ?_
  exact w_Md_lay_138 hAD C hr _ h12 (sa σ x2 x4.toNatClampNeg ((10 : Int32) + x5)) x2 x3 x4 hm
set_option maxHeartbeats 4000000 in
set_option maxRecDepth 100000 in
theorem w_Md_lay_122 {D : va_G} {ad : Nat → Nat} {cA : Nat → ClassId} {p : Program} {l : Launch} {e : Env} {s : State} {m : MethodId} {args : Array Value} {below : List Frame} {meth : Method} {c : Code} {F : Nat} (hAD : ∀ σ, va_D (owM ad) (wdM ad cA σ)) (C : CM D ad cA xTr p s m args meth c bc_Md_lay "KindRoundsModel" 6) (hr : meth.sig.returnType = some .int) {r : Int32} {σ' : zS} (rc12 : zS → Nat → Int32 → Int32 → Option (Int32 × zS)) (h12 : ∀ σ x2 x3 x4, rc12 σ x2 x3 x4 = some (r, σ') → ZM D ad cA p l e (rmK 0) s m args below meth c 6 (qiM D ad cA below args s r σ') 12 [(0, .ref (ad 0)), (2, .ref (ad x2)), (3, .int x3), (4, .int x4)] [] σ) (σ : zS) (x2 : Nat) (x3 : Int32) (x4 : Int32) (x5 : Int32) (hm : Md_lay_122 F rc12 σ x2 x3 x4 x5 = some (r, σ')) : ZM D ad cA p l e (rmK 0) s m args below meth c 6 (qiM D ad cA below args s r σ') 122 [(0, .ref (ad 0)), (2, .ref (ad x2)), (3, .int x3), (4, .int x4), (5, .int x5)] [] σ := by
  unfold Md_lay_122 at hm
  refine z_aload_n (pc := 122) C d_Md_lay_122 rfl 0 rfl ?_
  refine gM_Md_172 (pc := 123) C  d_Md_lay_123 ?_
  refine z_iload_n (pc := 126) C d_Md_lay_126 rfl 2 rfl ?_
  refine z_aload_n (pc := 127) C d_Md_lay_127 rfl 0 rfl ?_
  refine gM_Md_24 (pc := 128) C  d_Md_lay_128 ?_
  refine z_iload (pc := 131) C d_Md_lay_131 4 rfl ?_
  obtain ⟨g1, hm⟩ := gd_s hm
  refine alM_4 (pc := 133) (v := (ga σ 4 x5.toNatClampNeg)) C  rfl g1 d_Md_lay_133 ?_
  obtain ⟨g2, hm⟩ := gd_s hm
  refine asM_53 (pc := 134) C  g2 d_Md_lay_134 ?_
  refine z_iinc (pc := 135) (lv' := [(0, .ref (ad 0)), (2, .ref (ad x2)), (3, .int (x3 + (1 : Int32))), (4, .int x4), (5, .int x5)]) C d_Md_lay_135 2 rfl (ii ki_1) (Nat.le_of_ble_eq_true rfl) [1, 2, 0, 3, 4] rfl ?_
  refine z_lv (lv' := [(0, .ref (ad 0)), (2, .ref (ad x2)), (3, .int (x3 + (1 : Int32))), (4, .int x4)]) [0, 1, 2, 3] rfl ?_
  exact w_Md_lay_138 hAD C hr _ h12 (sa σ 53 x3.toNatClampNeg (ga σ 4 x5.toNatClampNeg)) x2 (x3 + (1 : Int32)) x4 hm
set_option maxHeartbeats 4000000 in
set_option maxRecDepth 100000 in
theorem w_Md_lay_94 {D : va_G} {ad : Nat → Nat} {cA : Nat → ClassId} {p : Program} {l : Launch} {e : Env} {s : State} {m : MethodId} {args : Array Value} {below : List Frame} {meth : Method} {c : Code} {F : Nat} (hAD : ∀ σ, va_D (owM ad) (wdM ad cA σ)) (C : CM D ad cA xTr p s m args meth c bc_Md_lay "KindRoundsModel" 6) (hr : meth.sig.returnType = some .int) {r : Int32} {σ' : zS} (rc12 : zS → Nat → Int32 → Int32 → Option (Int32 × zS)) (h12 : ∀ σ x2 x3 x4, rc12 σ x2 x3 x4 = some (r, σ') → ZM D ad cA p l e (rmK 0) s m args below meth c 6 (qiM D ad cA below args s r σ') 12 [(0, .ref (ad 0)), (2, .ref (ad x2)), (3, .int x3), (4, .int x4)] [] σ) (σ : zS) (x2 : Nat) (x3 : Int32) (x4 : Int32) (x5 : Int32) (s0 : Nat) (s1 : Int32) (s2 : Int32) (hm : Md_lay_94 F rc12 σ x2 x3 x4 x5 s0 s1 s2 = some (r, σ')) : ZM D ad cA p l e (rmK 0) s m args below meth c 6 (qiM D ad cA below args s r σ') 94 [(0, .ref (ad 0)), (2, .ref (ad x2)), (3, .int x3), (4, .int x4), (5, .int x5)] [.int s2, .int s1, .ref (ad s0)] σ := by
  unfold Md_lay_94 at hm
  obtain ⟨g1, hm⟩ := gd_s hm
  obtain ⟨g2, hm⟩ := gd_s hm
  refine asM_isPt (pc := 94) C (x := s0) g1 g2 d_Md_lay_94 ?_
  refine z_aload_n (pc := 95) C d_Md_lay_95 rfl 0 rfl ?_
  refine gM_Md_17 (pc := 96) C  d_Md_lay_96 ?_
  refine z_iload (pc := 99) C d_Md_lay_99 4 rfl ?_
  obtain ⟨g3, hm⟩ := gd_s hm
  refine alM_2 (pc := 101) (v := (ga (sa σ s0 s1.toNatClampNeg s2) 2 x5.toNatClampNeg)) C  rfl g3 d_Md_lay_101 ?_
  refine z_iconst (pc := 102) C d_Md_lay_102 ki_3 ?_
  refine z_icmp_eq (pc := 103) (tgt := 122) C d_Md_lay_103 (by decide) (fun c4 => ?_) (fun c4 => ?_)
  · rw [if_pos c4] at hm
    exact w_Md_lay_122 hAD C hr _ h12 (sa σ s0 s1.toNatClampNeg s2) x2 x3 x4 x5 hm
  · rw [if_neg c4] at hm
    refine z_aload_n (pc := 106) C d_Md_lay_106 rfl 0 rfl ?_
    refine gM_Md_172 (pc := 107) C  d_Md_lay_107 ?_
    refine z_iload_n (pc := 110) C d_Md_lay_110 rfl 2 rfl ?_
    refine z_aload_n (pc := 111) C d_Md_lay_111 rfl 0 rfl ?_
    refine gM_Md_27 (pc := 112) C  d_Md_lay_112 ?_
    refine z_iload (pc := 115) C d_Md_lay_115 4 rfl ?_
    refine alM_5 (pc := 117) (v := (ga (sa σ s0 s1.toNatClampNeg s2) 5 x5.toNatClampNeg)) C  rfl g3 d_Md_lay_117 ?_
    obtain ⟨g5, hm⟩ := gd_s hm
    refine asM_53 (pc := 118) C  g5 d_Md_lay_118 ?_
    refine z_iinc (pc := 119) (lv' := [(0, .ref (ad 0)), (2, .ref (ad x2)), (3, .int (x3 + (1 : Int32))), (4, .int x4), (5, .int x5)]) C d_Md_lay_119 2 rfl (ii ki_1) (Nat.le_of_ble_eq_true rfl) [1, 2, 0, 3, 4] rfl ?_
    exact w_Md_lay_122 hAD C hr _ h12 (sa (sa σ s0 s1.toNatClampNeg s2) 53 x3.toNatClampNeg (ga (sa σ s0 s1.toNatClampNeg s2) 5 x5.toNatClampNeg)) x2 (x3 + (1 : Int32)) x4 x5 hm
set_option maxHeartbeats 4000000 in
set_option maxRecDepth 100000 in
theorem w_Md_lay_12 {D : va_G} {ad : Nat → Nat} {cA : Nat → ClassId} {p : Program} {l : Launch} {e : Env} {s : State} {m : MethodId} {args : Array Value} {below : List Frame} {meth : Method} {c : Code} {F : Nat} (hAD : ∀ σ, va_D (owM ad) (wdM ad cA σ)) (C : CM D ad cA xTr p s m args meth c bc_Md_lay "KindRoundsModel" 6) (hr : meth.sig.returnType = some .int) {r : Int32} {σ' : zS} : ∀ (n : Nat) (σ : zS) (x2 : Nat) (x3 : Int32) (x4 : Int32), Md_lay_12 F n σ x2 x3 x4 = some (r, σ') → ZM D ad cA p l e (rmK 0) s m args below meth c 6 (qiM D ad cA below args s r σ') 12 [(0, .ref (ad 0)), (2, .ref (ad x2)), (3, .int x3), (4, .int x4)] [] σ := by
  intro n
  induction n with
  | zero => intro σ x2 x3 x4 hm; cases hm
  | succ n h12 =>
    intro σ x2 x3 x4 hm
    have hm : Md_lay_b12 F (Md_lay_12 F n) σ x2 x3 x4 = some (r, σ') := hm
    unfold Md_lay_b12 at hm
    refine z_iload_n (pc := 12) C d_Md_lay_12 rfl 2 rfl ?_
    refine z_if_le (pc := 13) (tgt := 144) C d_Md_lay_13 (by decide) (fun c1 => ?_) (fun c1 => ?_)
    · rw [if_pos c1] at hm
      refine z_iload (pc := 144) C d_Md_lay_144 3 rfl ?_
      exact z_iretE (pc := 146) C hr hm d_Md_lay_146
    · rw [if_neg c1] at hm
      refine z_iinc (pc := 16) (lv' := [(0, .ref (ad 0)), (2, .ref (ad x2)), (3, .int (x3 + (-1 : Int32))), (4, .int x4)]) C d_Md_lay_16 2 rfl (ii ki_m1) (Nat.le_of_ble_eq_true rfl) [1, 2, 0, 3] rfl ?_
      refine z_aload_n (pc := 19) C d_Md_lay_19 rfl 0 rfl ?_
      refine gM_Md_172 (pc := 20) C  d_Md_lay_20 ?_
      refine z_iload_n (pc := 23) C d_Md_lay_23 rfl 2 rfl ?_
      obtain ⟨g2, hm⟩ := gd_s hm
      refine alM_53 (pc := 24) (v := (ga σ 53 (x3 + (-1 : Int32)).toNatClampNeg)) C  rfl g2 d_Md_lay_24 ?_
      refine z_istore (pc := 25) (lv' := [(0, .ref (ad 0)), (2, .ref (ad x2)), (3, .int (x3 + (-1 : Int32))), (4, .int x4), (5, .int (ga σ 53 (x3 + (-1 : Int32)).toNatClampNeg))]) C d_Md_lay_25 (Nat.le_of_ble_eq_true rfl) [1, 2, 3, 4, 0] rfl ?_
      refine z_aload_n (pc := 27) C d_Md_lay_27 rfl 0 rfl ?_
      refine gM_Md_17 (pc := 28) C  d_Md_lay_28 ?_
      refine z_iload (pc := 31) C d_Md_lay_31 4 rfl ?_
      obtain ⟨g3, hm⟩ := gd_s hm
      refine alM_2 (pc := 33) (v := (ga σ 2 (ga σ 53 (x3 + (-1 : Int32)).toNatClampNeg).toNatClampNeg)) C  rfl g3 d_Md_lay_33 ?_
      refine z_if_eq (pc := 34) (tgt := 48) C d_Md_lay_34 (by decide) (fun c4 => ?_) (fun c4 => ?_)
      · rw [if_pos c4] at hm
        exact w_Md_lay_48 hAD C hr _ h12 σ x2 (x3 + (-1 : Int32)) x4 (ga σ 53 (x3 + (-1 : Int32)).toNatClampNeg) hm
      · rw [if_neg c4] at hm
        refine z_aload_n (pc := 37) C d_Md_lay_37 rfl 0 rfl ?_
        refine gM_Md_17 (pc := 38) C  d_Md_lay_38 ?_
        refine z_iload (pc := 41) C d_Md_lay_41 4 rfl ?_
        refine alM_2 (pc := 43) (v := (ga σ 2 (ga σ 53 (x3 + (-1 : Int32)).toNatClampNeg).toNatClampNeg)) C  rfl g3 d_Md_lay_43 ?_
        refine z_iconst (pc := 44) C d_Md_lay_44 ki_1 ?_
        refine z_icmp_ne (pc := 45) (tgt := 60) C d_Md_lay_45 (by decide) (fun c5 => ?_) (fun c5 => ?_)
        · rw [if_neg c5] at hm
          refine z_aload_n (pc := 60) C d_Md_lay_60 rfl 1 rfl ?_
          refine z_iload (pc := 61) C d_Md_lay_61 3 rfl ?_
          refine z_aload_n (pc := 63) C d_Md_lay_63 rfl 0 rfl ?_
          refine gM_Md_17 (pc := 64) C  d_Md_lay_64 ?_
          refine z_iload (pc := 67) C d_Md_lay_67 4 rfl ?_
          refine alM_2 (pc := 69) (v := (ga σ 2 (ga σ 53 (x3 + (-1 : Int32)).toNatClampNeg).toNatClampNeg)) C  rfl g3 d_Md_lay_69 ?_
          refine z_iconst (pc := 70) C d_Md_lay_70 ki_2 ?_
          refine z_icmp_ne (pc := 71) (tgt := 78) C d_Md_lay_71 (by decide) (fun c6 => ?_) (fun c6 => ?_)
          · rw [if_neg c6] at hm
            refine z_aload_n (pc := 78) C d_Md_lay_78 rfl 0 rfl ?_
            refine gM_Md_17 (pc := 79) C  d_Md_lay_79 ?_
            refine z_iload (pc := 82) C d_Md_lay_82 4 rfl ?_
            refine alM_2 (pc := 84) (v := (ga σ 2 (ga σ 53 (x3 + (-1 : Int32)).toNatClampNeg).toNatClampNeg)) C  rfl g3 d_Md_lay_84 ?_
            refine z_iconst (pc := 85) C d_Md_lay_85 ki_3 ?_
            refine z_icmp_ne (pc := 86) (tgt := 93) C d_Md_lay_86 (by decide) (fun c7 => ?_) (fun c7 => ?_)
            · rw [if_neg c7] at hm
              refine z_iconst (pc := 93) C d_Md_lay_93 ki_2 ?_
              exact w_Md_lay_94 hAD C hr _ h12 σ x2 (x3 + (-1 : Int32)) x4 (ga σ 53 (x3 + (-1 : Int32)).toNatClampNeg) x2 x4 (2 : Int32) hm
            · rw [if_pos c7] at hm
              refine z_iconst (pc := 89) C d_Md_lay_89 ki_1 ?_
              refine z_goto (pc := 90) (tgt := 94) C d_Md_lay_90 (by decide) ?_
              exact w_Md_lay_94 hAD C hr _ h12 σ x2 (x3 + (-1 : Int32)) x4 (ga σ 53 (x3 + (-1 : Int32)).toNatClampNeg) x2 x4 (1 : Int32) hm
          · rw [if_pos c6] at hm
            refine z_iconst (pc := 74) C d_Md_lay_74 ki_0 ?_
            refine z_goto (pc := 75) (tgt := 94) C d_Md_lay_75 (by decide) ?_
            exact w_Md_lay_94 hAD C hr _ h12 σ x2 (x3 + (-1 : Int32)) x4 (ga σ 53 (x3 + (-1 : Int32)).toNatClampNeg) x2 x4 (0 : Int32) hm
        · rw [if_pos c5] at hm
          exact w_Md_lay_48 hAD C hr _ h12 σ x2 (x3 + (-1 : Int32)) x4 (ga σ 53 (x3 + (-1 : Int32)).toNatClampNeg) hm
set_option maxHeartbeats 4000000 in
set_option maxRecDepth 100000 in
theorem k_Md_lay {l : Launch} {D : va_G} {ad : Nat → Nat} {cA : Nat → ClassId} {F : Nat} (hAD : ∀ σ, va_D (owM ad) (wdM ad cA σ)) {σ : zS} {x1 : Int32} {x2 : Nat} {r : Int32} {σ' : zS} (hm : Md_lay F σ x1 x2 = some (r, σ')) : kIM l D ad cA xTr y_Md_lay bc_Md_lay 6 .int 0 [.ref (ad 0), .int x1, .ref (ad x2)] σ r σ' := by
  refine kI_of (by decide) hAD xTr_P (Nat.le_of_ble_eq_true rfl) ?_
  intro p e s m below meth c C hr
  unfold Md_lay at hm
  refine z_lv (lv' := [(0, .ref (ad 0)), (1, .int x1), (2, .ref (ad x2))]) [0, 1, 2] rfl ?_
  refine z_iconst (pc := 0) C d_Md_lay_0 ki_1 ?_
  refine z_istore_n (pc := 1) (lv' := [(0, .ref (ad 0)), (1, .int x1), (2, .ref (ad x2)), (3, .int (1 : Int32))]) C d_Md_lay_1 rfl (Nat.le_of_ble_eq_true rfl) [1, 2, 3, 0] rfl ?_
  refine z_iconst (pc := 2) C d_Md_lay_2 ki_0 ?_
  refine z_istore (pc := 3) (lv' := [(0, .ref (ad 0)), (1, .int x1), (2, .ref (ad x2)), (3, .int (1 : Int32)), (4, .int (0 : Int32))]) C d_Md_lay_3 (Nat.le_of_ble_eq_true rfl) [1, 2, 3, 4, 0] rfl ?_
  refine z_aload_n (pc := 5) C d_Md_lay_5 rfl 0 rfl ?_
  refine gM_Md_172 (pc := 6) C  d_Md_lay_6 ?_
  refine z_iconst (pc := 9) C d_Md_lay_9 ki_0 ?_
  refine z_iload_n (pc := 10) C d_Md_lay_10 rfl 1 rfl ?_
  obtain ⟨g1, hm⟩ := gd_s hm
  refine asM_53 (pc := 11) C  g1 d_Md_lay_11 ?_
  refine z_lv (lv' := [(0, .ref (ad 0)), (2, .ref (ad x2)), (3, .int (1 : Int32)), (4, .int (0 : Int32))]) [0, 2, 3, 4] rfl ?_
  exact w_Md_lay_12 hAD C hr F (sa σ 53 (0 : Int32).toNatClampNeg x1) x2 (1 : Int32) (0 : Int32) hm
set_option maxHeartbeats 4000000 in
set_option maxRecDepth 100000 in
theorem w_Md_end_39 {D : va_G} {ad : Nat → Nat} {cA : Nat → ClassId} {p : Program} {l : Launch} {e : Env} {s : State} {m : MethodId} {args : Array Value} {below : List Frame} {meth : Method} {c : Code} {F : Nat} (hAD : ∀ σ, va_D (owM ad) (wdM ad cA σ)) (C : CM D ad cA xTr p s m args meth c bc_Md_end "KindRoundsModel" 4) (hr : meth.sig.returnType = some .int) {r : Int32} {σ' : zS} (rc4 : zS → Int32 → Int32 → Option (Int32 × zS)) (h4 : ∀ σ x2 x3, rc4 σ x2 x3 = some (r, σ') → ZM D ad cA p l e (rmK 0) s m args below meth c 4 (qiM D ad cA below args s r σ') 4 [(0, .ref (ad 0)), (2, .int x2), (3, .int x3)] [] σ) (σ : zS) (x3 : Int32) (s0 : Int32) (s1 : Int32) (hm : Md_end_39 F rc4 σ x3 s0 s1 = some (r, σ')) : ZM D ad cA p l e (rmK 0) s m args below meth c 4 (qiM D ad cA below args s r σ') 39 [(0, .ref (ad 0)), (3, .int x3)] [.int s1, .int s0] σ := by
  unfold Md_end_39 at hm
  refine z_iadd (pc := 39) C d_Md_end_39 ?_
  refine z_istore_n (pc := 40) (lv' := [(0, .ref (ad 0)), (2, .int (s0 + s1)), (3, .int x3)]) C d_Md_end_40 rfl (Nat.le_of_ble_eq_true rfl) [1, 0, 2] rfl ?_
  refine z_iinc (pc := 41) (lv' := [(0, .ref (ad 0)), (2, .int (s0 + s1)), (3, .int (x3 + (1 : Int32)))]) C d_Md_end_41 2 rfl (ii ki_1) (Nat.le_of_ble_eq_true rfl) [1, 2, 0] rfl ?_
  refine z_goto (pc := 44) (tgt := 4) C d_Md_end_44 (by decide) ?_
  exact h4 σ (s0 + s1) (x3 + (1 : Int32)) hm
set_option maxHeartbeats 4000000 in
set_option maxRecDepth 100000 in
theorem w_Md_end_4 {D : va_G} {ad : Nat → Nat} {cA : Nat → ClassId} {p : Program} {l : Launch} {e : Env} {s : State} {m : MethodId} {args : Array Value} {below : List Frame} {meth : Method} {c : Code} {F : Nat} (hAD : ∀ σ, va_D (owM ad) (wdM ad cA σ)) (C : CM D ad cA xTr p s m args meth c bc_Md_end "KindRoundsModel" 4) (hr : meth.sig.returnType = some .int) {r : Int32} {σ' : zS} : ∀ (n : Nat) (σ : zS) (x2 : Int32) (x3 : Int32), Md_end_4 F n σ x2 x3 = some (r, σ') → ZM D ad cA p l e (rmK 0) s m args below meth c 4 (qiM D ad cA below args s r σ') 4 [(0, .ref (ad 0)), (2, .int x2), (3, .int x3)] [] σ := by
  intro n
  induction n with
  | zero => intro σ x2 x3 hm; cases hm
  | succ n h4 =>
    intro σ x2 x3 hm
    have hm : Md_end_b4 F (Md_end_4 F n) σ x2 x3 = some (r, σ') := hm
    unfold Md_end_b4 at hm
    refine z_iload_n (pc := 4) C d_Md_end_4 rfl 1 rfl ?_
    refine z_if_le (pc := 5) (tgt := 47) C d_Md_end_5 (by decide) (fun c1 => ?_) (fun c1 => ?_)
    · rw [if_pos c1] at hm
      refine z_iload_n (pc := 47) C d_Md_end_47 rfl 2 rfl ?_
      exact z_iretE (pc := 48) C hr hm d_Md_end_48
    · rw [if_neg c1] at hm
      refine z_iload_n (pc := 8) C d_Md_end_8 rfl 1 rfl ?_
      refine z_aload_n (pc := 9) C d_Md_end_9 rfl 0 rfl ?_
      refine gM_Md_190 (pc := 10) C  d_Md_end_10 ?_
      refine z_iload_n (pc := 13) C d_Md_end_13 rfl 2 rfl ?_
      obtain ⟨g2, hm⟩ := gd_s hm
      refine alM_59 (pc := 14) (v := (ga σ 59 x3.toNatClampNeg)) C  rfl g2 d_Md_end_14 ?_
      refine z_bipush (pc := 15) C d_Md_end_15 kb_10 ?_
      refine z_icmp_lt (pc := 17) (tgt := 24) C d_Md_end_17 (by decide) (fun c3 => ?_) (fun c3 => ?_)
      · rw [if_pos c3] at hm
        refine z_aload_n (pc := 24) C d_Md_end_24 rfl 0 rfl ?_
        refine gM_Md_190 (pc := 25) C  d_Md_end_25 ?_
        refine z_iload_n (pc := 28) C d_Md_end_28 rfl 2 rfl ?_
        refine alM_59 (pc := 29) (v := (ga σ 59 x3.toNatClampNeg)) C  rfl g2 d_Md_end_29 ?_
        refine z_iconst (pc := 30) C d_Md_end_30 ki_1 ?_
        refine z_icmp_ne (pc := 31) (tgt := 38) C d_Md_end_31 (by decide) (fun c4 => ?_) (fun c4 => ?_)
        · rw [if_neg c4] at hm
          refine z_iconst (pc := 38) C d_Md_end_38 ki_1 ?_
          refine z_lv (lv' := [(0, .ref (ad 0)), (3, .int x3)]) [0, 2] rfl ?_
          exact w_Md_end_39 hAD C hr _ h4 σ x3 x2 (1 : Int32) hm
        · rw [if_pos c4] at hm
          refine z_iconst (pc := 34) C d_Md_end_34 ki_0 ?_
          refine z_goto (pc := 35) (tgt := 39) C d_Md_end_35 (by decide) ?_
          refine z_lv (lv' := [(0, .ref (ad 0)), (3, .int x3)]) [0, 2] rfl ?_
          exact w_Md_end_39 hAD C hr _ h4 σ x3 x2 (0 : Int32) hm
      · rw [if_neg c3] at hm
        refine z_iconst (pc := 20) C d_Md_end_20 ki_m1 ?_
        refine z_goto (pc := 21) (tgt := 39) C d_Md_end_21 (by decide) ?_
        refine z_lv (lv' := [(0, .ref (ad 0)), (3, .int x3)]) [0, 2] rfl ?_
        exact w_Md_end_39 hAD C hr _ h4 σ x3 x2 (-1 : Int32) hm
set_option maxHeartbeats 4000000 in
set_option maxRecDepth 100000 in
theorem k_Md_end {l : Launch} {D : va_G} {ad : Nat → Nat} {cA : Nat → ClassId} {F : Nat} (hAD : ∀ σ, va_D (owM ad) (wdM ad cA σ)) {σ : zS} {x1 : Int32} {r : Int32} {σ' : zS} (hm : Md_end F σ x1 = some (r, σ')) : kIM l D ad cA xTr y_Md_end bc_Md_end 4 .int 0 [.ref (ad 0), .int x1] σ r σ' := by
  refine kI_of (by decide) hAD xTr_P (Nat.le_of_ble_eq_true rfl) ?_
  intro p e s m below meth c C hr
  unfold Md_end at hm
  refine z_lv (lv' := [(0, .ref (ad 0)), (1, .int x1)]) [0, 1] rfl ?_
  refine z_iconst (pc := 0) C d_Md_end_0 ki_1 ?_
  refine z_istore_n (pc := 1) (lv' := [(0, .ref (ad 0)), (1, .int x1), (2, .int (1 : Int32))]) C d_Md_end_1 rfl (Nat.le_of_ble_eq_true rfl) [1, 2, 0] rfl ?_
  refine z_iload_n (pc := 2) C d_Md_end_2 rfl 1 rfl ?_
  refine z_istore_n (pc := 3) (lv' := [(0, .ref (ad 0)), (1, .int x1), (2, .int (1 : Int32)), (3, .int x1)]) C d_Md_end_3 rfl (Nat.le_of_ble_eq_true rfl) [1, 2, 3, 0] rfl ?_
  refine z_lv (lv' := [(0, .ref (ad 0)), (2, .int (1 : Int32)), (3, .int x1)]) [0, 2, 3] rfl ?_
  exact w_Md_end_4 hAD C hr F σ (1 : Int32) x1 hm
set_option maxHeartbeats 4000000 in
set_option maxRecDepth 100000 in
theorem w_Md_synonym_55 {D : va_G} {ad : Nat → Nat} {cA : Nat → ClassId} {p : Program} {l : Launch} {e : Env} {s : State} {m : MethodId} {args : Array Value} {below : List Frame} {meth : Method} {c : Code} {F : Nat} (hAD : ∀ σ, va_D (owM ad) (wdM ad cA σ)) (C : CM D ad cA xTr p s m args meth c bc_Md_synonym "KindRoundsModel" 3) (hr : meth.sig.returnType = some .int) {r : Int32} {σ' : zS} (σ : zS) (s0 : Int32) (hm : Md_synonym_55 F σ s0 = some (r, σ')) : ZM D ad cA p l e (rmK 1) s m args below meth c 3 (qiM D ad cA below args s r σ') 55 [] [.int s0] σ := by
  unfold Md_synonym_55 at hm
  exact z_iretE (pc := 55) C hr hm d_Md_synonym_55
set_option maxHeartbeats 4000000 in
set_option maxRecDepth 100000 in
theorem w_Md_synonym_54 {D : va_G} {ad : Nat → Nat} {cA : Nat → ClassId} {p : Program} {l : Launch} {e : Env} {s : State} {m : MethodId} {args : Array Value} {below : List Frame} {meth : Method} {c : Code} {F : Nat} (hAD : ∀ σ, va_D (owM ad) (wdM ad cA σ)) (C : CM D ad cA xTr p s m args meth c bc_Md_synonym "KindRoundsModel" 3) (hr : meth.sig.returnType = some .int) {r : Int32} {σ' : zS} (σ : zS) (hm : Md_synonym_54 F σ = some (r, σ')) : ZM D ad cA p l e (rmK 1) s m args below meth c 3 (qiM D ad cA below args s r σ') 54 [] [] σ := by
  unfold Md_synonym_54 at hm
  refine z_iconst (pc := 54) C d_Md_synonym_54 ki_m1 ?_
  exact w_Md_synonym_55 hAD C hr σ (-1 : Int32) hm
set_option maxHeartbeats 4000000 in
set_option maxRecDepth 100000 in
theorem w_Md_synonym_35 {D : va_G} {ad : Nat → Nat} {cA : Nat → ClassId} {p : Program} {l : Launch} {e : Env} {s : State} {m : MethodId} {args : Array Value} {below : List Frame} {meth : Method} {c : Code} {F : Nat} (hAD : ∀ σ, va_D (owM ad) (wdM ad cA σ)) (C : CM D ad cA xTr p s m args meth c bc_Md_synonym "KindRoundsModel" 3) (hr : meth.sig.returnType = some .int) {r : Int32} {σ' : zS} (σ : zS) (s0 : Int32) (hm : Md_synonym_35 F σ s0 = some (r, σ')) : ZM D ad cA p l e (rmK 1) s m args below meth c 3 (qiM D ad cA below args s r σ') 35 [(0, .ref (ad 0))] [.int s0] σ := by
  unfold Md_synonym_35 at hm
  refine z_istore_n (pc := 35) (lv' := [(0, .ref (ad 0)), (2, .int s0)]) C d_Md_synonym_35 rfl (Nat.le_of_ble_eq_true rfl) [1, 0] rfl ?_
  refine z_iload_n (pc := 36) C d_Md_synonym_36 rfl 1 rfl ?_
  refine z_if_lt (pc := 37) (tgt := 54) C d_Md_synonym_37 (by decide) (fun c1 => ?_) (fun c1 => ?_)
  · rw [if_pos c1] at hm
    refine z_lv (lv' := []) [] rfl ?_
    exact w_Md_synonym_54 hAD C hr σ hm
  · rw [if_neg c1] at hm
    refine z_aload_n (pc := 40) C d_Md_synonym_40 rfl 0 rfl ?_
    refine gM_Md_112 (pc := 41) C  d_Md_synonym_41 ?_
    refine z_iload_n (pc := 44) C d_Md_synonym_44 rfl 1 rfl ?_
    obtain ⟨g2, hm⟩ := gd_s hm
    refine alM_33 (pc := 45) (v := (ga σ 33 s0.toNatClampNeg)) C  rfl g2 d_Md_synonym_45 ?_
    refine z_iconst (pc := 46) C d_Md_synonym_46 ki_1 ?_
    refine z_icmp_ne (pc := 47) (tgt := 54) C d_Md_synonym_47 (by decide) (fun c3 => ?_) (fun c3 => ?_)
    · rw [if_neg c3] at hm
      refine z_lv (lv' := []) [] rfl ?_
      exact w_Md_synonym_54 hAD C hr σ hm
    · rw [if_pos c3] at hm
      refine z_iload_n (pc := 50) C d_Md_synonym_50 rfl 1 rfl ?_
      refine z_goto (pc := 51) (tgt := 55) C d_Md_synonym_51 (by decide) ?_
      refine z_lv (lv' := []) [] rfl ?_
      exact w_Md_synonym_55 hAD C hr σ s0 hm
set_option maxHeartbeats 4000000 in
set_option maxRecDepth 100000 in
theorem w_Md_synonym_34 {D : va_G} {ad : Nat → Nat} {cA : Nat → ClassId} {p : Program} {l : Launch} {e : Env} {s : State} {m : MethodId} {args : Array Value} {below : List Frame} {meth : Method} {c : Code} {F : Nat} (hAD : ∀ σ, va_D (owM ad) (wdM ad cA σ)) (C : CM D ad cA xTr p s m args meth c bc_Md_synonym "KindRoundsModel" 3) (hr : meth.sig.returnType = some .int) {r : Int32} {σ' : zS} (σ : zS) (hm : Md_synonym_34 F σ = some (r, σ')) : ZM D ad cA p l e (rmK 1) s m args below meth c 3 (qiM D ad cA below args s r σ') 34 [(0, .ref (ad 0))] [] σ := by
  unfold Md_synonym_34 at hm
  refine z_iconst (pc := 34) C d_Md_synonym_34 ki_m1 ?_
  exact w_Md_synonym_35 hAD C hr σ (-1 : Int32) hm
set_option maxHeartbeats 4000000 in
set_option maxRecDepth 100000 in
theorem k_Md_synonym {l : Launch} {D : va_G} {ad : Nat → Nat} {cA : Nat → ClassId} {F : Nat} (hAD : ∀ σ, va_D (owM ad) (wdM ad cA σ)) {σ : zS} {x1 : Int32} {r : Int32} {σ' : zS} (hm : Md_synonym F σ x1 = some (r, σ')) : kIM l D ad cA xTr y_Md_synonym bc_Md_synonym 3 .int 1 [.ref (ad 0), .int x1] σ r σ' := by
  refine kI_of (by decide) hAD xTr_P (Nat.le_of_ble_eq_true rfl) ?_
  intro p e s m below meth c C hr
  unfold Md_synonym at hm
  refine z_lv (lv' := [(0, .ref (ad 0)), (1, .int x1)]) [0, 1] rfl ?_
  refine z_iload_n (pc := 0) C d_Md_synonym_0 rfl 1 rfl ?_
  refine z_bipush (pc := 1) C d_Md_synonym_1 kb_10 ?_
  refine z_icmp_lt (pc := 3) (tgt := 34) C d_Md_synonym_3 (by decide) (fun c1 => ?_) (fun c1 => ?_)
  · rw [if_pos c1] at hm
    refine z_lv (lv' := [(0, .ref (ad 0))]) [0] rfl ?_
    exact w_Md_synonym_34 hAD C hr σ hm
  · rw [if_neg c1] at hm
    refine z_aload_n (pc := 6) C d_Md_synonym_6 rfl 0 rfl ?_
    refine gM_Md_17 (pc := 7) C  d_Md_synonym_7 ?_
    refine z_iload_n (pc := 10) C d_Md_synonym_10 rfl 1 rfl ?_
    refine z_bipush (pc := 11) C d_Md_synonym_11 kb_10 ?_
    refine z_isub (pc := 13) C d_Md_synonym_13 ?_
    obtain ⟨g2, hm⟩ := gd_s hm
    refine alM_2 (pc := 14) (v := (ga σ 2 (x1 - (10 : Int32)).toNatClampNeg)) C  rfl g2 d_Md_synonym_14 ?_
    refine z_if_ne (pc := 15) (tgt := 34) C d_Md_synonym_15 (by decide) (fun c3 => ?_) (fun c3 => ?_)
    · rw [if_neg c3] at hm
      refine z_lv (lv' := [(0, .ref (ad 0))]) [0] rfl ?_
      exact w_Md_synonym_34 hAD C hr σ hm
    · rw [if_pos c3] at hm
      refine z_aload_n (pc := 18) C d_Md_synonym_18 rfl 0 rfl ?_
      refine z_aload_n (pc := 19) C d_Md_synonym_19 rfl 0 rfl ?_
      refine gM_Md_20 (pc := 20) C  d_Md_synonym_20 ?_
      refine z_iload_n (pc := 23) C d_Md_synonym_23 rfl 1 rfl ?_
      refine z_bipush (pc := 24) C d_Md_synonym_24 kb_10 ?_
      refine z_isub (pc := 26) C d_Md_synonym_26 ?_
      refine alM_3 (pc := 27) (v := (gb σ 3 (x1 - (10 : Int32)).toNatClampNeg)) C  rfl g2 d_Md_synonym_27 ?_
      obtain ⟨r5, σ4, e6, hm⟩ := bi_s hm
      refine z_callI (pc := 28) C (k_Md_typeOf hAD e6) kz_Md_typeOf mM_109 rfl rfl oM_0 rfl (kR_of (Nat.le_of_ble_eq_true rfl) (Nat.le_of_ble_eq_true rfl)) rfl (Nat.le_of_ble_eq_true rfl) d_Md_synonym_28 ?_
      refine z_goto (pc := 31) (tgt := 35) C d_Md_synonym_31 (by decide) ?_
      refine z_lv (lv' := [(0, .ref (ad 0))]) [0] rfl ?_
      exact w_Md_synonym_35 hAD C hr σ4 r5 hm
set_option maxHeartbeats 4000000 in
set_option maxRecDepth 100000 in
theorem w_Md_add_38 {D : va_G} {ad : Nat → Nat} {cA : Nat → ClassId} {p : Program} {l : Launch} {e : Env} {s : State} {m : MethodId} {args : Array Value} {below : List Frame} {meth : Method} {c : Code} {F : Nat} (hAD : ∀ σ, va_D (owM ad) (wdM ad cA σ)) (C : CM D ad cA xTr p s m args meth c bc_Md_add "KindRoundsModel" 2) (hr : meth.sig.returnType = none) {σ' : zS} (σ : zS) (hm : Md_add_38 F σ = some σ') : ZM D ad cA p l e (rmK 0) s m args below meth c 2 (qvM D ad cA below args s σ') 38 [(0, .ref (ad 0))] [] σ := by
  unfold Md_add_38 at hm
  refine z_aload_n (pc := 38) C d_Md_add_38 rfl 0 rfl ?_
  refine z_dup (pc := 39) C d_Md_add_39 rfl ?_
  refine gM_Md_552 (pc := 40) (v := (gi σ 96)) C rfl d_Md_add_40 ?_
  refine z_iconst (pc := 43) C d_Md_add_43 ki_1 ?_
  refine z_iadd (pc := 44) C d_Md_add_44 ?_
  refine pM_Md_552 (pc := 45) C  d_Md_add_45 ?_
  exact z_vretE (pc := 48) C hr hm d_Md_add_48
set_option maxHeartbeats 4000000 in
set_option maxRecDepth 100000 in
theorem w_Md_add_14 {D : va_G} {ad : Nat → Nat} {cA : Nat → ClassId} {p : Program} {l : Launch} {e : Env} {s : State} {m : MethodId} {args : Array Value} {below : List Frame} {meth : Method} {c : Code} {F : Nat} (hAD : ∀ σ, va_D (owM ad) (wdM ad cA σ)) (C : CM D ad cA xTr p s m args meth c bc_Md_add "KindRoundsModel" 2) (hr : meth.sig.returnType = none) {σ' : zS} (σ : zS) (x1 : Int32) (s1 : Int32) (s2 : Int32) (hm : Md_add_14 F σ x1 s1 s2 = some σ') : ZM D ad cA p l e (rmK 0) s m args below meth c 2 (qvM D ad cA below args s σ') 14 [(0, .ref (ad 0)), (1, .int x1)] [.int s2, .int s1, .ref (ad 0)] σ := by
  unfold Md_add_14 at hm
  refine z_iadd (pc := 14) C d_Md_add_14 ?_
  refine pM_Md_549 (pc := 15) C  d_Md_add_15 ?_
  refine z_aload_n (pc := 18) C d_Md_add_18 rfl 0 rfl ?_
  refine gM_Md_552 (pc := 19) (v := (gi σ 96)) C rfl d_Md_add_19 ?_
  refine z_sipush (pc := 22) C d_Md_add_22 ks_1100 ?_
  refine z_icmp_ge (pc := 25) (tgt := 38) C d_Md_add_25 (by decide) (fun c1 => ?_) (fun c1 => ?_)
  · rw [if_pos c1] at hm
    refine z_lv (lv' := [(0, .ref (ad 0))]) [0] rfl ?_
    exact w_Md_add_38 hAD C hr (si σ 97 (s1 + s2)) hm
  · rw [if_neg c1] at hm
    refine z_aload_n (pc := 28) C d_Md_add_28 rfl 0 rfl ?_
    refine gM_Md_193 (pc := 29) C  d_Md_add_29 ?_
    refine z_aload_n (pc := 32) C d_Md_add_32 rfl 0 rfl ?_
    refine gM_Md_552 (pc := 33) (v := (gi σ 96)) C rfl d_Md_add_33 ?_
    refine z_iload_n (pc := 36) C d_Md_add_36 rfl 1 rfl ?_
    obtain ⟨g2, hm⟩ := gd_s hm
    refine asM_60 (pc := 37) C  g2 d_Md_add_37 ?_
    refine z_lv (lv' := [(0, .ref (ad 0))]) [0] rfl ?_
    exact w_Md_add_38 hAD C hr (sa (si σ 97 (s1 + s2)) 60 (gi σ 96).toNatClampNeg x1) hm
set_option maxHeartbeats 4000000 in
set_option maxRecDepth 100000 in
theorem k_Md_add {l : Launch} {D : va_G} {ad : Nat → Nat} {cA : Nat → ClassId} {F : Nat} (hAD : ∀ σ, va_D (owM ad) (wdM ad cA σ)) {σ : zS} {x1 : Int32} {σ' : zS} (hm : Md_add F σ x1 = some σ') : kVM l D ad cA xTr y_Md_add bc_Md_add 2 0 [.ref (ad 0), .int x1] σ σ' := by
  refine kV_of (by decide) hAD xTr_P (Nat.le_of_ble_eq_true rfl) ?_
  intro p e s m below meth c C hr
  unfold Md_add at hm
  refine z_lv (lv' := [(0, .ref (ad 0)), (1, .int x1)]) [0, 1] rfl ?_
  refine z_aload_n (pc := 0) C d_Md_add_0 rfl 0 rfl ?_
  refine z_dup (pc := 1) C d_Md_add_1 rfl ?_
  refine gM_Md_549 (pc := 2) (v := (gi σ 97)) C rfl d_Md_add_2 ?_
  refine z_iload_n (pc := 5) C d_Md_add_5 rfl 1 rfl ?_
  refine z_if_eq (pc := 6) (tgt := 13) C d_Md_add_6 (by decide) (fun c1 => ?_) (fun c1 => ?_)
  · rw [if_pos c1] at hm
    refine z_iconst (pc := 13) C d_Md_add_13 ki_0 ?_
    exact w_Md_add_14 hAD C hr σ x1 (gi σ 97) (0 : Int32) hm
  · rw [if_neg c1] at hm
    refine z_iconst (pc := 9) C d_Md_add_9 ki_1 ?_
    refine z_goto (pc := 10) (tgt := 14) C d_Md_add_10 (by decide) ?_
    exact w_Md_add_14 hAD C hr σ x1 (gi σ 97) (1 : Int32) hm
set_option maxHeartbeats 4000000 in
set_option maxRecDepth 100000 in
theorem w_Md_addSpan_33 {D : va_G} {ad : Nat → Nat} {cA : Nat → ClassId} {p : Program} {l : Launch} {e : Env} {s : State} {m : MethodId} {args : Array Value} {below : List Frame} {meth : Method} {c : Code} {F : Nat} (hAD : ∀ σ, va_D (owM ad) (wdM ad cA σ)) (C : CM D ad cA xTr p s m args meth c bc_Md_addSpan "KindRoundsModel" 4) (hr : meth.sig.returnType = none) {σ' : zS} (σ : zS) (hm : Md_addSpan_33 F σ = some σ') : ZM D ad cA p l e (rmK 1) s m args below meth c 4 (qvM D ad cA below args s σ') 33 [] [] σ := by
  unfold Md_addSpan_33 at hm
  exact z_vretE (pc := 33) C hr hm d_Md_addSpan_33
set_option maxHeartbeats 4000000 in
set_option maxRecDepth 100000 in
theorem w_Md_addSpan_2 {D : va_G} {ad : Nat → Nat} {cA : Nat → ClassId} {p : Program} {l : Launch} {e : Env} {s : State} {m : MethodId} {args : Array Value} {below : List Frame} {meth : Method} {c : Code} {F : Nat} (hAD : ∀ σ, va_D (owM ad) (wdM ad cA σ)) (C : CM D ad cA xTr p s m args meth c bc_Md_addSpan "KindRoundsModel" 4) (hr : meth.sig.returnType = none) {σ' : zS} : ∀ (n : Nat) (σ : zS) (x2 : Int32) (x3 : Int32), Md_addSpan_2 F n σ x2 x3 = some σ' → ZM D ad cA p l e (rmK 1) s m args below meth c 4 (qvM D ad cA below args s σ') 2 [(0, .ref (ad 0)), (2, .int x2), (3, .int x3)] [] σ := by
  intro n
  induction n with
  | zero => intro σ x2 x3 hm; cases hm
  | succ n h2 =>
    intro σ x2 x3 hm
    have hm : Md_addSpan_b2 F (Md_addSpan_2 F n) σ x2 x3 = some σ' := hm
    unfold Md_addSpan_b2 at hm
    refine z_iload_n (pc := 2) C d_Md_addSpan_2 rfl 2 rfl ?_
    refine z_iload_n (pc := 3) C d_Md_addSpan_3 rfl 1 rfl ?_
    refine z_icmp_ge (pc := 4) (tgt := 33) C d_Md_addSpan_4 (by decide) (fun c1 => ?_) (fun c1 => ?_)
    · rw [if_pos c1] at hm
      refine z_lv (lv' := []) [] rfl ?_
      exact w_Md_addSpan_33 hAD C hr σ hm
    · rw [if_neg c1] at hm
      refine z_aload_n (pc := 7) C d_Md_addSpan_7 rfl 0 rfl ?_
      refine gM_Md_549 (pc := 8) (v := (gi σ 97)) C rfl d_Md_addSpan_8 ?_
      refine z_sipush (pc := 11) C d_Md_addSpan_11 ks_200 ?_
      refine z_icmp_gt (pc := 14) (tgt := 33) C d_Md_addSpan_14 (by decide) (fun c2 => ?_) (fun c2 => ?_)
      · rw [if_pos c2] at hm
        refine z_lv (lv' := []) [] rfl ?_
        exact w_Md_addSpan_33 hAD C hr σ hm
      · rw [if_neg c2] at hm
        refine z_aload_n (pc := 17) C d_Md_addSpan_17 rfl 0 rfl ?_
        refine z_aload_n (pc := 18) C d_Md_addSpan_18 rfl 0 rfl ?_
        refine gM_Md_190 (pc := 19) C  d_Md_addSpan_19 ?_
        refine z_iload_n (pc := 22) C d_Md_addSpan_22 rfl 2 rfl ?_
        obtain ⟨g3, hm⟩ := gd_s hm
        refine alM_59 (pc := 23) (v := (ga σ 59 x3.toNatClampNeg)) C  rfl g3 d_Md_addSpan_23 ?_
        obtain ⟨σ4, e5, hm⟩ := bv_s hm
        refine z_callV (pc := 24) C (k_Md_add hAD e5) kz_Md_add mM_173 rfl rfl oM_0 rfl (kR_of (Nat.le_of_ble_eq_true rfl) (Nat.le_of_ble_eq_true rfl)) rfl (Nat.le_of_ble_eq_true rfl) d_Md_addSpan_24 ?_
        refine z_iinc (pc := 27) (lv' := [(0, .ref (ad 0)), (2, .int x2), (3, .int (x3 + (1 : Int32)))]) C d_Md_addSpan_27 2 rfl (ii ki_1) (Nat.le_of_ble_eq_true rfl) [1, 2, 0] rfl ?_
        refine z_goto (pc := 30) (tgt := 2) C d_Md_addSpan_30 (by decide) ?_
        exact h2 σ4 x2 (x3 + (1 : Int32)) hm
set_option maxHeartbeats 4000000 in
set_option maxRecDepth 100000 in
theorem k_Md_addSpan {l : Launch} {D : va_G} {ad : Nat → Nat} {cA : Nat → ClassId} {F : Nat} (hAD : ∀ σ, va_D (owM ad) (wdM ad cA σ)) {σ : zS} {x1 : Int32} {x2 : Int32} {σ' : zS} (hm : Md_addSpan F σ x1 x2 = some σ') : kVM l D ad cA xTr y_Md_addSpan bc_Md_addSpan 4 1 [.ref (ad 0), .int x1, .int x2] σ σ' := by
  refine kV_of (by decide) hAD xTr_P (Nat.le_of_ble_eq_true rfl) ?_
  intro p e s m below meth c C hr
  unfold Md_addSpan at hm
  refine z_lv (lv' := [(0, .ref (ad 0)), (1, .int x1), (2, .int x2)]) [0, 1, 2] rfl ?_
  refine z_iload_n (pc := 0) C d_Md_addSpan_0 rfl 1 rfl ?_
  refine z_istore_n (pc := 1) (lv' := [(0, .ref (ad 0)), (1, .int x1), (2, .int x2), (3, .int x1)]) C d_Md_addSpan_1 rfl (Nat.le_of_ble_eq_true rfl) [1, 2, 3, 0] rfl ?_
  refine z_lv (lv' := [(0, .ref (ad 0)), (2, .int x2), (3, .int x1)]) [0, 2, 3] rfl ?_
  exact w_Md_addSpan_2 hAD C hr F σ x2 x1 hm
set_option maxHeartbeats 4000000 in
set_option maxRecDepth 100000 in
theorem w_Md_behind_7 {D : va_G} {ad : Nat → Nat} {cA : Nat → ClassId} {p : Program} {l : Launch} {e : Env} {s : State} {m : MethodId} {args : Array Value} {below : List Frame} {meth : Method} {c : Code} {F : Nat} (hAD : ∀ σ, va_D (owM ad) (wdM ad cA σ)) (C : CM D ad cA xTr p s m args meth c bc_Md_behind "KindRoundsModel" 5) (hr : meth.sig.returnType = some .int) {r : Int32} {σ' : zS} : ∀ (n : Nat) (σ : zS) (x2 : Int32) (x3 : Int32) (x4 : Int32), Md_behind_7 F n σ x2 x3 x4 = some (r, σ') → ZM D ad cA p l e (rmK 1) s m args below meth c 5 (qiM D ad cA below args s r σ') 7 [(0, .ref (ad 0)), (2, .int x2), (3, .int x3), (4, .int x4)] [] σ := by
  intro n
  induction n with
  | zero => intro σ x2 x3 x4 hm; cases hm
  | succ n h7 =>
    intro σ x2 x3 x4 hm
    have hm : Md_behind_b7 F (Md_behind_7 F n) σ x2 x3 x4 = some (r, σ') := hm
    unfold Md_behind_b7 at hm
    refine z_iload (pc := 7) C d_Md_behind_7 3 rfl ?_
    refine z_iload_n (pc := 9) C d_Md_behind_9 rfl 1 rfl ?_
    refine z_icmp_ge (pc := 10) (tgt := 25) C d_Md_behind_10 (by decide) (fun c1 => ?_) (fun c1 => ?_)
    · rw [if_pos c1] at hm
      refine z_iload_n (pc := 25) C d_Md_behind_25 rfl 2 rfl ?_
      exact z_iretE (pc := 26) C hr hm d_Md_behind_26
    · rw [if_neg c1] at hm
      refine z_aload_n (pc := 13) C d_Md_behind_13 rfl 0 rfl ?_
      refine z_iload_n (pc := 14) C d_Md_behind_14 rfl 2 rfl ?_
      obtain ⟨r3, σ2, e4, hm⟩ := bi_s hm
      refine z_callI (pc := 15) C (k_Md_end hAD e4) kz_Md_end mM_174 rfl rfl oM_0 rfl (kR_of (Nat.le_of_ble_eq_true rfl) (Nat.le_of_ble_eq_true rfl)) rfl (Nat.le_of_ble_eq_true rfl) d_Md_behind_15 ?_
      refine z_istore_n (pc := 18) (lv' := [(0, .ref (ad 0)), (2, .int x2), (3, .int r3), (4, .int x4)]) C d_Md_behind_18 rfl (Nat.le_of_ble_eq_true rfl) [1, 2, 0, 3] rfl ?_
      refine z_iinc (pc := 19) (lv' := [(0, .ref (ad 0)), (2, .int x2), (3, .int r3), (4, .int (x4 + (1 : Int32)))]) C d_Md_behind_19 3 rfl (ii ki_1) (Nat.le_of_ble_eq_true rfl) [1, 2, 3, 0] rfl ?_
      refine z_goto (pc := 22) (tgt := 7) C d_Md_behind_22 (by decide) ?_
      exact h7 σ2 x2 r3 (x4 + (1 : Int32)) hm
set_option maxHeartbeats 4000000 in
set_option maxRecDepth 100000 in
theorem k_Md_behind {l : Launch} {D : va_G} {ad : Nat → Nat} {cA : Nat → ClassId} {F : Nat} (hAD : ∀ σ, va_D (owM ad) (wdM ad cA σ)) {σ : zS} {x1 : Int32} {x2 : Int32} {r : Int32} {σ' : zS} (hm : Md_behind F σ x1 x2 = some (r, σ')) : kIM l D ad cA xTr y_Md_behind bc_Md_behind 5 .int 1 [.ref (ad 0), .int x1, .int x2] σ r σ' := by
  refine kI_of (by decide) hAD xTr_P (Nat.le_of_ble_eq_true rfl) ?_
  intro p e s m below meth c C hr
  unfold Md_behind at hm
  refine z_lv (lv' := [(0, .ref (ad 0)), (1, .int x1), (2, .int x2)]) [0, 1, 2] rfl ?_
  refine z_iload_n (pc := 0) C d_Md_behind_0 rfl 1 rfl ?_
  refine z_iconst (pc := 1) C d_Md_behind_1 ki_1 ?_
  refine z_iadd (pc := 2) C d_Md_behind_2 ?_
  refine z_istore_n (pc := 3) (lv' := [(0, .ref (ad 0)), (1, .int x1), (2, .int x2), (3, .int (x1 + (1 : Int32)))]) C d_Md_behind_3 rfl (Nat.le_of_ble_eq_true rfl) [1, 2, 3, 0] rfl ?_
  refine z_iconst (pc := 4) C d_Md_behind_4 ki_0 ?_
  refine z_istore (pc := 5) (lv' := [(0, .ref (ad 0)), (1, .int x1), (2, .int x2), (3, .int (x1 + (1 : Int32))), (4, .int (0 : Int32))]) C d_Md_behind_5 (Nat.le_of_ble_eq_true rfl) [1, 2, 3, 4, 0] rfl ?_
  refine z_lv (lv' := [(0, .ref (ad 0)), (2, .int x2), (3, .int (x1 + (1 : Int32))), (4, .int (0 : Int32))]) [0, 2, 3, 4] rfl ?_
  exact w_Md_behind_7 hAD C hr F σ x2 (x1 + (1 : Int32)) (0 : Int32) hm
set_option maxHeartbeats 4000000 in
set_option maxRecDepth 100000 in
theorem w_Md_replace_247 {D : va_G} {ad : Nat → Nat} {cA : Nat → ClassId} {p : Program} {l : Launch} {e : Env} {s : State} {m : MethodId} {args : Array Value} {below : List Frame} {meth : Method} {c : Code} {F : Nat} (hAD : ∀ σ, va_D (owM ad) (wdM ad cA σ)) (C : CM D ad cA xTr p s m args meth c bc_Md_replace "KindRoundsModel" 8) (hr : meth.sig.returnType = none) {σ' : zS} (σ : zS) (hm : Md_replace_247 F σ = some σ') : ZM D ad cA p l e (rmK 2) s m args below meth c 8 (qvM D ad cA below args s σ') 247 [(0, .ref (ad 0))] [] σ := by
  unfold Md_replace_247 at hm
  refine z_aload_n (pc := 247) C d_Md_replace_247 rfl 0 rfl ?_
  refine z_aload_n (pc := 248) C d_Md_replace_248 rfl 0 rfl ?_
  refine gM_Md_552 (pc := 249) (v := (gi σ 96)) C rfl d_Md_replace_249 ?_
  refine pM_Md_571 (pc := 252) C  d_Md_replace_252 ?_
  exact z_vretE (pc := 255) C hr hm d_Md_replace_255
set_option maxHeartbeats 4000000 in
set_option maxRecDepth 100000 in
theorem w_Md_replace_208 {D : va_G} {ad : Nat → Nat} {cA : Nat → ClassId} {p : Program} {l : Launch} {e : Env} {s : State} {m : MethodId} {args : Array Value} {below : List Frame} {meth : Method} {c : Code} {F : Nat} (hAD : ∀ σ, va_D (owM ad) (wdM ad cA σ)) (C : CM D ad cA xTr p s m args meth c bc_Md_replace "KindRoundsModel" 8) (hr : meth.sig.returnType = none) {σ' : zS} : ∀ (n : Nat) (σ : zS) (x4 : Int32), Md_replace_208 F n σ x4 = some σ' → ZM D ad cA p l e (rmK 2) s m args below meth c 8 (qvM D ad cA below args s σ') 208 [(0, .ref (ad 0)), (4, .int x4)] [] σ := by
  intro n
  induction n with
  | zero => intro σ x4 hm; cases hm
  | succ n h208 =>
    intro σ x4 hm
    have hm : Md_replace_b208 F (Md_replace_208 F n) σ x4 = some σ' := hm
    unfold Md_replace_b208 at hm
    refine z_iload (pc := 208) C d_Md_replace_208 1 rfl ?_
    refine z_aload_n (pc := 210) C d_Md_replace_210 rfl 0 rfl ?_
    refine gM_Md_552 (pc := 211) (v := (gi σ 96)) C rfl d_Md_replace_211 ?_
    refine z_icmp_ge (pc := 214) (tgt := 247) C d_Md_replace_214 (by decide) (fun c1 => ?_) (fun c1 => ?_)
    · rw [if_pos c1] at hm
      refine z_lv (lv' := [(0, .ref (ad 0))]) [0] rfl ?_
      exact w_Md_replace_247 hAD C hr σ hm
    · rw [if_neg c1] at hm
      refine z_aload_n (pc := 217) C d_Md_replace_217 rfl 0 rfl ?_
      refine gM_Md_549 (pc := 218) (v := (gi σ 97)) C rfl d_Md_replace_218 ?_
      refine z_sipush (pc := 221) C d_Md_replace_221 ks_200 ?_
      refine z_icmp_gt (pc := 224) (tgt := 247) C d_Md_replace_224 (by decide) (fun c2 => ?_) (fun c2 => ?_)
      · rw [if_pos c2] at hm
        refine z_lv (lv' := [(0, .ref (ad 0))]) [0] rfl ?_
        exact w_Md_replace_247 hAD C hr σ hm
      · rw [if_neg c2] at hm
        refine z_aload_n (pc := 227) C d_Md_replace_227 rfl 0 rfl ?_
        refine gM_Md_190 (pc := 228) C  d_Md_replace_228 ?_
        refine z_iload (pc := 231) C d_Md_replace_231 1 rfl ?_
        refine z_aload_n (pc := 233) C d_Md_replace_233 rfl 0 rfl ?_
        refine gM_Md_193 (pc := 234) C  d_Md_replace_234 ?_
        refine z_iload (pc := 237) C d_Md_replace_237 1 rfl ?_
        obtain ⟨g3, hm⟩ := gd_s hm
        refine alM_60 (pc := 239) (v := (ga σ 60 x4.toNatClampNeg)) C  rfl g3 d_Md_replace_239 ?_
        refine asM_59 (pc := 240) C  g3 d_Md_replace_240 ?_
        refine z_iinc (pc := 241) (lv' := [(0, .ref (ad 0)), (4, .int (x4 + (1 : Int32)))]) C d_Md_replace_241 1 rfl (ii ki_1) (Nat.le_of_ble_eq_true rfl) [1, 0] rfl ?_
        refine z_goto (pc := 244) (tgt := 208) C d_Md_replace_244 (by decide) ?_
        exact h208 (sa σ 59 x4.toNatClampNeg (ga σ 60 x4.toNatClampNeg)) (x4 + (1 : Int32)) hm
set_option maxHeartbeats 4000000 in
set_option maxRecDepth 100000 in
theorem w_Md_replace_186 {D : va_G} {ad : Nat → Nat} {cA : Nat → ClassId} {p : Program} {l : Launch} {e : Env} {s : State} {m : MethodId} {args : Array Value} {below : List Frame} {meth : Method} {c : Code} {F : Nat} (hAD : ∀ σ, va_D (owM ad) (wdM ad cA σ)) (C : CM D ad cA xTr p s m args meth c bc_Md_replace "KindRoundsModel" 8) (hr : meth.sig.returnType = none) {σ' : zS} (σ : zS) (x1 : Int32) (x2 : Int32) (hm : Md_replace_186 F σ x1 x2 = some σ') : ZM D ad cA p l e (rmK 2) s m args below meth c 8 (qvM D ad cA below args s σ') 186 [(0, .ref (ad 0)), (1, .int x1), (2, .int x2)] [] σ := by
  unfold Md_replace_186 at hm
  refine z_aload_n (pc := 186) C d_Md_replace_186 rfl 0 rfl ?_
  refine z_aload_n (pc := 187) C d_Md_replace_187 rfl 0 rfl ?_
  refine z_iload_n (pc := 188) C d_Md_replace_188 rfl 1 rfl ?_
  refine z_aload_n (pc := 189) C d_Md_replace_189 rfl 0 rfl ?_
  refine gM_Md_121 (pc := 190) C  d_Md_replace_190 ?_
  refine z_iload_n (pc := 193) C d_Md_replace_193 rfl 2 rfl ?_
  obtain ⟨g1, hm⟩ := gd_s hm
  refine alM_36 (pc := 194) (v := (ga σ 36 x2.toNatClampNeg)) C  rfl g1 d_Md_replace_194 ?_
  obtain ⟨r3, σ2, e4, hm⟩ := bi_s hm
  refine z_callI (pc := 195) C (k_Md_behind hAD e4) kz_Md_behind mM_176 rfl rfl oM_0 rfl (kR_of (Nat.le_of_ble_eq_true rfl) (Nat.le_of_ble_eq_true rfl)) rfl (Nat.le_of_ble_eq_true rfl) d_Md_replace_195 ?_
  refine z_aload_n (pc := 198) C d_Md_replace_198 rfl 0 rfl ?_
  refine gM_Md_571 (pc := 199) (v := (gi σ2 95)) C rfl d_Md_replace_199 ?_
  obtain ⟨σ5, e6, hm⟩ := bv_s hm
  refine z_callV (pc := 202) C (k_Md_addSpan hAD e6) kz_Md_addSpan mM_177 rfl rfl oM_0 rfl (kR_of (Nat.le_of_ble_eq_true rfl) (Nat.le_of_ble_eq_true rfl)) rfl (Nat.le_of_ble_eq_true rfl) d_Md_replace_202 ?_
  refine z_iconst (pc := 205) C d_Md_replace_205 ki_0 ?_
  refine z_istore (pc := 206) (lv' := [(0, .ref (ad 0)), (1, .int x1), (2, .int x2), (4, .int (0 : Int32))]) C d_Md_replace_206 (Nat.le_of_ble_eq_true rfl) [1, 2, 3, 0] rfl ?_
  refine z_lv (lv' := [(0, .ref (ad 0)), (4, .int (0 : Int32))]) [0, 3] rfl ?_
  exact w_Md_replace_208 hAD C hr F σ5 (0 : Int32) hm
set_option maxHeartbeats 4000000 in
set_option maxRecDepth 100000 in
theorem w_Md_replace_180 {D : va_G} {ad : Nat → Nat} {cA : Nat → ClassId} {p : Program} {l : Launch} {e : Env} {s : State} {m : MethodId} {args : Array Value} {below : List Frame} {meth : Method} {c : Code} {F : Nat} (hAD : ∀ σ, va_D (owM ad) (wdM ad cA σ)) (C : CM D ad cA xTr p s m args meth c bc_Md_replace "KindRoundsModel" 8) (hr : meth.sig.returnType = none) {σ' : zS} (rc41 : zS → Int32 → Int32 → Int32 → Int32 → Option zS) (h41 : ∀ σ x1 x2 x3 x4, rc41 σ x1 x2 x3 x4 = some σ' → ZM D ad cA p l e (rmK 2) s m args below meth c 8 (qvM D ad cA below args s σ') 41 [(0, .ref (ad 0)), (1, .int x1), (2, .int x2), (3, .int x3), (4, .int x4)] [] σ) (σ : zS) (x1 : Int32) (x2 : Int32) (x3 : Int32) (x4 : Int32) (hm : Md_replace_180 F rc41 σ x1 x2 x3 x4 = some σ') : ZM D ad cA p l e (rmK 2) s m args below meth c 8 (qvM D ad cA below args s σ') 180 [(0, .ref (ad 0)), (1, .int x1), (2, .int x2), (3, .int x3), (4, .int x4)] [] σ := by
  unfold Md_replace_180 at hm
  refine z_iinc (pc := 180) (lv' := [(0, .ref (ad 0)), (1, .int x1), (2, .int x2), (3, .int x3), (4, .int (x4 + (1 : Int32)))]) C d_Md_replace_180 4 rfl (ii ki_1) (Nat.le_of_ble_eq_true rfl) [1, 2, 3, 4, 0] rfl ?_
  refine z_goto (pc := 183) (tgt := 41) C d_Md_replace_183 (by decide) ?_
  exact h41 σ x1 x2 x3 (x4 + (1 : Int32)) hm
set_option maxHeartbeats 4000000 in
set_option maxRecDepth 100000 in
theorem w_Md_replace_144 {D : va_G} {ad : Nat → Nat} {cA : Nat → ClassId} {p : Program} {l : Launch} {e : Env} {s : State} {m : MethodId} {args : Array Value} {below : List Frame} {meth : Method} {c : Code} {F : Nat} (hAD : ∀ σ, va_D (owM ad) (wdM ad cA σ)) (C : CM D ad cA xTr p s m args meth c bc_Md_replace "KindRoundsModel" 8) (hr : meth.sig.returnType = none) {σ' : zS} (rc41 : zS → Int32 → Int32 → Int32 → Int32 → Option zS) (h41 : ∀ σ x1 x2 x3 x4, rc41 σ x1 x2 x3 x4 = some σ' → ZM D ad cA p l e (rmK 2) s m args below meth c 8 (qvM D ad cA below args s σ') 41 [(0, .ref (ad 0)), (1, .int x1), (2, .int x2), (3, .int x3), (4, .int x4)] [] σ) (σ : zS) (x1 : Int32) (x2 : Int32) (x3 : Int32) (x4 : Int32) (x5 : Int32) (x6 : Int32) (hm : Md_replace_144 F rc41 σ x1 x2 x3 x4 x5 x6 = some σ') : ZM D ad cA p l e (rmK 2) s m args below meth c 8 (qvM D ad cA below args s σ') 144 [(0, .ref (ad 0)), (1, .int x1), (2, .int x2), (3, .int x3), (4, .int x4), (5, .int x5), (6, .int x6)] [] σ := by
  unfold Md_replace_144 at hm
  refine z_iload (pc := 144) C d_Md_replace_144 6 rfl ?_
  refine z_if_ge (pc := 146) (tgt := 158) C d_Md_replace_146 (by decide) (fun c1 => ?_) (fun c1 => ?_)
  · rw [if_pos c1] at hm
    refine z_aload_n (pc := 158) C d_Md_replace_158 rfl 0 rfl ?_
    refine z_aload_n (pc := 159) C d_Md_replace_159 rfl 0 rfl ?_
    refine z_iload_n (pc := 160) C d_Md_replace_160 rfl 1 rfl ?_
    refine z_iload (pc := 161) C d_Md_replace_161 6 rfl ?_
    obtain ⟨r3, σ2, e4, hm⟩ := bi_s hm
    refine z_callI (pc := 163) C (k_Md_behind hAD e4) kz_Md_behind mM_176 rfl rfl oM_0 rfl (kR_of (Nat.le_of_ble_eq_true rfl) (Nat.le_of_ble_eq_true rfl)) rfl (Nat.le_of_ble_eq_true rfl) d_Md_replace_163 ?_
    refine z_aload_n (pc := 166) C d_Md_replace_166 rfl 0 rfl ?_
    refine z_aload_n (pc := 167) C d_Md_replace_167 rfl 0 rfl ?_
    refine z_iload_n (pc := 168) C d_Md_replace_168 rfl 1 rfl ?_
    refine z_iload (pc := 169) C d_Md_replace_169 6 rfl ?_
    obtain ⟨r6, σ5, e7, hm⟩ := bi_s hm
    refine z_callI (pc := 171) C (k_Md_behind hAD e7) kz_Md_behind mM_176 rfl rfl oM_0 rfl (kR_of (Nat.le_of_ble_eq_true rfl) (Nat.le_of_ble_eq_true rfl)) rfl (Nat.le_of_ble_eq_true rfl) d_Md_replace_171 ?_
    obtain ⟨r9, σ8, e10, hm⟩ := bi_s hm
    refine z_callI (pc := 174) C (k_Md_end hAD e10) kz_Md_end mM_174 rfl rfl oM_0 rfl (kR_of (Nat.le_of_ble_eq_true rfl) (Nat.le_of_ble_eq_true rfl)) rfl (Nat.le_of_ble_eq_true rfl) d_Md_replace_174 ?_
    obtain ⟨σ11, e12, hm⟩ := bv_s hm
    refine z_callV (pc := 177) C (k_Md_addSpan hAD e12) kz_Md_addSpan mM_177 rfl rfl oM_0 rfl (kR_of (Nat.le_of_ble_eq_true rfl) (Nat.le_of_ble_eq_true rfl)) rfl (Nat.le_of_ble_eq_true rfl) d_Md_replace_177 ?_
    refine z_lv (lv' := [(0, .ref (ad 0)), (1, .int x1), (2, .int x2), (3, .int x3), (4, .int x4)]) [0, 1, 2, 3, 4] rfl ?_
    exact w_Md_replace_180 hAD C hr _ h41 σ11 x1 x2 x3 x4 hm
  · rw [if_neg c1] at hm
    refine z_aload_n (pc := 149) C d_Md_replace_149 rfl 0 rfl ?_
    refine z_iload (pc := 150) C d_Md_replace_150 5 rfl ?_
    obtain ⟨σ13, e14, hm⟩ := bv_s hm
    refine z_callV (pc := 152) C (k_Md_add hAD e14) kz_Md_add mM_173 rfl rfl oM_0 rfl (kR_of (Nat.le_of_ble_eq_true rfl) (Nat.le_of_ble_eq_true rfl)) rfl (Nat.le_of_ble_eq_true rfl) d_Md_replace_152 ?_
    refine z_goto (pc := 155) (tgt := 180) C d_Md_replace_155 (by decide) ?_
    refine z_lv (lv' := [(0, .ref (ad 0)), (1, .int x1), (2, .int x2), (3, .int x3), (4, .int x4)]) [0, 1, 2, 3, 4] rfl ?_
    exact w_Md_replace_180 hAD C hr _ h41 σ13 x1 x2 x3 x4 hm
set_option maxHeartbeats 4000000 in
set_option maxRecDepth 100000 in
theorem w_Md_replace_136 {D : va_G} {ad : Nat → Nat} {cA : Nat → ClassId} {p : Program} {l : Launch} {e : Env} {s : State} {m : MethodId} {args : Array Value} {below : List Frame} {meth : Method} {c : Code} {F : Nat} (hAD : ∀ σ, va_D (owM ad) (wdM ad cA σ)) (C : CM D ad cA xTr p s m args meth c bc_Md_replace "KindRoundsModel" 8) (hr : meth.sig.returnType = none) {σ' : zS} (rc41 : zS → Int32 → Int32 → Int32 → Int32 → Option zS) (rc72 : zS → Int32 → Int32 → Int32 → Int32 → Int32 → Int32 → Int32 → Option zS) (h41 : ∀ σ x1 x2 x3 x4, rc41 σ x1 x2 x3 x4 = some σ' → ZM D ad cA p l e (rmK 2) s m args below meth c 8 (qvM D ad cA below args s σ') 41 [(0, .ref (ad 0)), (1, .int x1), (2, .int x2), (3, .int x3), (4, .int x4)] [] σ) (h72 : ∀ σ x1 x2 x3 x4 x5 x6 x7, rc72 σ x1 x2 x3 x4 x5 x6 x7 = some σ' → ZM D ad cA p l e (rmK 2) s m args below meth c 8 (qvM D ad cA below args s σ') 72 [(0, .ref (ad 0)), (1, .int x1), (2, .int x2), (3, .int x3), (4, .int x4), (5, .int x5), (6, .int x6), (7, .int x7)] [] σ) (σ : zS) (x1 : Int32) (x2 : Int32) (x3 : Int32) (x4 : Int32) (x5 : Int32) (x7 : Int32) (s0 : Int32) (hm : Md_replace_136 F rc41 rc72 σ x1 x2 x3 x4 x5 x7 s0 = some σ') : ZM D ad cA p l e (rmK 2) s m args below meth c 8 (qvM D ad cA below args s σ') 136 [(0, .ref (ad 0)), (1, .int x1), (2, .int x2), (3, .int x3), (4, .int x4), (5, .int x5), (7, .int x7)] [.int s0] σ := by
  unfold Md_replace_136 at hm
  refine z_istore (pc := 136) (lv' := [(0, .ref (ad 0)), (1, .int x1), (2, .int x2), (3, .int x3), (4, .int x4), (5, .int x5), (6, .int s0), (7, .int x7)]) C d_Md_replace_136 (Nat.le_of_ble_eq_true rfl) [1, 2, 3, 4, 5, 6, 0, 7] rfl ?_
  refine z_iinc (pc := 138) (lv' := [(0, .ref (ad 0)), (1, .int x1), (2, .int x2), (3, .int x3), (4, .int x4), (5, .int x5), (6, .int s0), (7, .int (x7 + (1 : Int32)))]) C d_Md_replace_138 7 rfl (ii ki_1) (Nat.le_of_ble_eq_true rfl) [1, 2, 3, 4, 5, 6, 7, 0] rfl ?_
  refine z_goto (pc := 141) (tgt := 72) C d_Md_replace_141 (by decide) ?_
  exact h72 σ x1 x2 x3 x4 x5 s0 (x7 + (1 : Int32)) hm
set_option maxHeartbeats 4000000 in
set_option maxRecDepth 100000 in
theorem w_Md_replace_72 {D : va_G} {ad : Nat → Nat} {cA : Nat → ClassId} {p : Program} {l : Launch} {e : Env} {s : State} {m : MethodId} {args : Array Value} {below : List Frame} {meth : Method} {c : Code} {F : Nat} (hAD : ∀ σ, va_D (owM ad) (wdM ad cA σ)) (C : CM D ad cA xTr p s m args meth c bc_Md_replace "KindRoundsModel" 8) (hr : meth.sig.returnType = none) {σ' : zS} (rc41 : zS → Int32 → Int32 → Int32 → Int32 → Option zS) (h41 : ∀ σ x1 x2 x3 x4, rc41 σ x1 x2 x3 x4 = some σ' → ZM D ad cA p l e (rmK 2) s m args below meth c 8 (qvM D ad cA below args s σ') 41 [(0, .ref (ad 0)), (1, .int x1), (2, .int x2), (3, .int x3), (4, .int x4)] [] σ) : ∀ (n : Nat) (σ : zS) (x1 : Int32) (x2 : Int32) (x3 : Int32) (x4 : Int32) (x5 : Int32) (x6 : Int32) (x7 : Int32), Md_replace_72 F rc41 n σ x1 x2 x3 x4 x5 x6 x7 = some σ' → ZM D ad cA p l e (rmK 2) s m args below meth c 8 (qvM D ad cA below args s σ') 72 [(0, .ref (ad 0)), (1, .int x1), (2, .int x2), (3, .int x3), (4, .int x4), (5, .int x5), (6, .int x6), (7, .int x7)] [] σ := by
  intro n
  induction n with
  | zero => intro σ x1 x2 x3 x4 x5 x6 x7 hm; cases hm
  | succ n h72 =>
    intro σ x1 x2 x3 x4 x5 x6 x7 hm
    have hm : Md_replace_b72 F rc41 (Md_replace_72 F rc41 n) σ x1 x2 x3 x4 x5 x6 x7 = some σ' := hm
    unfold Md_replace_b72 at hm
    refine z_iload (pc := 72) C d_Md_replace_72 7 rfl ?_
    refine z_aload_n (pc := 74) C d_Md_replace_74 rfl 0 rfl ?_
    refine gM_Md_121 (pc := 75) C  d_Md_replace_75 ?_
    refine z_iload_n (pc := 78) C d_Md_replace_78 rfl 2 rfl ?_
    obtain ⟨g1, hm⟩ := gd_s hm
    refine alM_36 (pc := 79) (v := (ga σ 36 x2.toNatClampNeg)) C  rfl g1 d_Md_replace_79 ?_
    refine z_icmp_ge (pc := 80) (tgt := 144) C d_Md_replace_80 (by decide) (fun c2 => ?_) (fun c2 => ?_)
    · rw [if_pos c2] at hm
      refine z_lv (lv' := [(0, .ref (ad 0)), (1, .int x1), (2, .int x2), (3, .int x3), (4, .int x4), (5, .int x5), (6, .int x6)]) [0, 1, 2, 3, 4, 5, 6] rfl ?_
      exact w_Md_replace_144 hAD C hr _ h41 σ x1 x2 x3 x4 x5 x6 hm
    · rw [if_neg c2] at hm
      refine z_iload (pc := 83) C d_Md_replace_83 5 rfl ?_
      refine z_bipush (pc := 85) C d_Md_replace_85 kb_10 ?_
      refine z_icmp_lt (pc := 87) (tgt := 144) C d_Md_replace_87 (by decide) (fun c3 => ?_) (fun c3 => ?_)
      · rw [if_pos c3] at hm
        refine z_lv (lv' := [(0, .ref (ad 0)), (1, .int x1), (2, .int x2), (3, .int x3), (4, .int x4), (5, .int x5), (6, .int x6)]) [0, 1, 2, 3, 4, 5, 6] rfl ?_
        exact w_Md_replace_144 hAD C hr _ h41 σ x1 x2 x3 x4 x5 x6 hm
      · rw [if_neg c3] at hm
        refine z_aload_n (pc := 90) C d_Md_replace_90 rfl 0 rfl ?_
        refine gM_Md_17 (pc := 91) C  d_Md_replace_91 ?_
        refine z_iload (pc := 94) C d_Md_replace_94 5 rfl ?_
        refine z_bipush (pc := 96) C d_Md_replace_96 kb_10 ?_
        refine z_isub (pc := 98) C d_Md_replace_98 ?_
        obtain ⟨g4, hm⟩ := gd_s hm
        refine alM_2 (pc := 99) (v := (ga σ 2 (x5 - (10 : Int32)).toNatClampNeg)) C  rfl g4 d_Md_replace_99 ?_
        refine z_iconst (pc := 100) C d_Md_replace_100 ki_1 ?_
        refine z_icmp_ne (pc := 101) (tgt := 144) C d_Md_replace_101 (by decide) (fun c5 => ?_) (fun c5 => ?_)
        · rw [if_neg c5] at hm
          refine z_lv (lv' := [(0, .ref (ad 0)), (1, .int x1), (2, .int x2), (3, .int x3), (4, .int x4), (5, .int x5), (6, .int x6)]) [0, 1, 2, 3, 4, 5, 6] rfl ?_
          exact w_Md_replace_144 hAD C hr _ h41 σ x1 x2 x3 x4 x5 x6 hm
        · rw [if_pos c5] at hm
          refine z_aload_n (pc := 104) C d_Md_replace_104 rfl 0 rfl ?_
          refine gM_Md_124 (pc := 105) C  d_Md_replace_105 ?_
          refine z_iconst (pc := 108) C d_Md_replace_108 ki_3 ?_
          refine z_iload_n (pc := 109) C d_Md_replace_109 rfl 2 rfl ?_
          refine z_imul (pc := 110) C d_Md_replace_110 ?_
          refine z_iload (pc := 111) C d_Md_replace_111 7 rfl ?_
          refine z_iadd (pc := 113) C d_Md_replace_113 ?_
          obtain ⟨g6, hm⟩ := gd_s hm
          refine alM_37 (pc := 114) (v := (gb σ 37 (((3 : Int32) * x2) + x7).toNatClampNeg)) C  rfl g6 d_Md_replace_114 ?_
          refine z_aload_n (pc := 115) C d_Md_replace_115 rfl 0 rfl ?_
          refine gM_Md_20 (pc := 116) C  d_Md_replace_116 ?_
          refine z_iload (pc := 119) C d_Md_replace_119 5 rfl ?_
          refine z_bipush (pc := 121) C d_Md_replace_121 kb_10 ?_
          refine z_isub (pc := 123) C d_Md_replace_123 ?_
          refine alM_3 (pc := 124) (v := (gb σ 3 (x5 - (10 : Int32)).toNatClampNeg)) C  rfl g4 d_Md_replace_124 ?_
          refine z_lcmp (pc := 125) C d_Md_replace_125 ?_
          refine z_if_ne (pc := 126) (tgt := 134) C d_Md_replace_126 (by decide) (fun c7 => ?_) (fun c7 => ?_)
          · rw [if_neg c7] at hm
            refine z_iload (pc := 134) C d_Md_replace_134 6 rfl ?_
            refine z_lv (lv' := [(0, .ref (ad 0)), (1, .int x1), (2, .int x2), (3, .int x3), (4, .int x4), (5, .int x5), (7, .int x7)]) [0, 1, 2, 3, 4, 5, 7] rfl ?_
            exact w_Md_replace_136 hAD C hr _ _ h41 h72 σ x1 x2 x3 x4 x5 x7 x6 hm
          · rw [if_pos c7] at hm
            refine z_iload (pc := 129) C d_Md_replace_129 7 rfl ?_
            refine z_goto (pc := 131) (tgt := 136) C d_Md_replace_131 (by decide) ?_
            refine z_lv (lv' := [(0, .ref (ad 0)), (1, .int x1), (2, .int x2), (3, .int x3), (4, .int x4), (5, .int x5), (7, .int x7)]) [0, 1, 2, 3, 4, 5, 7] rfl ?_
            exact w_Md_replace_136 hAD C hr _ _ h41 h72 σ x1 x2 x3 x4 x5 x7 x7 hm
set_option maxHeartbeats 4000000 in
set_option maxRecDepth 100000 in
theorem w_Md_replace_41 {D : va_G} {ad : Nat → Nat} {cA : Nat → ClassId} {p : Program} {l : Launch} {e : Env} {s : State} {m : MethodId} {args : Array Value} {below : List Frame} {meth : Method} {c : Code} {F : Nat} (hAD : ∀ σ, va_D (owM ad) (wdM ad cA σ)) (C : CM D ad cA xTr p s m args meth c bc_Md_replace "KindRoundsModel" 8) (hr : meth.sig.returnType = none) {σ' : zS} : ∀ (n : Nat) (σ : zS) (x1 : Int32) (x2 : Int32) (x3 : Int32) (x4 : Int32), Md_replace_41 F n σ x1 x2 x3 x4 = some σ' → ZM D ad cA p l e (rmK 2) s m args below meth c 8 (qvM D ad cA below args s σ') 41 [(0, .ref (ad 0)), (1, .int x1), (2, .int x2), (3, .int x3), (4, .int x4)] [] σ := by
  intro n
  induction n with
  | zero => intro σ x1 x2 x3 x4 hm; cases hm
  | succ n h41 =>
    intro σ x1 x2 x3 x4 hm
    have hm : Md_replace_b41 F (Md_replace_41 F n) σ x1 x2 x3 x4 = some σ' := hm
    unfold Md_replace_b41 at hm
    refine z_iload (pc := 41) C d_Md_replace_41 4 rfl ?_
    refine z_iload_n (pc := 43) C d_Md_replace_43 rfl 3 rfl ?_
    refine z_icmp_ge (pc := 44) (tgt := 186) C d_Md_replace_44 (by decide) (fun c1 => ?_) (fun c1 => ?_)
    · rw [if_pos c1] at hm
      refine z_lv (lv' := [(0, .ref (ad 0)), (1, .int x1), (2, .int x2)]) [0, 1, 2] rfl ?_
      exact w_Md_replace_186 hAD C hr σ x1 x2 hm
    · rw [if_neg c1] at hm
      refine z_aload_n (pc := 47) C d_Md_replace_47 rfl 0 rfl ?_
      refine gM_Md_549 (pc := 48) (v := (gi σ 97)) C rfl d_Md_replace_48 ?_
      refine z_sipush (pc := 51) C d_Md_replace_51 ks_200 ?_
      refine z_icmp_gt (pc := 54) (tgt := 186) C d_Md_replace_54 (by decide) (fun c2 => ?_) (fun c2 => ?_)
      · rw [if_pos c2] at hm
        refine z_lv (lv' := [(0, .ref (ad 0)), (1, .int x1), (2, .int x2)]) [0, 1, 2] rfl ?_
        exact w_Md_replace_186 hAD C hr σ x1 x2 hm
      · rw [if_neg c2] at hm
        refine z_aload_n (pc := 57) C d_Md_replace_57 rfl 0 rfl ?_
        refine gM_Md_196 (pc := 58) C  d_Md_replace_58 ?_
        refine z_iload (pc := 61) C d_Md_replace_61 4 rfl ?_
        obtain ⟨g3, hm⟩ := gd_s hm
        refine alM_61 (pc := 63) (v := (ga σ 61 x4.toNatClampNeg)) C  rfl g3 d_Md_replace_63 ?_
        refine z_istore (pc := 64) (lv' := [(0, .ref (ad 0)), (1, .int x1), (2, .int x2), (3, .int x3), (4, .int x4), (5, .int (ga σ 61 x4.toNatClampNeg))]) C d_Md_replace_64 (Nat.le_of_ble_eq_true rfl) [1, 2, 3, 4, 5, 0] rfl ?_
        refine z_iconst (pc := 66) C d_Md_replace_66 ki_m1 ?_
        refine z_istore (pc := 67) (lv' := [(0, .ref (ad 0)), (1, .int x1), (2, .int x2), (3, .int x3), (4, .int x4), (5, .int (ga σ 61 x4.toNatClampNeg)), (6, .int (-1 : Int32))]) C d_Md_replace_67 (Nat.le_of_ble_eq_true rfl) [1, 2, 3, 4, 5, 6, 0] rfl ?_
        refine z_iconst (pc := 69) C d_Md_replace_69 ki_0 ?_
        refine z_istore (pc := 70) (lv' := [(0, .ref (ad 0)), (1, .int x1), (2, .int x2), (3, .int x3), (4, .int x4), (5, .int (ga σ 61 x4.toNatClampNeg)), (6, .int (-1 : Int32)), (7, .int (0 : Int32))]) C d_Md_replace_70 (Nat.le_of_ble_eq_true rfl) [1, 2, 3, 4, 5, 6, 7, 0] rfl ?_
        exact w_Md_replace_72 hAD C hr _ h41 F σ x1 x2 x3 x4 (ga σ 61 x4.toNatClampNeg) (-1 : Int32) (0 : Int32) hm
set_option maxHeartbeats 4000000 in
set_option maxRecDepth 100000 in
theorem k_Md_replace {l : Launch} {D : va_G} {ad : Nat → Nat} {cA : Nat → ClassId} {F : Nat} (hAD : ∀ σ, va_D (owM ad) (wdM ad cA σ)) {σ : zS} {x1 : Int32} {x2 : Int32} {σ' : zS} (hm : Md_replace F σ x1 x2 = some σ') : kVM l D ad cA xTr y_Md_replace bc_Md_replace 8 2 [.ref (ad 0), .int x1, .int x2] σ σ' := by
  refine kV_of (by decide) hAD xTr_P (Nat.le_of_ble_eq_true rfl) ?_
  intro p e s m below meth c C hr
  unfold Md_replace at hm
  refine z_lv (lv' := [(0, .ref (ad 0)), (1, .int x1), (2, .int x2)]) [0, 1, 2] rfl ?_
  refine z_aload_n (pc := 0) C d_Md_replace_0 rfl 0 rfl ?_
  refine z_iconst (pc := 1) C d_Md_replace_1 ki_0 ?_
  refine pM_Md_552 (pc := 2) C  d_Md_replace_2 ?_
  refine z_aload_n (pc := 5) C d_Md_replace_5 rfl 0 rfl ?_
  refine z_iconst (pc := 6) C d_Md_replace_6 ki_0 ?_
  refine pM_Md_549 (pc := 7) C  d_Md_replace_7 ?_
  refine z_aload_n (pc := 10) C d_Md_replace_10 rfl 0 rfl ?_
  refine z_iconst (pc := 11) C d_Md_replace_11 ki_0 ?_
  refine z_iload_n (pc := 12) C d_Md_replace_12 rfl 1 rfl ?_
  refine z_aload_n (pc := 13) C d_Md_replace_13 rfl 0 rfl ?_
  refine gM_Md_121 (pc := 14) C  d_Md_replace_14 ?_
  refine z_iload_n (pc := 17) C d_Md_replace_17 rfl 2 rfl ?_
  obtain ⟨g1, hm⟩ := gd_s hm
  refine alM_36 (pc := 18) (v := (ga σ 36 x2.toNatClampNeg)) C  rfl g1 d_Md_replace_18 ?_
  refine z_isub (pc := 19) C d_Md_replace_19 ?_
  obtain ⟨σ2, e3, hm⟩ := bv_s hm
  refine z_callV (pc := 20) C (k_Md_addSpan hAD e3) kz_Md_addSpan mM_177 rfl rfl oM_0 rfl (kR_of (Nat.le_of_ble_eq_true rfl) (Nat.le_of_ble_eq_true rfl)) rfl (Nat.le_of_ble_eq_true rfl) d_Md_replace_20 ?_
  refine z_aload_n (pc := 23) C d_Md_replace_23 rfl 0 rfl ?_
  refine z_aload_n (pc := 24) C d_Md_replace_24 rfl 0 rfl ?_
  refine gM_Md_136 (pc := 25) C  d_Md_replace_25 ?_
  refine z_iload_n (pc := 28) C d_Md_replace_28 rfl 2 rfl ?_
  refine alM_41 (pc := 29) (v := (ga σ2 41 x2.toNatClampNeg)) C  rfl g1 d_Md_replace_29 ?_
  refine z_aload_n (pc := 30) C d_Md_replace_30 rfl 0 rfl ?_
  refine gM_Md_196 (pc := 31) C  d_Md_replace_31 ?_
  obtain ⟨r5, σ4, e6, hm⟩ := bi_s hm
  refine z_callI (pc := 34) C (k_Md_lay hAD e6) kz_Md_lay mM_179 rfl rfl oM_0 rfl (kR_of (Nat.le_of_ble_eq_true rfl) (Nat.le_of_ble_eq_true rfl)) rfl (Nat.le_of_ble_eq_true rfl) d_Md_replace_34 ?_
  refine z_istore_n (pc := 37) (lv' := [(0, .ref (ad 0)), (1, .int x1), (2, .int x2), (3, .int r5)]) C d_Md_replace_37 rfl (Nat.le_of_ble_eq_true rfl) [1, 2, 3, 0] rfl ?_
  refine z_iconst (pc := 38) C d_Md_replace_38 ki_0 ?_
  refine z_istore (pc := 39) (lv' := [(0, .ref (ad 0)), (1, .int x1), (2, .int x2), (3, .int r5), (4, .int (0 : Int32))]) C d_Md_replace_39 (Nat.le_of_ble_eq_true rfl) [1, 2, 3, 4, 0] rfl ?_
  exact w_Md_replace_41 hAD C hr F σ4 x1 x2 r5 (0 : Int32) hm
set_option maxHeartbeats 4000000 in
set_option maxRecDepth 100000 in
theorem w_Md_isPlain_17 {D : va_G} {ad : Nat → Nat} {cA : Nat → ClassId} {p : Program} {l : Launch} {e : Env} {s : State} {m : MethodId} {args : Array Value} {below : List Frame} {meth : Method} {c : Code} {F : Nat} (hAD : ∀ σ, va_D (owM ad) (wdM ad cA σ)) (C : CM D ad cA xTr p s m args meth c bc_Md_isPlain "KindRoundsModel" 5) (hr : meth.sig.returnType = some .boolean) {r : Int32} {σ' : zS} : ∀ (n : Nat) (σ : zS) (x2 : Int32) (x3 : Int32), Md_isPlain_17 F n σ x2 x3 = some (r, σ') → ZM D ad cA p l e (rmK 3) s m args below meth c 5 (qiM D ad cA below args s r σ') 17 [(0, .ref (ad 0)), (2, .int x2), (3, .int x3)] [] σ := by
  intro n
  induction n with
  | zero => intro σ x2 x3 hm; cases hm
  | succ n h17 =>
    intro σ x2 x3 hm
    have hm : Md_isPlain_b17 F (Md_isPlain_17 F n) σ x2 x3 = some (r, σ') := hm
    unfold Md_isPlain_b17 at hm
    refine z_iload_n (pc := 17) C d_Md_isPlain_17 rfl 2 rfl ?_
    refine z_aload_n (pc := 18) C d_Md_isPlain_18 rfl 0 rfl ?_
    refine gM_Md_571 (pc := 19) (v := (gi σ 95)) C rfl d_Md_isPlain_19 ?_
    refine z_icmp_ge (pc := 22) (tgt := 84) C d_Md_isPlain_22 (by decide) (fun c1 => ?_) (fun c1 => ?_)
    · rw [if_pos c1] at hm
      refine z_iconst (pc := 84) C d_Md_isPlain_84 ki_1 ?_
      exact z_zretE (pc := 85) C hr (by decide) hm d_Md_isPlain_85
    · rw [if_neg c1] at hm
      refine z_aload_n (pc := 25) C d_Md_isPlain_25 rfl 0 rfl ?_
      refine z_aload_n (pc := 26) C d_Md_isPlain_26 rfl 0 rfl ?_
      refine gM_Md_190 (pc := 27) C  d_Md_isPlain_27 ?_
      refine z_iload_n (pc := 30) C d_Md_isPlain_30 rfl 2 rfl ?_
      obtain ⟨g2, hm⟩ := gd_s hm
      refine alM_59 (pc := 31) (v := (ga σ 59 x3.toNatClampNeg)) C  rfl g2 d_Md_isPlain_31 ?_
      obtain ⟨r4, σ3, e5, hm⟩ := bi_s hm
      refine z_callI (pc := 32) C (k_Md_synonym hAD e5) kz_Md_synonym mM_180 rfl rfl oM_0 rfl (kR_of (Nat.le_of_ble_eq_true rfl) (Nat.le_of_ble_eq_true rfl)) rfl (Nat.le_of_ble_eq_true rfl) d_Md_isPlain_32 ?_
      refine z_istore (pc := 35) (lv' := [(0, .ref (ad 0)), (2, .int x2), (3, .int x3), (4, .int r4)]) C d_Md_isPlain_35 (Nat.le_of_ble_eq_true rfl) [1, 2, 3, 0] rfl ?_
      refine z_iload (pc := 37) C d_Md_isPlain_37 3 rfl ?_
      refine z_if_ge (pc := 39) (tgt := 48) C d_Md_isPlain_39 (by decide) (fun c6 => ?_) (fun c6 => ?_)
      · rw [if_pos c6] at hm
        refine z_iinc (pc := 48) (lv' := [(0, .ref (ad 0)), (2, .int (x2 + (1 : Int32))), (3, .int x3), (4, .int r4)]) C d_Md_isPlain_48 1 rfl (ii ki_1) (Nat.le_of_ble_eq_true rfl) [1, 0, 2, 3] rfl ?_
        refine z_iload_n (pc := 51) C d_Md_isPlain_51 rfl 1 rfl ?_
        refine z_sipush (pc := 52) C d_Md_isPlain_52 ks_300 ?_
        refine z_icmp_le (pc := 55) (tgt := 60) C d_Md_isPlain_55 (by decide) (fun c7 => ?_) (fun c7 => ?_)
        · rw [if_pos c7] at hm
          refine z_aload_n (pc := 60) C d_Md_isPlain_60 rfl 0 rfl ?_
          refine z_iload_n (pc := 61) C d_Md_isPlain_61 rfl 2 rfl ?_
          refine z_iload (pc := 62) C d_Md_isPlain_62 3 rfl ?_
          obtain ⟨σ8, e9, hm⟩ := bv_s hm
          refine z_callV (pc := 64) C (k_Md_replace hAD e9) kz_Md_replace mM_181 rfl rfl oM_0 rfl (kR_of (Nat.le_of_ble_eq_true rfl) (Nat.le_of_ble_eq_true rfl)) rfl (Nat.le_of_ble_eq_true rfl) d_Md_isPlain_64 ?_
          refine z_aload_n (pc := 67) C d_Md_isPlain_67 rfl 0 rfl ?_
          refine gM_Md_549 (pc := 68) (v := (gi σ8 97)) C rfl d_Md_isPlain_68 ?_
          refine z_sipush (pc := 71) C d_Md_isPlain_71 ks_200 ?_
          refine z_icmp_le (pc := 74) (tgt := 79) C d_Md_isPlain_74 (by decide) (fun c10 => ?_) (fun c10 => ?_)
          · rw [if_pos c10] at hm
            refine z_iconst (pc := 79) C d_Md_isPlain_79 ki_0 ?_
            refine z_istore_n (pc := 80) (lv' := [(0, .ref (ad 0)), (2, .int (x2 + (1 : Int32))), (3, .int (0 : Int32)), (4, .int r4)]) C d_Md_isPlain_80 rfl (Nat.le_of_ble_eq_true rfl) [1, 2, 0, 3] rfl ?_
            refine z_goto (pc := 81) (tgt := 17) C d_Md_isPlain_81 (by decide) ?_
            refine z_lv (lv' := [(0, .ref (ad 0)), (2, .int (x2 + (1 : Int32))), (3, .int (0 : Int32))]) [0, 1, 2] rfl ?_
            exact h17 σ8 (x2 + (1 : Int32)) (0 : Int32) hm
          · rw [if_neg c10] at hm
            refine z_iconst (pc := 77) C d_Md_isPlain_77 ki_0 ?_
            exact z_zretE (pc := 78) C hr (by decide) hm d_Md_isPlain_78
        · rw [if_neg c7] at hm
          refine z_iconst (pc := 58) C d_Md_isPlain_58 ki_0 ?_
          exact z_zretE (pc := 59) C hr (by decide) hm d_Md_isPlain_59
      · rw [if_neg c6] at hm
        refine z_iinc (pc := 42) (lv' := [(0, .ref (ad 0)), (2, .int x2), (3, .int (x3 + (1 : Int32))), (4, .int r4)]) C d_Md_isPlain_42 2 rfl (ii ki_1) (Nat.le_of_ble_eq_true rfl) [1, 2, 0, 3] rfl ?_
        refine z_goto (pc := 45) (tgt := 17) C d_Md_isPlain_45 (by decide) ?_
        refine z_lv (lv' := [(0, .ref (ad 0)), (2, .int x2), (3, .int (x3 + (1 : Int32)))]) [0, 1, 2] rfl ?_
        exact h17 σ3 x2 (x3 + (1 : Int32)) hm
set_option maxHeartbeats 4000000 in
set_option maxRecDepth 100000 in
theorem k_Md_isPlain {l : Launch} {D : va_G} {ad : Nat → Nat} {cA : Nat → ClassId} {F : Nat} (hAD : ∀ σ, va_D (owM ad) (wdM ad cA σ)) {σ : zS} {x1 : Int32} {r : Int32} {σ' : zS} (hm : Md_isPlain F σ x1 = some (r, σ')) : kIM l D ad cA xTr y_Md_isPlain bc_Md_isPlain 5 .boolean 3 [.ref (ad 0), .int x1] σ r σ' := by
  refine kI_of (by decide) hAD xTr_P (Nat.le_of_ble_eq_true rfl) ?_
  intro p e s m below meth c C hr
  unfold Md_isPlain at hm
  refine z_lv (lv' := [(0, .ref (ad 0)), (1, .int x1)]) [0, 1] rfl ?_
  refine z_aload_n (pc := 0) C d_Md_isPlain_0 rfl 0 rfl ?_
  refine z_aload_n (pc := 1) C d_Md_isPlain_1 rfl 0 rfl ?_
  refine z_iload_n (pc := 2) C d_Md_isPlain_2 rfl 1 rfl ?_
  refine z_aload_n (pc := 3) C d_Md_isPlain_3 rfl 0 rfl ?_
  refine gM_Md_190 (pc := 4) C  d_Md_isPlain_4 ?_
  obtain ⟨r2, σ1, e3, hm⟩ := bi_s hm
  refine z_callI (pc := 7) C (k_Md_lay hAD e3) kz_Md_lay mM_179 rfl rfl oM_0 rfl (kR_of (Nat.le_of_ble_eq_true rfl) (Nat.le_of_ble_eq_true rfl)) rfl (Nat.le_of_ble_eq_true rfl) d_Md_isPlain_7 ?_
  refine pM_Md_571 (pc := 10) C  d_Md_isPlain_10 ?_
  refine z_iconst (pc := 13) C d_Md_isPlain_13 ki_0 ?_
  refine z_istore_n (pc := 14) (lv' := [(0, .ref (ad 0)), (1, .int x1), (2, .int (0 : Int32))]) C d_Md_isPlain_14 rfl (Nat.le_of_ble_eq_true rfl) [1, 2, 0] rfl ?_
  refine z_iconst (pc := 15) C d_Md_isPlain_15 ki_0 ?_
  refine z_istore_n (pc := 16) (lv' := [(0, .ref (ad 0)), (1, .int x1), (2, .int (0 : Int32)), (3, .int (0 : Int32))]) C d_Md_isPlain_16 rfl (Nat.le_of_ble_eq_true rfl) [1, 2, 3, 0] rfl ?_
  refine z_lv (lv' := [(0, .ref (ad 0)), (2, .int (0 : Int32)), (3, .int (0 : Int32))]) [0, 2, 3] rfl ?_
  exact w_Md_isPlain_17 hAD C hr F (si σ1 95 r2) (0 : Int32) (0 : Int32) hm
set_option maxHeartbeats 4000000 in
set_option maxRecDepth 100000 in
theorem w_Md_putName_30 {D : va_G} {ad : Nat → Nat} {cA : Nat → ClassId} {p : Program} {l : Launch} {e : Env} {s : State} {m : MethodId} {args : Array Value} {below : List Frame} {meth : Method} {c : Code} {F : Nat} (hAD : ∀ σ, va_D (owM ad) (wdM ad cA σ)) (C : CM D ad cA xTr p s m args meth c bc_Md_putName "KindRoundsModel" 4) (hr : meth.sig.returnType = none) {σ' : zS} (rc3 : zS → Int32 → Int32 → Option zS) (h3 : ∀ σ x1 x2, rc3 σ x1 x2 = some σ' → ZM D ad cA p l e (rmK 1) s m args below meth c 4 (qvM D ad cA below args s σ') 3 [(0, .ref (ad 0)), (1, .int x1), (2, .int x2)] [] σ) (σ : zS) (x1 : Int32) (x2 : Int32) (hm : Md_putName_30 F rc3 σ x1 x2 = some σ') : ZM D ad cA p l e (rmK 1) s m args below meth c 4 (qvM D ad cA below args s σ') 30 [(0, .ref (ad 0)), (1, .int x1), (2, .int x2)] [] σ := by
  unfold Md_putName_30 at hm
  refine z_iinc (pc := 30) (lv' := [(0, .ref (ad 0)), (1, .int x1), (2, .int (x2 + (-8 : Int32)))]) C d_Md_putName_30 2 rfl (ii ki_m8) (Nat.le_of_ble_eq_true rfl) [1, 2, 0] rfl ?_
  refine z_goto (pc := 33) (tgt := 3) C d_Md_putName_33 (by decide) ?_
  exact h3 σ x1 (x2 + (-8 : Int32)) hm
set_option maxHeartbeats 4000000 in
set_option maxRecDepth 100000 in
theorem w_Md_putName_3 {D : va_G} {ad : Nat → Nat} {cA : Nat → ClassId} {p : Program} {l : Launch} {e : Env} {s : State} {m : MethodId} {args : Array Value} {below : List Frame} {meth : Method} {c : Code} {F : Nat} (hAD : ∀ σ, va_D (owM ad) (wdM ad cA σ)) (C : CM D ad cA xTr p s m args meth c bc_Md_putName "KindRoundsModel" 4) (hr : meth.sig.returnType = none) {σ' : zS} : ∀ (n : Nat) (σ : zS) (x1 : Int32) (x2 : Int32), Md_putName_3 F n σ x1 x2 = some σ' → ZM D ad cA p l e (rmK 1) s m args below meth c 4 (qvM D ad cA below args s σ') 3 [(0, .ref (ad 0)), (1, .int x1), (2, .int x2)] [] σ := by
  intro n
  induction n with
  | zero => intro σ x1 x2 hm; cases hm
  | succ n h3 =>
    intro σ x1 x2 hm
    have hm : Md_putName_b3 F (Md_putName_3 F n) σ x1 x2 = some σ' := hm
    unfold Md_putName_b3 at hm
    refine z_iload_n (pc := 3) C d_Md_putName_3 rfl 2 rfl ?_
    refine z_if_lt (pc := 4) (tgt := 36) C d_Md_putName_4 (by decide) (fun c1 => ?_) (fun c1 => ?_)
    · rw [if_pos c1] at hm
      exact z_vretE (pc := 36) C hr hm d_Md_putName_36
    · rw [if_neg c1] at hm
      refine z_aload_n (pc := 7) C d_Md_putName_7 rfl 0 rfl ?_
      refine gM_Md_20 (pc := 8) C  d_Md_putName_8 ?_
      refine z_iload_n (pc := 11) C d_Md_putName_11 rfl 1 rfl ?_
      obtain ⟨g2, hm⟩ := gd_s hm
      refine alM_3 (pc := 12) (v := (gb σ 3 x1.toNatClampNeg)) C  rfl g2 d_Md_putName_12 ?_
      refine z_iload_n (pc := 13) C d_Md_putName_13 rfl 2 rfl ?_
      refine z_lushr (pc := 14) C d_Md_putName_14 ?_
      refine z_ldc2 (pc := 15) C mM_182 d_Md_putName_15 ?_
      refine z_land (pc := 18) C d_Md_putName_18 ?_
      refine z_l2i (pc := 19) C d_Md_putName_19 ?_
      refine z_istore_n (pc := 20) (lv' := [(0, .ref (ad 0)), (1, .int x1), (2, .int x2), (3, .int (Int64.toInt32 (((gb σ 3 x1.toNatClampNeg).toUInt64 >>> ((Int32.toInt64 x2).toUInt64 &&& Int64.toUInt64 63)).toInt64 &&& (255 : Int64))))]) C d_Md_putName_20 rfl (Nat.le_of_ble_eq_true rfl) [1, 2, 3, 0] rfl ?_
      refine z_iload_n (pc := 21) C d_Md_putName_21 rfl 3 rfl ?_
      refine z_if_le (pc := 22) (tgt := 30) C d_Md_putName_22 (by decide) (fun c3 => ?_) (fun c3 => ?_)
      · rw [if_pos c3] at hm
        refine z_lv (lv' := [(0, .ref (ad 0)), (1, .int x1), (2, .int x2)]) [0, 1, 2] rfl ?_
        exact w_Md_putName_30 hAD C hr _ h3 σ x1 x2 hm
      · rw [if_neg c3] at hm
        refine z_aload_n (pc := 25) C d_Md_putName_25 rfl 0 rfl ?_
        refine z_iload_n (pc := 26) C d_Md_putName_26 rfl 3 rfl ?_
        obtain ⟨σ4, e5, hm⟩ := bv_s hm
        refine z_callV (pc := 27) C (k_Md_put hAD e5) kz_Md_put mM_151 rfl rfl oM_0 rfl (kR_of (Nat.le_of_ble_eq_true rfl) (Nat.le_of_ble_eq_true rfl)) rfl (Nat.le_of_ble_eq_true rfl) d_Md_putName_27 ?_
        refine z_lv (lv' := [(0, .ref (ad 0)), (1, .int x1), (2, .int x2)]) [0, 1, 2] rfl ?_
        exact w_Md_putName_30 hAD C hr _ h3 σ4 x1 x2 hm
set_option maxHeartbeats 4000000 in
set_option maxRecDepth 100000 in
theorem k_Md_putName {l : Launch} {D : va_G} {ad : Nat → Nat} {cA : Nat → ClassId} {F : Nat} (hAD : ∀ σ, va_D (owM ad) (wdM ad cA σ)) {σ : zS} {x1 : Int32} {σ' : zS} (hm : Md_putName F σ x1 = some σ') : kVM l D ad cA xTr y_Md_putName bc_Md_putName 4 1 [.ref (ad 0), .int x1] σ σ' := by
  refine kV_of (by decide) hAD xTr_P (Nat.le_of_ble_eq_true rfl) ?_
  intro p e s m below meth c C hr
  unfold Md_putName at hm
  refine z_lv (lv' := [(0, .ref (ad 0)), (1, .int x1)]) [0, 1] rfl ?_
  refine z_bipush (pc := 0) C d_Md_putName_0 kb_56 ?_
  refine z_istore_n (pc := 2) (lv' := [(0, .ref (ad 0)), (1, .int x1), (2, .int (56 : Int32))]) C d_Md_putName_2 rfl (Nat.le_of_ble_eq_true rfl) [1, 2, 0] rfl ?_
  exact w_Md_putName_3 hAD C hr F σ x1 (56 : Int32) hm
set_option maxHeartbeats 4000000 in
set_option maxRecDepth 100000 in
theorem w_Md_layItem_235 {D : va_G} {ad : Nat → Nat} {cA : Nat → ClassId} {p : Program} {l : Launch} {e : Env} {s : State} {m : MethodId} {args : Array Value} {below : List Frame} {meth : Method} {c : Code} {F : Nat} (hAD : ∀ σ, va_D (owM ad) (wdM ad cA σ)) (C : CM D ad cA xTr p s m args meth c bc_Md_layItem "KindRoundsModel" 6) (hr : meth.sig.returnType = some .int) {r : Int32} {σ' : zS} (σ : zS) (x4 : Int32) (s1 : Int32) (s2 : Int32) (s3 : Int32) (hm : Md_layItem_235 F σ x4 s1 s2 s3 = some (r, σ')) : ZM D ad cA p l e (rmK 2) s m args below meth c 6 (qiM D ad cA below args s r σ') 235 [(4, .int x4)] [.int s3, .int s2, .int s1, .ref (ad 53)] σ := by
  unfold Md_layItem_235 at hm
  refine z_iadd (pc := 235) C d_Md_layItem_235 ?_
  obtain ⟨g1, hm⟩ := gd_s hm
  refine asM_53 (pc := 236) C  g1 d_Md_layItem_236 ?_
  refine z_iload (pc := 237) C d_Md_layItem_237 0 rfl ?_
  refine z_iconst (pc := 239) C d_Md_layItem_239 ki_3 ?_
  refine z_iadd (pc := 240) C d_Md_layItem_240 ?_
  exact z_iretE (pc := 241) C hr hm d_Md_layItem_241
set_option maxHeartbeats 4000000 in
set_option maxRecDepth 100000 in
theorem w_Md_layItem_207 {D : va_G} {ad : Nat → Nat} {cA : Nat → ClassId} {p : Program} {l : Launch} {e : Env} {s : State} {m : MethodId} {args : Array Value} {below : List Frame} {meth : Method} {c : Code} {F : Nat} (hAD : ∀ σ, va_D (owM ad) (wdM ad cA σ)) (C : CM D ad cA xTr p s m args meth c bc_Md_layItem "KindRoundsModel" 6) (hr : meth.sig.returnType = some .int) {r : Int32} {σ' : zS} (σ : zS) (x1 : Int32) (x4 : Int32) (s1 : Int32) (s2 : Int32) (hm : Md_layItem_207 F σ x1 x4 s1 s2 = some (r, σ')) : ZM D ad cA p l e (rmK 2) s m args below meth c 6 (qiM D ad cA below args s r σ') 207 [(0, .ref (ad 0)), (1, .int x1), (4, .int x4)] [.int s2, .int s1, .ref (ad 53)] σ := by
  unfold Md_layItem_207 at hm
  obtain ⟨g1, hm⟩ := gd_s hm
  refine asM_53 (pc := 207) C  g1 d_Md_layItem_207 ?_
  refine z_aload_n (pc := 208) C d_Md_layItem_208 rfl 0 rfl ?_
  refine gM_Md_172 (pc := 209) C  d_Md_layItem_209 ?_
  refine z_iload (pc := 212) C d_Md_layItem_212 2 rfl ?_
  refine z_iconst (pc := 214) C d_Md_layItem_214 ki_2 ?_
  refine z_iadd (pc := 215) C d_Md_layItem_215 ?_
  refine z_iconst (pc := 216) C d_Md_layItem_216 ki_4 ?_
  refine z_iload_n (pc := 217) C d_Md_layItem_217 rfl 1 rfl ?_
  refine z_iconst (pc := 218) C d_Md_layItem_218 ki_1 ?_
  refine z_iadd (pc := 219) C d_Md_layItem_219 ?_
  refine z_imul (pc := 220) C d_Md_layItem_220 ?_
  refine z_aload_n (pc := 221) C d_Md_layItem_221 rfl 0 rfl ?_
  refine gM_Md_190 (pc := 222) C  d_Md_layItem_222 ?_
  refine z_iload_n (pc := 225) C d_Md_layItem_225 rfl 1 rfl ?_
  obtain ⟨g2, hm⟩ := gd_s hm
  refine alM_59 (pc := 226) (v := (ga σ 59 x1.toNatClampNeg)) C  rfl g2 d_Md_layItem_226 ?_
  refine z_if_ne (pc := 227) (tgt := 234) C d_Md_layItem_227 (by decide) (fun c3 => ?_) (fun c3 => ?_)
  · rw [if_neg c3] at hm
    refine z_iconst (pc := 234) C d_Md_layItem_234 ki_1 ?_
    refine z_lv (lv' := [(4, .int x4)]) [2] rfl ?_
    exact w_Md_layItem_235 hAD C hr (sa σ 53 s1.toNatClampNeg s2) x4 (x4 + (2 : Int32)) ((4 : Int32) * (x1 + (1 : Int32))) (1 : Int32) hm
  · rw [if_pos c3] at hm
    refine z_iconst (pc := 230) C d_Md_layItem_230 ki_3 ?_
    refine z_goto (pc := 231) (tgt := 235) C d_Md_layItem_231 (by decide) ?_
    refine z_lv (lv' := [(4, .int x4)]) [2] rfl ?_
    exact w_Md_layItem_235 hAD C hr (sa σ 53 s1.toNatClampNeg s2) x4 (x4 + (2 : Int32)) ((4 : Int32) * (x1 + (1 : Int32))) (3 : Int32) hm
set_option maxHeartbeats 4000000 in
set_option maxRecDepth 100000 in
theorem w_Md_layItem_181 {D : va_G} {ad : Nat → Nat} {cA : Nat → ClassId} {p : Program} {l : Launch} {e : Env} {s : State} {m : MethodId} {args : Array Value} {below : List Frame} {meth : Method} {c : Code} {F : Nat} (hAD : ∀ σ, va_D (owM ad) (wdM ad cA σ)) (C : CM D ad cA xTr p s m args meth c bc_Md_layItem "KindRoundsModel" 6) (hr : meth.sig.returnType = some .int) {r : Int32} {σ' : zS} (σ : zS) (x1 : Int32) (x4 : Int32) (s1 : Int32) (s2 : Int32) (s3 : Int32) (hm : Md_layItem_181 F σ x1 x4 s1 s2 s3 = some (r, σ')) : ZM D ad cA p l e (rmK 2) s m args below meth c 6 (qiM D ad cA below args s r σ') 181 [(0, .ref (ad 0)), (1, .int x1), (4, .int x4)] [.int s3, .int s2, .int s1, .ref (ad 53)] σ := by
  unfold Md_layItem_181 at hm
  refine z_iadd (pc := 181) C d_Md_layItem_181 ?_
  obtain ⟨g1, hm⟩ := gd_s hm
  refine asM_53 (pc := 182) C  g1 d_Md_layItem_182 ?_
  refine z_aload_n (pc := 183) C d_Md_layItem_183 rfl 0 rfl ?_
  refine gM_Md_172 (pc := 184) C  d_Md_layItem_184 ?_
  refine z_iload (pc := 187) C d_Md_layItem_187 2 rfl ?_
  refine z_iconst (pc := 189) C d_Md_layItem_189 ki_1 ?_
  refine z_iadd (pc := 190) C d_Md_layItem_190 ?_
  refine z_aload_n (pc := 191) C d_Md_layItem_191 rfl 0 rfl ?_
  refine gM_Md_190 (pc := 192) C  d_Md_layItem_192 ?_
  refine z_iload_n (pc := 195) C d_Md_layItem_195 rfl 1 rfl ?_
  obtain ⟨g2, hm⟩ := gd_s hm
  refine alM_59 (pc := 196) (v := (ga σ 59 x1.toNatClampNeg)) C  rfl g2 d_Md_layItem_196 ?_
  refine z_if_ne (pc := 197) (tgt := 205) C d_Md_layItem_197 (by decide) (fun c3 => ?_) (fun c3 => ?_)
  · rw [if_neg c3] at hm
    refine z_bipush (pc := 205) C d_Md_layItem_205 kb_m45 ?_
    exact w_Md_layItem_207 hAD C hr (sa σ 53 s1.toNatClampNeg (s2 + s3)) x1 x4 (x4 + (1 : Int32)) (-45 : Int32) hm
  · rw [if_pos c3] at hm
    refine z_bipush (pc := 200) C d_Md_layItem_200 kb_m32 ?_
    refine z_goto (pc := 202) (tgt := 207) C d_Md_layItem_202 (by decide) ?_
    exact w_Md_layItem_207 hAD C hr (sa σ 53 s1.toNatClampNeg (s2 + s3)) x1 x4 (x4 + (1 : Int32)) (-32 : Int32) hm
set_option maxHeartbeats 4000000 in
set_option maxRecDepth 100000 in
theorem w_Md_layItem_125 {D : va_G} {ad : Nat → Nat} {cA : Nat → ClassId} {p : Program} {l : Launch} {e : Env} {s : State} {m : MethodId} {args : Array Value} {below : List Frame} {meth : Method} {c : Code} {F : Nat} (hAD : ∀ σ, va_D (owM ad) (wdM ad cA σ)) (C : CM D ad cA xTr p s m args meth c bc_Md_layItem "KindRoundsModel" 6) (hr : meth.sig.returnType = some .int) {r : Int32} {σ' : zS} (σ : zS) (x1 : Int32) (x4 : Int32) (hm : Md_layItem_125 F σ x1 x4 = some (r, σ')) : ZM D ad cA p l e (rmK 2) s m args below meth c 6 (qiM D ad cA below args s r σ') 125 [(0, .ref (ad 0)), (1, .int x1), (4, .int x4)] [] σ := by
  unfold Md_layItem_125 at hm
  refine z_aload_n (pc := 125) C d_Md_layItem_125 rfl 0 rfl ?_
  refine gM_Md_190 (pc := 126) C  d_Md_layItem_126 ?_
  refine z_iload_n (pc := 129) C d_Md_layItem_129 rfl 1 rfl ?_
  obtain ⟨g1, hm⟩ := gd_s hm
  refine alM_59 (pc := 130) (v := (ga σ 59 x1.toNatClampNeg)) C  rfl g1 d_Md_layItem_130 ?_
  refine z_iconst (pc := 131) C d_Md_layItem_131 ki_1 ?_
  refine z_icmp_ne (pc := 132) (tgt := 152) C d_Md_layItem_132 (by decide) (fun c2 => ?_) (fun c2 => ?_)
  · rw [if_neg c2] at hm
    refine z_aload_n (pc := 152) C d_Md_layItem_152 rfl 0 rfl ?_
    refine gM_Md_172 (pc := 153) C  d_Md_layItem_153 ?_
    refine z_iload (pc := 156) C d_Md_layItem_156 2 rfl ?_
    refine z_iconst (pc := 158) C d_Md_layItem_158 ki_4 ?_
    refine z_aload_n (pc := 159) C d_Md_layItem_159 rfl 0 rfl ?_
    refine z_iload_n (pc := 160) C d_Md_layItem_160 rfl 1 rfl ?_
    refine z_iconst (pc := 161) C d_Md_layItem_161 ki_1 ?_
    refine z_iadd (pc := 162) C d_Md_layItem_162 ?_
    obtain ⟨r4, σ3, e5, hm⟩ := bi_s hm
    refine z_callI (pc := 163) C (k_Md_end hAD e5) kz_Md_end mM_174 rfl rfl oM_0 rfl (kR_of (Nat.le_of_ble_eq_true rfl) (Nat.le_of_ble_eq_true rfl)) rfl (Nat.le_of_ble_eq_true rfl) d_Md_layItem_163 ?_
    refine z_imul (pc := 166) C d_Md_layItem_166 ?_
    refine z_aload_n (pc := 167) C d_Md_layItem_167 rfl 0 rfl ?_
    refine gM_Md_190 (pc := 168) C  d_Md_layItem_168 ?_
    refine z_iload_n (pc := 171) C d_Md_layItem_171 rfl 1 rfl ?_
    refine alM_59 (pc := 172) (v := (ga σ3 59 x1.toNatClampNeg)) C  rfl g1 d_Md_layItem_172 ?_
    refine z_if_ne (pc := 173) (tgt := 180) C d_Md_layItem_173 (by decide) (fun c6 => ?_) (fun c6 => ?_)
    · rw [if_neg c6] at hm
      refine z_iconst (pc := 180) C d_Md_layItem_180 ki_0 ?_
      exact w_Md_layItem_181 hAD C hr σ3 x1 x4 x4 ((4 : Int32) * r4) (0 : Int32) hm
    · rw [if_pos c6] at hm
      refine z_iconst (pc := 176) C d_Md_layItem_176 ki_2 ?_
      refine z_goto (pc := 177) (tgt := 181) C d_Md_layItem_177 (by decide) ?_
      exact w_Md_layItem_181 hAD C hr σ3 x1 x4 x4 ((4 : Int32) * r4) (2 : Int32) hm
  · rw [if_pos c2] at hm
    refine z_aload_n (pc := 135) C d_Md_layItem_135 rfl 0 rfl ?_
    refine gM_Md_172 (pc := 136) C  d_Md_layItem_136 ?_
    refine z_iload (pc := 139) C d_Md_layItem_139 2 rfl ?_
    refine z_iconst (pc := 141) C d_Md_layItem_141 ki_4 ?_
    refine z_iload_n (pc := 142) C d_Md_layItem_142 rfl 1 rfl ?_
    refine z_iconst (pc := 143) C d_Md_layItem_143 ki_1 ?_
    refine z_iadd (pc := 144) C d_Md_layItem_144 ?_
    refine z_imul (pc := 145) C d_Md_layItem_145 ?_
    obtain ⟨g7, hm⟩ := gd_s hm
    refine asM_53 (pc := 146) C  g7 d_Md_layItem_146 ?_
    refine z_iload (pc := 147) C d_Md_layItem_147 2 rfl ?_
    refine z_iconst (pc := 149) C d_Md_layItem_149 ki_1 ?_
    refine z_iadd (pc := 150) C d_Md_layItem_150 ?_
    exact z_iretE (pc := 151) C hr hm d_Md_layItem_151
set_option maxHeartbeats 4000000 in
set_option maxRecDepth 100000 in
theorem w_Md_layItem_121 {D : va_G} {ad : Nat → Nat} {cA : Nat → ClassId} {p : Program} {l : Launch} {e : Env} {s : State} {m : MethodId} {args : Array Value} {below : List Frame} {meth : Method} {c : Code} {F : Nat} (hAD : ∀ σ, va_D (owM ad) (wdM ad cA σ)) (C : CM D ad cA xTr p s m args meth c bc_Md_layItem "KindRoundsModel" 6) (hr : meth.sig.returnType = some .int) {r : Int32} {σ' : zS} (σ : zS) (x1 : Int32) (x4 : Int32) (s1 : Int32) (s2 : Int32) (hm : Md_layItem_121 F σ x1 x4 s1 s2 = some (r, σ')) : ZM D ad cA p l e (rmK 2) s m args below meth c 6 (qiM D ad cA below args s r σ') 121 [(0, .ref (ad 0)), (1, .int x1), (4, .int x4)] [.int s2, .int s1, .ref (ad 53)] σ := by
  unfold Md_layItem_121 at hm
  obtain ⟨g1, hm⟩ := gd_s hm
  refine asM_53 (pc := 121) C  g1 d_Md_layItem_121 ?_
  refine z_iinc (pc := 122) (lv' := [(0, .ref (ad 0)), (1, .int x1), (4, .int (x4 + (1 : Int32)))]) C d_Md_layItem_122 2 rfl (ii ki_1) (Nat.le_of_ble_eq_true rfl) [1, 2, 0] rfl ?_
  exact w_Md_layItem_125 hAD C hr (sa σ 53 s1.toNatClampNeg s2) x1 (x4 + (1 : Int32)) hm
set_option maxHeartbeats 4000000 in
set_option maxRecDepth 100000 in
theorem w_Md_layItem_100 {D : va_G} {ad : Nat → Nat} {cA : Nat → ClassId} {p : Program} {l : Launch} {e : Env} {s : State} {m : MethodId} {args : Array Value} {below : List Frame} {meth : Method} {c : Code} {F : Nat} (hAD : ∀ σ, va_D (owM ad) (wdM ad cA σ)) (C : CM D ad cA xTr p s m args meth c bc_Md_layItem "KindRoundsModel" 6) (hr : meth.sig.returnType = some .int) {r : Int32} {σ' : zS} (σ : zS) (x1 : Int32) (x4 : Int32) (x5 : Int32) (s1 : Int32) (hm : Md_layItem_100 F σ x1 x4 x5 s1 = some (r, σ')) : ZM D ad cA p l e (rmK 2) s m args below meth c 6 (qiM D ad cA below args s r σ') 100 [(0, .ref (ad 0)), (1, .int x1), (4, .int x4), (5, .int x5)] [.int s1, .ref (ad 0)] σ := by
  unfold Md_layItem_100 at hm
  obtain ⟨σ1, e2, hm⟩ := bv_s hm
  refine z_callV (pc := 100) C (k_Md_put hAD e2) kz_Md_put mM_151 rfl rfl oM_0 rfl (kR_of (Nat.le_of_ble_eq_true rfl) (Nat.le_of_ble_eq_true rfl)) rfl (Nat.le_of_ble_eq_true rfl) d_Md_layItem_100 ?_
  refine z_aload_n (pc := 103) C d_Md_layItem_103 rfl 0 rfl ?_
  refine gM_Md_172 (pc := 104) C  d_Md_layItem_104 ?_
  refine z_iload (pc := 107) C d_Md_layItem_107 2 rfl ?_
  refine z_iload (pc := 109) C d_Md_layItem_109 3 rfl ?_
  refine z_if_eq (pc := 111) (tgt := 119) C d_Md_layItem_111 (by decide) (fun c3 => ?_) (fun c3 => ?_)
  · rw [if_pos c3] at hm
    refine z_bipush (pc := 119) C d_Md_layItem_119 kb_m93 ?_
    refine z_lv (lv' := [(0, .ref (ad 0)), (1, .int x1), (4, .int x4)]) [0, 1, 2] rfl ?_
    exact w_Md_layItem_121 hAD C hr σ1 x1 x4 x4 (-93 : Int32) hm
  · rw [if_neg c3] at hm
    refine z_bipush (pc := 114) C d_Md_layItem_114 kb_m41 ?_
    refine z_goto (pc := 116) (tgt := 121) C d_Md_layItem_116 (by decide) ?_
    refine z_lv (lv' := [(0, .ref (ad 0)), (1, .int x1), (4, .int x4)]) [0, 1, 2] rfl ?_
    exact w_Md_layItem_121 hAD C hr σ1 x1 x4 x4 (-41 : Int32) hm
set_option maxHeartbeats 4000000 in
set_option maxRecDepth 100000 in
theorem w_Md_layItem_87 {D : va_G} {ad : Nat → Nat} {cA : Nat → ClassId} {p : Program} {l : Launch} {e : Env} {s : State} {m : MethodId} {args : Array Value} {below : List Frame} {meth : Method} {c : Code} {F : Nat} (hAD : ∀ σ, va_D (owM ad) (wdM ad cA σ)) (C : CM D ad cA xTr p s m args meth c bc_Md_layItem "KindRoundsModel" 6) (hr : meth.sig.returnType = some .int) {r : Int32} {σ' : zS} (σ : zS) (x1 : Int32) (x4 : Int32) (x5 : Int32) (hm : Md_layItem_87 F σ x1 x4 x5 = some (r, σ')) : ZM D ad cA p l e (rmK 2) s m args below meth c 6 (qiM D ad cA below args s r σ') 87 [(0, .ref (ad 0)), (1, .int x1), (4, .int x4), (5, .int x5)] [] σ := by
  unfold Md_layItem_87 at hm
  refine z_aload_n (pc := 87) C d_Md_layItem_87 rfl 0 rfl ?_
  refine z_iload (pc := 88) C d_Md_layItem_88 3 rfl ?_
  refine z_if_eq (pc := 90) (tgt := 98) C d_Md_layItem_90 (by decide) (fun c1 => ?_) (fun c1 => ?_)
  · rw [if_pos c1] at hm
    refine z_bipush (pc := 98) C d_Md_layItem_98 kb_91 ?_
    exact w_Md_layItem_100 hAD C hr σ x1 x4 x5 (91 : Int32) hm
  · rw [if_neg c1] at hm
    refine z_bipush (pc := 93) C d_Md_layItem_93 kb_40 ?_
    refine z_goto (pc := 95) (tgt := 100) C d_Md_layItem_95 (by decide) ?_
    exact w_Md_layItem_100 hAD C hr σ x1 x4 x5 (40 : Int32) hm
set_option maxHeartbeats 4000000 in
set_option maxRecDepth 100000 in
theorem w_Md_layItem_70 {D : va_G} {ad : Nat → Nat} {cA : Nat → ClassId} {p : Program} {l : Launch} {e : Env} {s : State} {m : MethodId} {args : Array Value} {below : List Frame} {meth : Method} {c : Code} {F : Nat} (hAD : ∀ σ, va_D (owM ad) (wdM ad cA σ)) (C : CM D ad cA xTr p s m args meth c bc_Md_layItem "KindRoundsModel" 6) (hr : meth.sig.returnType = some .int) {r : Int32} {σ' : zS} (σ : zS) (x1 : Int32) (x4 : Int32) (s0 : Int32) (hm : Md_layItem_70 F σ x1 x4 s0 = some (r, σ')) : ZM D ad cA p l e (rmK 2) s m args below meth c 6 (qiM D ad cA below args s r σ') 70 [(0, .ref (ad 0)), (1, .int x1), (4, .int x4)] [.int s0] σ := by
  unfold Md_layItem_70 at hm
  refine z_istore (pc := 70) (lv' := [(0, .ref (ad 0)), (1, .int x1), (4, .int x4), (5, .int s0)]) C d_Md_layItem_70 (Nat.le_of_ble_eq_true rfl) [1, 2, 3, 0] rfl ?_
  refine z_iload (pc := 72) C d_Md_layItem_72 3 rfl ?_
  refine z_if_ne (pc := 74) (tgt := 87) C d_Md_layItem_74 (by decide) (fun c1 => ?_) (fun c1 => ?_)
  · rw [if_neg c1] at hm
    exact w_Md_layItem_87 hAD C hr σ x1 x4 s0 hm
  · rw [if_pos c1] at hm
    refine z_aload_n (pc := 77) C d_Md_layItem_77 rfl 0 rfl ?_
    refine gM_Md_190 (pc := 78) C  d_Md_layItem_78 ?_
    refine z_iload_n (pc := 81) C d_Md_layItem_81 rfl 1 rfl ?_
    obtain ⟨g2, hm⟩ := gd_s hm
    refine alM_59 (pc := 82) (v := (ga σ 59 x1.toNatClampNeg)) C  rfl g2 d_Md_layItem_82 ?_
    refine z_iconst (pc := 83) C d_Md_layItem_83 ki_1 ?_
    refine z_icmp_ne (pc := 84) (tgt := 125) C d_Md_layItem_84 (by decide) (fun c3 => ?_) (fun c3 => ?_)
    · rw [if_neg c3] at hm
      refine z_lv (lv' := [(0, .ref (ad 0)), (1, .int x1), (4, .int x4)]) [0, 1, 2] rfl ?_
      exact w_Md_layItem_125 hAD C hr σ x1 x4 hm
    · rw [if_pos c3] at hm
      exact w_Md_layItem_87 hAD C hr σ x1 x4 s0 hm
set_option maxHeartbeats 4000000 in
set_option maxRecDepth 100000 in
theorem w_Md_layItem_69 {D : va_G} {ad : Nat → Nat} {cA : Nat → ClassId} {p : Program} {l : Launch} {e : Env} {s : State} {m : MethodId} {args : Array Value} {below : List Frame} {meth : Method} {c : Code} {F : Nat} (hAD : ∀ σ, va_D (owM ad) (wdM ad cA σ)) (C : CM D ad cA xTr p s m args meth c bc_Md_layItem "KindRoundsModel" 6) (hr : meth.sig.returnType = some .int) {r : Int32} {σ' : zS} (σ : zS) (x1 : Int32) (x4 : Int32) (hm : Md_layItem_69 F σ x1 x4 = some (r, σ')) : ZM D ad cA p l e (rmK 2) s m args below meth c 6 (qiM D ad cA below args s r σ') 69 [(0, .ref (ad 0)), (1, .int x1), (4, .int x4)] [] σ := by
  unfold Md_layItem_69 at hm
  refine z_iconst (pc := 69) C d_Md_layItem_69 ki_0 ?_
  exact w_Md_layItem_70 hAD C hr σ x1 x4 (0 : Int32) hm
set_option maxHeartbeats 4000000 in
set_option maxRecDepth 100000 in
theorem k_Md_layItem {l : Launch} {D : va_G} {ad : Nat → Nat} {cA : Nat → ClassId} {F : Nat} (hAD : ∀ σ, va_D (owM ad) (wdM ad cA σ)) {σ : zS} {x1 : Int32} {x2 : Int32} {x3 : Int32} {r : Int32} {σ' : zS} (hm : Md_layItem F σ x1 x2 x3 = some (r, σ')) : kIM l D ad cA xTr y_Md_layItem bc_Md_layItem 6 .int 2 [.ref (ad 0), .int x1, .int x2, .int x3] σ r σ' := by
  refine kI_of (by decide) hAD xTr_P (Nat.le_of_ble_eq_true rfl) ?_
  intro p e s m below meth c C hr
  unfold Md_layItem at hm
  refine z_lv (lv' := [(0, .ref (ad 0)), (1, .int x1), (2, .int x2), (3, .int x3)]) [0, 1, 2, 3] rfl ?_
  refine z_aload_n (pc := 0) C d_Md_layItem_0 rfl 0 rfl ?_
  refine gM_Md_190 (pc := 1) C  d_Md_layItem_1 ?_
  refine z_iload_n (pc := 4) C d_Md_layItem_4 rfl 1 rfl ?_
  obtain ⟨g1, hm⟩ := gd_s hm
  refine alM_59 (pc := 5) (v := (ga σ 59 x1.toNatClampNeg)) C  rfl g1 d_Md_layItem_5 ?_
  refine z_bipush (pc := 6) C d_Md_layItem_6 kb_10 ?_
  refine z_icmp_lt (pc := 8) (tgt := 26) C d_Md_layItem_8 (by decide) (fun c2 => ?_) (fun c2 => ?_)
  · rw [if_pos c2] at hm
    refine z_iload_n (pc := 26) C d_Md_layItem_26 rfl 3 rfl ?_
    refine z_istore (pc := 27) (lv' := [(0, .ref (ad 0)), (1, .int x1), (2, .int x2), (3, .int x3), (4, .int x3)]) C d_Md_layItem_27 (Nat.le_of_ble_eq_true rfl) [1, 2, 3, 4, 0] rfl ?_
    refine z_aload_n (pc := 29) C d_Md_layItem_29 rfl 0 rfl ?_
    refine gM_Md_190 (pc := 30) C  d_Md_layItem_30 ?_
    refine z_iload_n (pc := 33) C d_Md_layItem_33 rfl 1 rfl ?_
    refine alM_59 (pc := 34) (v := (ga σ 59 x1.toNatClampNeg)) C  rfl g1 d_Md_layItem_34 ?_
    refine z_if_ne (pc := 35) (tgt := 51) C d_Md_layItem_35 (by decide) (fun c3 => ?_) (fun c3 => ?_)
    · rw [if_neg c3] at hm
      refine z_aload_n (pc := 51) C d_Md_layItem_51 rfl 0 rfl ?_
      refine gM_Md_190 (pc := 52) C  d_Md_layItem_52 ?_
      refine z_iload_n (pc := 55) C d_Md_layItem_55 rfl 1 rfl ?_
      refine alM_59 (pc := 56) (v := (ga σ 59 x1.toNatClampNeg)) C  rfl g1 d_Md_layItem_56 ?_
      refine z_iconst (pc := 57) C d_Md_layItem_57 ki_2 ?_
      refine z_icmp_ne (pc := 58) (tgt := 69) C d_Md_layItem_58 (by decide) (fun c4 => ?_) (fun c4 => ?_)
      · rw [if_neg c4] at hm
        refine z_lv (lv' := [(0, .ref (ad 0)), (1, .int x1), (4, .int x3)]) [0, 1, 4] rfl ?_
        exact w_Md_layItem_69 hAD C hr σ x1 x3 hm
      · rw [if_pos c4] at hm
        refine z_iload_n (pc := 61) C d_Md_layItem_61 rfl 2 rfl ?_
        refine z_if_le (pc := 62) (tgt := 69) C d_Md_layItem_62 (by decide) (fun c5 => ?_) (fun c5 => ?_)
        · rw [if_pos c5] at hm
          refine z_lv (lv' := [(0, .ref (ad 0)), (1, .int x1), (4, .int x3)]) [0, 1, 4] rfl ?_
          exact w_Md_layItem_69 hAD C hr σ x1 x3 hm
        · rw [if_neg c5] at hm
          refine z_iconst (pc := 65) C d_Md_layItem_65 ki_1 ?_
          refine z_goto (pc := 66) (tgt := 70) C d_Md_layItem_66 (by decide) ?_
          refine z_lv (lv' := [(0, .ref (ad 0)), (1, .int x1), (4, .int x3)]) [0, 1, 4] rfl ?_
          exact w_Md_layItem_70 hAD C hr σ x1 x3 (1 : Int32) hm
    · rw [if_pos c3] at hm
      refine z_iload_n (pc := 38) C d_Md_layItem_38 rfl 2 rfl ?_
      refine z_iconst (pc := 39) C d_Md_layItem_39 ki_2 ?_
      refine z_icmp_ne (pc := 40) (tgt := 47) C d_Md_layItem_40 (by decide) (fun c6 => ?_) (fun c6 => ?_)
      · rw [if_neg c6] at hm
        refine z_iconst (pc := 47) C d_Md_layItem_47 ki_0 ?_
        refine z_goto (pc := 48) (tgt := 70) C d_Md_layItem_48 (by decide) ?_
        refine z_lv (lv' := [(0, .ref (ad 0)), (1, .int x1), (4, .int x3)]) [0, 1, 4] rfl ?_
        exact w_Md_layItem_70 hAD C hr σ x1 x3 (0 : Int32) hm
      · rw [if_pos c6] at hm
        refine z_iconst (pc := 43) C d_Md_layItem_43 ki_1 ?_
        refine z_goto (pc := 44) (tgt := 70) C d_Md_layItem_44 (by decide) ?_
        refine z_lv (lv' := [(0, .ref (ad 0)), (1, .int x1), (4, .int x3)]) [0, 1, 4] rfl ?_
        exact w_Md_layItem_70 hAD C hr σ x1 x3 (1 : Int32) hm
  · rw [if_neg c2] at hm
    refine z_aload_n (pc := 11) C d_Md_layItem_11 rfl 0 rfl ?_
    refine z_aload_n (pc := 12) C d_Md_layItem_12 rfl 0 rfl ?_
    refine gM_Md_190 (pc := 13) C  d_Md_layItem_13 ?_
    refine z_iload_n (pc := 16) C d_Md_layItem_16 rfl 1 rfl ?_
    refine alM_59 (pc := 17) (v := (ga σ 59 x1.toNatClampNeg)) C  rfl g1 d_Md_layItem_17 ?_
    refine z_bipush (pc := 18) C d_Md_layItem_18 kb_10 ?_
    refine z_isub (pc := 20) C d_Md_layItem_20 ?_
    obtain ⟨σ7, e8, hm⟩ := bv_s hm
    refine z_callV (pc := 21) C (k_Md_putName hAD e8) kz_Md_putName mM_184 rfl rfl oM_0 rfl (kR_of (Nat.le_of_ble_eq_true rfl) (Nat.le_of_ble_eq_true rfl)) rfl (Nat.le_of_ble_eq_true rfl) d_Md_layItem_21 ?_
    refine z_iload_n (pc := 24) C d_Md_layItem_24 rfl 3 rfl ?_
    exact z_iretE (pc := 25) C hr hm d_Md_layItem_25
set_option maxHeartbeats 4000000 in
set_option maxRecDepth 100000 in
theorem w_Md_layRowOut_65 {D : va_G} {ad : Nat → Nat} {cA : Nat → ClassId} {p : Program} {l : Launch} {e : Env} {s : State} {m : MethodId} {args : Array Value} {below : List Frame} {meth : Method} {c : Code} {F : Nat} (hAD : ∀ σ, va_D (owM ad) (wdM ad cA σ)) (C : CM D ad cA xTr p s m args meth c bc_Md_layRowOut "KindRoundsModel" 3) (hr : meth.sig.returnType = none) {σ' : zS} (rc14 : zS → Int32 → Option zS) (h14 : ∀ σ x1, rc14 σ x1 = some σ' → ZM D ad cA p l e (rmK 3) s m args below meth c 3 (qvM D ad cA below args s σ') 14 [(0, .ref (ad 0)), (1, .int x1)] [] σ) (σ : zS) (x1 : Int32) (hm : Md_layRowOut_65 F rc14 σ x1 = some σ') : ZM D ad cA p l e (rmK 3) s m args below meth c 3 (qvM D ad cA below args s σ') 65 [(0, .ref (ad 0)), (1, .int x1)] [] σ := by
  unfold Md_layRowOut_65 at hm
  refine z_goto (pc := 65) (tgt := 14) C d_Md_layRowOut_65 (by decide) ?_
  exact h14 σ x1 hm
set_option maxHeartbeats 4000000 in
set_option maxRecDepth 100000 in
theorem w_Md_layRowOut_14 {D : va_G} {ad : Nat → Nat} {cA : Nat → ClassId} {p : Program} {l : Launch} {e : Env} {s : State} {m : MethodId} {args : Array Value} {below : List Frame} {meth : Method} {c : Code} {F : Nat} (hAD : ∀ σ, va_D (owM ad) (wdM ad cA σ)) (C : CM D ad cA xTr p s m args meth c bc_Md_layRowOut "KindRoundsModel" 3) (hr : meth.sig.returnType = none) {σ' : zS} : ∀ (n : Nat) (σ : zS) (x1 : Int32), Md_layRowOut_14 F n σ x1 = some σ' → ZM D ad cA p l e (rmK 3) s m args below meth c 3 (qvM D ad cA below args s σ') 14 [(0, .ref (ad 0)), (1, .int x1)] [] σ := by
  intro n
  induction n with
  | zero => intro σ x1 hm; cases hm
  | succ n h14 =>
    intro σ x1 hm
    have hm : Md_layRowOut_b14 F (Md_layRowOut_14 F n) σ x1 = some σ' := hm
    unfold Md_layRowOut_b14 at hm
    refine z_iload_n (pc := 14) C d_Md_layRowOut_14 rfl 1 rfl ?_
    refine z_if_le (pc := 15) (tgt := 68) C d_Md_layRowOut_15 (by decide) (fun c1 => ?_) (fun c1 => ?_)
    · rw [if_pos c1] at hm
      exact z_vretE (pc := 68) C hr hm d_Md_layRowOut_68
    · rw [if_neg c1] at hm
      refine z_iinc (pc := 18) (lv' := [(0, .ref (ad 0)), (1, .int (x1 + (-1 : Int32)))]) C d_Md_layRowOut_18 1 rfl (ii ki_m1) (Nat.le_of_ble_eq_true rfl) [1, 0] rfl ?_
      refine z_aload_n (pc := 21) C d_Md_layRowOut_21 rfl 0 rfl ?_
      refine gM_Md_172 (pc := 22) C  d_Md_layRowOut_22 ?_
      refine z_iload_n (pc := 25) C d_Md_layRowOut_25 rfl 1 rfl ?_
      obtain ⟨g2, hm⟩ := gd_s hm
      refine alM_53 (pc := 26) (v := (ga σ 53 (x1 + (-1 : Int32)).toNatClampNeg)) C  rfl g2 d_Md_layRowOut_26 ?_
      refine z_istore_n (pc := 27) (lv' := [(0, .ref (ad 0)), (1, .int (x1 + (-1 : Int32))), (2, .int (ga σ 53 (x1 + (-1 : Int32)).toNatClampNeg))]) C d_Md_layRowOut_27 rfl (Nat.le_of_ble_eq_true rfl) [1, 2, 0] rfl ?_
      refine z_iload_n (pc := 28) C d_Md_layRowOut_28 rfl 2 rfl ?_
      refine z_if_ge (pc := 29) (tgt := 53) C d_Md_layRowOut_29 (by decide) (fun c3 => ?_) (fun c3 => ?_)
      · rw [if_pos c3] at hm
        refine z_aload_n (pc := 53) C d_Md_layRowOut_53 rfl 0 rfl ?_
        refine z_iload_n (pc := 54) C d_Md_layRowOut_54 rfl 2 rfl ?_
        refine z_iconst (pc := 55) C d_Md_layRowOut_55 ki_4 ?_
        refine z_idiv (pc := 56) C d_Md_layRowOut_56 (by decide) ?_
        refine z_iload_n (pc := 57) C d_Md_layRowOut_57 rfl 2 rfl ?_
        refine z_iconst (pc := 58) C d_Md_layRowOut_58 ki_4 ?_
        refine z_irem (pc := 59) C d_Md_layRowOut_59 (by decide) ?_
        refine z_iload_n (pc := 60) C d_Md_layRowOut_60 rfl 1 rfl ?_
        obtain ⟨r5, σ4, e6, hm⟩ := bi_s hm
        refine z_callI (pc := 61) C (k_Md_layItem hAD e6) kz_Md_layItem mM_183 rfl rfl oM_0 rfl (kR_of (Nat.le_of_ble_eq_true rfl) (Nat.le_of_ble_eq_true rfl)) rfl (Nat.le_of_ble_eq_true rfl) d_Md_layRowOut_61 ?_
        refine z_istore_n (pc := 64) (lv' := [(0, .ref (ad 0)), (1, .int r5), (2, .int (ga σ 53 (x1 + (-1 : Int32)).toNatClampNeg))]) C d_Md_layRowOut_64 rfl (Nat.le_of_ble_eq_true rfl) [1, 0, 2] rfl ?_
        refine z_lv (lv' := [(0, .ref (ad 0)), (1, .int r5)]) [0, 1] rfl ?_
        exact w_Md_layRowOut_65 hAD C hr _ h14 σ4 r5 hm
      · rw [if_neg c3] at hm
        refine z_aload_n (pc := 32) C d_Md_layRowOut_32 rfl 0 rfl ?_
        refine z_iload_n (pc := 33) C d_Md_layRowOut_33 rfl 2 rfl ?_
        refine z_ineg (pc := 34) C d_Md_layRowOut_34 ?_
        obtain ⟨σ7, e8, hm⟩ := bv_s hm
        refine z_callV (pc := 35) C (k_Md_put hAD e8) kz_Md_put mM_151 rfl rfl oM_0 rfl (kR_of (Nat.le_of_ble_eq_true rfl) (Nat.le_of_ble_eq_true rfl)) rfl (Nat.le_of_ble_eq_true rfl) d_Md_layRowOut_35 ?_
        refine z_iload_n (pc := 38) C d_Md_layRowOut_38 rfl 2 rfl ?_
        refine z_bipush (pc := 39) C d_Md_layRowOut_39 kb_m45 ?_
        refine z_icmp_ne (pc := 41) (tgt := 65) C d_Md_layRowOut_41 (by decide) (fun c9 => ?_) (fun c9 => ?_)
        · rw [if_neg c9] at hm
          refine z_lv (lv' := [(0, .ref (ad 0)), (1, .int (x1 + (-1 : Int32)))]) [0, 1] rfl ?_
          exact w_Md_layRowOut_65 hAD C hr _ h14 σ7 (x1 + (-1 : Int32)) hm
        · rw [if_pos c9] at hm
          refine z_aload_n (pc := 44) C d_Md_layRowOut_44 rfl 0 rfl ?_
          refine z_bipush (pc := 45) C d_Md_layRowOut_45 kb_62 ?_
          obtain ⟨σ10, e11, hm⟩ := bv_s hm
          refine z_callV (pc := 47) C (k_Md_put hAD e11) kz_Md_put mM_151 rfl rfl oM_0 rfl (kR_of (Nat.le_of_ble_eq_true rfl) (Nat.le_of_ble_eq_true rfl)) rfl (Nat.le_of_ble_eq_true rfl) d_Md_layRowOut_47 ?_
          refine z_goto (pc := 50) (tgt := 65) C d_Md_layRowOut_50 (by decide) ?_
          refine z_lv (lv' := [(0, .ref (ad 0)), (1, .int (x1 + (-1 : Int32)))]) [0, 1] rfl ?_
          exact w_Md_layRowOut_65 hAD C hr _ h14 σ10 (x1 + (-1 : Int32)) hm
set_option maxHeartbeats 4000000 in
set_option maxRecDepth 100000 in
theorem k_Md_layRowOut {l : Launch} {D : va_G} {ad : Nat → Nat} {cA : Nat → ClassId} {F : Nat} (hAD : ∀ σ, va_D (owM ad) (wdM ad cA σ)) {σ : zS} {σ' : zS} (hm : Md_layRowOut F σ = some σ') : kVM l D ad cA xTr y_Md_layRowOut bc_Md_layRowOut 3 3 [.ref (ad 0)] σ σ' := by
  refine kV_of (by decide) hAD xTr_P (Nat.le_of_ble_eq_true rfl) ?_
  intro p e s m below meth c C hr
  unfold Md_layRowOut at hm
  refine z_lv (lv' := [(0, .ref (ad 0))]) [0] rfl ?_
  refine z_aload_n (pc := 0) C d_Md_layRowOut_0 rfl 0 rfl ?_
  refine z_iconst (pc := 1) C d_Md_layRowOut_1 ki_0 ?_
  refine pM_Md_491 (pc := 2) C  d_Md_layRowOut_2 ?_
  refine z_iconst (pc := 5) C d_Md_layRowOut_5 ki_1 ?_
  refine z_istore_n (pc := 6) (lv' := [(0, .ref (ad 0)), (1, .int (1 : Int32))]) C d_Md_layRowOut_6 rfl (Nat.le_of_ble_eq_true rfl) [1, 0] rfl ?_
  refine z_aload_n (pc := 7) C d_Md_layRowOut_7 rfl 0 rfl ?_
  refine gM_Md_172 (pc := 8) C  d_Md_layRowOut_8 ?_
  refine z_iconst (pc := 11) C d_Md_layRowOut_11 ki_0 ?_
  refine z_iconst (pc := 12) C d_Md_layRowOut_12 ki_0 ?_
  obtain ⟨g1, hm⟩ := gd_s hm
  refine asM_53 (pc := 13) C  g1 d_Md_layRowOut_13 ?_
  exact w_Md_layRowOut_14 hAD C hr F (sa (si σ 82 (0 : Int32)) 53 (0 : Int32).toNatClampNeg (0 : Int32)) (1 : Int32) hm
set_option maxHeartbeats 4000000 in
set_option maxRecDepth 100000 in
theorem k_Md_plain {l : Launch} {D : va_G} {ad : Nat → Nat} {cA : Nat → ClassId} {F : Nat} (hAD : ∀ σ, va_D (owM ad) (wdM ad cA σ)) {σ : zS} {r : Int32} {σ' : zS} (hm : Md_plain F σ = some (r, σ')) : kIM l D ad cA xTr y_Md_plain bc_Md_plain 2 .int 9 [.ref (ad 0)] σ r σ' := by
  refine kI_of (by decide) hAD xTr_P (Nat.le_of_ble_eq_true rfl) ?_
  intro p e s m below meth c C hr
  unfold Md_plain at hm
  refine z_lv (lv' := [(0, .ref (ad 0))]) [0] rfl ?_
  refine z_aload_n (pc := 0) C d_Md_plain_0 rfl 0 rfl ?_
  refine z_iconst (pc := 1) C d_Md_plain_1 ki_0 ?_
  refine pM_Md_215 (pc := 2) C  d_Md_plain_2 ?_
  refine z_aload_n (pc := 5) C d_Md_plain_5 rfl 0 rfl ?_
  refine z_iconst (pc := 6) C d_Md_plain_6 ki_0 ?_
  obtain ⟨r2, σ1, e3, hm⟩ := bi_s hm
  refine z_callI (pc := 7) C (k_Md_readAsked hAD e3) kz_Md_readAsked mM_168 rfl rfl oM_0 rfl (kR_of (Nat.le_of_ble_eq_true rfl) (Nat.le_of_ble_eq_true rfl)) rfl (Nat.le_of_ble_eq_true rfl) d_Md_plain_7 ?_
  refine z_istore_n (pc := 10) (lv' := [(0, .ref (ad 0)), (1, .int r2)]) C d_Md_plain_10 rfl (Nat.le_of_ble_eq_true rfl) [1, 0] rfl ?_
  refine z_aload_n (pc := 11) C d_Md_plain_11 rfl 0 rfl ?_
  refine gM_Md_221 (pc := 12) (v := (gi σ1 8)) C rfl d_Md_plain_12 ?_
  refine z_if_le (pc := 15) (tgt := 26) C d_Md_plain_15 (by decide) (fun c4 => ?_) (fun c4 => ?_)
  · rw [if_pos c4] at hm
    refine z_aload_n (pc := 26) C d_Md_plain_26 rfl 0 rfl ?_
    refine z_iload_n (pc := 27) C d_Md_plain_27 rfl 1 rfl ?_
    obtain ⟨r6, σ5, e7, hm⟩ := bi_s hm
    refine z_callI (pc := 28) C (k_Md_isPlain hAD e7) kz_Md_isPlain mM_185 rfl rfl oM_0 rfl (kR_of (Nat.le_of_ble_eq_true rfl) (Nat.le_of_ble_eq_true rfl)) rfl (Nat.le_of_ble_eq_true rfl) d_Md_plain_28 ?_
    refine z_if_ne (pc := 31) (tgt := 37) C d_Md_plain_31 (by decide) (fun c8 => ?_) (fun c8 => ?_)
    · rw [if_neg c8] at hm
      refine z_aload_n (pc := 37) C d_Md_plain_37 rfl 0 rfl ?_
      obtain ⟨σ9, e10, hm⟩ := bv_s hm
      refine z_callV (pc := 38) C (k_Md_layRowOut hAD e10) kz_Md_layRowOut mM_186 rfl rfl oM_0 rfl (kR_of (Nat.le_of_ble_eq_true rfl) (Nat.le_of_ble_eq_true rfl)) rfl (Nat.le_of_ble_eq_true rfl) d_Md_plain_38 ?_
      refine z_aload_n (pc := 41) C d_Md_plain_41 rfl 0 rfl ?_
      obtain ⟨r12, σ11, e13, hm⟩ := bi_s hm
      refine z_callI (pc := 42) C (k_Md_commit hAD e13) kz_Md_commit mM_154 rfl rfl oM_0 rfl (kR_of (Nat.le_of_ble_eq_true rfl) (Nat.le_of_ble_eq_true rfl)) rfl (Nat.le_of_ble_eq_true rfl) d_Md_plain_42 ?_
      exact z_iretE (pc := 45) C hr hm d_Md_plain_45
    · rw [if_pos c8] at hm
      refine z_bipush (pc := 34) C d_Md_plain_34 kb_m4 ?_
      exact z_iretE (pc := 36) C hr hm d_Md_plain_36
  · rw [if_neg c4] at hm
    refine z_bipush (pc := 18) C d_Md_plain_18 kb_m10 ?_
    refine z_aload_n (pc := 20) C d_Md_plain_20 rfl 0 rfl ?_
    refine gM_Md_221 (pc := 21) (v := (gi σ1 8)) C rfl d_Md_plain_21 ?_
    refine z_isub (pc := 24) C d_Md_plain_24 ?_
    exact z_iretE (pc := 25) C hr hm d_Md_plain_25
set_option maxHeartbeats 4000000 in
set_option maxRecDepth 100000 in
theorem w_Md_same_154 {D : va_G} {ad : Nat → Nat} {cA : Nat → ClassId} {p : Program} {l : Launch} {e : Env} {s : State} {m : MethodId} {args : Array Value} {below : List Frame} {meth : Method} {c : Code} {F : Nat} (hAD : ∀ σ, va_D (owM ad) (wdM ad cA σ)) (C : CM D ad cA xTr p s m args meth c bc_Md_same "KindRoundsModel" 5) (hr : meth.sig.returnType = some .int) {r : Int32} {σ' : zS} (σ : zS) (s0 : Int32) (hm : Md_same_154 F σ s0 = some (r, σ')) : ZM D ad cA p l e (rmK 9) s m args below meth c 5 (qiM D ad cA below args s r σ') 154 [] [.int s0] σ := by
  unfold Md_same_154 at hm
  exact z_iretE (pc := 154) C hr hm d_Md_same_154
set_option maxHeartbeats 4000000 in
set_option maxRecDepth 100000 in
theorem w_Md_same_145 {D : va_G} {ad : Nat → Nat} {cA : Nat → ClassId} {p : Program} {l : Launch} {e : Env} {s : State} {m : MethodId} {args : Array Value} {below : List Frame} {meth : Method} {c : Code} {F : Nat} (hAD : ∀ σ, va_D (owM ad) (wdM ad cA σ)) (C : CM D ad cA xTr p s m args meth c bc_Md_same "KindRoundsModel" 5) (hr : meth.sig.returnType = some .int) {r : Int32} {σ' : zS} (σ : zS) (x3 : Int32) (hm : Md_same_145 F σ x3 = some (r, σ')) : ZM D ad cA p l e (rmK 9) s m args below meth c 5 (qiM D ad cA below args s r σ') 145 [(3, .int x3)] [] σ := by
  unfold Md_same_145 at hm
  refine z_iload_n (pc := 145) C d_Md_same_145 rfl 0 rfl ?_
  refine z_if_eq (pc := 146) (tgt := 153) C d_Md_same_146 (by decide) (fun c1 => ?_) (fun c1 => ?_)
  · rw [if_pos c1] at hm
    refine z_iconst (pc := 153) C d_Md_same_153 ki_0 ?_
    refine z_lv (lv' := []) [] rfl ?_
    exact w_Md_same_154 hAD C hr σ (0 : Int32) hm
  · rw [if_neg c1] at hm
    refine z_iconst (pc := 149) C d_Md_same_149 ki_1 ?_
    refine z_goto (pc := 150) (tgt := 154) C d_Md_same_150 (by decide) ?_
    refine z_lv (lv' := []) [] rfl ?_
    exact w_Md_same_154 hAD C hr σ (1 : Int32) hm
set_option maxHeartbeats 4000000 in
set_option maxRecDepth 100000 in
theorem w_Md_same_138 {D : va_G} {ad : Nat → Nat} {cA : Nat → ClassId} {p : Program} {l : Launch} {e : Env} {s : State} {m : MethodId} {args : Array Value} {below : List Frame} {meth : Method} {c : Code} {F : Nat} (hAD : ∀ σ, va_D (owM ad) (wdM ad cA σ)) (C : CM D ad cA xTr p s m args meth c bc_Md_same "KindRoundsModel" 5) (hr : meth.sig.returnType = some .int) {r : Int32} {σ' : zS} (rc106 : zS → Int32 → Int32 → Int32 → Option (Int32 × zS)) (h106 : ∀ σ x2 x3 x4, rc106 σ x2 x3 x4 = some (r, σ') → ZM D ad cA p l e (rmK 9) s m args below meth c 5 (qiM D ad cA below args s r σ') 106 [(0, .ref (ad 0)), (2, .int x2), (3, .int x3), (4, .int x4)] [] σ) (σ : zS) (x2 : Int32) (x4 : Int32) (s0 : Int32) (hm : Md_same_138 F rc106 σ x2 x4 s0 = some (r, σ')) : ZM D ad cA p l e (rmK 9) s m args below meth c 5 (qiM D ad cA below args s r σ') 138 [(0, .ref (ad 0)), (2, .int x2), (4, .int x4)] [.int s0] σ := by
  unfold Md_same_138 at hm
  refine z_istore_n (pc := 138) (lv' := [(0, .ref (ad 0)), (2, .int x2), (3, .int s0), (4, .int x4)]) C d_Md_same_138 rfl (Nat.le_of_ble_eq_true rfl) [1, 2, 0, 3] rfl ?_
  refine z_iinc (pc := 139) (lv' := [(0, .ref (ad 0)), (2, .int x2), (3, .int s0), (4, .int (x4 + (1 : Int32)))]) C d_Md_same_139 3 rfl (ii ki_1) (Nat.le_of_ble_eq_true rfl) [1, 2, 3, 0] rfl ?_
  refine z_goto (pc := 142) (tgt := 106) C d_Md_same_142 (by decide) ?_
  exact h106 σ x2 s0 (x4 + (1 : Int32)) hm
set_option maxHeartbeats 4000000 in
set_option maxRecDepth 100000 in
theorem w_Md_same_106 {D : va_G} {ad : Nat → Nat} {cA : Nat → ClassId} {p : Program} {l : Launch} {e : Env} {s : State} {m : MethodId} {args : Array Value} {below : List Frame} {meth : Method} {c : Code} {F : Nat} (hAD : ∀ σ, va_D (owM ad) (wdM ad cA σ)) (C : CM D ad cA xTr p s m args meth c bc_Md_same "KindRoundsModel" 5) (hr : meth.sig.returnType = some .int) {r : Int32} {σ' : zS} : ∀ (n : Nat) (σ : zS) (x2 : Int32) (x3 : Int32) (x4 : Int32), Md_same_106 F n σ x2 x3 x4 = some (r, σ') → ZM D ad cA p l e (rmK 9) s m args below meth c 5 (qiM D ad cA below args s r σ') 106 [(0, .ref (ad 0)), (2, .int x2), (3, .int x3), (4, .int x4)] [] σ := by
  intro n
  induction n with
  | zero => intro σ x2 x3 x4 hm; cases hm
  | succ n h106 =>
    intro σ x2 x3 x4 hm
    have hm : Md_same_b106 F (Md_same_106 F n) σ x2 x3 x4 = some (r, σ') := hm
    unfold Md_same_b106 at hm
    refine z_iload (pc := 106) C d_Md_same_106 3 rfl ?_
    refine z_iload_n (pc := 108) C d_Md_same_108 rfl 1 rfl ?_
    refine z_icmp_ge (pc := 109) (tgt := 145) C d_Md_same_109 (by decide) (fun c1 => ?_) (fun c1 => ?_)
    · rw [if_pos c1] at hm
      refine z_lv (lv' := [(3, .int x3)]) [2] rfl ?_
      exact w_Md_same_145 hAD C hr σ x3 hm
    · rw [if_neg c1] at hm
      refine z_iload_n (pc := 112) C d_Md_same_112 rfl 2 rfl ?_
      refine z_if_eq (pc := 113) (tgt := 145) C d_Md_same_113 (by decide) (fun c2 => ?_) (fun c2 => ?_)
      · rw [if_pos c2] at hm
        refine z_lv (lv' := [(3, .int x3)]) [2] rfl ?_
        exact w_Md_same_145 hAD C hr σ x3 hm
      · rw [if_neg c2] at hm
        refine z_aload_n (pc := 116) C d_Md_same_116 rfl 0 rfl ?_
        refine gM_Md_199 (pc := 117) C  d_Md_same_117 ?_
        refine z_iload (pc := 120) C d_Md_same_120 3 rfl ?_
        obtain ⟨g3, hm⟩ := gd_s hm
        refine alM_62 (pc := 122) (v := (ga σ 62 x4.toNatClampNeg)) C  rfl g3 d_Md_same_122 ?_
        refine z_aload_n (pc := 123) C d_Md_same_123 rfl 0 rfl ?_
        refine gM_Md_178 (pc := 124) C  d_Md_same_124 ?_
        refine z_iload (pc := 127) C d_Md_same_127 3 rfl ?_
        refine alM_55 (pc := 129) (v := (ga σ 55 x4.toNatClampNeg)) C  rfl g3 d_Md_same_129 ?_
        refine z_icmp_ne (pc := 130) (tgt := 137) C d_Md_same_130 (by decide) (fun c4 => ?_) (fun c4 => ?_)
        · rw [if_neg c4] at hm
          refine z_iconst (pc := 137) C d_Md_same_137 ki_0 ?_
          refine z_lv (lv' := [(0, .ref (ad 0)), (2, .int x2), (4, .int x4)]) [0, 1, 3] rfl ?_
          exact w_Md_same_138 hAD C hr _ h106 σ x2 x4 (0 : Int32) hm
        · rw [if_pos c4] at hm
          refine z_iconst (pc := 133) C d_Md_same_133 ki_1 ?_
          refine z_goto (pc := 134) (tgt := 138) C d_Md_same_134 (by decide) ?_
          refine z_lv (lv' := [(0, .ref (ad 0)), (2, .int x2), (4, .int x4)]) [0, 1, 3] rfl ?_
          exact w_Md_same_138 hAD C hr _ h106 σ x2 x4 (1 : Int32) hm
set_option maxHeartbeats 4000000 in
set_option maxRecDepth 100000 in
theorem w_Md_same_102 {D : va_G} {ad : Nat → Nat} {cA : Nat → ClassId} {p : Program} {l : Launch} {e : Env} {s : State} {m : MethodId} {args : Array Value} {below : List Frame} {meth : Method} {c : Code} {F : Nat} (hAD : ∀ σ, va_D (owM ad) (wdM ad cA σ)) (C : CM D ad cA xTr p s m args meth c bc_Md_same "KindRoundsModel" 5) (hr : meth.sig.returnType = some .int) {r : Int32} {σ' : zS} (σ : zS) (x2 : Int32) (s0 : Int32) (hm : Md_same_102 F σ x2 s0 = some (r, σ')) : ZM D ad cA p l e (rmK 9) s m args below meth c 5 (qiM D ad cA below args s r σ') 102 [(0, .ref (ad 0)), (2, .int x2)] [.int s0] σ := by
  unfold Md_same_102 at hm
  refine z_istore_n (pc := 102) (lv' := [(0, .ref (ad 0)), (2, .int x2), (3, .int s0)]) C d_Md_same_102 rfl (Nat.le_of_ble_eq_true rfl) [1, 2, 0] rfl ?_
  refine z_iconst (pc := 103) C d_Md_same_103 ki_0 ?_
  refine z_istore (pc := 104) (lv' := [(0, .ref (ad 0)), (2, .int x2), (3, .int s0), (4, .int (0 : Int32))]) C d_Md_same_104 (Nat.le_of_ble_eq_true rfl) [1, 2, 3, 0] rfl ?_
  exact w_Md_same_106 hAD C hr F σ x2 s0 (0 : Int32) hm
set_option maxHeartbeats 4000000 in
set_option maxRecDepth 100000 in
theorem w_Md_same_48 {D : va_G} {ad : Nat → Nat} {cA : Nat → ClassId} {p : Program} {l : Launch} {e : Env} {s : State} {m : MethodId} {args : Array Value} {below : List Frame} {meth : Method} {c : Code} {F : Nat} (hAD : ∀ σ, va_D (owM ad) (wdM ad cA σ)) (C : CM D ad cA xTr p s m args meth c bc_Md_same "KindRoundsModel" 5) (hr : meth.sig.returnType = some .int) {r : Int32} {σ' : zS} : ∀ (n : Nat) (σ : zS) (x2 : Int32) (x3 : Int32), Md_same_48 F n σ x2 x3 = some (r, σ') → ZM D ad cA p l e (rmK 9) s m args below meth c 5 (qiM D ad cA below args s r σ') 48 [(0, .ref (ad 0)), (2, .int x2), (3, .int x3)] [] σ := by
  intro n
  induction n with
  | zero => intro σ x2 x3 hm; cases hm
  | succ n h48 =>
    intro σ x2 x3 hm
    have hm : Md_same_b48 F (Md_same_48 F n) σ x2 x3 = some (r, σ') := hm
    unfold Md_same_b48 at hm
    refine z_iload_n (pc := 48) C d_Md_same_48 rfl 2 rfl ?_
    refine z_iload_n (pc := 49) C d_Md_same_49 rfl 1 rfl ?_
    refine z_icmp_ge (pc := 50) (tgt := 71) C d_Md_same_50 (by decide) (fun c1 => ?_) (fun c1 => ?_)
    · rw [if_pos c1] at hm
      refine z_aload_n (pc := 71) C d_Md_same_71 rfl 0 rfl ?_
      refine z_aload_n (pc := 72) C d_Md_same_72 rfl 0 rfl ?_
      refine gM_Md_542 (pc := 73) (v := (gi σ 91)) C rfl d_Md_same_73 ?_
      obtain ⟨r3, σ2, e4, hm⟩ := bi_s hm
      refine z_callI (pc := 76) C (k_Md_isPlain hAD e4) kz_Md_isPlain mM_185 rfl rfl oM_0 rfl (kR_of (Nat.le_of_ble_eq_true rfl) (Nat.le_of_ble_eq_true rfl)) rfl (Nat.le_of_ble_eq_true rfl) d_Md_same_76 ?_
      refine z_if_ne (pc := 79) (tgt := 85) C d_Md_same_79 (by decide) (fun c5 => ?_) (fun c5 => ?_)
      · rw [if_neg c5] at hm
        refine z_aload_n (pc := 85) C d_Md_same_85 rfl 0 rfl ?_
        obtain ⟨σ6, e7, hm⟩ := bv_s hm
        refine z_callV (pc := 86) C (k_Md_layRowOut hAD e7) kz_Md_layRowOut mM_186 rfl rfl oM_0 rfl (kR_of (Nat.le_of_ble_eq_true rfl) (Nat.le_of_ble_eq_true rfl)) rfl (Nat.le_of_ble_eq_true rfl) d_Md_same_86 ?_
        refine z_iload_n (pc := 89) C d_Md_same_89 rfl 1 rfl ?_
        refine z_aload_n (pc := 90) C d_Md_same_90 rfl 0 rfl ?_
        refine gM_Md_491 (pc := 91) (v := (gi σ6 82)) C rfl d_Md_same_91 ?_
        refine z_icmp_ne (pc := 94) (tgt := 101) C d_Md_same_94 (by decide) (fun c8 => ?_) (fun c8 => ?_)
        · rw [if_neg c8] at hm
          refine z_iconst (pc := 101) C d_Md_same_101 ki_0 ?_
          refine z_lv (lv' := [(0, .ref (ad 0)), (2, .int x2)]) [0, 1] rfl ?_
          exact w_Md_same_102 hAD C hr σ6 x2 (0 : Int32) hm
        · rw [if_pos c8] at hm
          refine z_iconst (pc := 97) C d_Md_same_97 ki_1 ?_
          refine z_goto (pc := 98) (tgt := 102) C d_Md_same_98 (by decide) ?_
          refine z_lv (lv' := [(0, .ref (ad 0)), (2, .int x2)]) [0, 1] rfl ?_
          exact w_Md_same_102 hAD C hr σ6 x2 (1 : Int32) hm
      · rw [if_pos c5] at hm
        refine z_bipush (pc := 82) C d_Md_same_82 kb_m4 ?_
        exact z_iretE (pc := 84) C hr hm d_Md_same_84
    · rw [if_neg c1] at hm
      refine z_aload_n (pc := 53) C d_Md_same_53 rfl 0 rfl ?_
      refine gM_Md_199 (pc := 54) C  d_Md_same_54 ?_
      refine z_iload_n (pc := 57) C d_Md_same_57 rfl 2 rfl ?_
      refine z_aload_n (pc := 58) C d_Md_same_58 rfl 0 rfl ?_
      refine gM_Md_178 (pc := 59) C  d_Md_same_59 ?_
      refine z_iload_n (pc := 62) C d_Md_same_62 rfl 2 rfl ?_
      obtain ⟨g9, hm⟩ := gd_s hm
      refine alM_55 (pc := 63) (v := (ga σ 55 x3.toNatClampNeg)) C  rfl g9 d_Md_same_63 ?_
      refine asM_62 (pc := 64) C  g9 d_Md_same_64 ?_
      refine z_iinc (pc := 65) (lv' := [(0, .ref (ad 0)), (2, .int x2), (3, .int (x3 + (1 : Int32)))]) C d_Md_same_65 2 rfl (ii ki_1) (Nat.le_of_ble_eq_true rfl) [1, 2, 0] rfl ?_
      refine z_goto (pc := 68) (tgt := 48) C d_Md_same_68 (by decide) ?_
      exact h48 (sa σ 62 x3.toNatClampNeg (ga σ 55 x3.toNatClampNeg)) x2 (x3 + (1 : Int32)) hm
set_option maxHeartbeats 4000000 in
set_option maxRecDepth 100000 in
theorem k_Md_same {l : Launch} {D : va_G} {ad : Nat → Nat} {cA : Nat → ClassId} {F : Nat} (hAD : ∀ σ, va_D (owM ad) (wdM ad cA σ)) {σ : zS} {r : Int32} {σ' : zS} (hm : Md_same F σ = some (r, σ')) : kIM l D ad cA xTr y_Md_same bc_Md_same 5 .int 9 [.ref (ad 0)] σ r σ' := by
  refine kI_of (by decide) hAD xTr_P (Nat.le_of_ble_eq_true rfl) ?_
  intro p e s m below meth c C hr
  unfold Md_same at hm
  refine z_lv (lv' := [(0, .ref (ad 0))]) [0] rfl ?_
  refine z_aload_n (pc := 0) C d_Md_same_0 rfl 0 rfl ?_
  refine z_iconst (pc := 1) C d_Md_same_1 ki_0 ?_
  refine pM_Md_215 (pc := 2) C  d_Md_same_2 ?_
  refine z_aload_n (pc := 5) C d_Md_same_5 rfl 0 rfl ?_
  refine z_iconst (pc := 6) C d_Md_same_6 ki_1 ?_
  obtain ⟨r2, σ1, e3, hm⟩ := bi_s hm
  refine z_callI (pc := 7) C (k_Md_readAsked hAD e3) kz_Md_readAsked mM_168 rfl rfl oM_0 rfl (kR_of (Nat.le_of_ble_eq_true rfl) (Nat.le_of_ble_eq_true rfl)) rfl (Nat.le_of_ble_eq_true rfl) d_Md_same_7 ?_
  refine z_istore_n (pc := 10) (lv' := [(0, .ref (ad 0)), (1, .int r2)]) C d_Md_same_10 rfl (Nat.le_of_ble_eq_true rfl) [1, 0] rfl ?_
  refine z_aload_n (pc := 11) C d_Md_same_11 rfl 0 rfl ?_
  refine gM_Md_221 (pc := 12) (v := (gi σ1 8)) C rfl d_Md_same_12 ?_
  refine z_if_le (pc := 15) (tgt := 26) C d_Md_same_15 (by decide) (fun c4 => ?_) (fun c4 => ?_)
  · rw [if_pos c4] at hm
    refine z_aload_n (pc := 26) C d_Md_same_26 rfl 0 rfl ?_
    refine z_iload_n (pc := 27) C d_Md_same_27 rfl 1 rfl ?_
    obtain ⟨r6, σ5, e7, hm⟩ := bi_s hm
    refine z_callI (pc := 28) C (k_Md_isPlain hAD e7) kz_Md_isPlain mM_185 rfl rfl oM_0 rfl (kR_of (Nat.le_of_ble_eq_true rfl) (Nat.le_of_ble_eq_true rfl)) rfl (Nat.le_of_ble_eq_true rfl) d_Md_same_28 ?_
    refine z_if_ne (pc := 31) (tgt := 37) C d_Md_same_31 (by decide) (fun c8 => ?_) (fun c8 => ?_)
    · rw [if_neg c8] at hm
      refine z_aload_n (pc := 37) C d_Md_same_37 rfl 0 rfl ?_
      obtain ⟨σ9, e10, hm⟩ := bv_s hm
      refine z_callV (pc := 38) C (k_Md_layRowOut hAD e10) kz_Md_layRowOut mM_186 rfl rfl oM_0 rfl (kR_of (Nat.le_of_ble_eq_true rfl) (Nat.le_of_ble_eq_true rfl)) rfl (Nat.le_of_ble_eq_true rfl) d_Md_same_38 ?_
      refine z_aload_n (pc := 41) C d_Md_same_41 rfl 0 rfl ?_
      refine gM_Md_491 (pc := 42) (v := (gi σ9 82)) C rfl d_Md_same_42 ?_
      refine z_istore_n (pc := 45) (lv' := [(0, .ref (ad 0)), (1, .int r2), (2, .int (gi σ9 82))]) C d_Md_same_45 rfl (Nat.le_of_ble_eq_true rfl) [1, 2, 0] rfl ?_
      refine z_iconst (pc := 46) C d_Md_same_46 ki_0 ?_
      refine z_istore_n (pc := 47) (lv' := [(0, .ref (ad 0)), (1, .int r2), (2, .int (gi σ9 82)), (3, .int (0 : Int32))]) C d_Md_same_47 rfl (Nat.le_of_ble_eq_true rfl) [1, 2, 3, 0] rfl ?_
      refine z_lv (lv' := [(0, .ref (ad 0)), (2, .int (gi σ9 82)), (3, .int (0 : Int32))]) [0, 2, 3] rfl ?_
      exact w_Md_same_48 hAD C hr F σ9 (gi σ9 82) (0 : Int32) hm
    · rw [if_pos c8] at hm
      refine z_bipush (pc := 34) C d_Md_same_34 kb_m4 ?_
      exact z_iretE (pc := 36) C hr hm d_Md_same_36
  · rw [if_neg c4] at hm
    refine z_bipush (pc := 18) C d_Md_same_18 kb_m10 ?_
    refine z_aload_n (pc := 20) C d_Md_same_20 rfl 0 rfl ?_
    refine gM_Md_221 (pc := 21) (v := (gi σ1 8)) C rfl d_Md_same_21 ?_
    refine z_isub (pc := 24) C d_Md_same_24 ?_
    exact z_iretE (pc := 25) C hr hm d_Md_same_25
