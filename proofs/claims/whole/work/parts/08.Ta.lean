/-! Walks of Ta. Written by program (wip/gen). -/
set_option maxHeartbeats 4000000 in
set_option maxRecDepth 100000 in
theorem w_Ta_hasRoom_18 {D : va_G} {ad : Nat → Nat} {cA : Nat → ClassId} {p : Program} {l : Launch} {e : Env} {s : State} {m : MethodId} {args : Array Value} {below : List Frame} {meth : Method} {c : Code} {F : Nat} (hAD : ∀ σ, va_D (owC ad) (wdC ad cA σ)) (C : CC D ad cA (sXC ad) p s m args meth c bc_Ta_hasRoom "KindRounds$Tape" 1) (hr : meth.sig.returnType = some .boolean) {r : Int32} {σ' : zS} (σ : zS) (s0 : Int32) (hm : Ta_hasRoom_18 F σ s0 = some (r, σ')) : ZC D ad cA p l e (rmK 0) s m args below meth c 1 (qiC D ad cA below args s r σ') 18 [] [.int s0] σ := by
  unfold Ta_hasRoom_18 at hm
  obtain ⟨g1, hm⟩ := gd_s hm
  exact z_zretE (pc := 18) C hr g1 hm d_Ta_hasRoom_18
set_option maxHeartbeats 4000000 in
set_option maxRecDepth 100000 in
theorem k_Ta_hasRoom {l : Launch} {D : va_G} {ad : Nat → Nat} {cA : Nat → ClassId} {F : Nat} (hAD : ∀ σ, va_D (owC ad) (wdC ad cA σ)) {σ : zS} {r : Int32} {σ' : zS} (hm : Ta_hasRoom F σ = some (r, σ')) : kIC l D ad cA (sXC ad) y_Ta_hasRoom bc_Ta_hasRoom 1 .boolean 0 [.ref (ad 1)] σ r σ' := by
  refine kI_of (by decide) hAD sXC_P (Nat.le_of_ble_eq_true rfl) ?_
  intro p e s m below meth c C hr
  unfold Ta_hasRoom at hm
  refine z_lv (lv' := [(0, .ref (ad 1))]) [0] rfl ?_
  refine z_aload_n (pc := 0) C d_Ta_hasRoom_0 rfl 0 rfl ?_
  refine gC_Ta_25 (pc := 1) (v := (gi σ 101)) C rfl d_Ta_hasRoom_1 ?_
  refine z_bipush (pc := 4) C d_Ta_hasRoom_4 kb_20 ?_
  refine z_iadd (pc := 6) C d_Ta_hasRoom_6 ?_
  refine z_sipush (pc := 7) C d_Ta_hasRoom_7 ks_1200 ?_
  refine z_icmp_gt (pc := 10) (tgt := 17) C d_Ta_hasRoom_10 (by decide) (fun c1 => ?_) (fun c1 => ?_)
  · rw [if_pos c1] at hm
    refine z_iconst (pc := 17) C d_Ta_hasRoom_17 ki_0 ?_
    refine z_lv (lv' := []) [] rfl ?_
    exact w_Ta_hasRoom_18 hAD C hr σ (0 : Int32) hm
  · rw [if_neg c1] at hm
    refine z_iconst (pc := 13) C d_Ta_hasRoom_13 ki_1 ?_
    refine z_goto (pc := 14) (tgt := 18) C d_Ta_hasRoom_14 (by decide) ?_
    refine z_lv (lv' := []) [] rfl ?_
    exact w_Ta_hasRoom_18 hAD C hr σ (1 : Int32) hm
set_option maxHeartbeats 4000000 in
set_option maxRecDepth 100000 in
theorem w_Ta_append_49 {D : va_G} {ad : Nat → Nat} {cA : Nat → ClassId} {p : Program} {l : Launch} {e : Env} {s : State} {m : MethodId} {args : Array Value} {below : List Frame} {meth : Method} {c : Code} {F : Nat} (hAD : ∀ σ, va_D (owC ad) (wdC ad cA σ)) (C : CC D ad cA (sXC ad) p s m args meth c bc_Ta_append "KindRounds$Tape" 3) (hr : meth.sig.returnType = none) {σ' : zS} (σ : zS) (hm : Ta_append_49 F σ = some σ') : ZC D ad cA p l e (rmK 0) s m args below meth c 3 (qvC D ad cA below args s σ') 49 [] [] σ := by
  unfold Ta_append_49 at hm
  exact z_vretE (pc := 49) C hr hm d_Ta_append_49
set_option maxHeartbeats 4000000 in
set_option maxRecDepth 100000 in
theorem w_Ta_append_3 {D : va_G} {ad : Nat → Nat} {cA : Nat → ClassId} {p : Program} {l : Launch} {e : Env} {s : State} {m : MethodId} {args : Array Value} {below : List Frame} {meth : Method} {c : Code} {F : Nat} (hAD : ∀ σ, va_D (owC ad) (wdC ad cA σ)) (C : CC D ad cA (sXC ad) p s m args meth c bc_Ta_append "KindRounds$Tape" 3) (hr : meth.sig.returnType = none) {σ' : zS} : ∀ (n : Nat) (σ : zS) (x1 : Int32) (x2 : Int32), Ta_append_3 F n σ x1 x2 = some σ' → ZC D ad cA p l e (rmK 0) s m args below meth c 3 (qvC D ad cA below args s σ') 3 [(0, .ref (ad 1)), (1, .int x1), (2, .int x2)] [] σ := by
  intro n
  induction n with
  | zero => intro σ x1 x2 hm; cases hm
  | succ n h3 =>
    intro σ x1 x2 hm
    have hm : Ta_append_b3 F (Ta_append_3 F n) σ x1 x2 = some σ' := hm
    unfold Ta_append_b3 at hm
    refine z_iload_n (pc := 3) C d_Ta_append_3 rfl 2 rfl ?_
    refine z_if_lt (pc := 4) (tgt := 49) C d_Ta_append_4 (by decide) (fun c1 => ?_) (fun c1 => ?_)
    · rw [if_pos c1] at hm
      refine z_lv (lv' := []) [] rfl ?_
      exact w_Ta_append_49 hAD C hr σ hm
    · rw [if_neg c1] at hm
      refine z_aload_n (pc := 7) C d_Ta_append_7 rfl 0 rfl ?_
      refine gC_Ta_25 (pc := 8) (v := (gi σ 101)) C rfl d_Ta_append_8 ?_
      refine z_sipush (pc := 11) C d_Ta_append_11 ks_1200 ?_
      refine z_icmp_ge (pc := 14) (tgt := 49) C d_Ta_append_14 (by decide) (fun c2 => ?_) (fun c2 => ?_)
      · rw [if_pos c2] at hm
        refine z_lv (lv' := []) [] rfl ?_
        exact w_Ta_append_49 hAD C hr σ hm
      · rw [if_neg c2] at hm
        refine z_aload_n (pc := 17) C d_Ta_append_17 rfl 0 rfl ?_
        refine gC_Ta_11 (pc := 18) C  d_Ta_append_18 ?_
        refine z_aload_n (pc := 21) C d_Ta_append_21 rfl 0 rfl ?_
        refine gC_Ta_25 (pc := 22) (v := (gi σ 101)) C rfl d_Ta_append_22 ?_
        refine z_iload_n (pc := 25) C d_Ta_append_25 rfl 1 rfl ?_
        refine z_iload_n (pc := 26) C d_Ta_append_26 rfl 2 rfl ?_
        refine z_iushr (pc := 27) C d_Ta_append_27 ?_
        refine z_sipush (pc := 28) C d_Ta_append_28 ks_255 ?_
        refine z_iand (pc := 31) C d_Ta_append_31 ?_
        obtain ⟨g3, hm⟩ := gd_s hm
        refine asC_19 (pc := 32) C  g3 d_Ta_append_32 ?_
        refine z_aload_n (pc := 33) C d_Ta_append_33 rfl 0 rfl ?_
        refine z_dup (pc := 34) C d_Ta_append_34 rfl ?_
        refine gC_Ta_25 (pc := 35) (v := (gi σ 101)) C rfl d_Ta_append_35 ?_
        refine z_iconst (pc := 38) C d_Ta_append_38 ki_1 ?_
        refine z_iadd (pc := 39) C d_Ta_append_39 ?_
        refine pC_Ta_25 (pc := 40) C  d_Ta_append_40 ?_
        refine z_iinc (pc := 43) (lv' := [(0, .ref (ad 1)), (1, .int x1), (2, .int (x2 + (-8 : Int32)))]) C d_Ta_append_43 2 rfl (ii ki_m8) (Nat.le_of_ble_eq_true rfl) [1, 2, 0] rfl ?_
        refine z_goto (pc := 46) (tgt := 3) C d_Ta_append_46 (by decide) ?_
        exact h3 (si (sa σ 19 (gi σ 101).toNatClampNeg ((x1.toUInt32 >>> (Int32.toUInt32 x2 &&& Int32.toUInt32 31)).toInt32 &&& (255 : Int32))) 101 ((gi σ 101) + (1 : Int32))) x1 (x2 + (-8 : Int32)) hm
set_option maxHeartbeats 4000000 in
set_option maxRecDepth 100000 in
theorem k_Ta_append {l : Launch} {D : va_G} {ad : Nat → Nat} {cA : Nat → ClassId} {F : Nat} (hAD : ∀ σ, va_D (owC ad) (wdC ad cA σ)) {σ : zS} {x1 : Int32} {σ' : zS} (hm : Ta_append F σ x1 = some σ') : kVC l D ad cA (sXC ad) y_Ta_append bc_Ta_append 3 0 [.ref (ad 1), .int x1] σ σ' := by
  refine kV_of (by decide) hAD sXC_P (Nat.le_of_ble_eq_true rfl) ?_
  intro p e s m below meth c C hr
  unfold Ta_append at hm
  refine z_lv (lv' := [(0, .ref (ad 1)), (1, .int x1)]) [0, 1] rfl ?_
  refine z_bipush (pc := 0) C d_Ta_append_0 kb_24 ?_
  refine z_istore_n (pc := 2) (lv' := [(0, .ref (ad 1)), (1, .int x1), (2, .int (24 : Int32))]) C d_Ta_append_2 rfl (Nat.le_of_ble_eq_true rfl) [1, 2, 0] rfl ?_
  exact w_Ta_append_3 hAD C hr F σ x1 (24 : Int32) hm
set_option maxHeartbeats 4000000 in
set_option maxRecDepth 100000 in
theorem k_Ta_addToken {l : Launch} {D : va_G} {ad : Nat → Nat} {cA : Nat → ClassId} {F : Nat} (hAD : ∀ σ, va_D (owC ad) (wdC ad cA σ)) {σ : zS} {x1 : Int32} {x2 : Int64} {x4 : Int32} {σ' : zS} (hm : Ta_addToken F σ x1 x2 x4 = some σ') : kVC l D ad cA (sXC ad) y_Ta_addToken bc_Ta_addToken 5 0 [.ref (ad 1), .int x1, .long x2, .int x4] σ σ' := by
  refine kV_of (by decide) hAD sXC_P (Nat.le_of_ble_eq_true rfl) ?_
  intro p e s m below meth c C hr
  unfold Ta_addToken at hm
  refine z_lv (lv' := [(0, .ref (ad 1)), (1, .int x1), (2, .long x2), (4, .int x4)]) [0, 1, 2, 3] rfl ?_
  refine z_aload_n (pc := 0) C d_Ta_addToken_0 rfl 0 rfl ?_
  refine gC_Ta_29 (pc := 1) (v := (gi σ 105)) C rfl d_Ta_addToken_1 ?_
  refine z_sipush (pc := 4) C d_Ta_addToken_4 ks_1200 ?_
  refine z_icmp_le (pc := 7) (tgt := 11) C d_Ta_addToken_7 (by decide) (fun c1 => ?_) (fun c1 => ?_)
  · rw [if_pos c1] at hm
    refine z_aload_n (pc := 11) C d_Ta_addToken_11 rfl 0 rfl ?_
    refine gC_Ta_15 (pc := 12) C  d_Ta_addToken_12 ?_
    refine z_aload_n (pc := 15) C d_Ta_addToken_15 rfl 0 rfl ?_
    refine gC_Ta_29 (pc := 16) (v := (gi σ 105)) C rfl d_Ta_addToken_16 ?_
    refine z_iload_n (pc := 19) C d_Ta_addToken_19 rfl 1 rfl ?_
    obtain ⟨g2, hm⟩ := gd_s hm
    refine asC_20 (pc := 20) C  g2 d_Ta_addToken_20 ?_
    refine z_aload_n (pc := 21) C d_Ta_addToken_21 rfl 0 rfl ?_
    refine gC_Ta_18 (pc := 22) C  d_Ta_addToken_22 ?_
    refine z_aload_n (pc := 25) C d_Ta_addToken_25 rfl 0 rfl ?_
    refine gC_Ta_29 (pc := 26) (v := (gi σ 105)) C rfl d_Ta_addToken_26 ?_
    refine z_lload_n (pc := 29) C d_Ta_addToken_29 rfl 2 rfl ?_
    refine asC_21 (pc := 30) C  g2 d_Ta_addToken_30 ?_
    refine z_aload_n (pc := 31) C d_Ta_addToken_31 rfl 0 rfl ?_
    refine gC_Ta_22 (pc := 32) C  d_Ta_addToken_32 ?_
    refine z_aload_n (pc := 35) C d_Ta_addToken_35 rfl 0 rfl ?_
    refine gC_Ta_29 (pc := 36) (v := (gi σ 105)) C rfl d_Ta_addToken_36 ?_
    refine z_iload (pc := 39) C d_Ta_addToken_39 3 rfl ?_
    refine asC_22 (pc := 41) C  g2 d_Ta_addToken_41 ?_
    refine z_aload_n (pc := 42) C d_Ta_addToken_42 rfl 0 rfl ?_
    refine z_dup (pc := 43) C d_Ta_addToken_43 rfl ?_
    refine gC_Ta_29 (pc := 44) (v := (gi σ 105)) C rfl d_Ta_addToken_44 ?_
    refine z_iconst (pc := 47) C d_Ta_addToken_47 ki_1 ?_
    refine z_iadd (pc := 48) C d_Ta_addToken_48 ?_
    refine pC_Ta_29 (pc := 49) C  d_Ta_addToken_49 ?_
    exact z_vretE (pc := 52) C hr hm d_Ta_addToken_52
  · rw [if_neg c1] at hm
    exact z_vretE (pc := 10) C hr hm d_Ta_addToken_10
set_option maxHeartbeats 4000000 in
set_option maxRecDepth 100000 in
theorem w_Ta_isBigLetter_17 {D : va_G} {ad : Nat → Nat} {cA : Nat → ClassId} {p : Program} {l : Launch} {e : Env} {s : State} {m : MethodId} {args : Array Value} {below : List Frame} {meth : Method} {c : Code} {F : Nat} (hAD : ∀ σ, va_D (owC ad) (wdC ad cA σ)) (C : CC D ad cA (sXC ad) p s m args meth c bc_Ta_isBigLetter "KindRounds$Tape" 1) (hr : meth.sig.returnType = some .boolean) {r : Int32} {σ' : zS} (σ : zS) (s0 : Int32) (hm : Ta_isBigLetter_17 F σ s0 = some (r, σ')) : ZC D ad cA p l e (rmK 0) s m args below meth c 1 (qiC D ad cA below args s r σ') 17 [] [.int s0] σ := by
  unfold Ta_isBigLetter_17 at hm
  obtain ⟨g1, hm⟩ := gd_s hm
  exact z_zretE (pc := 17) C hr g1 hm d_Ta_isBigLetter_17
set_option maxHeartbeats 4000000 in
set_option maxRecDepth 100000 in
theorem w_Ta_isBigLetter_16 {D : va_G} {ad : Nat → Nat} {cA : Nat → ClassId} {p : Program} {l : Launch} {e : Env} {s : State} {m : MethodId} {args : Array Value} {below : List Frame} {meth : Method} {c : Code} {F : Nat} (hAD : ∀ σ, va_D (owC ad) (wdC ad cA σ)) (C : CC D ad cA (sXC ad) p s m args meth c bc_Ta_isBigLetter "KindRounds$Tape" 1) (hr : meth.sig.returnType = some .boolean) {r : Int32} {σ' : zS} (σ : zS) (hm : Ta_isBigLetter_16 F σ = some (r, σ')) : ZC D ad cA p l e (rmK 0) s m args below meth c 1 (qiC D ad cA below args s r σ') 16 [] [] σ := by
  unfold Ta_isBigLetter_16 at hm
  refine z_iconst (pc := 16) C d_Ta_isBigLetter_16 ki_0 ?_
  exact w_Ta_isBigLetter_17 hAD C hr σ (0 : Int32) hm
set_option maxHeartbeats 4000000 in
set_option maxRecDepth 100000 in
theorem k_Ta_isBigLetter {l : Launch} {D : va_G} {ad : Nat → Nat} {cA : Nat → ClassId} {F : Nat} (hAD : ∀ σ, va_D (owC ad) (wdC ad cA σ)) {σ : zS} {x0 : Int32} {r : Int32} {σ' : zS} (hm : Ta_isBigLetter F σ x0 = some (r, σ')) : kIC l D ad cA (sXC ad) y_Ta_isBigLetter bc_Ta_isBigLetter 1 .boolean 0 [.int x0] σ r σ' := by
  refine kI_of (by decide) hAD sXC_P (Nat.le_of_ble_eq_true rfl) ?_
  intro p e s m below meth c C hr
  unfold Ta_isBigLetter at hm
  refine z_lv (lv' := [(0, .int x0)]) [0] rfl ?_
  refine z_iload_n (pc := 0) C d_Ta_isBigLetter_0 rfl 0 rfl ?_
  refine z_bipush (pc := 1) C d_Ta_isBigLetter_1 kb_65 ?_
  refine z_icmp_lt (pc := 3) (tgt := 16) C d_Ta_isBigLetter_3 (by decide) (fun c1 => ?_) (fun c1 => ?_)
  · rw [if_pos c1] at hm
    refine z_lv (lv' := []) [] rfl ?_
    exact w_Ta_isBigLetter_16 hAD C hr σ hm
  · rw [if_neg c1] at hm
    refine z_iload_n (pc := 6) C d_Ta_isBigLetter_6 rfl 0 rfl ?_
    refine z_bipush (pc := 7) C d_Ta_isBigLetter_7 kb_90 ?_
    refine z_icmp_gt (pc := 9) (tgt := 16) C d_Ta_isBigLetter_9 (by decide) (fun c2 => ?_) (fun c2 => ?_)
    · rw [if_pos c2] at hm
      refine z_lv (lv' := []) [] rfl ?_
      exact w_Ta_isBigLetter_16 hAD C hr σ hm
    · rw [if_neg c2] at hm
      refine z_iconst (pc := 12) C d_Ta_isBigLetter_12 ki_1 ?_
      refine z_goto (pc := 13) (tgt := 17) C d_Ta_isBigLetter_13 (by decide) ?_
      refine z_lv (lv' := []) [] rfl ?_
      exact w_Ta_isBigLetter_17 hAD C hr σ (1 : Int32) hm
set_option maxHeartbeats 4000000 in
set_option maxRecDepth 100000 in
theorem w_Ta_isSmallLetter_17 {D : va_G} {ad : Nat → Nat} {cA : Nat → ClassId} {p : Program} {l : Launch} {e : Env} {s : State} {m : MethodId} {args : Array Value} {below : List Frame} {meth : Method} {c : Code} {F : Nat} (hAD : ∀ σ, va_D (owC ad) (wdC ad cA σ)) (C : CC D ad cA (sXC ad) p s m args meth c bc_Ta_isSmallLetter "KindRounds$Tape" 1) (hr : meth.sig.returnType = some .boolean) {r : Int32} {σ' : zS} (σ : zS) (s0 : Int32) (hm : Ta_isSmallLetter_17 F σ s0 = some (r, σ')) : ZC D ad cA p l e (rmK 0) s m args below meth c 1 (qiC D ad cA below args s r σ') 17 [] [.int s0] σ := by
  unfold Ta_isSmallLetter_17 at hm
  obtain ⟨g1, hm⟩ := gd_s hm
  exact z_zretE (pc := 17) C hr g1 hm d_Ta_isSmallLetter_17
set_option maxHeartbeats 4000000 in
set_option maxRecDepth 100000 in
theorem w_Ta_isSmallLetter_16 {D : va_G} {ad : Nat → Nat} {cA : Nat → ClassId} {p : Program} {l : Launch} {e : Env} {s : State} {m : MethodId} {args : Array Value} {below : List Frame} {meth : Method} {c : Code} {F : Nat} (hAD : ∀ σ, va_D (owC ad) (wdC ad cA σ)) (C : CC D ad cA (sXC ad) p s m args meth c bc_Ta_isSmallLetter "KindRounds$Tape" 1) (hr : meth.sig.returnType = some .boolean) {r : Int32} {σ' : zS} (σ : zS) (hm : Ta_isSmallLetter_16 F σ = some (r, σ')) : ZC D ad cA p l e (rmK 0) s m args below meth c 1 (qiC D ad cA below args s r σ') 16 [] [] σ := by
  unfold Ta_isSmallLetter_16 at hm
  refine z_iconst (pc := 16) C d_Ta_isSmallLetter_16 ki_0 ?_
  exact w_Ta_isSmallLetter_17 hAD C hr σ (0 : Int32) hm
set_option maxHeartbeats 4000000 in
set_option maxRecDepth 100000 in
theorem k_Ta_isSmallLetter {l : Launch} {D : va_G} {ad : Nat → Nat} {cA : Nat → ClassId} {F : Nat} (hAD : ∀ σ, va_D (owC ad) (wdC ad cA σ)) {σ : zS} {x0 : Int32} {r : Int32} {σ' : zS} (hm : Ta_isSmallLetter F σ x0 = some (r, σ')) : kIC l D ad cA (sXC ad) y_Ta_isSmallLetter bc_Ta_isSmallLetter 1 .boolean 0 [.int x0] σ r σ' := by
  refine kI_of (by decide) hAD sXC_P (Nat.le_of_ble_eq_true rfl) ?_
  intro p e s m below meth c C hr
  unfold Ta_isSmallLetter at hm
  refine z_lv (lv' := [(0, .int x0)]) [0] rfl ?_
  refine z_iload_n (pc := 0) C d_Ta_isSmallLetter_0 rfl 0 rfl ?_
  refine z_bipush (pc := 1) C d_Ta_isSmallLetter_1 kb_97 ?_
  refine z_icmp_lt (pc := 3) (tgt := 16) C d_Ta_isSmallLetter_3 (by decide) (fun c1 => ?_) (fun c1 => ?_)
  · rw [if_pos c1] at hm
    refine z_lv (lv' := []) [] rfl ?_
    exact w_Ta_isSmallLetter_16 hAD C hr σ hm
  · rw [if_neg c1] at hm
    refine z_iload_n (pc := 6) C d_Ta_isSmallLetter_6 rfl 0 rfl ?_
    refine z_bipush (pc := 7) C d_Ta_isSmallLetter_7 kb_122 ?_
    refine z_icmp_gt (pc := 9) (tgt := 16) C d_Ta_isSmallLetter_9 (by decide) (fun c2 => ?_) (fun c2 => ?_)
    · rw [if_pos c2] at hm
      refine z_lv (lv' := []) [] rfl ?_
      exact w_Ta_isSmallLetter_16 hAD C hr σ hm
    · rw [if_neg c2] at hm
      refine z_iconst (pc := 12) C d_Ta_isSmallLetter_12 ki_1 ?_
      refine z_goto (pc := 13) (tgt := 17) C d_Ta_isSmallLetter_13 (by decide) ?_
      refine z_lv (lv' := []) [] rfl ?_
      exact w_Ta_isSmallLetter_17 hAD C hr σ (1 : Int32) hm
set_option maxHeartbeats 4000000 in
set_option maxRecDepth 100000 in
theorem w_Ta_isNameByte_31 {D : va_G} {ad : Nat → Nat} {cA : Nat → ClassId} {p : Program} {l : Launch} {e : Env} {s : State} {m : MethodId} {args : Array Value} {below : List Frame} {meth : Method} {c : Code} {F : Nat} (hAD : ∀ σ, va_D (owC ad) (wdC ad cA σ)) (C : CC D ad cA (sXC ad) p s m args meth c bc_Ta_isNameByte "KindRounds$Tape" 1) (hr : meth.sig.returnType = some .boolean) {r : Int32} {σ' : zS} (σ : zS) (s0 : Int32) (hm : Ta_isNameByte_31 F σ s0 = some (r, σ')) : ZC D ad cA p l e (rmK 1) s m args below meth c 1 (qiC D ad cA below args s r σ') 31 [] [.int s0] σ := by
  unfold Ta_isNameByte_31 at hm
  obtain ⟨g1, hm⟩ := gd_s hm
  exact z_zretE (pc := 31) C hr g1 hm d_Ta_isNameByte_31
set_option maxHeartbeats 4000000 in
set_option maxRecDepth 100000 in
theorem w_Ta_isNameByte_26 {D : va_G} {ad : Nat → Nat} {cA : Nat → ClassId} {p : Program} {l : Launch} {e : Env} {s : State} {m : MethodId} {args : Array Value} {below : List Frame} {meth : Method} {c : Code} {F : Nat} (hAD : ∀ σ, va_D (owC ad) (wdC ad cA σ)) (C : CC D ad cA (sXC ad) p s m args meth c bc_Ta_isNameByte "KindRounds$Tape" 1) (hr : meth.sig.returnType = some .boolean) {r : Int32} {σ' : zS} (σ : zS) (hm : Ta_isNameByte_26 F σ = some (r, σ')) : ZC D ad cA p l e (rmK 1) s m args below meth c 1 (qiC D ad cA below args s r σ') 26 [] [] σ := by
  unfold Ta_isNameByte_26 at hm
  refine z_iconst (pc := 26) C d_Ta_isNameByte_26 ki_1 ?_
  refine z_goto (pc := 27) (tgt := 31) C d_Ta_isNameByte_27 (by decide) ?_
  exact w_Ta_isNameByte_31 hAD C hr σ (1 : Int32) hm
set_option maxHeartbeats 4000000 in
set_option maxRecDepth 100000 in
theorem w_Ta_isNameByte_30 {D : va_G} {ad : Nat → Nat} {cA : Nat → ClassId} {p : Program} {l : Launch} {e : Env} {s : State} {m : MethodId} {args : Array Value} {below : List Frame} {meth : Method} {c : Code} {F : Nat} (hAD : ∀ σ, va_D (owC ad) (wdC ad cA σ)) (C : CC D ad cA (sXC ad) p s m args meth c bc_Ta_isNameByte "KindRounds$Tape" 1) (hr : meth.sig.returnType = some .boolean) {r : Int32} {σ' : zS} (σ : zS) (hm : Ta_isNameByte_30 F σ = some (r, σ')) : ZC D ad cA p l e (rmK 1) s m args below meth c 1 (qiC D ad cA below args s r σ') 30 [] [] σ := by
  unfold Ta_isNameByte_30 at hm
  refine z_iconst (pc := 30) C d_Ta_isNameByte_30 ki_0 ?_
  exact w_Ta_isNameByte_31 hAD C hr σ (0 : Int32) hm
set_option maxHeartbeats 4000000 in
set_option maxRecDepth 100000 in
theorem k_Ta_isNameByte {l : Launch} {D : va_G} {ad : Nat → Nat} {cA : Nat → ClassId} {F : Nat} (hAD : ∀ σ, va_D (owC ad) (wdC ad cA σ)) {σ : zS} {x0 : Int32} {r : Int32} {σ' : zS} (hm : Ta_isNameByte F σ x0 = some (r, σ')) : kIC l D ad cA (sXC ad) y_Ta_isNameByte bc_Ta_isNameByte 1 .boolean 1 [.int x0] σ r σ' := by
  refine kI_of (by decide) hAD sXC_P (Nat.le_of_ble_eq_true rfl) ?_
  intro p e s m below meth c C hr
  unfold Ta_isNameByte at hm
  refine z_lv (lv' := [(0, .int x0)]) [0] rfl ?_
  refine z_iload_n (pc := 0) C d_Ta_isNameByte_0 rfl 0 rfl ?_
  obtain ⟨r2, σ1, e3, hm⟩ := bi_s hm
  refine z_callSI (pc := 1) C (k_Ta_isBigLetter hAD e3) km_Ta_isBigLetter mC_5 rfl (kR_of (Nat.le_of_ble_eq_true rfl) (Nat.le_of_ble_eq_true rfl)) rfl (Nat.le_of_ble_eq_true rfl) d_Ta_isNameByte_1 ?_
  refine z_if_ne (pc := 4) (tgt := 26) C d_Ta_isNameByte_4 (by decide) (fun c4 => ?_) (fun c4 => ?_)
  · rw [if_neg c4] at hm
    refine z_lv (lv' := []) [] rfl ?_
    exact w_Ta_isNameByte_26 hAD C hr σ1 hm
  · rw [if_pos c4] at hm
    refine z_iload_n (pc := 7) C d_Ta_isNameByte_7 rfl 0 rfl ?_
    obtain ⟨r6, σ5, e7, hm⟩ := bi_s hm
    refine z_callSI (pc := 8) C (k_Ta_isSmallLetter hAD e7) km_Ta_isSmallLetter mC_6 rfl (kR_of (Nat.le_of_ble_eq_true rfl) (Nat.le_of_ble_eq_true rfl)) rfl (Nat.le_of_ble_eq_true rfl) d_Ta_isNameByte_8 ?_
    refine z_if_ne (pc := 11) (tgt := 26) C d_Ta_isNameByte_11 (by decide) (fun c8 => ?_) (fun c8 => ?_)
    · rw [if_neg c8] at hm
      refine z_lv (lv' := []) [] rfl ?_
      exact w_Ta_isNameByte_26 hAD C hr σ5 hm
    · rw [if_pos c8] at hm
      refine z_iload_n (pc := 14) C d_Ta_isNameByte_14 rfl 0 rfl ?_
      refine z_bipush (pc := 15) C d_Ta_isNameByte_15 kb_48 ?_
      refine z_icmp_lt (pc := 17) (tgt := 30) C d_Ta_isNameByte_17 (by decide) (fun c9 => ?_) (fun c9 => ?_)
      · rw [if_pos c9] at hm
        refine z_lv (lv' := []) [] rfl ?_
        exact w_Ta_isNameByte_30 hAD C hr σ5 hm
      · rw [if_neg c9] at hm
        refine z_iload_n (pc := 20) C d_Ta_isNameByte_20 rfl 0 rfl ?_
        refine z_bipush (pc := 21) C d_Ta_isNameByte_21 kb_57 ?_
        refine z_icmp_gt (pc := 23) (tgt := 30) C d_Ta_isNameByte_23 (by decide) (fun c10 => ?_) (fun c10 => ?_)
        · rw [if_pos c10] at hm
          refine z_lv (lv' := []) [] rfl ?_
          exact w_Ta_isNameByte_30 hAD C hr σ5 hm
        · rw [if_neg c10] at hm
          refine z_lv (lv' := []) [] rfl ?_
          exact w_Ta_isNameByte_26 hAD C hr σ5 hm
set_option maxHeartbeats 4000000 in
set_option maxRecDepth 100000 in
theorem w_Ta_sortOfSmall_45 {D : va_G} {ad : Nat → Nat} {cA : Nat → ClassId} {p : Program} {l : Launch} {e : Env} {s : State} {m : MethodId} {args : Array Value} {below : List Frame} {meth : Method} {c : Code} {F : Nat} (hAD : ∀ σ, va_D (owC ad) (wdC ad cA σ)) (C : CC D ad cA (sXC ad) p s m args meth c bc_Ta_sortOfSmall "KindRounds$Tape" 2) (hr : meth.sig.returnType = some .int) {r : Int32} {σ' : zS} (σ : zS) (s0 : Int32) (hm : Ta_sortOfSmall_45 F σ s0 = some (r, σ')) : ZC D ad cA p l e (rmK 0) s m args below meth c 2 (qiC D ad cA below args s r σ') 45 [] [.int s0] σ := by
  unfold Ta_sortOfSmall_45 at hm
  exact z_iretE (pc := 45) C hr hm d_Ta_sortOfSmall_45
set_option maxHeartbeats 4000000 in
set_option maxRecDepth 100000 in
theorem k_Ta_sortOfSmall {l : Launch} {D : va_G} {ad : Nat → Nat} {cA : Nat → ClassId} {F : Nat} (hAD : ∀ σ, va_D (owC ad) (wdC ad cA σ)) {σ : zS} {x0 : Int64} {r : Int32} {σ' : zS} (hm : Ta_sortOfSmall F σ x0 = some (r, σ')) : kIC l D ad cA (sXC ad) y_Ta_sortOfSmall bc_Ta_sortOfSmall 2 .int 0 [.long x0] σ r σ' := by
  refine kI_of (by decide) hAD sXC_P (Nat.le_of_ble_eq_true rfl) ?_
  intro p e s m below meth c C hr
  unfold Ta_sortOfSmall at hm
  refine z_lv (lv' := [(0, .long x0)]) [0] rfl ?_
  refine z_lload_n (pc := 0) C d_Ta_sortOfSmall_0 rfl 0 rfl ?_
  refine z_ldc2 (pc := 1) C mC_16 d_Ta_sortOfSmall_1 ?_
  refine z_lcmp (pc := 4) C d_Ta_sortOfSmall_4 ?_
  refine z_if_ne (pc := 5) (tgt := 10) C d_Ta_sortOfSmall_5 (by decide) (fun c1 => ?_) (fun c1 => ?_)
  · rw [if_neg c1] at hm
    refine z_lload_n (pc := 10) C d_Ta_sortOfSmall_10 rfl 0 rfl ?_
    refine z_ldc2 (pc := 11) C mC_17 d_Ta_sortOfSmall_11 ?_
    refine z_lcmp (pc := 14) C d_Ta_sortOfSmall_14 ?_
    refine z_if_ne (pc := 15) (tgt := 20) C d_Ta_sortOfSmall_15 (by decide) (fun c2 => ?_) (fun c2 => ?_)
    · rw [if_neg c2] at hm
      refine z_lload_n (pc := 20) C d_Ta_sortOfSmall_20 rfl 0 rfl ?_
      refine z_ldc2 (pc := 21) C mC_18 d_Ta_sortOfSmall_21 ?_
      refine z_lcmp (pc := 24) C d_Ta_sortOfSmall_24 ?_
      refine z_if_ne (pc := 25) (tgt := 31) C d_Ta_sortOfSmall_25 (by decide) (fun c3 => ?_) (fun c3 => ?_)
      · rw [if_neg c3] at hm
        refine z_lload_n (pc := 31) C d_Ta_sortOfSmall_31 rfl 0 rfl ?_
        refine z_ldc2 (pc := 32) C mC_19 d_Ta_sortOfSmall_32 ?_
        refine z_lcmp (pc := 35) C d_Ta_sortOfSmall_35 ?_
        refine z_if_ne (pc := 36) (tgt := 44) C d_Ta_sortOfSmall_36 (by decide) (fun c4 => ?_) (fun c4 => ?_)
        · rw [if_neg c4] at hm
          refine z_iconst (pc := 44) C d_Ta_sortOfSmall_44 ki_3 ?_
          refine z_lv (lv' := []) [] rfl ?_
          exact w_Ta_sortOfSmall_45 hAD C hr σ (3 : Int32) hm
        · rw [if_pos c4] at hm
          refine z_bipush (pc := 39) C d_Ta_sortOfSmall_39 kb_7 ?_
          refine z_goto (pc := 41) (tgt := 45) C d_Ta_sortOfSmall_41 (by decide) ?_
          refine z_lv (lv' := []) [] rfl ?_
          exact w_Ta_sortOfSmall_45 hAD C hr σ (7 : Int32) hm
      · rw [if_pos c3] at hm
        refine z_bipush (pc := 28) C d_Ta_sortOfSmall_28 kb_6 ?_
        exact z_iretE (pc := 30) C hr hm d_Ta_sortOfSmall_30
    · rw [if_pos c2] at hm
      refine z_iconst (pc := 18) C d_Ta_sortOfSmall_18 ki_5 ?_
      exact z_iretE (pc := 19) C hr hm d_Ta_sortOfSmall_19
  · rw [if_pos c1] at hm
    refine z_iconst (pc := 8) C d_Ta_sortOfSmall_8 ki_4 ?_
    exact z_iretE (pc := 9) C hr hm d_Ta_sortOfSmall_9
set_option maxHeartbeats 4000000 in
set_option maxRecDepth 100000 in
theorem w_Ta_scanName_92 {D : va_G} {ad : Nat → Nat} {cA : Nat → ClassId} {p : Program} {l : Launch} {e : Env} {s : State} {m : MethodId} {args : Array Value} {below : List Frame} {meth : Method} {c : Code} {F : Nat} (hAD : ∀ σ, va_D (owC ad) (wdC ad cA σ)) (C : CC D ad cA (sXC ad) p s m args meth c bc_Ta_scanName "KindRounds$Tape" 5) (hr : meth.sig.returnType = some .int) {r : Int32} {σ' : zS} (σ : zS) (x4 : Int32) (hm : Ta_scanName_92 F σ x4 = some (r, σ')) : ZC D ad cA p l e (rmK 2) s m args below meth c 5 (qiC D ad cA below args s r σ') 92 [(4, .int x4)] [] σ := by
  unfold Ta_scanName_92 at hm
  refine z_iload (pc := 92) C d_Ta_scanName_92 0 rfl ?_
  exact z_iretE (pc := 94) C hr hm d_Ta_scanName_94
set_option maxHeartbeats 4000000 in
set_option maxRecDepth 100000 in
theorem w_Ta_scanName_87 {D : va_G} {ad : Nat → Nat} {cA : Nat → ClassId} {p : Program} {l : Launch} {e : Env} {s : State} {m : MethodId} {args : Array Value} {below : List Frame} {meth : Method} {c : Code} {F : Nat} (hAD : ∀ σ, va_D (owC ad) (wdC ad cA σ)) (C : CC D ad cA (sXC ad) p s m args meth c bc_Ta_scanName "KindRounds$Tape" 5) (hr : meth.sig.returnType = some .int) {r : Int32} {σ' : zS} (σ : zS) (x1 : Int32) (x2 : Int64) (x4 : Int32) (s1 : Int32) (hm : Ta_scanName_87 F σ x1 x2 x4 s1 = some (r, σ')) : ZC D ad cA p l e (rmK 2) s m args below meth c 5 (qiC D ad cA below args s r σ') 87 [(1, .int x1), (2, .long x2), (4, .int x4)] [.int s1, .ref (ad 1)] σ := by
  unfold Ta_scanName_87 at hm
  refine z_lload_n (pc := 87) C d_Ta_scanName_87 rfl 1 rfl ?_
  refine z_iload_n (pc := 88) C d_Ta_scanName_88 rfl 0 rfl ?_
  obtain ⟨σ1, e2, hm⟩ := bv_s hm
  refine z_callV (pc := 89) C (k_Ta_addToken hAD e2) km_Ta_addToken mC_3 rfl rfl oC_1 rfl (kR_of (Nat.le_of_ble_eq_true rfl) (Nat.le_of_ble_eq_true rfl)) rfl (Nat.le_of_ble_eq_true rfl) d_Ta_scanName_89 ?_
  refine z_lv (lv' := [(4, .int x4)]) [2] rfl ?_
  exact w_Ta_scanName_92 hAD C hr σ1 x4 hm
set_option maxHeartbeats 4000000 in
set_option maxRecDepth 100000 in
theorem w_Ta_scanName_47 {D : va_G} {ad : Nat → Nat} {cA : Nat → ClassId} {p : Program} {l : Launch} {e : Env} {s : State} {m : MethodId} {args : Array Value} {below : List Frame} {meth : Method} {c : Code} {F : Nat} (hAD : ∀ σ, va_D (owC ad) (wdC ad cA σ)) (C : CC D ad cA (sXC ad) p s m args meth c bc_Ta_scanName "KindRounds$Tape" 5) (hr : meth.sig.returnType = some .int) {r : Int32} {σ' : zS} (σ : zS) (x1 : Int32) (x2 : Int64) (x4 : Int32) (hm : Ta_scanName_47 F σ x1 x2 x4 = some (r, σ')) : ZC D ad cA p l e (rmK 2) s m args below meth c 5 (qiC D ad cA below args s r σ') 47 [(0, .ref (ad 1)), (1, .int x1), (2, .long x2), (4, .int x4)] [] σ := by
  unfold Ta_scanName_47 at hm
  refine z_iload (pc := 47) C d_Ta_scanName_47 3 rfl ?_
  refine z_iload_n (pc := 49) C d_Ta_scanName_49 rfl 1 rfl ?_
  refine z_isub (pc := 50) C d_Ta_scanName_50 ?_
  refine z_bipush (pc := 51) C d_Ta_scanName_51 kb_8 ?_
  refine z_icmp_le (pc := 53) (tgt := 66) C d_Ta_scanName_53 (by decide) (fun c1 => ?_) (fun c1 => ?_)
  · rw [if_pos c1] at hm
    refine z_aload_n (pc := 66) C d_Ta_scanName_66 rfl 0 rfl ?_
    refine z_aload_n (pc := 67) C d_Ta_scanName_67 rfl 0 rfl ?_
    refine gC_Ta_11 (pc := 68) C  d_Ta_scanName_68 ?_
    refine z_iload_n (pc := 71) C d_Ta_scanName_71 rfl 1 rfl ?_
    obtain ⟨g2, hm⟩ := gd_s hm
    refine alC_19 (pc := 72) (v := (ga σ 19 x1.toNatClampNeg)) C  rfl g2 d_Ta_scanName_72 ?_
    obtain ⟨r4, σ3, e5, hm⟩ := bi_s hm
    refine z_callSI (pc := 73) C (k_Ta_isBigLetter hAD e5) km_Ta_isBigLetter mC_5 rfl (kR_of (Nat.le_of_ble_eq_true rfl) (Nat.le_of_ble_eq_true rfl)) rfl (Nat.le_of_ble_eq_true rfl) d_Ta_scanName_73 ?_
    refine z_if_eq (pc := 76) (tgt := 83) C d_Ta_scanName_76 (by decide) (fun c6 => ?_) (fun c6 => ?_)
    · rw [if_pos c6] at hm
      refine z_lload_n (pc := 83) C d_Ta_scanName_83 rfl 2 rfl ?_
      obtain ⟨r8, σ7, e9, hm⟩ := bi_s hm
      refine z_callSI (pc := 84) C (k_Ta_sortOfSmall hAD e9) km_Ta_sortOfSmall mC_10 rfl (kR_of (Nat.le_of_ble_eq_true rfl) (Nat.le_of_ble_eq_true rfl)) rfl (Nat.le_of_ble_eq_true rfl) d_Ta_scanName_84 ?_
      refine z_lv (lv' := [(1, .int x1), (2, .long x2), (4, .int x4)]) [1, 2, 3] rfl ?_
      exact w_Ta_scanName_87 hAD C hr σ7 x1 x2 x4 r8 hm
    · rw [if_neg c6] at hm
      refine z_iconst (pc := 79) C d_Ta_scanName_79 ki_2 ?_
      refine z_goto (pc := 80) (tgt := 87) C d_Ta_scanName_80 (by decide) ?_
      refine z_lv (lv' := [(1, .int x1), (2, .long x2), (4, .int x4)]) [1, 2, 3] rfl ?_
      exact w_Ta_scanName_87 hAD C hr σ3 x1 x2 x4 (2 : Int32) hm
  · rw [if_neg c1] at hm
    refine z_aload_n (pc := 56) C d_Ta_scanName_56 rfl 0 rfl ?_
    refine z_iconst (pc := 57) C d_Ta_scanName_57 ki_0 ?_
    refine z_lconst (pc := 58) C d_Ta_scanName_58 rfl ?_
    refine z_iload_n (pc := 59) C d_Ta_scanName_59 rfl 1 rfl ?_
    obtain ⟨σ10, e11, hm⟩ := bv_s hm
    refine z_callV (pc := 60) C (k_Ta_addToken hAD e11) km_Ta_addToken mC_3 rfl rfl oC_1 rfl (kR_of (Nat.le_of_ble_eq_true rfl) (Nat.le_of_ble_eq_true rfl)) rfl (Nat.le_of_ble_eq_true rfl) d_Ta_scanName_60 ?_
    refine z_goto (pc := 63) (tgt := 92) C d_Ta_scanName_63 (by decide) ?_
    refine z_lv (lv' := [(4, .int x4)]) [3] rfl ?_
    exact w_Ta_scanName_92 hAD C hr σ10 x4 hm
set_option maxHeartbeats 4000000 in
set_option maxRecDepth 100000 in
theorem w_Ta_scanName_5 {D : va_G} {ad : Nat → Nat} {cA : Nat → ClassId} {p : Program} {l : Launch} {e : Env} {s : State} {m : MethodId} {args : Array Value} {below : List Frame} {meth : Method} {c : Code} {F : Nat} (hAD : ∀ σ, va_D (owC ad) (wdC ad cA σ)) (C : CC D ad cA (sXC ad) p s m args meth c bc_Ta_scanName "KindRounds$Tape" 5) (hr : meth.sig.returnType = some .int) {r : Int32} {σ' : zS} : ∀ (n : Nat) (σ : zS) (x1 : Int32) (x2 : Int64) (x4 : Int32), Ta_scanName_5 F n σ x1 x2 x4 = some (r, σ') → ZC D ad cA p l e (rmK 2) s m args below meth c 5 (qiC D ad cA below args s r σ') 5 [(0, .ref (ad 1)), (1, .int x1), (2, .long x2), (4, .int x4)] [] σ := by
  intro n
  induction n with
  | zero => intro σ x1 x2 x4 hm; cases hm
  | succ n h5 =>
    intro σ x1 x2 x4 hm
    have hm : Ta_scanName_b5 F (Ta_scanName_5 F n) σ x1 x2 x4 = some (r, σ') := hm
    unfold Ta_scanName_b5 at hm
    refine z_iload (pc := 5) C d_Ta_scanName_5 3 rfl ?_
    refine z_aload_n (pc := 7) C d_Ta_scanName_7 rfl 0 rfl ?_
    refine gC_Ta_25 (pc := 8) (v := (gi σ 101)) C rfl d_Ta_scanName_8 ?_
    refine z_icmp_ge (pc := 11) (tgt := 47) C d_Ta_scanName_11 (by decide) (fun c1 => ?_) (fun c1 => ?_)
    · rw [if_pos c1] at hm
      exact w_Ta_scanName_47 hAD C hr σ x1 x2 x4 hm
    · rw [if_neg c1] at hm
      refine z_aload_n (pc := 14) C d_Ta_scanName_14 rfl 0 rfl ?_
      refine gC_Ta_11 (pc := 15) C  d_Ta_scanName_15 ?_
      refine z_iload (pc := 18) C d_Ta_scanName_18 3 rfl ?_
      obtain ⟨g2, hm⟩ := gd_s hm
      refine alC_19 (pc := 20) (v := (ga σ 19 x4.toNatClampNeg)) C  rfl g2 d_Ta_scanName_20 ?_
      obtain ⟨r4, σ3, e5, hm⟩ := bi_s hm
      refine z_callSI (pc := 21) C (k_Ta_isNameByte hAD e5) km_Ta_isNameByte mC_11 rfl (kR_of (Nat.le_of_ble_eq_true rfl) (Nat.le_of_ble_eq_true rfl)) rfl (Nat.le_of_ble_eq_true rfl) d_Ta_scanName_21 ?_
      refine z_if_eq (pc := 24) (tgt := 47) C d_Ta_scanName_24 (by decide) (fun c6 => ?_) (fun c6 => ?_)
      · rw [if_pos c6] at hm
        exact w_Ta_scanName_47 hAD C hr σ3 x1 x2 x4 hm
      · rw [if_neg c6] at hm
        refine z_lload_n (pc := 27) C d_Ta_scanName_27 rfl 2 rfl ?_
        refine z_bipush (pc := 28) C d_Ta_scanName_28 kb_8 ?_
        refine z_lshl (pc := 30) C d_Ta_scanName_30 ?_
        refine z_aload_n (pc := 31) C d_Ta_scanName_31 rfl 0 rfl ?_
        refine gC_Ta_11 (pc := 32) C  d_Ta_scanName_32 ?_
        refine z_iload (pc := 35) C d_Ta_scanName_35 3 rfl ?_
        refine alC_19 (pc := 37) (v := (ga σ3 19 x4.toNatClampNeg)) C  rfl g2 d_Ta_scanName_37 ?_
        refine z_i2l (pc := 38) C d_Ta_scanName_38 ?_
        refine z_lor (pc := 39) C d_Ta_scanName_39 ?_
        refine z_lstore_n (pc := 40) (lv' := [(0, .ref (ad 1)), (1, .int x1), (2, .long ((x2 <<< (Int32.toInt64 (8 : Int32) &&& 63)) ||| (Int32.toInt64 (ga σ3 19 x4.toNatClampNeg)))), (4, .int x4)]) C d_Ta_scanName_40 rfl (Nat.le_of_ble_eq_true rfl) [1, 2, 0, 3] rfl ?_
        refine z_iinc (pc := 41) (lv' := [(0, .ref (ad 1)), (1, .int x1), (2, .long ((x2 <<< (Int32.toInt64 (8 : Int32) &&& 63)) ||| (Int32.toInt64 (ga σ3 19 x4.toNatClampNeg)))), (4, .int (x4 + (1 : Int32)))]) C d_Ta_scanName_41 3 rfl (ii ki_1) (Nat.le_of_ble_eq_true rfl) [1, 2, 3, 0] rfl ?_
        refine z_goto (pc := 44) (tgt := 5) C d_Ta_scanName_44 (by decide) ?_
        exact h5 σ3 x1 ((x2 <<< (Int32.toInt64 (8 : Int32) &&& 63)) ||| (Int32.toInt64 (ga σ3 19 x4.toNatClampNeg))) (x4 + (1 : Int32)) hm
set_option maxHeartbeats 4000000 in
set_option maxRecDepth 100000 in
theorem k_Ta_scanName {l : Launch} {D : va_G} {ad : Nat → Nat} {cA : Nat → ClassId} {F : Nat} (hAD : ∀ σ, va_D (owC ad) (wdC ad cA σ)) {σ : zS} {x1 : Int32} {r : Int32} {σ' : zS} (hm : Ta_scanName F σ x1 = some (r, σ')) : kIC l D ad cA (sXC ad) y_Ta_scanName bc_Ta_scanName 5 .int 2 [.ref (ad 1), .int x1] σ r σ' := by
  refine kI_of (by decide) hAD sXC_P (Nat.le_of_ble_eq_true rfl) ?_
  intro p e s m below meth c C hr
  unfold Ta_scanName at hm
  refine z_lv (lv' := [(0, .ref (ad 1)), (1, .int x1)]) [0, 1] rfl ?_
  refine z_lconst (pc := 0) C d_Ta_scanName_0 rfl ?_
  refine z_lstore_n (pc := 1) (lv' := [(0, .ref (ad 1)), (1, .int x1), (2, .long (0 : Int64))]) C d_Ta_scanName_1 rfl (Nat.le_of_ble_eq_true rfl) [1, 2, 0] rfl ?_
  refine z_iload_n (pc := 2) C d_Ta_scanName_2 rfl 1 rfl ?_
  refine z_istore (pc := 3) (lv' := [(0, .ref (ad 1)), (1, .int x1), (2, .long (0 : Int64)), (4, .int x1)]) C d_Ta_scanName_3 (Nat.le_of_ble_eq_true rfl) [1, 2, 3, 0] rfl ?_
  exact w_Ta_scanName_5 hAD C hr F σ x1 (0 : Int64) x1 hm
set_option maxHeartbeats 4000000 in
set_option maxRecDepth 100000 in
theorem w_Ta_scanSign_81 {D : va_G} {ad : Nat → Nat} {cA : Nat → ClassId} {p : Program} {l : Launch} {e : Env} {s : State} {m : MethodId} {args : Array Value} {below : List Frame} {meth : Method} {c : Code} {F : Nat} (hAD : ∀ σ, va_D (owC ad) (wdC ad cA σ)) (C : CC D ad cA (sXC ad) p s m args meth c bc_Ta_scanSign "KindRounds$Tape" 4) (hr : meth.sig.returnType = some .int) {r : Int32} {σ' : zS} (σ : zS) (x1 : Int32) (s1 : Int32) (hm : Ta_scanSign_81 F σ x1 s1 = some (r, σ')) : ZC D ad cA p l e (rmK 8) s m args below meth c 4 (qiC D ad cA below args s r σ') 81 [(1, .int x1)] [.int s1, .ref (ad 1)] σ := by
  unfold Ta_scanSign_81 at hm
  refine z_lconst (pc := 81) C d_Ta_scanSign_81 rfl ?_
  refine z_iload_n (pc := 82) C d_Ta_scanSign_82 rfl 0 rfl ?_
  obtain ⟨σ1, e2, hm⟩ := bv_s hm
  refine z_callV (pc := 83) C (k_Ta_addToken hAD e2) km_Ta_addToken mC_3 rfl rfl oC_1 rfl (kR_of (Nat.le_of_ble_eq_true rfl) (Nat.le_of_ble_eq_true rfl)) rfl (Nat.le_of_ble_eq_true rfl) d_Ta_scanSign_83 ?_
  refine z_iload_n (pc := 86) C d_Ta_scanSign_86 rfl 0 rfl ?_
  refine z_iconst (pc := 87) C d_Ta_scanSign_87 ki_1 ?_
  refine z_iadd (pc := 88) C d_Ta_scanSign_88 ?_
  exact z_iretE (pc := 89) C hr hm d_Ta_scanSign_89
set_option maxHeartbeats 4000000 in
set_option maxRecDepth 100000 in
theorem w_Ta_scanSign_65 {D : va_G} {ad : Nat → Nat} {cA : Nat → ClassId} {p : Program} {l : Launch} {e : Env} {s : State} {m : MethodId} {args : Array Value} {below : List Frame} {meth : Method} {c : Code} {F : Nat} (hAD : ∀ σ, va_D (owC ad) (wdC ad cA σ)) (C : CC D ad cA (sXC ad) p s m args meth c bc_Ta_scanSign "KindRounds$Tape" 4) (hr : meth.sig.returnType = some .int) {r : Int32} {σ' : zS} (σ : zS) (x1 : Int32) (x2 : Int32) (hm : Ta_scanSign_65 F σ x1 x2 = some (r, σ')) : ZC D ad cA p l e (rmK 8) s m args below meth c 4 (qiC D ad cA below args s r σ') 65 [(0, .ref (ad 1)), (1, .int x1), (2, .int x2)] [] σ := by
  unfold Ta_scanSign_65 at hm
  refine z_aload_n (pc := 65) C d_Ta_scanSign_65 rfl 0 rfl ?_
  refine z_signs (pc := 66) C d_Ta_scanSign_66 (fun q hq => ?_)
  refine z_iload_n (pc := 68) C d_Ta_scanSign_68 rfl 2 rfl ?_
  refine z_i2c (pc := 69) C d_Ta_scanSign_69 ?_
  obtain ⟨r2, σ1, e3, hm⟩ := bi_s hm
  refine z_sgidx (pc := 70) C hAD hq e3 mC_12 (Nat.le_of_ble_eq_true rfl) (Nat.le_of_ble_eq_true rfl) d_Ta_scanSign_70 ?_
  refine z_if_lt (pc := 73) (tgt := 80) C d_Ta_scanSign_73 (by decide) (fun c4 => ?_) (fun c4 => ?_)
  · rw [if_pos c4] at hm
    refine z_iconst (pc := 80) C d_Ta_scanSign_80 ki_0 ?_
    refine z_lv (lv' := [(1, .int x1)]) [1] rfl ?_
    exact w_Ta_scanSign_81 hAD C hr σ1 x1 (0 : Int32) hm
  · rw [if_neg c4] at hm
    refine z_iload_n (pc := 76) C d_Ta_scanSign_76 rfl 2 rfl ?_
    refine z_goto (pc := 77) (tgt := 81) C d_Ta_scanSign_77 (by decide) ?_
    refine z_lv (lv' := [(1, .int x1)]) [1] rfl ?_
    exact w_Ta_scanSign_81 hAD C hr σ1 x1 x2 hm
set_option maxHeartbeats 4000000 in
set_option maxRecDepth 100000 in
theorem w_Ta_scanSign_54 {D : va_G} {ad : Nat → Nat} {cA : Nat → ClassId} {p : Program} {l : Launch} {e : Env} {s : State} {m : MethodId} {args : Array Value} {below : List Frame} {meth : Method} {c : Code} {F : Nat} (hAD : ∀ σ, va_D (owC ad) (wdC ad cA σ)) (C : CC D ad cA (sXC ad) p s m args meth c bc_Ta_scanSign "KindRounds$Tape" 4) (hr : meth.sig.returnType = some .int) {r : Int32} {σ' : zS} (σ : zS) (x1 : Int32) (x2 : Int32) (hm : Ta_scanSign_54 F σ x1 x2 = some (r, σ')) : ZC D ad cA p l e (rmK 8) s m args below meth c 4 (qiC D ad cA below args s r σ') 54 [(0, .ref (ad 1)), (1, .int x1), (2, .int x2)] [] σ := by
  unfold Ta_scanSign_54 at hm
  refine z_aload_n (pc := 54) C d_Ta_scanSign_54 rfl 0 rfl ?_
  refine z_iload_n (pc := 55) C d_Ta_scanSign_55 rfl 2 rfl ?_
  refine z_lconst (pc := 56) C d_Ta_scanSign_56 rfl ?_
  refine z_iload_n (pc := 57) C d_Ta_scanSign_57 rfl 1 rfl ?_
  obtain ⟨σ1, e2, hm⟩ := bv_s hm
  refine z_callV (pc := 58) C (k_Ta_addToken hAD e2) km_Ta_addToken mC_3 rfl rfl oC_1 rfl (kR_of (Nat.le_of_ble_eq_true rfl) (Nat.le_of_ble_eq_true rfl)) rfl (Nat.le_of_ble_eq_true rfl) d_Ta_scanSign_58 ?_
  refine z_iload_n (pc := 61) C d_Ta_scanSign_61 rfl 1 rfl ?_
  refine z_iconst (pc := 62) C d_Ta_scanSign_62 ki_2 ?_
  refine z_iadd (pc := 63) C d_Ta_scanSign_63 ?_
  exact z_iretE (pc := 64) C hr hm d_Ta_scanSign_64
set_option maxHeartbeats 4000000 in
set_option maxRecDepth 100000 in
theorem w_Ta_scanSign_42 {D : va_G} {ad : Nat → Nat} {cA : Nat → ClassId} {p : Program} {l : Launch} {e : Env} {s : State} {m : MethodId} {args : Array Value} {below : List Frame} {meth : Method} {c : Code} {F : Nat} (hAD : ∀ σ, va_D (owC ad) (wdC ad cA σ)) (C : CC D ad cA (sXC ad) p s m args meth c bc_Ta_scanSign "KindRounds$Tape" 4) (hr : meth.sig.returnType = some .int) {r : Int32} {σ' : zS} (σ : zS) (x1 : Int32) (x2 : Int32) (x3 : Int32) (hm : Ta_scanSign_42 F σ x1 x2 x3 = some (r, σ')) : ZC D ad cA p l e (rmK 8) s m args below meth c 4 (qiC D ad cA below args s r σ') 42 [(0, .ref (ad 1)), (1, .int x1), (2, .int x2), (3, .int x3)] [] σ := by
  unfold Ta_scanSign_42 at hm
  refine z_iload_n (pc := 42) C d_Ta_scanSign_42 rfl 2 rfl ?_
  refine z_bipush (pc := 43) C d_Ta_scanSign_43 kb_45 ?_
  refine z_icmp_ne (pc := 45) (tgt := 65) C d_Ta_scanSign_45 (by decide) (fun c1 => ?_) (fun c1 => ?_)
  · rw [if_neg c1] at hm
    refine z_lv (lv' := [(0, .ref (ad 1)), (1, .int x1), (2, .int x2)]) [0, 1, 2] rfl ?_
    exact w_Ta_scanSign_65 hAD C hr σ x1 x2 hm
  · rw [if_pos c1] at hm
    refine z_iload_n (pc := 48) C d_Ta_scanSign_48 rfl 3 rfl ?_
    refine z_bipush (pc := 49) C d_Ta_scanSign_49 kb_62 ?_
    refine z_icmp_ne (pc := 51) (tgt := 65) C d_Ta_scanSign_51 (by decide) (fun c2 => ?_) (fun c2 => ?_)
    · rw [if_neg c2] at hm
      refine z_lv (lv' := [(0, .ref (ad 1)), (1, .int x1), (2, .int x2)]) [0, 1, 2] rfl ?_
      exact w_Ta_scanSign_65 hAD C hr σ x1 x2 hm
    · rw [if_pos c2] at hm
      refine z_lv (lv' := [(0, .ref (ad 1)), (1, .int x1), (2, .int x2)]) [0, 1, 2] rfl ?_
      exact w_Ta_scanSign_54 hAD C hr σ x1 x2 hm
set_option maxHeartbeats 4000000 in
set_option maxRecDepth 100000 in
theorem w_Ta_scanSign_29 {D : va_G} {ad : Nat → Nat} {cA : Nat → ClassId} {p : Program} {l : Launch} {e : Env} {s : State} {m : MethodId} {args : Array Value} {below : List Frame} {meth : Method} {c : Code} {F : Nat} (hAD : ∀ σ, va_D (owC ad) (wdC ad cA σ)) (C : CC D ad cA (sXC ad) p s m args meth c bc_Ta_scanSign "KindRounds$Tape" 4) (hr : meth.sig.returnType = some .int) {r : Int32} {σ' : zS} (σ : zS) (x1 : Int32) (x2 : Int32) (s0 : Int32) (hm : Ta_scanSign_29 F σ x1 x2 s0 = some (r, σ')) : ZC D ad cA p l e (rmK 8) s m args below meth c 4 (qiC D ad cA below args s r σ') 29 [(0, .ref (ad 1)), (1, .int x1), (2, .int x2)] [.int s0] σ := by
  unfold Ta_scanSign_29 at hm
  refine z_istore_n (pc := 29) (lv' := [(0, .ref (ad 1)), (1, .int x1), (2, .int x2), (3, .int s0)]) C d_Ta_scanSign_29 rfl (Nat.le_of_ble_eq_true rfl) [1, 2, 3, 0] rfl ?_
  refine z_iload_n (pc := 30) C d_Ta_scanSign_30 rfl 2 rfl ?_
  refine z_bipush (pc := 31) C d_Ta_scanSign_31 kb_58 ?_
  refine z_icmp_ne (pc := 33) (tgt := 42) C d_Ta_scanSign_33 (by decide) (fun c1 => ?_) (fun c1 => ?_)
  · rw [if_neg c1] at hm
    exact w_Ta_scanSign_42 hAD C hr σ x1 x2 s0 hm
  · rw [if_pos c1] at hm
    refine z_iload_n (pc := 36) C d_Ta_scanSign_36 rfl 3 rfl ?_
    refine z_bipush (pc := 37) C d_Ta_scanSign_37 kb_58 ?_
    refine z_icmp_eq (pc := 39) (tgt := 54) C d_Ta_scanSign_39 (by decide) (fun c2 => ?_) (fun c2 => ?_)
    · rw [if_pos c2] at hm
      refine z_lv (lv' := [(0, .ref (ad 1)), (1, .int x1), (2, .int x2)]) [0, 1, 2] rfl ?_
      exact w_Ta_scanSign_54 hAD C hr σ x1 x2 hm
    · rw [if_neg c2] at hm
      exact w_Ta_scanSign_42 hAD C hr σ x1 x2 s0 hm
set_option maxHeartbeats 4000000 in
set_option maxRecDepth 100000 in
theorem k_Ta_scanSign {l : Launch} {D : va_G} {ad : Nat → Nat} {cA : Nat → ClassId} {F : Nat} (hAD : ∀ σ, va_D (owC ad) (wdC ad cA σ)) {σ : zS} {x1 : Int32} {r : Int32} {σ' : zS} (hm : Ta_scanSign F σ x1 = some (r, σ')) : kIC l D ad cA (sXC ad) y_Ta_scanSign bc_Ta_scanSign 4 .int 8 [.ref (ad 1), .int x1] σ r σ' := by
  refine kI_of (by decide) hAD sXC_P (Nat.le_of_ble_eq_true rfl) ?_
  intro p e s m below meth c C hr
  unfold Ta_scanSign at hm
  refine z_lv (lv' := [(0, .ref (ad 1)), (1, .int x1)]) [0, 1] rfl ?_
  refine z_aload_n (pc := 0) C d_Ta_scanSign_0 rfl 0 rfl ?_
  refine gC_Ta_11 (pc := 1) C  d_Ta_scanSign_1 ?_
  refine z_iload_n (pc := 4) C d_Ta_scanSign_4 rfl 1 rfl ?_
  obtain ⟨g1, hm⟩ := gd_s hm
  refine alC_19 (pc := 5) (v := (ga σ 19 x1.toNatClampNeg)) C  rfl g1 d_Ta_scanSign_5 ?_
  refine z_istore_n (pc := 6) (lv' := [(0, .ref (ad 1)), (1, .int x1), (2, .int (ga σ 19 x1.toNatClampNeg))]) C d_Ta_scanSign_6 rfl (Nat.le_of_ble_eq_true rfl) [1, 2, 0] rfl ?_
  refine z_iload_n (pc := 7) C d_Ta_scanSign_7 rfl 1 rfl ?_
  refine z_iconst (pc := 8) C d_Ta_scanSign_8 ki_1 ?_
  refine z_iadd (pc := 9) C d_Ta_scanSign_9 ?_
  refine z_aload_n (pc := 10) C d_Ta_scanSign_10 rfl 0 rfl ?_
  refine gC_Ta_25 (pc := 11) (v := (gi σ 101)) C rfl d_Ta_scanSign_11 ?_
  refine z_icmp_ge (pc := 14) (tgt := 28) C d_Ta_scanSign_14 (by decide) (fun c2 => ?_) (fun c2 => ?_)
  · rw [if_pos c2] at hm
    refine z_iconst (pc := 28) C d_Ta_scanSign_28 ki_0 ?_
    exact w_Ta_scanSign_29 hAD C hr σ x1 (ga σ 19 x1.toNatClampNeg) (0 : Int32) hm
  · rw [if_neg c2] at hm
    refine z_aload_n (pc := 17) C d_Ta_scanSign_17 rfl 0 rfl ?_
    refine gC_Ta_11 (pc := 18) C  d_Ta_scanSign_18 ?_
    refine z_iload_n (pc := 21) C d_Ta_scanSign_21 rfl 1 rfl ?_
    refine z_iconst (pc := 22) C d_Ta_scanSign_22 ki_1 ?_
    refine z_iadd (pc := 23) C d_Ta_scanSign_23 ?_
    obtain ⟨g3, hm⟩ := gd_s hm
    refine alC_19 (pc := 24) (v := (ga σ 19 (x1 + (1 : Int32)).toNatClampNeg)) C  rfl g3 d_Ta_scanSign_24 ?_
    refine z_goto (pc := 25) (tgt := 29) C d_Ta_scanSign_25 (by decide) ?_
    exact w_Ta_scanSign_29 hAD C hr σ x1 (ga σ 19 x1.toNatClampNeg) (ga σ 19 (x1 + (1 : Int32)).toNatClampNeg) hm
set_option maxHeartbeats 4000000 in
set_option maxRecDepth 100000 in
theorem w_Ta_scan_89 {D : va_G} {ad : Nat → Nat} {cA : Nat → ClassId} {p : Program} {l : Launch} {e : Env} {s : State} {m : MethodId} {args : Array Value} {below : List Frame} {meth : Method} {c : Code} {F : Nat} (hAD : ∀ σ, va_D (owC ad) (wdC ad cA σ)) (C : CC D ad cA (sXC ad) p s m args meth c bc_Ta_scan "KindRounds$Tape" 4) (hr : meth.sig.returnType = none) {σ' : zS} (σ : zS) (hm : Ta_scan_89 F σ = some σ') : ZC D ad cA p l e (rmK 9) s m args below meth c 4 (qvC D ad cA below args s σ') 89 [(0, .ref (ad 1))] [] σ := by
  unfold Ta_scan_89 at hm
  refine z_aload_n (pc := 89) C d_Ta_scan_89 rfl 0 rfl ?_
  refine z_iconst (pc := 90) C d_Ta_scan_90 ki_1 ?_
  refine z_lconst (pc := 91) C d_Ta_scan_91 rfl ?_
  refine z_aload_n (pc := 92) C d_Ta_scan_92 rfl 0 rfl ?_
  refine gC_Ta_25 (pc := 93) (v := (gi σ 101)) C rfl d_Ta_scan_93 ?_
  obtain ⟨σ1, e2, hm⟩ := bv_s hm
  refine z_callV (pc := 96) C (k_Ta_addToken hAD e2) km_Ta_addToken mC_3 rfl rfl oC_1 rfl (kR_of (Nat.le_of_ble_eq_true rfl) (Nat.le_of_ble_eq_true rfl)) rfl (Nat.le_of_ble_eq_true rfl) d_Ta_scan_96 ?_
  exact z_vretE (pc := 99) C hr hm d_Ta_scan_99
set_option maxHeartbeats 4000000 in
set_option maxRecDepth 100000 in
theorem w_Ta_scan_83 {D : va_G} {ad : Nat → Nat} {cA : Nat → ClassId} {p : Program} {l : Launch} {e : Env} {s : State} {m : MethodId} {args : Array Value} {below : List Frame} {meth : Method} {c : Code} {F : Nat} (hAD : ∀ σ, va_D (owC ad) (wdC ad cA σ)) (C : CC D ad cA (sXC ad) p s m args meth c bc_Ta_scan "KindRounds$Tape" 4) (hr : meth.sig.returnType = none) {σ' : zS} (rc14 : zS → Int32 → Int32 → Option zS) (h14 : ∀ σ x1 x2, rc14 σ x1 x2 = some σ' → ZC D ad cA p l e (rmK 9) s m args below meth c 4 (qvC D ad cA below args s σ') 14 [(0, .ref (ad 1)), (1, .int x1), (2, .int x2)] [] σ) (σ : zS) (x1 : Int32) (x2 : Int32) (hm : Ta_scan_83 F rc14 σ x1 x2 = some σ') : ZC D ad cA p l e (rmK 9) s m args below meth c 4 (qvC D ad cA below args s σ') 83 [(0, .ref (ad 1)), (1, .int x1), (2, .int x2)] [] σ := by
  unfold Ta_scan_83 at hm
  refine z_iinc (pc := 83) (lv' := [(0, .ref (ad 1)), (1, .int x1), (2, .int (x2 + (1 : Int32)))]) C d_Ta_scan_83 2 rfl (ii ki_1) (Nat.le_of_ble_eq_true rfl) [1, 2, 0] rfl ?_
  refine z_goto (pc := 86) (tgt := 14) C d_Ta_scan_86 (by decide) ?_
  exact h14 σ x1 (x2 + (1 : Int32)) hm
set_option maxHeartbeats 4000000 in
set_option maxRecDepth 100000 in
theorem w_Ta_scan_48 {D : va_G} {ad : Nat → Nat} {cA : Nat → ClassId} {p : Program} {l : Launch} {e : Env} {s : State} {m : MethodId} {args : Array Value} {below : List Frame} {meth : Method} {c : Code} {F : Nat} (hAD : ∀ σ, va_D (owC ad) (wdC ad cA σ)) (C : CC D ad cA (sXC ad) p s m args meth c bc_Ta_scan "KindRounds$Tape" 4) (hr : meth.sig.returnType = none) {σ' : zS} (rc14 : zS → Int32 → Int32 → Option zS) (h14 : ∀ σ x1 x2, rc14 σ x1 x2 = some σ' → ZC D ad cA p l e (rmK 9) s m args below meth c 4 (qvC D ad cA below args s σ') 14 [(0, .ref (ad 1)), (1, .int x1), (2, .int x2)] [] σ) (σ : zS) (x1 : Int32) (x2 : Int32) (hm : Ta_scan_48 F rc14 σ x1 x2 = some σ') : ZC D ad cA p l e (rmK 9) s m args below meth c 4 (qvC D ad cA below args s σ') 48 [(0, .ref (ad 1)), (1, .int x1), (2, .int x2)] [] σ := by
  unfold Ta_scan_48 at hm
  refine z_iinc (pc := 48) (lv' := [(0, .ref (ad 1)), (1, .int (x1 + (1 : Int32))), (2, .int x2)]) C d_Ta_scan_48 1 rfl (ii ki_1) (Nat.le_of_ble_eq_true rfl) [1, 0, 2] rfl ?_
  refine z_goto (pc := 51) (tgt := 83) C d_Ta_scan_51 (by decide) ?_
  exact w_Ta_scan_83 hAD C hr _ h14 σ (x1 + (1 : Int32)) x2 hm
set_option maxHeartbeats 4000000 in
set_option maxRecDepth 100000 in
theorem w_Ta_scan_68 {D : va_G} {ad : Nat → Nat} {cA : Nat → ClassId} {p : Program} {l : Launch} {e : Env} {s : State} {m : MethodId} {args : Array Value} {below : List Frame} {meth : Method} {c : Code} {F : Nat} (hAD : ∀ σ, va_D (owC ad) (wdC ad cA σ)) (C : CC D ad cA (sXC ad) p s m args meth c bc_Ta_scan "KindRounds$Tape" 4) (hr : meth.sig.returnType = none) {σ' : zS} (rc14 : zS → Int32 → Int32 → Option zS) (h14 : ∀ σ x1 x2, rc14 σ x1 x2 = some σ' → ZC D ad cA p l e (rmK 9) s m args below meth c 4 (qvC D ad cA below args s σ') 14 [(0, .ref (ad 1)), (1, .int x1), (2, .int x2)] [] σ) (σ : zS) (x1 : Int32) (x2 : Int32) (hm : Ta_scan_68 F rc14 σ x1 x2 = some σ') : ZC D ad cA p l e (rmK 9) s m args below meth c 4 (qvC D ad cA below args s σ') 68 [(0, .ref (ad 1)), (1, .int x1), (2, .int x2)] [] σ := by
  unfold Ta_scan_68 at hm
  refine z_aload_n (pc := 68) C d_Ta_scan_68 rfl 0 rfl ?_
  refine z_iload_n (pc := 69) C d_Ta_scan_69 rfl 1 rfl ?_
  obtain ⟨r2, σ1, e3, hm⟩ := bi_s hm
  refine z_callI (pc := 70) C (k_Ta_scanName hAD e3) km_Ta_scanName mC_4 rfl rfl oC_1 rfl (kR_of (Nat.le_of_ble_eq_true rfl) (Nat.le_of_ble_eq_true rfl)) rfl (Nat.le_of_ble_eq_true rfl) d_Ta_scan_70 ?_
  refine z_istore_n (pc := 73) (lv' := [(0, .ref (ad 1)), (1, .int r2), (2, .int x2)]) C d_Ta_scan_73 rfl (Nat.le_of_ble_eq_true rfl) [1, 0, 2] rfl ?_
  refine z_goto (pc := 74) (tgt := 83) C d_Ta_scan_74 (by decide) ?_
  exact w_Ta_scan_83 hAD C hr _ h14 σ1 r2 x2 hm
set_option maxHeartbeats 4000000 in
set_option maxRecDepth 100000 in
theorem w_Ta_scan_14 {D : va_G} {ad : Nat → Nat} {cA : Nat → ClassId} {p : Program} {l : Launch} {e : Env} {s : State} {m : MethodId} {args : Array Value} {below : List Frame} {meth : Method} {c : Code} {F : Nat} (hAD : ∀ σ, va_D (owC ad) (wdC ad cA σ)) (C : CC D ad cA (sXC ad) p s m args meth c bc_Ta_scan "KindRounds$Tape" 4) (hr : meth.sig.returnType = none) {σ' : zS} : ∀ (n : Nat) (σ : zS) (x1 : Int32) (x2 : Int32), Ta_scan_14 F n σ x1 x2 = some σ' → ZC D ad cA p l e (rmK 9) s m args below meth c 4 (qvC D ad cA below args s σ') 14 [(0, .ref (ad 1)), (1, .int x1), (2, .int x2)] [] σ := by
  intro n
  induction n with
  | zero => intro σ x1 x2 hm; cases hm
  | succ n h14 =>
    intro σ x1 x2 hm
    have hm : Ta_scan_b14 F (Ta_scan_14 F n) σ x1 x2 = some σ' := hm
    unfold Ta_scan_b14 at hm
    refine z_iload_n (pc := 14) C d_Ta_scan_14 rfl 2 rfl ?_
    refine z_sipush (pc := 15) C d_Ta_scan_15 ks_1200 ?_
    refine z_icmp_ge (pc := 18) (tgt := 89) C d_Ta_scan_18 (by decide) (fun c1 => ?_) (fun c1 => ?_)
    · rw [if_pos c1] at hm
      refine z_lv (lv' := [(0, .ref (ad 1))]) [0] rfl ?_
      exact w_Ta_scan_89 hAD C hr σ hm
    · rw [if_neg c1] at hm
      refine z_iload_n (pc := 21) C d_Ta_scan_21 rfl 1 rfl ?_
      refine z_aload_n (pc := 22) C d_Ta_scan_22 rfl 0 rfl ?_
      refine gC_Ta_25 (pc := 23) (v := (gi σ 101)) C rfl d_Ta_scan_23 ?_
      refine z_icmp_ge (pc := 26) (tgt := 89) C d_Ta_scan_26 (by decide) (fun c2 => ?_) (fun c2 => ?_)
      · rw [if_pos c2] at hm
        refine z_lv (lv' := [(0, .ref (ad 1))]) [0] rfl ?_
        exact w_Ta_scan_89 hAD C hr σ hm
      · rw [if_neg c2] at hm
        refine z_aload_n (pc := 29) C d_Ta_scan_29 rfl 0 rfl ?_
        refine gC_Ta_11 (pc := 30) C  d_Ta_scan_30 ?_
        refine z_iload_n (pc := 33) C d_Ta_scan_33 rfl 1 rfl ?_
        obtain ⟨g3, hm⟩ := gd_s hm
        refine alC_19 (pc := 34) (v := (ga σ 19 x1.toNatClampNeg)) C  rfl g3 d_Ta_scan_34 ?_
        refine z_istore_n (pc := 35) (lv' := [(0, .ref (ad 1)), (1, .int x1), (2, .int x2), (3, .int (ga σ 19 x1.toNatClampNeg))]) C d_Ta_scan_35 rfl (Nat.le_of_ble_eq_true rfl) [1, 2, 3, 0] rfl ?_
        refine z_iload_n (pc := 36) C d_Ta_scan_36 rfl 3 rfl ?_
        refine z_bipush (pc := 37) C d_Ta_scan_37 kb_32 ?_
        refine z_icmp_eq (pc := 39) (tgt := 48) C d_Ta_scan_39 (by decide) (fun c4 => ?_) (fun c4 => ?_)
        · rw [if_pos c4] at hm
          refine z_lv (lv' := [(0, .ref (ad 1)), (1, .int x1), (2, .int x2)]) [0, 1, 2] rfl ?_
          exact w_Ta_scan_48 hAD C hr _ h14 σ x1 x2 hm
        · rw [if_neg c4] at hm
          refine z_iload_n (pc := 42) C d_Ta_scan_42 rfl 3 rfl ?_
          refine z_bipush (pc := 43) C d_Ta_scan_43 kb_10 ?_
          refine z_icmp_ne (pc := 45) (tgt := 54) C d_Ta_scan_45 (by decide) (fun c5 => ?_) (fun c5 => ?_)
          · rw [if_neg c5] at hm
            refine z_iload_n (pc := 54) C d_Ta_scan_54 rfl 3 rfl ?_
            obtain ⟨r7, σ6, e8, hm⟩ := bi_s hm
            refine z_callSI (pc := 55) C (k_Ta_isBigLetter hAD e8) km_Ta_isBigLetter mC_5 rfl (kR_of (Nat.le_of_ble_eq_true rfl) (Nat.le_of_ble_eq_true rfl)) rfl (Nat.le_of_ble_eq_true rfl) d_Ta_scan_55 ?_
            refine z_if_ne (pc := 58) (tgt := 68) C d_Ta_scan_58 (by decide) (fun c9 => ?_) (fun c9 => ?_)
            · rw [if_neg c9] at hm
              refine z_lv (lv' := [(0, .ref (ad 1)), (1, .int x1), (2, .int x2)]) [0, 1, 2] rfl ?_
              exact w_Ta_scan_68 hAD C hr _ h14 σ6 x1 x2 hm
            · rw [if_pos c9] at hm
              refine z_iload_n (pc := 61) C d_Ta_scan_61 rfl 3 rfl ?_
              obtain ⟨r11, σ10, e12, hm⟩ := bi_s hm
              refine z_callSI (pc := 62) C (k_Ta_isSmallLetter hAD e12) km_Ta_isSmallLetter mC_6 rfl (kR_of (Nat.le_of_ble_eq_true rfl) (Nat.le_of_ble_eq_true rfl)) rfl (Nat.le_of_ble_eq_true rfl) d_Ta_scan_62 ?_
              refine z_if_eq (pc := 65) (tgt := 77) C d_Ta_scan_65 (by decide) (fun c13 => ?_) (fun c13 => ?_)
              · rw [if_pos c13] at hm
                refine z_aload_n (pc := 77) C d_Ta_scan_77 rfl 0 rfl ?_
                refine z_iload_n (pc := 78) C d_Ta_scan_78 rfl 1 rfl ?_
                obtain ⟨r15, σ14, e16, hm⟩ := bi_s hm
                refine z_callI (pc := 79) C (k_Ta_scanSign hAD e16) km_Ta_scanSign mC_7 rfl rfl oC_1 rfl (kR_of (Nat.le_of_ble_eq_true rfl) (Nat.le_of_ble_eq_true rfl)) rfl (Nat.le_of_ble_eq_true rfl) d_Ta_scan_79 ?_
                refine z_istore_n (pc := 82) (lv' := [(0, .ref (ad 1)), (1, .int r15), (2, .int x2), (3, .int (ga σ 19 x1.toNatClampNeg))]) C d_Ta_scan_82 rfl (Nat.le_of_ble_eq_true rfl) [1, 0, 2, 3] rfl ?_
                refine z_lv (lv' := [(0, .ref (ad 1)), (1, .int r15), (2, .int x2)]) [0, 1, 2] rfl ?_
                exact w_Ta_scan_83 hAD C hr _ h14 σ14 r15 x2 hm
              · rw [if_neg c13] at hm
                refine z_lv (lv' := [(0, .ref (ad 1)), (1, .int x1), (2, .int x2)]) [0, 1, 2] rfl ?_
                exact w_Ta_scan_68 hAD C hr _ h14 σ10 x1 x2 hm
          · rw [if_pos c5] at hm
            refine z_lv (lv' := [(0, .ref (ad 1)), (1, .int x1), (2, .int x2)]) [0, 1, 2] rfl ?_
            exact w_Ta_scan_48 hAD C hr _ h14 σ x1 x2 hm
set_option maxHeartbeats 4000000 in
set_option maxRecDepth 100000 in
theorem k_Ta_scan {l : Launch} {D : va_G} {ad : Nat → Nat} {cA : Nat → ClassId} {F : Nat} (hAD : ∀ σ, va_D (owC ad) (wdC ad cA σ)) {σ : zS} {σ' : zS} (hm : Ta_scan F σ = some σ') : kVC l D ad cA (sXC ad) y_Ta_scan bc_Ta_scan 4 9 [.ref (ad 1)] σ σ' := by
  refine kV_of (by decide) hAD sXC_P (Nat.le_of_ble_eq_true rfl) ?_
  intro p e s m below meth c C hr
  unfold Ta_scan at hm
  refine z_lv (lv' := [(0, .ref (ad 1))]) [0] rfl ?_
  refine z_aload_n (pc := 0) C d_Ta_scan_0 rfl 0 rfl ?_
  refine z_iconst (pc := 1) C d_Ta_scan_1 ki_0 ?_
  refine pC_Ta_29 (pc := 2) C  d_Ta_scan_2 ?_
  refine z_aload_n (pc := 5) C d_Ta_scan_5 rfl 0 rfl ?_
  refine z_iconst (pc := 6) C d_Ta_scan_6 ki_0 ?_
  refine pC_Ta_32 (pc := 7) C  d_Ta_scan_7 ?_
  refine z_iconst (pc := 10) C d_Ta_scan_10 ki_0 ?_
  refine z_istore_n (pc := 11) (lv' := [(0, .ref (ad 1)), (1, .int (0 : Int32))]) C d_Ta_scan_11 rfl (Nat.le_of_ble_eq_true rfl) [1, 0] rfl ?_
  refine z_iconst (pc := 12) C d_Ta_scan_12 ki_0 ?_
  refine z_istore_n (pc := 13) (lv' := [(0, .ref (ad 1)), (1, .int (0 : Int32)), (2, .int (0 : Int32))]) C d_Ta_scan_13 rfl (Nat.le_of_ble_eq_true rfl) [1, 2, 0] rfl ?_
  exact w_Ta_scan_14 hAD C hr F (si (si σ 105 (0 : Int32)) 106 (0 : Int32)) (0 : Int32) (0 : Int32) hm
set_option maxHeartbeats 4000000 in
set_option maxRecDepth 100000 in
theorem k_Ta_sort {l : Launch} {D : va_G} {ad : Nat → Nat} {cA : Nat → ClassId} {F : Nat} (hAD : ∀ σ, va_D (owC ad) (wdC ad cA σ)) {σ : zS} {r : Int32} {σ' : zS} (hm : Ta_sort F σ = some (r, σ')) : kIC l D ad cA (sXC ad) y_Ta_sort bc_Ta_sort 1 .int 0 [.ref (ad 1)] σ r σ' := by
  refine kI_of (by decide) hAD sXC_P (Nat.le_of_ble_eq_true rfl) ?_
  intro p e s m below meth c C hr
  unfold Ta_sort at hm
  refine z_lv (lv' := [(0, .ref (ad 1))]) [0] rfl ?_
  refine z_aload_n (pc := 0) C d_Ta_sort_0 rfl 0 rfl ?_
  refine gC_Ta_15 (pc := 1) C  d_Ta_sort_1 ?_
  refine z_aload_n (pc := 4) C d_Ta_sort_4 rfl 0 rfl ?_
  refine gC_Ta_32 (pc := 5) (v := (gi σ 106)) C rfl d_Ta_sort_5 ?_
  obtain ⟨g1, hm⟩ := gd_s hm
  refine alC_20 (pc := 8) (v := (ga σ 20 (gi σ 106).toNatClampNeg)) C  rfl g1 d_Ta_sort_8 ?_
  exact z_iretE (pc := 9) C hr hm d_Ta_sort_9
set_option maxHeartbeats 4000000 in
set_option maxRecDepth 100000 in
theorem k_Ta_name {l : Launch} {D : va_G} {ad : Nat → Nat} {cA : Nat → ClassId} {F : Nat} (hAD : ∀ σ, va_D (owC ad) (wdC ad cA σ)) {σ : zS} {r : Int64} {σ' : zS} (hm : Ta_name F σ = some (r, σ')) : kLC l D ad cA (sXC ad) y_Ta_name bc_Ta_name 1 0 [.ref (ad 1)] σ r σ' := by
  refine kL_of (by decide) hAD sXC_P (Nat.le_of_ble_eq_true rfl) ?_
  intro p e s m below meth c C hr
  unfold Ta_name at hm
  refine z_lv (lv' := [(0, .ref (ad 1))]) [0] rfl ?_
  refine z_aload_n (pc := 0) C d_Ta_name_0 rfl 0 rfl ?_
  refine gC_Ta_18 (pc := 1) C  d_Ta_name_1 ?_
  refine z_aload_n (pc := 4) C d_Ta_name_4 rfl 0 rfl ?_
  refine gC_Ta_32 (pc := 5) (v := (gi σ 106)) C rfl d_Ta_name_5 ?_
  obtain ⟨g1, hm⟩ := gd_s hm
  refine alC_21 (pc := 8) (v := (gb σ 21 (gi σ 106).toNatClampNeg)) C  rfl g1 d_Ta_name_8 ?_
  exact z_lretE (pc := 9) C hr hm d_Ta_name_9
set_option maxHeartbeats 4000000 in
set_option maxRecDepth 100000 in
theorem k_Ta_start {l : Launch} {D : va_G} {ad : Nat → Nat} {cA : Nat → ClassId} {F : Nat} (hAD : ∀ σ, va_D (owC ad) (wdC ad cA σ)) {σ : zS} {r : Int32} {σ' : zS} (hm : Ta_start F σ = some (r, σ')) : kIC l D ad cA (sXC ad) y_Ta_start bc_Ta_start 1 .int 0 [.ref (ad 1)] σ r σ' := by
  refine kI_of (by decide) hAD sXC_P (Nat.le_of_ble_eq_true rfl) ?_
  intro p e s m below meth c C hr
  unfold Ta_start at hm
  refine z_lv (lv' := [(0, .ref (ad 1))]) [0] rfl ?_
  refine z_aload_n (pc := 0) C d_Ta_start_0 rfl 0 rfl ?_
  refine gC_Ta_22 (pc := 1) C  d_Ta_start_1 ?_
  refine z_aload_n (pc := 4) C d_Ta_start_4 rfl 0 rfl ?_
  refine gC_Ta_32 (pc := 5) (v := (gi σ 106)) C rfl d_Ta_start_5 ?_
  obtain ⟨g1, hm⟩ := gd_s hm
  refine alC_22 (pc := 8) (v := (ga σ 22 (gi σ 106).toNatClampNeg)) C  rfl g1 d_Ta_start_8 ?_
  exact z_iretE (pc := 9) C hr hm d_Ta_start_9
set_option maxHeartbeats 4000000 in
set_option maxRecDepth 100000 in
theorem w_Ta_step_23 {D : va_G} {ad : Nat → Nat} {cA : Nat → ClassId} {p : Program} {l : Launch} {e : Env} {s : State} {m : MethodId} {args : Array Value} {below : List Frame} {meth : Method} {c : Code} {F : Nat} (hAD : ∀ σ, va_D (owC ad) (wdC ad cA σ)) (C : CC D ad cA (sXC ad) p s m args meth c bc_Ta_step "KindRounds$Tape" 1) (hr : meth.sig.returnType = none) {σ' : zS} (σ : zS) (hm : Ta_step_23 F σ = some σ') : ZC D ad cA p l e (rmK 0) s m args below meth c 1 (qvC D ad cA below args s σ') 23 [] [] σ := by
  unfold Ta_step_23 at hm
  exact z_vretE (pc := 23) C hr hm d_Ta_step_23
set_option maxHeartbeats 4000000 in
set_option maxRecDepth 100000 in
theorem k_Ta_step {l : Launch} {D : va_G} {ad : Nat → Nat} {cA : Nat → ClassId} {F : Nat} (hAD : ∀ σ, va_D (owC ad) (wdC ad cA σ)) {σ : zS} {σ' : zS} (hm : Ta_step F σ = some σ') : kVC l D ad cA (sXC ad) y_Ta_step bc_Ta_step 1 0 [.ref (ad 1)] σ σ' := by
  refine kV_of (by decide) hAD sXC_P (Nat.le_of_ble_eq_true rfl) ?_
  intro p e s m below meth c C hr
  unfold Ta_step at hm
  refine z_lv (lv' := [(0, .ref (ad 1))]) [0] rfl ?_
  refine z_aload_n (pc := 0) C d_Ta_step_0 rfl 0 rfl ?_
  refine gC_Ta_32 (pc := 1) (v := (gi σ 106)) C rfl d_Ta_step_1 ?_
  refine z_iconst (pc := 4) C d_Ta_step_4 ki_1 ?_
  refine z_iadd (pc := 5) C d_Ta_step_5 ?_
  refine z_aload_n (pc := 6) C d_Ta_step_6 rfl 0 rfl ?_
  refine gC_Ta_29 (pc := 7) (v := (gi σ 105)) C rfl d_Ta_step_7 ?_
  refine z_icmp_ge (pc := 10) (tgt := 23) C d_Ta_step_10 (by decide) (fun c1 => ?_) (fun c1 => ?_)
  · rw [if_pos c1] at hm
    refine z_lv (lv' := []) [] rfl ?_
    exact w_Ta_step_23 hAD C hr σ hm
  · rw [if_neg c1] at hm
    refine z_aload_n (pc := 13) C d_Ta_step_13 rfl 0 rfl ?_
    refine z_dup (pc := 14) C d_Ta_step_14 rfl ?_
    refine gC_Ta_32 (pc := 15) (v := (gi σ 106)) C rfl d_Ta_step_15 ?_
    refine z_iconst (pc := 18) C d_Ta_step_18 ki_1 ?_
    refine z_iadd (pc := 19) C d_Ta_step_19 ?_
    refine pC_Ta_32 (pc := 20) C  d_Ta_step_20 ?_
    refine z_lv (lv' := []) [] rfl ?_
    exact w_Ta_step_23 hAD C hr (si σ 106 ((gi σ 106) + (1 : Int32))) hm
