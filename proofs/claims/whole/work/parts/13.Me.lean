/-! Walks of Me. Written by program (wip/gen). -/
set_option maxHeartbeats 4000000 in
set_option maxRecDepth 100000 in
theorem k_Me_clear {l : Launch} {D : va_G} {ad : Nat → Nat} {cA : Nat → ClassId} {F : Nat} (hAD : ∀ σ, va_D (owC ad) (wdC ad cA σ)) {σ : zS} {σ' : zS} (hm : Me_clear F σ = some σ') : kVC l D ad cA (sXC ad) y_Me_clear bc_Me_clear 1 0 [.ref (ad 5)] σ σ' := by
  refine kV_of (by decide) hAD sXC_P (Nat.le_of_ble_eq_true rfl) ?_
  intro p e s m below meth c C hr
  unfold Me_clear at hm
  refine z_lv (lv' := [(0, .ref (ad 5))]) [0] rfl ?_
  refine z_aload_n (pc := 0) C d_Me_clear_0 rfl 0 rfl ?_
  refine z_iconst (pc := 1) C d_Me_clear_1 ki_0 ?_
  refine pC_Me_26 (pc := 2) C  d_Me_clear_2 ?_
  exact z_vretE (pc := 5) C hr hm d_Me_clear_5
set_option maxHeartbeats 4000000 in
set_option maxRecDepth 100000 in
theorem w_Me_add_76 {D : va_G} {ad : Nat → Nat} {cA : Nat → ClassId} {p : Program} {l : Launch} {e : Env} {s : State} {m : MethodId} {args : Array Value} {below : List Frame} {meth : Method} {c : Code} {F : Nat} (hAD : ∀ σ, va_D (owC ad) (wdC ad cA σ)) (C : CC D ad cA (sXC ad) p s m args meth c bc_Me_add "KindRounds$Mentions" 4) (hr : meth.sig.returnType = none) {σ' : zS} (σ : zS) (hm : Me_add_76 F σ = some σ') : ZC D ad cA p l e (rmK 1) s m args below meth c 4 (qvC D ad cA below args s σ') 76 [] [] σ := by
  unfold Me_add_76 at hm
  exact z_vretE (pc := 76) C hr hm d_Me_add_76
set_option maxHeartbeats 4000000 in
set_option maxRecDepth 100000 in
theorem k_Me_add {l : Launch} {D : va_G} {ad : Nat → Nat} {cA : Nat → ClassId} {F : Nat} (hAD : ∀ σ, va_D (owC ad) (wdC ad cA σ)) {σ : zS} {x1 : Int32} {x2 : Int32} {σ' : zS} (hm : Me_add F σ x1 x2 = some σ') : kVC l D ad cA (sXC ad) y_Me_add bc_Me_add 4 1 [.ref (ad 5), .int x1, .int x2, .ref (ad 1)] σ σ' := by
  refine kV_of (by decide) hAD sXC_P (Nat.le_of_ble_eq_true rfl) ?_
  intro p e s m below meth c C hr
  unfold Me_add at hm
  refine z_lv (lv' := [(0, .ref (ad 5)), (1, .int x1), (2, .int x2), (3, .ref (ad 1))]) [0, 1, 2, 3] rfl ?_
  refine z_aload_n (pc := 0) C d_Me_add_0 rfl 0 rfl ?_
  refine gC_Me_26 (pc := 1) (v := (gi σ 505)) C rfl d_Me_add_1 ?_
  refine z_sipush (pc := 4) C d_Me_add_4 ks_600 ?_
  refine z_icmp_ge (pc := 7) (tgt := 76) C d_Me_add_7 (by decide) (fun c1 => ?_) (fun c1 => ?_)
  · rw [if_pos c1] at hm
    refine z_lv (lv' := []) [] rfl ?_
    exact w_Me_add_76 hAD C hr σ hm
  · rw [if_neg c1] at hm
    refine z_aload_n (pc := 10) C d_Me_add_10 rfl 0 rfl ?_
    refine gC_Me_9 (pc := 11) C  d_Me_add_11 ?_
    refine z_aload_n (pc := 14) C d_Me_add_14 rfl 0 rfl ?_
    refine gC_Me_26 (pc := 15) (v := (gi σ 505)) C rfl d_Me_add_15 ?_
    refine z_iload_n (pc := 18) C d_Me_add_18 rfl 1 rfl ?_
    obtain ⟨g2, hm⟩ := gd_s hm
    refine asC_43 (pc := 19) C  g2 d_Me_add_19 ?_
    refine z_aload_n (pc := 20) C d_Me_add_20 rfl 0 rfl ?_
    refine gC_Me_13 (pc := 21) C  d_Me_add_21 ?_
    refine z_aload_n (pc := 24) C d_Me_add_24 rfl 0 rfl ?_
    refine gC_Me_26 (pc := 25) (v := (gi σ 505)) C rfl d_Me_add_25 ?_
    refine z_aload_n (pc := 28) C d_Me_add_28 rfl 3 rfl ?_
    obtain ⟨r4, σ3, e5, hm⟩ := bi_s hm
    refine z_callLN (pc := 29) C (k_Ta_name hAD e5) km_Ta_name mC_79 rfl rfl oC_1 rfl (kR_of (Nat.le_of_ble_eq_true rfl) (Nat.le_of_ble_eq_true rfl)) rfl (Nat.le_of_ble_eq_true rfl) d_Me_add_29 ?_
    refine asC_44 (pc := 32) C  g2 d_Me_add_32 ?_
    refine z_aload_n (pc := 33) C d_Me_add_33 rfl 0 rfl ?_
    refine gC_Me_17 (pc := 34) C  d_Me_add_34 ?_
    refine z_aload_n (pc := 37) C d_Me_add_37 rfl 0 rfl ?_
    refine gC_Me_26 (pc := 38) (v := (gi σ3 505)) C rfl d_Me_add_38 ?_
    refine z_aload_n (pc := 41) C d_Me_add_41 rfl 3 rfl ?_
    obtain ⟨r7, σ6, e8, hm⟩ := bi_s hm
    refine z_callIN (pc := 42) C (k_Ta_start hAD e8) km_Ta_start mC_81 rfl rfl oC_1 rfl (kR_of (Nat.le_of_ble_eq_true rfl) (Nat.le_of_ble_eq_true rfl)) rfl (Nat.le_of_ble_eq_true rfl) d_Me_add_42 ?_
    obtain ⟨g9, hm⟩ := gd_s hm
    refine asC_45 (pc := 45) C  g9 d_Me_add_45 ?_
    refine z_aload_n (pc := 46) C d_Me_add_46 rfl 0 rfl ?_
    refine gC_Me_20 (pc := 47) C  d_Me_add_47 ?_
    refine z_aload_n (pc := 50) C d_Me_add_50 rfl 0 rfl ?_
    refine gC_Me_26 (pc := 51) (v := (gi σ6 505)) C rfl d_Me_add_51 ?_
    refine z_iload_n (pc := 54) C d_Me_add_54 rfl 2 rfl ?_
    obtain ⟨g10, hm⟩ := gd_s hm
    refine asC_46 (pc := 55) C  g10 d_Me_add_55 ?_
    refine z_aload_n (pc := 56) C d_Me_add_56 rfl 0 rfl ?_
    refine gC_Me_23 (pc := 57) C  d_Me_add_57 ?_
    refine z_aload_n (pc := 60) C d_Me_add_60 rfl 0 rfl ?_
    refine gC_Me_26 (pc := 61) (v := (gi σ6 505)) C rfl d_Me_add_61 ?_
    refine z_iconst (pc := 64) C d_Me_add_64 ki_0 ?_
    refine asC_47 (pc := 65) C  g10 d_Me_add_65 ?_
    refine z_aload_n (pc := 66) C d_Me_add_66 rfl 0 rfl ?_
    refine z_dup (pc := 67) C d_Me_add_67 rfl ?_
    refine gC_Me_26 (pc := 68) (v := (gi σ6 505)) C rfl d_Me_add_68 ?_
    refine z_iconst (pc := 71) C d_Me_add_71 ki_1 ?_
    refine z_iadd (pc := 72) C d_Me_add_72 ?_
    refine pC_Me_26 (pc := 73) C  d_Me_add_73 ?_
    refine z_lv (lv' := []) [] rfl ?_
    exact w_Me_add_76 hAD C hr (si (sa (sa (sa σ6 45 (gi σ3 505).toNatClampNeg r7) 46 (gi σ6 505).toNatClampNeg x2) 47 (gi σ6 505).toNatClampNeg (0 : Int32)) 505 ((gi σ6 505) + (1 : Int32))) hm
set_option maxHeartbeats 4000000 in
set_option maxRecDepth 100000 in
theorem w_Me_setValue_15 {D : va_G} {ad : Nat → Nat} {cA : Nat → ClassId} {p : Program} {l : Launch} {e : Env} {s : State} {m : MethodId} {args : Array Value} {below : List Frame} {meth : Method} {c : Code} {F : Nat} (hAD : ∀ σ, va_D (owC ad) (wdC ad cA σ)) (C : CC D ad cA (sXC ad) p s m args meth c bc_Me_setValue "KindRounds$Mentions" 3) (hr : meth.sig.returnType = none) {σ' : zS} (σ : zS) (hm : Me_setValue_15 F σ = some σ') : ZC D ad cA p l e (rmK 0) s m args below meth c 3 (qvC D ad cA below args s σ') 15 [] [] σ := by
  unfold Me_setValue_15 at hm
  exact z_vretE (pc := 15) C hr hm d_Me_setValue_15
set_option maxHeartbeats 4000000 in
set_option maxRecDepth 100000 in
theorem k_Me_setValue {l : Launch} {D : va_G} {ad : Nat → Nat} {cA : Nat → ClassId} {F : Nat} (hAD : ∀ σ, va_D (owC ad) (wdC ad cA σ)) {σ : zS} {x1 : Int32} {x2 : Int32} {σ' : zS} (hm : Me_setValue F σ x1 x2 = some σ') : kVC l D ad cA (sXC ad) y_Me_setValue bc_Me_setValue 3 0 [.ref (ad 5), .int x1, .int x2] σ σ' := by
  refine kV_of (by decide) hAD sXC_P (Nat.le_of_ble_eq_true rfl) ?_
  intro p e s m below meth c C hr
  unfold Me_setValue at hm
  refine z_lv (lv' := [(0, .ref (ad 5)), (1, .int x1), (2, .int x2)]) [0, 1, 2] rfl ?_
  refine z_iload_n (pc := 0) C d_Me_setValue_0 rfl 1 rfl ?_
  refine z_aload_n (pc := 1) C d_Me_setValue_1 rfl 0 rfl ?_
  refine gC_Me_26 (pc := 2) (v := (gi σ 505)) C rfl d_Me_setValue_2 ?_
  refine z_icmp_ge (pc := 5) (tgt := 15) C d_Me_setValue_5 (by decide) (fun c1 => ?_) (fun c1 => ?_)
  · rw [if_pos c1] at hm
    refine z_lv (lv' := []) [] rfl ?_
    exact w_Me_setValue_15 hAD C hr σ hm
  · rw [if_neg c1] at hm
    refine z_aload_n (pc := 8) C d_Me_setValue_8 rfl 0 rfl ?_
    refine gC_Me_23 (pc := 9) C  d_Me_setValue_9 ?_
    refine z_iload_n (pc := 12) C d_Me_setValue_12 rfl 1 rfl ?_
    refine z_iload_n (pc := 13) C d_Me_setValue_13 rfl 2 rfl ?_
    obtain ⟨g2, hm⟩ := gd_s hm
    refine asC_47 (pc := 14) C  g2 d_Me_setValue_14 ?_
    refine z_lv (lv' := []) [] rfl ?_
    exact w_Me_setValue_15 hAD C hr (sa σ 47 x1.toNatClampNeg x2) hm
set_option maxHeartbeats 4000000 in
set_option maxRecDepth 100000 in
theorem w_Me_wasTold_75 {D : va_G} {ad : Nat → Nat} {cA : Nat → ClassId} {p : Program} {l : Launch} {e : Env} {s : State} {m : MethodId} {args : Array Value} {below : List Frame} {meth : Method} {c : Code} {F : Nat} (hAD : ∀ σ, va_D (owC ad) (wdC ad cA σ)) (C : CC D ad cA (sXC ad) p s m args meth c bc_Me_wasTold "KindRounds$Mentions" 4) (hr : meth.sig.returnType = some .boolean) {r : Int32} {σ' : zS} (rc2 : zS → Int32 → Int32 → Option (Int32 × zS)) (h2 : ∀ σ x1 x2, rc2 σ x1 x2 = some (r, σ') → ZC D ad cA p l e (rmK 0) s m args below meth c 4 (qiC D ad cA below args s r σ') 2 [(0, .ref (ad 5)), (1, .int x1), (2, .int x2)] [] σ) (σ : zS) (x1 : Int32) (x2 : Int32) (hm : Me_wasTold_75 F rc2 σ x1 x2 = some (r, σ')) : ZC D ad cA p l e (rmK 0) s m args below meth c 4 (qiC D ad cA below args s r σ') 75 [(0, .ref (ad 5)), (1, .int x1), (2, .int x2)] [] σ := by
  unfold Me_wasTold_75 at hm
  refine z_iinc (pc := 75) (lv' := [(0, .ref (ad 5)), (1, .int x1), (2, .int (x2 + (1 : Int32)))]) C d_Me_wasTold_75 2 rfl (ii ki_1) (Nat.le_of_ble_eq_true rfl) [1, 2, 0] rfl ?_
  refine z_goto (pc := 78) (tgt := 2) C d_Me_wasTold_78 (by decide) ?_
  exact h2 σ x1 (x2 + (1 : Int32)) hm
set_option maxHeartbeats 4000000 in
set_option maxRecDepth 100000 in
theorem w_Me_wasTold_73 {D : va_G} {ad : Nat → Nat} {cA : Nat → ClassId} {p : Program} {l : Launch} {e : Env} {s : State} {m : MethodId} {args : Array Value} {below : List Frame} {meth : Method} {c : Code} {F : Nat} (hAD : ∀ σ, va_D (owC ad) (wdC ad cA σ)) (C : CC D ad cA (sXC ad) p s m args meth c bc_Me_wasTold "KindRounds$Mentions" 4) (hr : meth.sig.returnType = some .boolean) {r : Int32} {σ' : zS} (σ : zS) (hm : Me_wasTold_73 F σ = some (r, σ')) : ZC D ad cA p l e (rmK 0) s m args below meth c 4 (qiC D ad cA below args s r σ') 73 [] [] σ := by
  unfold Me_wasTold_73 at hm
  refine z_iconst (pc := 73) C d_Me_wasTold_73 ki_1 ?_
  exact z_zretE (pc := 74) C hr (by decide) hm d_Me_wasTold_74
set_option maxHeartbeats 4000000 in
set_option maxRecDepth 100000 in
theorem w_Me_wasTold_43 {D : va_G} {ad : Nat → Nat} {cA : Nat → ClassId} {p : Program} {l : Launch} {e : Env} {s : State} {m : MethodId} {args : Array Value} {below : List Frame} {meth : Method} {c : Code} {F : Nat} (hAD : ∀ σ, va_D (owC ad) (wdC ad cA σ)) (C : CC D ad cA (sXC ad) p s m args meth c bc_Me_wasTold "KindRounds$Mentions" 4) (hr : meth.sig.returnType = some .boolean) {r : Int32} {σ' : zS} (rc2 : zS → Int32 → Int32 → Option (Int32 × zS)) (h2 : ∀ σ x1 x2, rc2 σ x1 x2 = some (r, σ') → ZC D ad cA p l e (rmK 0) s m args below meth c 4 (qiC D ad cA below args s r σ') 2 [(0, .ref (ad 5)), (1, .int x1), (2, .int x2)] [] σ) (σ : zS) (x1 : Int32) (x2 : Int32) (s0 : Int32) (hm : Me_wasTold_43 F rc2 σ x1 x2 s0 = some (r, σ')) : ZC D ad cA p l e (rmK 0) s m args below meth c 4 (qiC D ad cA below args s r σ') 43 [(0, .ref (ad 5)), (1, .int x1), (2, .int x2)] [.int s0] σ := by
  unfold Me_wasTold_43 at hm
  refine z_istore_n (pc := 43) (lv' := [(0, .ref (ad 5)), (1, .int x1), (2, .int x2), (3, .int s0)]) C d_Me_wasTold_43 rfl (Nat.le_of_ble_eq_true rfl) [1, 2, 3, 0] rfl ?_
  refine z_iload_n (pc := 44) C d_Me_wasTold_44 rfl 3 rfl ?_
  refine z_if_eq (pc := 45) (tgt := 75) C d_Me_wasTold_45 (by decide) (fun c1 => ?_) (fun c1 => ?_)
  · rw [if_pos c1] at hm
    refine z_lv (lv' := [(0, .ref (ad 5)), (1, .int x1), (2, .int x2)]) [0, 1, 2] rfl ?_
    exact w_Me_wasTold_75 hAD C hr _ h2 σ x1 x2 hm
  · rw [if_neg c1] at hm
    refine z_aload_n (pc := 48) C d_Me_wasTold_48 rfl 0 rfl ?_
    refine gC_Me_9 (pc := 49) C  d_Me_wasTold_49 ?_
    refine z_iload_n (pc := 52) C d_Me_wasTold_52 rfl 2 rfl ?_
    obtain ⟨g2, hm⟩ := gd_s hm
    refine alC_43 (pc := 53) (v := (ga σ 43 x2.toNatClampNeg)) C  rfl g2 d_Me_wasTold_53 ?_
    refine z_iconst (pc := 54) C d_Me_wasTold_54 ki_3 ?_
    refine z_icmp_ne (pc := 55) (tgt := 73) C d_Me_wasTold_55 (by decide) (fun c3 => ?_) (fun c3 => ?_)
    · rw [if_neg c3] at hm
      refine z_lv (lv' := []) [] rfl ?_
      exact w_Me_wasTold_73 hAD C hr σ hm
    · rw [if_pos c3] at hm
      refine z_aload_n (pc := 58) C d_Me_wasTold_58 rfl 0 rfl ?_
      refine gC_Me_20 (pc := 59) C  d_Me_wasTold_59 ?_
      refine z_iload_n (pc := 62) C d_Me_wasTold_62 rfl 2 rfl ?_
      refine alC_46 (pc := 63) (v := (ga σ 46 x2.toNatClampNeg)) C  rfl g2 d_Me_wasTold_63 ?_
      refine z_aload_n (pc := 64) C d_Me_wasTold_64 rfl 0 rfl ?_
      refine gC_Me_20 (pc := 65) C  d_Me_wasTold_65 ?_
      refine z_iload_n (pc := 68) C d_Me_wasTold_68 rfl 1 rfl ?_
      obtain ⟨g4, hm⟩ := gd_s hm
      refine alC_46 (pc := 69) (v := (ga σ 46 x1.toNatClampNeg)) C  rfl g4 d_Me_wasTold_69 ?_
      refine z_icmp_ne (pc := 70) (tgt := 75) C d_Me_wasTold_70 (by decide) (fun c5 => ?_) (fun c5 => ?_)
      · rw [if_neg c5] at hm
        refine z_lv (lv' := [(0, .ref (ad 5)), (1, .int x1), (2, .int x2)]) [0, 1, 2] rfl ?_
        exact w_Me_wasTold_75 hAD C hr _ h2 σ x1 x2 hm
      · rw [if_pos c5] at hm
        refine z_lv (lv' := []) [] rfl ?_
        exact w_Me_wasTold_73 hAD C hr σ hm
set_option maxHeartbeats 4000000 in
set_option maxRecDepth 100000 in
theorem w_Me_wasTold_42 {D : va_G} {ad : Nat → Nat} {cA : Nat → ClassId} {p : Program} {l : Launch} {e : Env} {s : State} {m : MethodId} {args : Array Value} {below : List Frame} {meth : Method} {c : Code} {F : Nat} (hAD : ∀ σ, va_D (owC ad) (wdC ad cA σ)) (C : CC D ad cA (sXC ad) p s m args meth c bc_Me_wasTold "KindRounds$Mentions" 4) (hr : meth.sig.returnType = some .boolean) {r : Int32} {σ' : zS} (rc2 : zS → Int32 → Int32 → Option (Int32 × zS)) (h2 : ∀ σ x1 x2, rc2 σ x1 x2 = some (r, σ') → ZC D ad cA p l e (rmK 0) s m args below meth c 4 (qiC D ad cA below args s r σ') 2 [(0, .ref (ad 5)), (1, .int x1), (2, .int x2)] [] σ) (σ : zS) (x1 : Int32) (x2 : Int32) (hm : Me_wasTold_42 F rc2 σ x1 x2 = some (r, σ')) : ZC D ad cA p l e (rmK 0) s m args below meth c 4 (qiC D ad cA below args s r σ') 42 [(0, .ref (ad 5)), (1, .int x1), (2, .int x2)] [] σ := by
  unfold Me_wasTold_42 at hm
  refine z_iconst (pc := 42) C d_Me_wasTold_42 ki_0 ?_
  exact w_Me_wasTold_43 hAD C hr _ h2 σ x1 x2 (0 : Int32) hm
set_option maxHeartbeats 4000000 in
set_option maxRecDepth 100000 in
theorem w_Me_wasTold_2 {D : va_G} {ad : Nat → Nat} {cA : Nat → ClassId} {p : Program} {l : Launch} {e : Env} {s : State} {m : MethodId} {args : Array Value} {below : List Frame} {meth : Method} {c : Code} {F : Nat} (hAD : ∀ σ, va_D (owC ad) (wdC ad cA σ)) (C : CC D ad cA (sXC ad) p s m args meth c bc_Me_wasTold "KindRounds$Mentions" 4) (hr : meth.sig.returnType = some .boolean) {r : Int32} {σ' : zS} : ∀ (n : Nat) (σ : zS) (x1 : Int32) (x2 : Int32), Me_wasTold_2 F n σ x1 x2 = some (r, σ') → ZC D ad cA p l e (rmK 0) s m args below meth c 4 (qiC D ad cA below args s r σ') 2 [(0, .ref (ad 5)), (1, .int x1), (2, .int x2)] [] σ := by
  intro n
  induction n with
  | zero => intro σ x1 x2 hm; cases hm
  | succ n h2 =>
    intro σ x1 x2 hm
    have hm : Me_wasTold_b2 F (Me_wasTold_2 F n) σ x1 x2 = some (r, σ') := hm
    unfold Me_wasTold_b2 at hm
    refine z_iload_n (pc := 2) C d_Me_wasTold_2 rfl 2 rfl ?_
    refine z_iload_n (pc := 3) C d_Me_wasTold_3 rfl 1 rfl ?_
    refine z_icmp_ge (pc := 4) (tgt := 81) C d_Me_wasTold_4 (by decide) (fun c1 => ?_) (fun c1 => ?_)
    · rw [if_pos c1] at hm
      refine z_iconst (pc := 81) C d_Me_wasTold_81 ki_0 ?_
      exact z_zretE (pc := 82) C hr (by decide) hm d_Me_wasTold_82
    · rw [if_neg c1] at hm
      refine z_aload_n (pc := 7) C d_Me_wasTold_7 rfl 0 rfl ?_
      refine gC_Me_9 (pc := 8) C  d_Me_wasTold_8 ?_
      refine z_iload_n (pc := 11) C d_Me_wasTold_11 rfl 2 rfl ?_
      obtain ⟨g2, hm⟩ := gd_s hm
      refine alC_43 (pc := 12) (v := (ga σ 43 x2.toNatClampNeg)) C  rfl g2 d_Me_wasTold_12 ?_
      refine z_aload_n (pc := 13) C d_Me_wasTold_13 rfl 0 rfl ?_
      refine gC_Me_9 (pc := 14) C  d_Me_wasTold_14 ?_
      refine z_iload_n (pc := 17) C d_Me_wasTold_17 rfl 1 rfl ?_
      obtain ⟨g3, hm⟩ := gd_s hm
      refine alC_43 (pc := 18) (v := (ga σ 43 x1.toNatClampNeg)) C  rfl g3 d_Me_wasTold_18 ?_
      refine z_icmp_ne (pc := 19) (tgt := 42) C d_Me_wasTold_19 (by decide) (fun c4 => ?_) (fun c4 => ?_)
      · rw [if_neg c4] at hm
        exact w_Me_wasTold_42 hAD C hr _ h2 σ x1 x2 hm
      · rw [if_pos c4] at hm
        refine z_aload_n (pc := 22) C d_Me_wasTold_22 rfl 0 rfl ?_
        refine gC_Me_13 (pc := 23) C  d_Me_wasTold_23 ?_
        refine z_iload_n (pc := 26) C d_Me_wasTold_26 rfl 2 rfl ?_
        refine alC_44 (pc := 27) (v := (gb σ 44 x2.toNatClampNeg)) C  rfl g2 d_Me_wasTold_27 ?_
        refine z_aload_n (pc := 28) C d_Me_wasTold_28 rfl 0 rfl ?_
        refine gC_Me_13 (pc := 29) C  d_Me_wasTold_29 ?_
        refine z_iload_n (pc := 32) C d_Me_wasTold_32 rfl 1 rfl ?_
        refine alC_44 (pc := 33) (v := (gb σ 44 x1.toNatClampNeg)) C  rfl g3 d_Me_wasTold_33 ?_
        refine z_lcmp (pc := 34) C d_Me_wasTold_34 ?_
        refine z_if_ne (pc := 35) (tgt := 42) C d_Me_wasTold_35 (by decide) (fun c5 => ?_) (fun c5 => ?_)
        · rw [if_neg c5] at hm
          exact w_Me_wasTold_42 hAD C hr _ h2 σ x1 x2 hm
        · rw [if_pos c5] at hm
          refine z_iconst (pc := 38) C d_Me_wasTold_38 ki_1 ?_
          refine z_goto (pc := 39) (tgt := 43) C d_Me_wasTold_39 (by decide) ?_
          exact w_Me_wasTold_43 hAD C hr _ h2 σ x1 x2 (1 : Int32) hm
set_option maxHeartbeats 4000000 in
set_option maxRecDepth 100000 in
theorem k_Me_wasTold {l : Launch} {D : va_G} {ad : Nat → Nat} {cA : Nat → ClassId} {F : Nat} (hAD : ∀ σ, va_D (owC ad) (wdC ad cA σ)) {σ : zS} {x1 : Int32} {r : Int32} {σ' : zS} (hm : Me_wasTold F σ x1 = some (r, σ')) : kIC l D ad cA (sXC ad) y_Me_wasTold bc_Me_wasTold 4 .boolean 0 [.ref (ad 5), .int x1] σ r σ' := by
  refine kI_of (by decide) hAD sXC_P (Nat.le_of_ble_eq_true rfl) ?_
  intro p e s m below meth c C hr
  unfold Me_wasTold at hm
  refine z_lv (lv' := [(0, .ref (ad 5)), (1, .int x1)]) [0, 1] rfl ?_
  refine z_iconst (pc := 0) C d_Me_wasTold_0 ki_0 ?_
  refine z_istore_n (pc := 1) (lv' := [(0, .ref (ad 5)), (1, .int x1), (2, .int (0 : Int32))]) C d_Me_wasTold_1 rfl (Nat.le_of_ble_eq_true rfl) [1, 2, 0] rfl ?_
  exact w_Me_wasTold_2 hAD C hr F σ x1 (0 : Int32) hm
