/-! Walks of So. Written by program (wip/gen). -/
set_option maxHeartbeats 4000000 in
set_option maxRecDepth 100000 in
theorem w_So_countOpens_78 {D : va_G} {ad : Nat → Nat} {cA : Nat → ClassId} {p : Program} {l : Launch} {e : Env} {s : State} {m : MethodId} {args : Array Value} {below : List Frame} {meth : Method} {c : Code} {F : Nat} (hAD : ∀ σ, va_D (owC ad) (wdC ad cA σ)) (C : CC D ad cA (sXC ad) p s m args meth c bc_So_countOpens "KindRounds$Solver" 4) (hr : meth.sig.returnType = none) {σ' : zS} (rc2 : zS → Int32 → Int32 → Option zS) (h2 : ∀ σ x1 x2, rc2 σ x1 x2 = some σ' → ZC D ad cA p l e (rmK 4) s m args below meth c 4 (qvC D ad cA below args s σ') 2 [(0, .ref (ad 8)), (1, .int x1), (2, .int x2)] [] σ) (σ : zS) (x1 : Int32) (x2 : Int32) (hm : So_countOpens_78 F rc2 σ x1 x2 = some σ') : ZC D ad cA p l e (rmK 4) s m args below meth c 4 (qvC D ad cA below args s σ') 78 [(0, .ref (ad 8)), (1, .int x1), (2, .int x2)] [] σ := by
  unfold So_countOpens_78 at hm
  refine z_iinc (pc := 78) (lv' := [(0, .ref (ad 8)), (1, .int x1), (2, .int (x2 + (1 : Int32)))]) C d_So_countOpens_78 2 rfl (ii ki_1) (Nat.le_of_ble_eq_true rfl) [1, 2, 0] rfl ?_
  refine z_goto (pc := 81) (tgt := 2) C d_So_countOpens_81 (by decide) ?_
  exact h2 σ x1 (x2 + (1 : Int32)) hm
set_option maxHeartbeats 4000000 in
set_option maxRecDepth 100000 in
theorem w_So_countOpens_72 {D : va_G} {ad : Nat → Nat} {cA : Nat → ClassId} {p : Program} {l : Launch} {e : Env} {s : State} {m : MethodId} {args : Array Value} {below : List Frame} {meth : Method} {c : Code} {F : Nat} (hAD : ∀ σ, va_D (owC ad) (wdC ad cA σ)) (C : CC D ad cA (sXC ad) p s m args meth c bc_So_countOpens "KindRounds$Solver" 4) (hr : meth.sig.returnType = none) {σ' : zS} (rc2 : zS → Int32 → Int32 → Option zS) (rc15 : zS → Int32 → Int32 → Int32 → Option zS) (h2 : ∀ σ x1 x2, rc2 σ x1 x2 = some σ' → ZC D ad cA p l e (rmK 4) s m args below meth c 4 (qvC D ad cA below args s σ') 2 [(0, .ref (ad 8)), (1, .int x1), (2, .int x2)] [] σ) (h15 : ∀ σ x1 x2 x3, rc15 σ x1 x2 x3 = some σ' → ZC D ad cA p l e (rmK 4) s m args below meth c 4 (qvC D ad cA below args s σ') 15 [(0, .ref (ad 8)), (1, .int x1), (2, .int x2), (3, .int x3)] [] σ) (σ : zS) (x1 : Int32) (x2 : Int32) (x3 : Int32) (hm : So_countOpens_72 F rc2 rc15 σ x1 x2 x3 = some σ') : ZC D ad cA p l e (rmK 4) s m args below meth c 4 (qvC D ad cA below args s σ') 72 [(0, .ref (ad 8)), (1, .int x1), (2, .int x2), (3, .int x3)] [] σ := by
  unfold So_countOpens_72 at hm
  refine z_iinc (pc := 72) (lv' := [(0, .ref (ad 8)), (1, .int x1), (2, .int x2), (3, .int (x3 + (1 : Int32)))]) C d_So_countOpens_72 3 rfl (ii ki_1) (Nat.le_of_ble_eq_true rfl) [1, 2, 3, 0] rfl ?_
  refine z_goto (pc := 75) (tgt := 15) C d_So_countOpens_75 (by decide) ?_
  exact h15 σ x1 x2 (x3 + (1 : Int32)) hm
set_option maxHeartbeats 4000000 in
set_option maxRecDepth 100000 in
theorem w_So_countOpens_15 {D : va_G} {ad : Nat → Nat} {cA : Nat → ClassId} {p : Program} {l : Launch} {e : Env} {s : State} {m : MethodId} {args : Array Value} {below : List Frame} {meth : Method} {c : Code} {F : Nat} (hAD : ∀ σ, va_D (owC ad) (wdC ad cA σ)) (C : CC D ad cA (sXC ad) p s m args meth c bc_So_countOpens "KindRounds$Solver" 4) (hr : meth.sig.returnType = none) {σ' : zS} (rc2 : zS → Int32 → Int32 → Option zS) (h2 : ∀ σ x1 x2, rc2 σ x1 x2 = some σ' → ZC D ad cA p l e (rmK 4) s m args below meth c 4 (qvC D ad cA below args s σ') 2 [(0, .ref (ad 8)), (1, .int x1), (2, .int x2)] [] σ) : ∀ (n : Nat) (σ : zS) (x1 : Int32) (x2 : Int32) (x3 : Int32), So_countOpens_15 F rc2 n σ x1 x2 x3 = some σ' → ZC D ad cA p l e (rmK 4) s m args below meth c 4 (qvC D ad cA below args s σ') 15 [(0, .ref (ad 8)), (1, .int x1), (2, .int x2), (3, .int x3)] [] σ := by
  intro n
  induction n with
  | zero => intro σ x1 x2 x3 hm; cases hm
  | succ n h15 =>
    intro σ x1 x2 x3 hm
    have hm : So_countOpens_b15 F rc2 (So_countOpens_15 F rc2 n) σ x1 x2 x3 = some σ' := hm
    unfold So_countOpens_b15 at hm
    refine z_iload_n (pc := 15) C d_So_countOpens_15 rfl 3 rfl ?_
    refine z_aload_n (pc := 16) C d_So_countOpens_16 rfl 0 rfl ?_
    refine gC_So_9 (pc := 17) C  d_So_countOpens_17 ?_
    refine gC_So_111 (pc := 20) C  d_So_countOpens_20 ?_
    refine z_iload_n (pc := 23) C d_So_countOpens_23 rfl 2 rfl ?_
    obtain ⟨g1, hm⟩ := gd_s hm
    refine alC_32 (pc := 24) (v := (ga σ 32 x2.toNatClampNeg)) C  rfl g1 d_So_countOpens_24 ?_
    refine z_icmp_ge (pc := 25) (tgt := 78) C d_So_countOpens_25 (by decide) (fun c2 => ?_) (fun c2 => ?_)
    · rw [if_pos c2] at hm
      refine z_lv (lv' := [(0, .ref (ad 8)), (1, .int x1), (2, .int x2)]) [0, 1, 2] rfl ?_
      exact w_So_countOpens_78 hAD C hr _ h2 σ x1 x2 hm
    · rw [if_neg c2] at hm
      refine z_iload_n (pc := 28) C d_So_countOpens_28 rfl 1 rfl ?_
      refine z_iload_n (pc := 29) C d_So_countOpens_29 rfl 2 rfl ?_
      refine z_ishr (pc := 30) C d_So_countOpens_30 ?_
      refine z_iconst (pc := 31) C d_So_countOpens_31 ki_1 ?_
      refine z_iand (pc := 32) C d_So_countOpens_32 ?_
      refine z_if_eq (pc := 33) (tgt := 78) C d_So_countOpens_33 (by decide) (fun c3 => ?_) (fun c3 => ?_)
      · rw [if_pos c3] at hm
        refine z_lv (lv' := [(0, .ref (ad 8)), (1, .int x1), (2, .int x2)]) [0, 1, 2] rfl ?_
        exact w_So_countOpens_78 hAD C hr _ h2 σ x1 x2 hm
      · rw [if_neg c3] at hm
        refine z_aload_n (pc := 36) C d_So_countOpens_36 rfl 0 rfl ?_
        refine gC_So_19 (pc := 37) C  d_So_countOpens_37 ?_
        refine z_aload_n (pc := 40) C d_So_countOpens_40 rfl 0 rfl ?_
        refine gC_So_9 (pc := 41) C  d_So_countOpens_41 ?_
        refine gC_So_114 (pc := 44) C  d_So_countOpens_44 ?_
        refine z_iload_n (pc := 47) C d_So_countOpens_47 rfl 2 rfl ?_
        refine z_iconst (pc := 48) C d_So_countOpens_48 ki_3 ?_
        refine z_imul (pc := 49) C d_So_countOpens_49 ?_
        refine z_iload_n (pc := 50) C d_So_countOpens_50 rfl 3 rfl ?_
        refine z_iadd (pc := 51) C d_So_countOpens_51 ?_
        obtain ⟨g4, hm⟩ := gd_s hm
        refine alC_41 (pc := 52) (v := (ga σ 41 ((x2 * (3 : Int32)) + x3).toNatClampNeg)) C  rfl g4 d_So_countOpens_52 ?_
        obtain ⟨r6, σ5, e7, hm⟩ := bi_s hm
        refine z_callIN (pc := 53) C (k_Ki_hasOpen hAD e7) km_Ki_hasOpen mC_209 rfl rfl oC_3 rfl (kR_of (Nat.le_of_ble_eq_true rfl) (Nat.le_of_ble_eq_true rfl)) rfl (Nat.le_of_ble_eq_true rfl) d_So_countOpens_53 ?_
        refine z_if_eq (pc := 56) (tgt := 72) C d_So_countOpens_56 (by decide) (fun c8 => ?_) (fun c8 => ?_)
        · rw [if_pos c8] at hm
          exact w_So_countOpens_72 hAD C hr _ _ h2 h15 σ5 x1 x2 x3 hm
        · rw [if_neg c8] at hm
          refine z_aload_n (pc := 59) C d_So_countOpens_59 rfl 0 rfl ?_
          refine gC_So_9 (pc := 60) C  d_So_countOpens_60 ?_
          refine gC_So_141 (pc := 63) C  d_So_countOpens_63 ?_
          refine z_iload_n (pc := 66) C d_So_countOpens_66 rfl 2 rfl ?_
          refine z_dup2 (pc := 67) C d_So_countOpens_67 rfl rfl ?_
          refine alC_35 (pc := 68) (v := (ga σ5 35 x2.toNatClampNeg)) C  rfl g1 d_So_countOpens_68 ?_
          refine z_iconst (pc := 69) C d_So_countOpens_69 ki_1 ?_
          refine z_iadd (pc := 70) C d_So_countOpens_70 ?_
          refine asC_35 (pc := 71) C  g1 d_So_countOpens_71 ?_
          exact w_So_countOpens_72 hAD C hr _ _ h2 h15 (sa σ5 35 x2.toNatClampNeg ((ga σ5 35 x2.toNatClampNeg) + (1 : Int32))) x1 x2 x3 hm
set_option maxHeartbeats 4000000 in
set_option maxRecDepth 100000 in
theorem w_So_countOpens_2 {D : va_G} {ad : Nat → Nat} {cA : Nat → ClassId} {p : Program} {l : Launch} {e : Env} {s : State} {m : MethodId} {args : Array Value} {below : List Frame} {meth : Method} {c : Code} {F : Nat} (hAD : ∀ σ, va_D (owC ad) (wdC ad cA σ)) (C : CC D ad cA (sXC ad) p s m args meth c bc_So_countOpens "KindRounds$Solver" 4) (hr : meth.sig.returnType = none) {σ' : zS} : ∀ (n : Nat) (σ : zS) (x1 : Int32) (x2 : Int32), So_countOpens_2 F n σ x1 x2 = some σ' → ZC D ad cA p l e (rmK 4) s m args below meth c 4 (qvC D ad cA below args s σ') 2 [(0, .ref (ad 8)), (1, .int x1), (2, .int x2)] [] σ := by
  intro n
  induction n with
  | zero => intro σ x1 x2 hm; cases hm
  | succ n h2 =>
    intro σ x1 x2 hm
    have hm : So_countOpens_b2 F (So_countOpens_2 F n) σ x1 x2 = some σ' := hm
    unfold So_countOpens_b2 at hm
    refine z_iload_n (pc := 2) C d_So_countOpens_2 rfl 2 rfl ?_
    refine z_aload_n (pc := 3) C d_So_countOpens_3 rfl 0 rfl ?_
    refine gC_So_9 (pc := 4) C  d_So_countOpens_4 ?_
    refine gC_So_108 (pc := 7) (v := (gi σ 400)) C rfl d_So_countOpens_7 ?_
    refine z_icmp_ge (pc := 10) (tgt := 84) C d_So_countOpens_10 (by decide) (fun c1 => ?_) (fun c1 => ?_)
    · rw [if_pos c1] at hm
      exact z_vretE (pc := 84) C hr hm d_So_countOpens_84
    · rw [if_neg c1] at hm
      refine z_iconst (pc := 13) C d_So_countOpens_13 ki_0 ?_
      refine z_istore_n (pc := 14) (lv' := [(0, .ref (ad 8)), (1, .int x1), (2, .int x2), (3, .int (0 : Int32))]) C d_So_countOpens_14 rfl (Nat.le_of_ble_eq_true rfl) [1, 2, 3, 0] rfl ?_
      exact w_So_countOpens_15 hAD C hr _ h2 F σ x1 x2 (0 : Int32) hm
set_option maxHeartbeats 4000000 in
set_option maxRecDepth 100000 in
theorem k_So_countOpens {l : Launch} {D : va_G} {ad : Nat → Nat} {cA : Nat → ClassId} {F : Nat} (hAD : ∀ σ, va_D (owC ad) (wdC ad cA σ)) {σ : zS} {x1 : Int32} {σ' : zS} (hm : So_countOpens F σ x1 = some σ') : kVC l D ad cA (sXC ad) y_So_countOpens bc_So_countOpens 4 4 [.ref (ad 8), .int x1] σ σ' := by
  refine kV_of (by decide) hAD sXC_P (Nat.le_of_ble_eq_true rfl) ?_
  intro p e s m below meth c C hr
  unfold So_countOpens at hm
  refine z_lv (lv' := [(0, .ref (ad 8)), (1, .int x1)]) [0, 1] rfl ?_
  refine z_iconst (pc := 0) C d_So_countOpens_0 ki_0 ?_
  refine z_istore_n (pc := 1) (lv' := [(0, .ref (ad 8)), (1, .int x1), (2, .int (0 : Int32))]) C d_So_countOpens_1 rfl (Nat.le_of_ble_eq_true rfl) [1, 2, 0] rfl ?_
  exact w_So_countOpens_2 hAD C hr F σ x1 (0 : Int32) hm
set_option maxHeartbeats 4000000 in
set_option maxRecDepth 100000 in
theorem w_So_equate_50 {D : va_G} {ad : Nat → Nat} {cA : Nat → ClassId} {p : Program} {l : Launch} {e : Env} {s : State} {m : MethodId} {args : Array Value} {below : List Frame} {meth : Method} {c : Code} {F : Nat} (hAD : ∀ σ, va_D (owC ad) (wdC ad cA σ)) (C : CC D ad cA (sXC ad) p s m args meth c bc_So_equate "KindRounds$Solver" 4) (hr : meth.sig.returnType = none) {σ' : zS} (σ : zS) (hm : So_equate_50 F σ = some σ') : ZC D ad cA p l e (rmK 0) s m args below meth c 4 (qvC D ad cA below args s σ') 50 [] [] σ := by
  unfold So_equate_50 at hm
  exact z_vretE (pc := 50) C hr hm d_So_equate_50
set_option maxHeartbeats 4000000 in
set_option maxRecDepth 100000 in
theorem k_So_equate {l : Launch} {D : va_G} {ad : Nat → Nat} {cA : Nat → ClassId} {F : Nat} (hAD : ∀ σ, va_D (owC ad) (wdC ad cA σ)) {σ : zS} {x1 : Int32} {x2 : Int32} {x3 : Int32} {σ' : zS} (hm : So_equate F σ x1 x2 x3 = some σ') : kVC l D ad cA (sXC ad) y_So_equate bc_So_equate 4 0 [.ref (ad 8), .int x1, .int x2, .int x3] σ σ' := by
  refine kV_of (by decide) hAD sXC_P (Nat.le_of_ble_eq_true rfl) ?_
  intro p e s m below meth c C hr
  unfold So_equate at hm
  refine z_lv (lv' := [(0, .ref (ad 8)), (1, .int x1), (2, .int x2), (3, .int x3)]) [0, 1, 2, 3] rfl ?_
  refine z_aload_n (pc := 0) C d_So_equate_0 rfl 0 rfl ?_
  refine gC_So_65 (pc := 1) (v := (gi σ 807)) C rfl d_So_equate_1 ?_
  refine z_sipush (pc := 4) C d_So_equate_4 ks_216 ?_
  refine z_icmp_ge (pc := 7) (tgt := 50) C d_So_equate_7 (by decide) (fun c1 => ?_) (fun c1 => ?_)
  · rw [if_pos c1] at hm
    refine z_lv (lv' := []) [] rfl ?_
    exact w_So_equate_50 hAD C hr σ hm
  · rw [if_neg c1] at hm
    refine z_aload_n (pc := 10) C d_So_equate_10 rfl 0 rfl ?_
    refine gC_So_27 (pc := 11) C  d_So_equate_11 ?_
    refine z_aload_n (pc := 14) C d_So_equate_14 rfl 0 rfl ?_
    refine gC_So_65 (pc := 15) (v := (gi σ 807)) C rfl d_So_equate_15 ?_
    refine z_iload_n (pc := 18) C d_So_equate_18 rfl 1 rfl ?_
    obtain ⟨g2, hm⟩ := gd_s hm
    refine asC_49 (pc := 19) C  g2 d_So_equate_19 ?_
    refine z_aload_n (pc := 20) C d_So_equate_20 rfl 0 rfl ?_
    refine gC_So_31 (pc := 21) C  d_So_equate_21 ?_
    refine z_aload_n (pc := 24) C d_So_equate_24 rfl 0 rfl ?_
    refine gC_So_65 (pc := 25) (v := (gi σ 807)) C rfl d_So_equate_25 ?_
    refine z_iload_n (pc := 28) C d_So_equate_28 rfl 2 rfl ?_
    refine asC_50 (pc := 29) C  g2 d_So_equate_29 ?_
    refine z_aload_n (pc := 30) C d_So_equate_30 rfl 0 rfl ?_
    refine gC_So_34 (pc := 31) C  d_So_equate_31 ?_
    refine z_aload_n (pc := 34) C d_So_equate_34 rfl 0 rfl ?_
    refine gC_So_65 (pc := 35) (v := (gi σ 807)) C rfl d_So_equate_35 ?_
    refine z_iload_n (pc := 38) C d_So_equate_38 rfl 3 rfl ?_
    refine asC_51 (pc := 39) C  g2 d_So_equate_39 ?_
    refine z_aload_n (pc := 40) C d_So_equate_40 rfl 0 rfl ?_
    refine z_dup (pc := 41) C d_So_equate_41 rfl ?_
    refine gC_So_65 (pc := 42) (v := (gi σ 807)) C rfl d_So_equate_42 ?_
    refine z_iconst (pc := 45) C d_So_equate_45 ki_1 ?_
    refine z_iadd (pc := 46) C d_So_equate_46 ?_
    refine pC_So_65 (pc := 47) C  d_So_equate_47 ?_
    refine z_lv (lv' := []) [] rfl ?_
    exact w_So_equate_50 hAD C hr (si (sa (sa (sa σ 49 (gi σ 807).toNatClampNeg x1) 50 (gi σ 807).toNatClampNeg x2) 51 (gi σ 807).toNatClampNeg x3) 807 ((gi σ 807) + (1 : Int32))) hm
set_option maxHeartbeats 4000000 in
set_option maxRecDepth 100000 in
theorem w_So_joinFrame_69 {D : va_G} {ad : Nat → Nat} {cA : Nat → ClassId} {p : Program} {l : Launch} {e : Env} {s : State} {m : MethodId} {args : Array Value} {below : List Frame} {meth : Method} {c : Code} {F : Nat} (hAD : ∀ σ, va_D (owC ad) (wdC ad cA σ)) (C : CC D ad cA (sXC ad) p s m args meth c bc_So_joinFrame "KindRounds$Solver" 6) (hr : meth.sig.returnType = none) {σ' : zS} (σ : zS) (x2 : Int32) (hm : So_joinFrame_69 F σ x2 = some σ') : ZC D ad cA p l e (rmK 1) s m args below meth c 6 (qvC D ad cA below args s σ') 69 [(0, .ref (ad 8)), (2, .int x2)] [] σ := by
  unfold So_joinFrame_69 at hm
  refine z_aload_n (pc := 69) C d_So_joinFrame_69 rfl 0 rfl ?_
  refine gC_So_43 (pc := 70) C  d_So_joinFrame_70 ?_
  refine z_iload_n (pc := 73) C d_So_joinFrame_73 rfl 1 rfl ?_
  refine z_dup2 (pc := 74) C d_So_joinFrame_74 rfl rfl ?_
  obtain ⟨g1, hm⟩ := gd_s hm
  refine alC_54 (pc := 75) (v := (ga σ 54 x2.toNatClampNeg)) C  rfl g1 d_So_joinFrame_75 ?_
  refine z_iconst (pc := 76) C d_So_joinFrame_76 ki_1 ?_
  refine z_iadd (pc := 77) C d_So_joinFrame_77 ?_
  refine asC_54 (pc := 78) C  g1 d_So_joinFrame_78 ?_
  exact z_vretE (pc := 79) C hr hm d_So_joinFrame_79
set_option maxHeartbeats 4000000 in
set_option maxRecDepth 100000 in
theorem k_So_joinFrame {l : Launch} {D : va_G} {ad : Nat → Nat} {cA : Nat → ClassId} {F : Nat} (hAD : ∀ σ, va_D (owC ad) (wdC ad cA σ)) {σ : zS} {x1 : Nat} {x2 : Int32} {x3 : Int32} {x4 : Int32} {σ' : zS} (hm : So_joinFrame F σ x1 x2 x3 x4 = some σ') : kVC l D ad cA (sXC ad) y_So_joinFrame bc_So_joinFrame 6 1 [.ref (ad 8), .ref (ad x1), .int x2, .int x3, .int x4] σ σ' := by
  refine kV_of (by decide) hAD sXC_P (Nat.le_of_ble_eq_true rfl) ?_
  intro p e s m below meth c C hr
  unfold So_joinFrame at hm
  refine z_lv (lv' := [(0, .ref (ad 8)), (1, .ref (ad x1)), (2, .int x2), (3, .int x3), (4, .int x4)]) [0, 1, 2, 3, 4] rfl ?_
  refine z_aload_n (pc := 0) C d_So_joinFrame_0 rfl 0 rfl ?_
  refine gC_So_43 (pc := 1) C  d_So_joinFrame_1 ?_
  refine z_iload_n (pc := 4) C d_So_joinFrame_4 rfl 2 rfl ?_
  obtain ⟨g1, hm⟩ := gd_s hm
  refine alC_54 (pc := 5) (v := (ga σ 54 x2.toNatClampNeg)) C  rfl g1 d_So_joinFrame_5 ?_
  refine z_aload_n (pc := 6) C d_So_joinFrame_6 rfl 1 rfl ?_
  refine z_aload_n (pc := 7) C d_So_joinFrame_7 rfl 0 rfl ?_
  refine gC_So_37 (pc := 8) C  d_So_joinFrame_8 ?_
  refine z_iload_n (pc := 11) C d_So_joinFrame_11 rfl 2 rfl ?_
  refine alC_52 (pc := 12) (v := (ga σ 52 x2.toNatClampNeg)) C  rfl g1 d_So_joinFrame_12 ?_
  obtain ⟨g3, hm⟩ := gd_s hm
  obtain ⟨r4, σ2, e5, hm⟩ := bi_s hm
  refine z_callIN (pc := 13) C (k_Ro_fixedOf hAD e5) km_Ro_fixedOf mC_236 rfl rfl (oC_Ro g3) rfl (kR_of (Nat.le_of_ble_eq_true rfl) (Nat.le_of_ble_eq_true rfl)) rfl (Nat.le_of_ble_eq_true rfl) d_So_joinFrame_13 ?_
  refine z_icmp_ge (pc := 16) (tgt := 30) C d_So_joinFrame_16 (by decide) (fun c6 => ?_) (fun c6 => ?_)
  · rw [if_pos c6] at hm
    refine z_aload_n (pc := 30) C d_So_joinFrame_30 rfl 0 rfl ?_
    refine gC_So_19 (pc := 31) C  d_So_joinFrame_31 ?_
    obtain ⟨r8, σ7, e9, hm⟩ := bi_s hm
    refine z_callIN (pc := 34) C (k_Ki_makeOpen hAD e9) km_Ki_makeOpen mC_205 rfl rfl oC_3 rfl (kR_of (Nat.le_of_ble_eq_true rfl) (Nat.le_of_ble_eq_true rfl)) rfl (Nat.le_of_ble_eq_true rfl) d_So_joinFrame_34 ?_
    refine z_istore (pc := 37) (lv' := [(0, .ref (ad 8)), (1, .ref (ad x1)), (2, .int x2), (3, .int x3), (4, .int x4), (5, .int r8)]) C d_So_joinFrame_37 (Nat.le_of_ble_eq_true rfl) [1, 2, 3, 4, 5, 0] rfl ?_
    refine z_aload_n (pc := 39) C d_So_joinFrame_39 rfl 0 rfl ?_
    refine z_aload_n (pc := 40) C d_So_joinFrame_40 rfl 0 rfl ?_
    refine gC_So_40 (pc := 41) C  d_So_joinFrame_41 ?_
    refine z_iload_n (pc := 44) C d_So_joinFrame_44 rfl 2 rfl ?_
    refine alC_53 (pc := 45) (v := (ga σ7 53 x2.toNatClampNeg)) C  rfl g1 d_So_joinFrame_45 ?_
    refine z_aload_n (pc := 46) C d_So_joinFrame_46 rfl 0 rfl ?_
    refine gC_So_19 (pc := 47) C  d_So_joinFrame_47 ?_
    refine z_iload_n (pc := 50) C d_So_joinFrame_50 rfl 3 rfl ?_
    refine z_iload (pc := 51) C d_So_joinFrame_51 5 rfl ?_
    obtain ⟨r11, σ10, e12, hm⟩ := bi_s hm
    refine z_callIN (pc := 53) C (k_Ki_makeArrow hAD e12) km_Ki_makeArrow mC_208 rfl rfl oC_3 rfl (kR_of (Nat.le_of_ble_eq_true rfl) (Nat.le_of_ble_eq_true rfl)) rfl (Nat.le_of_ble_eq_true rfl) d_So_joinFrame_53 ?_
    refine z_iload (pc := 56) C d_So_joinFrame_56 4 rfl ?_
    obtain ⟨σ13, e14, hm⟩ := bv_s hm
    refine z_callV (pc := 58) C (k_So_equate hAD e14) km_So_equate mC_214 rfl rfl oC_8 rfl (kR_of (Nat.le_of_ble_eq_true rfl) (Nat.le_of_ble_eq_true rfl)) rfl (Nat.le_of_ble_eq_true rfl) d_So_joinFrame_58 ?_
    refine z_aload_n (pc := 61) C d_So_joinFrame_61 rfl 0 rfl ?_
    refine gC_So_40 (pc := 62) C  d_So_joinFrame_62 ?_
    refine z_iload_n (pc := 65) C d_So_joinFrame_65 rfl 2 rfl ?_
    refine z_iload (pc := 66) C d_So_joinFrame_66 5 rfl ?_
    refine asC_53 (pc := 68) C  g1 d_So_joinFrame_68 ?_
    refine z_lv (lv' := [(0, .ref (ad 8)), (2, .int x2)]) [0, 2] rfl ?_
    exact w_So_joinFrame_69 hAD C hr (sa σ13 53 x2.toNatClampNeg r8) x2 hm
  · rw [if_neg c6] at hm
    refine z_aload_n (pc := 19) C d_So_joinFrame_19 rfl 0 rfl ?_
    refine z_iload_n (pc := 20) C d_So_joinFrame_20 rfl 3 rfl ?_
    refine z_iconst (pc := 21) C d_So_joinFrame_21 ki_0 ?_
    refine z_iload (pc := 22) C d_So_joinFrame_22 4 rfl ?_
    obtain ⟨σ15, e16, hm⟩ := bv_s hm
    refine z_callV (pc := 24) C (k_So_equate hAD e16) km_So_equate mC_214 rfl rfl oC_8 rfl (kR_of (Nat.le_of_ble_eq_true rfl) (Nat.le_of_ble_eq_true rfl)) rfl (Nat.le_of_ble_eq_true rfl) d_So_joinFrame_24 ?_
    refine z_goto (pc := 27) (tgt := 69) C d_So_joinFrame_27 (by decide) ?_
    refine z_lv (lv' := [(0, .ref (ad 8)), (2, .int x2)]) [0, 2] rfl ?_
    exact w_So_joinFrame_69 hAD C hr σ15 x2 hm
set_option maxHeartbeats 4000000 in
set_option maxRecDepth 100000 in
theorem w_So_closeFrames_111 {D : va_G} {ad : Nat → Nat} {cA : Nat → ClassId} {p : Program} {l : Launch} {e : Env} {s : State} {m : MethodId} {args : Array Value} {below : List Frame} {meth : Method} {c : Code} {F : Nat} (hAD : ∀ σ, va_D (owC ad) (wdC ad cA σ)) (C : CC D ad cA (sXC ad) p s m args meth c bc_So_closeFrames "KindRounds$Solver" 4) (hr : meth.sig.returnType = none) {σ' : zS} (σ : zS) (hm : So_closeFrames_111 F σ = some σ') : ZC D ad cA p l e (rmK 2) s m args below meth c 4 (qvC D ad cA below args s σ') 111 [] [] σ := by
  unfold So_closeFrames_111 at hm
  exact z_vretE (pc := 111) C hr hm d_So_closeFrames_111
set_option maxHeartbeats 4000000 in
set_option maxRecDepth 100000 in
theorem w_So_closeFrames_105 {D : va_G} {ad : Nat → Nat} {cA : Nat → ClassId} {p : Program} {l : Launch} {e : Env} {s : State} {m : MethodId} {args : Array Value} {below : List Frame} {meth : Method} {c : Code} {F : Nat} (hAD : ∀ σ, va_D (owC ad) (wdC ad cA σ)) (C : CC D ad cA (sXC ad) p s m args meth c bc_So_closeFrames "KindRounds$Solver" 4) (hr : meth.sig.returnType = none) {σ' : zS} (rc2 : zS → Nat → Int32 → Option zS) (h2 : ∀ σ x1 x2, rc2 σ x1 x2 = some σ' → ZC D ad cA p l e (rmK 2) s m args below meth c 4 (qvC D ad cA below args s σ') 2 [(0, .ref (ad 8)), (1, .ref (ad x1)), (2, .int x2)] [] σ) (σ : zS) (x1 : Nat) (x2 : Int32) (hm : So_closeFrames_105 F rc2 σ x1 x2 = some σ') : ZC D ad cA p l e (rmK 2) s m args below meth c 4 (qvC D ad cA below args s σ') 105 [(0, .ref (ad 8)), (1, .ref (ad x1)), (2, .int x2)] [] σ := by
  unfold So_closeFrames_105 at hm
  refine z_iinc (pc := 105) (lv' := [(0, .ref (ad 8)), (1, .ref (ad x1)), (2, .int (x2 + (1 : Int32)))]) C d_So_closeFrames_105 2 rfl (ii ki_1) (Nat.le_of_ble_eq_true rfl) [1, 2, 0] rfl ?_
  refine z_goto (pc := 108) (tgt := 2) C d_So_closeFrames_108 (by decide) ?_
  exact h2 σ x1 (x2 + (1 : Int32)) hm
set_option maxHeartbeats 4000000 in
set_option maxRecDepth 100000 in
theorem w_So_closeFrames_2 {D : va_G} {ad : Nat → Nat} {cA : Nat → ClassId} {p : Program} {l : Launch} {e : Env} {s : State} {m : MethodId} {args : Array Value} {below : List Frame} {meth : Method} {c : Code} {F : Nat} (hAD : ∀ σ, va_D (owC ad) (wdC ad cA σ)) (C : CC D ad cA (sXC ad) p s m args meth c bc_So_closeFrames "KindRounds$Solver" 4) (hr : meth.sig.returnType = none) {σ' : zS} : ∀ (n : Nat) (σ : zS) (x1 : Nat) (x2 : Int32), So_closeFrames_2 F n σ x1 x2 = some σ' → ZC D ad cA p l e (rmK 2) s m args below meth c 4 (qvC D ad cA below args s σ') 2 [(0, .ref (ad 8)), (1, .ref (ad x1)), (2, .int x2)] [] σ := by
  intro n
  induction n with
  | zero => intro σ x1 x2 hm; cases hm
  | succ n h2 =>
    intro σ x1 x2 hm
    have hm : So_closeFrames_b2 F (So_closeFrames_2 F n) σ x1 x2 = some σ' := hm
    unfold So_closeFrames_b2 at hm
    refine z_iload_n (pc := 2) C d_So_closeFrames_2 rfl 2 rfl ?_
    refine z_sipush (pc := 3) C d_So_closeFrames_3 ks_200 ?_
    refine z_icmp_ge (pc := 6) (tgt := 111) C d_So_closeFrames_6 (by decide) (fun c1 => ?_) (fun c1 => ?_)
    · rw [if_pos c1] at hm
      refine z_lv (lv' := []) [] rfl ?_
      exact w_So_closeFrames_111 hAD C hr σ hm
    · rw [if_neg c1] at hm
      refine z_aload_n (pc := 9) C d_So_closeFrames_9 rfl 0 rfl ?_
      refine gC_So_190 (pc := 10) (v := (gi σ 811)) C rfl d_So_closeFrames_10 ?_
      refine z_if_le (pc := 13) (tgt := 111) C d_So_closeFrames_13 (by decide) (fun c2 => ?_) (fun c2 => ?_)
      · rw [if_pos c2] at hm
        refine z_lv (lv' := []) [] rfl ?_
        exact w_So_closeFrames_111 hAD C hr σ hm
      · rw [if_neg c2] at hm
        refine z_aload_n (pc := 16) C d_So_closeFrames_16 rfl 0 rfl ?_
        refine gC_So_37 (pc := 17) C  d_So_closeFrames_17 ?_
        refine z_aload_n (pc := 20) C d_So_closeFrames_20 rfl 0 rfl ?_
        refine gC_So_190 (pc := 21) (v := (gi σ 811)) C rfl d_So_closeFrames_21 ?_
        refine z_iconst (pc := 24) C d_So_closeFrames_24 ki_1 ?_
        refine z_isub (pc := 25) C d_So_closeFrames_25 ?_
        obtain ⟨g3, hm⟩ := gd_s hm
        refine alC_52 (pc := 26) (v := (ga σ 52 ((gi σ 811) - (1 : Int32)).toNatClampNeg)) C  rfl g3 d_So_closeFrames_26 ?_
        refine z_istore_n (pc := 27) (lv' := [(0, .ref (ad 8)), (1, .ref (ad x1)), (2, .int x2), (3, .int (ga σ 52 ((gi σ 811) - (1 : Int32)).toNatClampNeg))]) C d_So_closeFrames_27 rfl (Nat.le_of_ble_eq_true rfl) [1, 2, 3, 0] rfl ?_
        refine z_aload_n (pc := 28) C d_So_closeFrames_28 rfl 0 rfl ?_
        refine gC_So_43 (pc := 29) C  d_So_closeFrames_29 ?_
        refine z_aload_n (pc := 32) C d_So_closeFrames_32 rfl 0 rfl ?_
        refine gC_So_190 (pc := 33) (v := (gi σ 811)) C rfl d_So_closeFrames_33 ?_
        refine z_iconst (pc := 36) C d_So_closeFrames_36 ki_1 ?_
        refine z_isub (pc := 37) C d_So_closeFrames_37 ?_
        refine alC_54 (pc := 38) (v := (ga σ 54 ((gi σ 811) - (1 : Int32)).toNatClampNeg)) C  rfl g3 d_So_closeFrames_38 ?_
        refine z_aload_n (pc := 39) C d_So_closeFrames_39 rfl 1 rfl ?_
        obtain ⟨g4, hm⟩ := gd_s hm
        refine gC_So_204 (pc := 40) C g4  d_So_closeFrames_40 ?_
        refine z_iload_n (pc := 43) C d_So_closeFrames_43 rfl 3 rfl ?_
        obtain ⟨g5, hm⟩ := gd_s hm
        refine alC_Ro_2 (pc := 44) (v := (ma σ (rA x1 2) (ga σ 52 ((gi σ 811) - (1 : Int32)).toNatClampNeg).toNatClampNeg)) C (x := x1) g4 rfl g5 d_So_closeFrames_44 ?_
        refine z_icmp_ge (pc := 45) (tgt := 49) C d_So_closeFrames_45 (by decide) (fun c6 => ?_) (fun c6 => ?_)
        · rw [if_pos c6] at hm
          refine z_aload_n (pc := 49) C d_So_closeFrames_49 rfl 0 rfl ?_
          refine z_dup (pc := 50) C d_So_closeFrames_50 rfl ?_
          refine gC_So_190 (pc := 51) (v := (gi σ 811)) C rfl d_So_closeFrames_51 ?_
          refine z_iconst (pc := 54) C d_So_closeFrames_54 ki_1 ?_
          refine z_isub (pc := 55) C d_So_closeFrames_55 ?_
          refine pC_So_190 (pc := 56) C  d_So_closeFrames_56 ?_
          refine z_aload_n (pc := 59) C d_So_closeFrames_59 rfl 0 rfl ?_
          refine gC_So_190 (pc := 60) (v := ((gi σ 811) - (1 : Int32))) C rfl d_So_closeFrames_60 ?_
          refine z_if_ne (pc := 63) (tgt := 79) C d_So_closeFrames_63 (by decide) (fun c7 => ?_) (fun c7 => ?_)
          · rw [if_neg c7] at hm
            refine z_aload_n (pc := 79) C d_So_closeFrames_79 rfl 0 rfl ?_
            refine z_aload_n (pc := 80) C d_So_closeFrames_80 rfl 1 rfl ?_
            refine z_aload_n (pc := 81) C d_So_closeFrames_81 rfl 0 rfl ?_
            refine gC_So_190 (pc := 82) (v := ((gi σ 811) - (1 : Int32))) C rfl d_So_closeFrames_82 ?_
            refine z_iconst (pc := 85) C d_So_closeFrames_85 ki_1 ?_
            refine z_isub (pc := 86) C d_So_closeFrames_86 ?_
            refine z_aload_n (pc := 87) C d_So_closeFrames_87 rfl 0 rfl ?_
            refine gC_So_40 (pc := 88) C  d_So_closeFrames_88 ?_
            refine z_aload_n (pc := 91) C d_So_closeFrames_91 rfl 0 rfl ?_
            refine gC_So_190 (pc := 92) (v := ((gi σ 811) - (1 : Int32))) C rfl d_So_closeFrames_92 ?_
            refine alC_53 (pc := 95) (v := (ga σ 53 ((gi σ 811) - (1 : Int32)).toNatClampNeg)) C  rfl g3 d_So_closeFrames_95 ?_
            refine z_aload_n (pc := 96) C d_So_closeFrames_96 rfl 1 rfl ?_
            refine gC_So_183 (pc := 97) C g4  d_So_closeFrames_97 ?_
            refine z_iload_n (pc := 100) C d_So_closeFrames_100 rfl 3 rfl ?_
            refine alC_Ro_3 (pc := 101) (v := (ma σ (rA x1 3) (ga σ 52 ((gi σ 811) - (1 : Int32)).toNatClampNeg).toNatClampNeg)) C (x := x1) g4 rfl g5 d_So_closeFrames_101 ?_
            obtain ⟨σ8, e9, hm⟩ := bv_s hm
            refine z_callV (pc := 102) C (k_So_joinFrame hAD e9) km_So_joinFrame mC_235 rfl rfl oC_8 rfl (kR_of (Nat.le_of_ble_eq_true rfl) (Nat.le_of_ble_eq_true rfl)) rfl (Nat.le_of_ble_eq_true rfl) d_So_closeFrames_102 ?_
            refine z_lv (lv' := [(0, .ref (ad 8)), (1, .ref (ad x1)), (2, .int x2)]) [0, 1, 2] rfl ?_
            exact w_So_closeFrames_105 hAD C hr _ h2 σ8 x1 x2 hm
          · rw [if_pos c7] at hm
            refine z_aload_n (pc := 66) C d_So_closeFrames_66 rfl 0 rfl ?_
            refine z_aload_n (pc := 67) C d_So_closeFrames_67 rfl 0 rfl ?_
            refine gC_So_40 (pc := 68) C  d_So_closeFrames_68 ?_
            refine z_iconst (pc := 71) C d_So_closeFrames_71 ki_0 ?_
            obtain ⟨g10, hm⟩ := gd_s hm
            refine alC_53 (pc := 72) (v := (ga σ 53 (0 : Int32).toNatClampNeg)) C  rfl g10 d_So_closeFrames_72 ?_
            refine pC_So_180 (pc := 73) C  d_So_closeFrames_73 ?_
            refine z_goto (pc := 76) (tgt := 105) C d_So_closeFrames_76 (by decide) ?_
            refine z_lv (lv' := [(0, .ref (ad 8)), (1, .ref (ad x1)), (2, .int x2)]) [0, 1, 2] rfl ?_
            exact w_So_closeFrames_105 hAD C hr _ h2 (si (si σ 811 ((gi σ 811) - (1 : Int32))) 815 (ga σ 53 (0 : Int32).toNatClampNeg)) x1 x2 hm
        · rw [if_neg c6] at hm
          exact z_vretE (pc := 48) C hr hm d_So_closeFrames_48
set_option maxHeartbeats 4000000 in
set_option maxRecDepth 100000 in
theorem k_So_closeFrames {l : Launch} {D : va_G} {ad : Nat → Nat} {cA : Nat → ClassId} {F : Nat} (hAD : ∀ σ, va_D (owC ad) (wdC ad cA σ)) {σ : zS} {x1 : Nat} {σ' : zS} (hm : So_closeFrames F σ x1 = some σ') : kVC l D ad cA (sXC ad) y_So_closeFrames bc_So_closeFrames 4 2 [.ref (ad 8), .ref (ad x1)] σ σ' := by
  refine kV_of (by decide) hAD sXC_P (Nat.le_of_ble_eq_true rfl) ?_
  intro p e s m below meth c C hr
  unfold So_closeFrames at hm
  refine z_lv (lv' := [(0, .ref (ad 8)), (1, .ref (ad x1))]) [0, 1] rfl ?_
  refine z_iconst (pc := 0) C d_So_closeFrames_0 ki_0 ?_
  refine z_istore_n (pc := 1) (lv' := [(0, .ref (ad 8)), (1, .ref (ad x1)), (2, .int (0 : Int32))]) C d_So_closeFrames_1 rfl (Nat.le_of_ble_eq_true rfl) [1, 2, 0] rfl ?_
  exact w_So_closeFrames_2 hAD C hr F σ x1 (0 : Int32) hm
set_option maxHeartbeats 4000000 in
set_option maxRecDepth 100000 in
theorem w_So_freeKind_82 {D : va_G} {ad : Nat → Nat} {cA : Nat → ClassId} {p : Program} {l : Launch} {e : Env} {s : State} {m : MethodId} {args : Array Value} {below : List Frame} {meth : Method} {c : Code} {F : Nat} (hAD : ∀ σ, va_D (owC ad) (wdC ad cA σ)) (C : CC D ad cA (sXC ad) p s m args meth c bc_So_freeKind "KindRounds$Solver" 4) (hr : meth.sig.returnType = some .int) {r : Int32} {σ' : zS} (σ : zS) (x3 : Int32) (hm : So_freeKind_82 F σ x3 = some (r, σ')) : ZC D ad cA p l e (rmK 1) s m args below meth c 4 (qiC D ad cA below args s r σ') 82 [(3, .int x3)] [] σ := by
  unfold So_freeKind_82 at hm
  refine z_iload_n (pc := 82) C d_So_freeKind_82 rfl 0 rfl ?_
  exact z_iretE (pc := 83) C hr hm d_So_freeKind_83
set_option maxHeartbeats 4000000 in
set_option maxRecDepth 100000 in
theorem w_So_freeKind_2 {D : va_G} {ad : Nat → Nat} {cA : Nat → ClassId} {p : Program} {l : Launch} {e : Env} {s : State} {m : MethodId} {args : Array Value} {below : List Frame} {meth : Method} {c : Code} {F : Nat} (hAD : ∀ σ, va_D (owC ad) (wdC ad cA σ)) (C : CC D ad cA (sXC ad) p s m args meth c bc_So_freeKind "KindRounds$Solver" 4) (hr : meth.sig.returnType = some .int) {r : Int32} {σ' : zS} : ∀ (n : Nat) (σ : zS) (x1 : Int64) (x3 : Int32), So_freeKind_2 F n σ x1 x3 = some (r, σ') → ZC D ad cA p l e (rmK 1) s m args below meth c 4 (qiC D ad cA below args s r σ') 2 [(0, .ref (ad 8)), (1, .long x1), (3, .int x3)] [] σ := by
  intro n
  induction n with
  | zero => intro σ x1 x3 hm; cases hm
  | succ n h2 =>
    intro σ x1 x3 hm
    have hm : So_freeKind_b2 F (So_freeKind_2 F n) σ x1 x3 = some (r, σ') := hm
    unfold So_freeKind_b2 at hm
    refine z_iload_n (pc := 2) C d_So_freeKind_2 rfl 2 rfl ?_
    refine z_aload_n (pc := 3) C d_So_freeKind_3 rfl 0 rfl ?_
    refine gC_So_187 (pc := 4) (v := (gi σ 814)) C rfl d_So_freeKind_4 ?_
    refine z_icmp_ge (pc := 7) (tgt := 34) C d_So_freeKind_7 (by decide) (fun c1 => ?_) (fun c1 => ?_)
    · rw [if_pos c1] at hm
      refine z_aload_n (pc := 34) C d_So_freeKind_34 rfl 0 rfl ?_
      refine gC_So_19 (pc := 35) C  d_So_freeKind_35 ?_
      obtain ⟨r3, σ2, e4, hm⟩ := bi_s hm
      refine z_callIN (pc := 38) C (k_Ki_makeOpen hAD e4) km_Ki_makeOpen mC_205 rfl rfl oC_3 rfl (kR_of (Nat.le_of_ble_eq_true rfl) (Nat.le_of_ble_eq_true rfl)) rfl (Nat.le_of_ble_eq_true rfl) d_So_freeKind_38 ?_
      refine z_istore_n (pc := 41) (lv' := [(0, .ref (ad 8)), (1, .long x1), (3, .int r3)]) C d_So_freeKind_41 rfl (Nat.le_of_ble_eq_true rfl) [1, 2, 0] rfl ?_
      refine z_aload_n (pc := 42) C d_So_freeKind_42 rfl 0 rfl ?_
      refine gC_So_187 (pc := 43) (v := (gi σ2 814)) C rfl d_So_freeKind_43 ?_
      refine z_sipush (pc := 46) C d_So_freeKind_46 ks_200 ?_
      refine z_icmp_ge (pc := 49) (tgt := 82) C d_So_freeKind_49 (by decide) (fun c5 => ?_) (fun c5 => ?_)
      · rw [if_pos c5] at hm
        refine z_lv (lv' := [(3, .int r3)]) [2] rfl ?_
        exact w_So_freeKind_82 hAD C hr σ2 r3 hm
      · rw [if_neg c5] at hm
        refine z_aload_n (pc := 52) C d_So_freeKind_52 rfl 0 rfl ?_
        refine gC_So_46 (pc := 53) C  d_So_freeKind_53 ?_
        refine z_aload_n (pc := 56) C d_So_freeKind_56 rfl 0 rfl ?_
        refine gC_So_187 (pc := 57) (v := (gi σ2 814)) C rfl d_So_freeKind_57 ?_
        refine z_lload_n (pc := 60) C d_So_freeKind_60 rfl 1 rfl ?_
        obtain ⟨g6, hm⟩ := gd_s hm
        refine asC_55 (pc := 61) C  g6 d_So_freeKind_61 ?_
        refine z_aload_n (pc := 62) C d_So_freeKind_62 rfl 0 rfl ?_
        refine gC_So_50 (pc := 63) C  d_So_freeKind_63 ?_
        refine z_aload_n (pc := 66) C d_So_freeKind_66 rfl 0 rfl ?_
        refine gC_So_187 (pc := 67) (v := (gi σ2 814)) C rfl d_So_freeKind_67 ?_
        refine z_iload_n (pc := 70) C d_So_freeKind_70 rfl 2 rfl ?_
        refine asC_56 (pc := 71) C  g6 d_So_freeKind_71 ?_
        refine z_aload_n (pc := 72) C d_So_freeKind_72 rfl 0 rfl ?_
        refine z_dup (pc := 73) C d_So_freeKind_73 rfl ?_
        refine gC_So_187 (pc := 74) (v := (gi σ2 814)) C rfl d_So_freeKind_74 ?_
        refine z_iconst (pc := 77) C d_So_freeKind_77 ki_1 ?_
        refine z_iadd (pc := 78) C d_So_freeKind_78 ?_
        refine pC_So_187 (pc := 79) C  d_So_freeKind_79 ?_
        refine z_lv (lv' := [(3, .int r3)]) [2] rfl ?_
        exact w_So_freeKind_82 hAD C hr (si (sa (sb σ2 55 (gi σ2 814).toNatClampNeg x1) 56 (gi σ2 814).toNatClampNeg r3) 814 ((gi σ2 814) + (1 : Int32))) r3 hm
    · rw [if_neg c1] at hm
      refine z_aload_n (pc := 10) C d_So_freeKind_10 rfl 0 rfl ?_
      refine gC_So_46 (pc := 11) C  d_So_freeKind_11 ?_
      refine z_iload_n (pc := 14) C d_So_freeKind_14 rfl 2 rfl ?_
      obtain ⟨g7, hm⟩ := gd_s hm
      refine alC_55 (pc := 15) (v := (gb σ 55 x3.toNatClampNeg)) C  rfl g7 d_So_freeKind_15 ?_
      refine z_lload_n (pc := 16) C d_So_freeKind_16 rfl 1 rfl ?_
      refine z_lcmp (pc := 17) C d_So_freeKind_17 ?_
      refine z_if_ne (pc := 18) (tgt := 28) C d_So_freeKind_18 (by decide) (fun c8 => ?_) (fun c8 => ?_)
      · rw [if_neg c8] at hm
        refine z_iinc (pc := 28) (lv' := [(0, .ref (ad 8)), (1, .long x1), (3, .int (x3 + (1 : Int32)))]) C d_So_freeKind_28 2 rfl (ii ki_1) (Nat.le_of_ble_eq_true rfl) [1, 2, 0] rfl ?_
        refine z_goto (pc := 31) (tgt := 2) C d_So_freeKind_31 (by decide) ?_
        exact h2 σ x1 (x3 + (1 : Int32)) hm
      · rw [if_pos c8] at hm
        refine z_aload_n (pc := 21) C d_So_freeKind_21 rfl 0 rfl ?_
        refine gC_So_50 (pc := 22) C  d_So_freeKind_22 ?_
        refine z_iload_n (pc := 25) C d_So_freeKind_25 rfl 2 rfl ?_
        refine alC_56 (pc := 26) (v := (ga σ 56 x3.toNatClampNeg)) C  rfl g7 d_So_freeKind_26 ?_
        exact z_iretE (pc := 27) C hr hm d_So_freeKind_27
set_option maxHeartbeats 4000000 in
set_option maxRecDepth 100000 in
theorem k_So_freeKind {l : Launch} {D : va_G} {ad : Nat → Nat} {cA : Nat → ClassId} {F : Nat} (hAD : ∀ σ, va_D (owC ad) (wdC ad cA σ)) {σ : zS} {x1 : Int64} {r : Int32} {σ' : zS} (hm : So_freeKind F σ x1 = some (r, σ')) : kIC l D ad cA (sXC ad) y_So_freeKind bc_So_freeKind 4 .int 1 [.ref (ad 8), .long x1] σ r σ' := by
  refine kI_of (by decide) hAD sXC_P (Nat.le_of_ble_eq_true rfl) ?_
  intro p e s m below meth c C hr
  unfold So_freeKind at hm
  refine z_lv (lv' := [(0, .ref (ad 8)), (1, .long x1)]) [0, 1] rfl ?_
  refine z_iconst (pc := 0) C d_So_freeKind_0 ki_0 ?_
  refine z_istore_n (pc := 1) (lv' := [(0, .ref (ad 8)), (1, .long x1), (3, .int (0 : Int32))]) C d_So_freeKind_1 rfl (Nat.le_of_ble_eq_true rfl) [1, 2, 0] rfl ?_
  exact w_So_freeKind_2 hAD C hr F σ x1 (0 : Int32) hm
set_option maxHeartbeats 4000000 in
set_option maxRecDepth 100000 in
theorem w_So_startKind_116 {D : va_G} {ad : Nat → Nat} {cA : Nat → ClassId} {p : Program} {l : Launch} {e : Env} {s : State} {m : MethodId} {args : Array Value} {below : List Frame} {meth : Method} {c : Code} {F : Nat} (hAD : ∀ σ, va_D (owC ad) (wdC ad cA σ)) (C : CC D ad cA (sXC ad) p s m args meth c bc_So_startKind "KindRounds$Solver" 7) (hr : meth.sig.returnType = some .int) {r : Int32} {σ' : zS} (σ : zS) (s0 : Int32) (hm : So_startKind_116 F σ s0 = some (r, σ')) : ZC D ad cA p l e (rmK 2) s m args below meth c 7 (qiC D ad cA below args s r σ') 116 [] [.int s0] σ := by
  unfold So_startKind_116 at hm
  exact z_iretE (pc := 116) C hr hm d_So_startKind_116
set_option maxHeartbeats 4000000 in
set_option maxRecDepth 100000 in
theorem w_So_startKind_86 {D : va_G} {ad : Nat → Nat} {cA : Nat → ClassId} {p : Program} {l : Launch} {e : Env} {s : State} {m : MethodId} {args : Array Value} {below : List Frame} {meth : Method} {c : Code} {F : Nat} (hAD : ∀ σ, va_D (owC ad) (wdC ad cA σ)) (C : CC D ad cA (sXC ad) p s m args meth c bc_So_startKind "KindRounds$Solver" 7) (hr : meth.sig.returnType = some .int) {r : Int32} {σ' : zS} (σ : zS) (x3 : Int32) (x4 : Int64) (s0 : Int32) (hm : So_startKind_86 F σ x3 x4 s0 = some (r, σ')) : ZC D ad cA p l e (rmK 2) s m args below meth c 7 (qiC D ad cA below args s r σ') 86 [(0, .ref (ad 8)), (3, .int x3), (4, .long x4)] [.int s0] σ := by
  unfold So_startKind_86 at hm
  refine z_istore (pc := 86) (lv' := [(0, .ref (ad 8)), (3, .int x3), (4, .long x4), (6, .int s0)]) C d_So_startKind_86 (Nat.le_of_ble_eq_true rfl) [1, 2, 3, 0] rfl ?_
  refine z_iload (pc := 88) C d_So_startKind_88 3 rfl ?_
  refine z_if_ge (pc := 90) (tgt := 102) C d_So_startKind_90 (by decide) (fun c1 => ?_) (fun c1 => ?_)
  · rw [if_pos c1] at hm
    refine z_aload_n (pc := 102) C d_So_startKind_102 rfl 0 rfl ?_
    refine gC_So_9 (pc := 103) C  d_So_startKind_103 ?_
    refine gC_So_114 (pc := 106) C  d_So_startKind_106 ?_
    refine z_iload_n (pc := 109) C d_So_startKind_109 rfl 1 rfl ?_
    refine z_iconst (pc := 110) C d_So_startKind_110 ki_3 ?_
    refine z_imul (pc := 111) C d_So_startKind_111 ?_
    refine z_iload (pc := 112) C d_So_startKind_112 3 rfl ?_
    refine z_iadd (pc := 114) C d_So_startKind_114 ?_
    obtain ⟨g2, hm⟩ := gd_s hm
    refine alC_41 (pc := 115) (v := (ga σ 41 ((x3 * (3 : Int32)) + s0).toNatClampNeg)) C  rfl g2 d_So_startKind_115 ?_
    refine z_lv (lv' := []) [] rfl ?_
    exact w_So_startKind_116 hAD C hr σ (ga σ 41 ((x3 * (3 : Int32)) + s0).toNatClampNeg) hm
  · rw [if_neg c1] at hm
    refine z_aload_n (pc := 93) C d_So_startKind_93 rfl 0 rfl ?_
    refine z_lload (pc := 94) C d_So_startKind_94 2 rfl ?_
    obtain ⟨r4, σ3, e5, hm⟩ := bi_s hm
    refine z_callI (pc := 96) C (k_So_freeKind hAD e5) km_So_freeKind mC_237 rfl rfl oC_8 rfl (kR_of (Nat.le_of_ble_eq_true rfl) (Nat.le_of_ble_eq_true rfl)) rfl (Nat.le_of_ble_eq_true rfl) d_So_startKind_96 ?_
    refine z_goto (pc := 99) (tgt := 116) C d_So_startKind_99 (by decide) ?_
    refine z_lv (lv' := []) [] rfl ?_
    exact w_So_startKind_116 hAD C hr σ3 r4 hm
set_option maxHeartbeats 4000000 in
set_option maxRecDepth 100000 in
theorem w_So_startKind_48 {D : va_G} {ad : Nat → Nat} {cA : Nat → ClassId} {p : Program} {l : Launch} {e : Env} {s : State} {m : MethodId} {args : Array Value} {below : List Frame} {meth : Method} {c : Code} {F : Nat} (hAD : ∀ σ, va_D (owC ad) (wdC ad cA σ)) (C : CC D ad cA (sXC ad) p s m args meth c bc_So_startKind "KindRounds$Solver" 7) (hr : meth.sig.returnType = some .int) {r : Int32} {σ' : zS} (σ : zS) (s0 : Int32) (hm : So_startKind_48 F σ s0 = some (r, σ')) : ZC D ad cA p l e (rmK 2) s m args below meth c 7 (qiC D ad cA below args s r σ') 48 [] [.int s0] σ := by
  unfold So_startKind_48 at hm
  exact z_iretE (pc := 48) C hr hm d_So_startKind_48
set_option maxHeartbeats 4000000 in
set_option maxRecDepth 100000 in
theorem k_So_startKind {l : Launch} {D : va_G} {ad : Nat → Nat} {cA : Nat → ClassId} {F : Nat} (hAD : ∀ σ, va_D (owC ad) (wdC ad cA σ)) {σ : zS} {x1 : Nat} {x2 : Int32} {x3 : Int32} {r : Int32} {σ' : zS} (hm : So_startKind F σ x1 x2 x3 = some (r, σ')) : kIC l D ad cA (sXC ad) y_So_startKind bc_So_startKind 7 .int 2 [.ref (ad 8), .ref (ad x1), .int x2, .int x3] σ r σ' := by
  refine kI_of (by decide) hAD sXC_P (Nat.le_of_ble_eq_true rfl) ?_
  intro p e s m below meth c C hr
  unfold So_startKind at hm
  refine z_lv (lv' := [(0, .ref (ad 8)), (1, .ref (ad x1)), (2, .int x2), (3, .int x3)]) [0, 1, 2, 3] rfl ?_
  refine z_aload_n (pc := 0) C d_So_startKind_0 rfl 1 rfl ?_
  obtain ⟨g1, hm⟩ := gd_s hm
  refine gC_So_214 (pc := 1) C g1  d_So_startKind_1 ?_
  refine z_iload_n (pc := 4) C d_So_startKind_4 rfl 2 rfl ?_
  obtain ⟨g2, hm⟩ := gd_s hm
  refine alC_Ro_1 (pc := 5) (v := (mb σ (rA x1 1) x2.toNatClampNeg)) C (x := x1) g1 rfl g2 d_So_startKind_5 ?_
  refine z_lstore (pc := 6) (lv' := [(0, .ref (ad 8)), (1, .ref (ad x1)), (2, .int x2), (3, .int x3), (4, .long (mb σ (rA x1 1) x2.toNatClampNeg))]) C d_So_startKind_6 (Nat.le_of_ble_eq_true rfl) [1, 2, 3, 4, 0] rfl ?_
  refine z_aload_n (pc := 8) C d_So_startKind_8 rfl 1 rfl ?_
  refine gC_So_215 (pc := 9) C g1  d_So_startKind_9 ?_
  refine z_iload_n (pc := 12) C d_So_startKind_12 rfl 2 rfl ?_
  refine alC_Ro_0 (pc := 13) (v := (ma σ (rA x1 0) x2.toNatClampNeg)) C (x := x1) g1 rfl g2 d_So_startKind_13 ?_
  refine z_iconst (pc := 14) C d_So_startKind_14 ki_2 ?_
  refine z_icmp_ne (pc := 15) (tgt := 49) C d_So_startKind_15 (by decide) (fun c3 => ?_) (fun c3 => ?_)
  · rw [if_neg c3] at hm
    refine z_aload_n (pc := 49) C d_So_startKind_49 rfl 1 rfl ?_
    refine gC_So_215 (pc := 50) C g1  d_So_startKind_50 ?_
    refine z_iload_n (pc := 53) C d_So_startKind_53 rfl 2 rfl ?_
    refine alC_Ro_0 (pc := 54) (v := (ma σ (rA x1 0) x2.toNatClampNeg)) C (x := x1) g1 rfl g2 d_So_startKind_54 ?_
    refine z_iconst (pc := 55) C d_So_startKind_55 ki_3 ?_
    refine z_icmp_eq (pc := 56) (tgt := 61) C d_So_startKind_56 (by decide) (fun c4 => ?_) (fun c4 => ?_)
    · rw [if_pos c4] at hm
      refine z_aload_n (pc := 61) C d_So_startKind_61 rfl 0 rfl ?_
      refine gC_So_9 (pc := 62) C  d_So_startKind_62 ?_
      refine z_iload_n (pc := 65) C d_So_startKind_65 rfl 3 rfl ?_
      obtain ⟨r6, σ5, e7, hm⟩ := bi_s hm
      refine z_callIN (pc := 66) C (k_Te_has hAD e7) km_Te_has mC_221 rfl rfl oC_4 rfl (kR_of (Nat.le_of_ble_eq_true rfl) (Nat.le_of_ble_eq_true rfl)) rfl (Nat.le_of_ble_eq_true rfl) d_So_startKind_66 ?_
      refine z_if_eq (pc := 69) (tgt := 85) C d_So_startKind_69 (by decide) (fun c8 => ?_) (fun c8 => ?_)
      · rw [if_pos c8] at hm
        refine z_iconst (pc := 85) C d_So_startKind_85 ki_m1 ?_
        refine z_lv (lv' := [(0, .ref (ad 8)), (3, .int x3), (4, .long (mb σ (rA x1 1) x2.toNatClampNeg))]) [0, 3, 4] rfl ?_
        exact w_So_startKind_86 hAD C hr σ5 x3 (mb σ (rA x1 1) x2.toNatClampNeg) (-1 : Int32) hm
      · rw [if_neg c8] at hm
        refine z_aload_n (pc := 72) C d_So_startKind_72 rfl 0 rfl ?_
        refine gC_So_9 (pc := 73) C  d_So_startKind_73 ?_
        refine z_iload_n (pc := 76) C d_So_startKind_76 rfl 3 rfl ?_
        refine z_lload (pc := 77) C d_So_startKind_77 4 rfl ?_
        obtain ⟨r10, σ9, e11, hm⟩ := bi_s hm
        refine z_callIN (pc := 79) C (k_Te_findParam hAD e11) km_Te_findParam mC_240 rfl rfl oC_4 rfl (kR_of (Nat.le_of_ble_eq_true rfl) (Nat.le_of_ble_eq_true rfl)) rfl (Nat.le_of_ble_eq_true rfl) d_So_startKind_79 ?_
        refine z_goto (pc := 82) (tgt := 86) C d_So_startKind_82 (by decide) ?_
        refine z_lv (lv' := [(0, .ref (ad 8)), (3, .int x3), (4, .long (mb σ (rA x1 1) x2.toNatClampNeg))]) [0, 3, 4] rfl ?_
        exact w_So_startKind_86 hAD C hr σ9 x3 (mb σ (rA x1 1) x2.toNatClampNeg) r10 hm
    · rw [if_neg c4] at hm
      refine z_iconst (pc := 59) C d_So_startKind_59 ki_0 ?_
      exact z_iretE (pc := 60) C hr hm d_So_startKind_60
  · rw [if_pos c3] at hm
    refine z_aload_n (pc := 18) C d_So_startKind_18 rfl 0 rfl ?_
    refine gC_So_9 (pc := 19) C  d_So_startKind_19 ?_
    refine z_lload (pc := 22) C d_So_startKind_22 4 rfl ?_
    obtain ⟨r13, σ12, e14, hm⟩ := bi_s hm
    refine z_callIN (pc := 24) C (k_Te_findType hAD e14) km_Te_findType mC_241 rfl rfl oC_4 rfl (kR_of (Nat.le_of_ble_eq_true rfl) (Nat.le_of_ble_eq_true rfl)) rfl (Nat.le_of_ble_eq_true rfl) d_So_startKind_24 ?_
    refine z_istore (pc := 27) (lv' := [(0, .ref (ad 8)), (1, .ref (ad x1)), (2, .int x2), (3, .int x3), (4, .long (mb σ (rA x1 1) x2.toNatClampNeg)), (6, .int r13)]) C d_So_startKind_27 (Nat.le_of_ble_eq_true rfl) [1, 2, 3, 4, 5, 0] rfl ?_
    refine z_iload (pc := 29) C d_So_startKind_29 5 rfl ?_
    refine z_if_ge (pc := 31) (tgt := 38) C d_So_startKind_31 (by decide) (fun c15 => ?_) (fun c15 => ?_)
    · rw [if_pos c15] at hm
      refine z_aload_n (pc := 38) C d_So_startKind_38 rfl 0 rfl ?_
      refine gC_So_9 (pc := 39) C  d_So_startKind_39 ?_
      refine gC_So_127 (pc := 42) C  d_So_startKind_42 ?_
      refine z_iload (pc := 45) C d_So_startKind_45 5 rfl ?_
      obtain ⟨g16, hm⟩ := gd_s hm
      refine alC_40 (pc := 47) (v := (ga σ12 40 r13.toNatClampNeg)) C  rfl g16 d_So_startKind_47 ?_
      refine z_lv (lv' := []) [] rfl ?_
      exact w_So_startKind_48 hAD C hr σ12 (ga σ12 40 r13.toNatClampNeg) hm
    · rw [if_neg c15] at hm
      refine z_iconst (pc := 34) C d_So_startKind_34 ki_0 ?_
      refine z_goto (pc := 35) (tgt := 48) C d_So_startKind_35 (by decide) ?_
      refine z_lv (lv' := []) [] rfl ?_
      exact w_So_startKind_48 hAD C hr σ12 (0 : Int32) hm
set_option maxHeartbeats 4000000 in
set_option maxRecDepth 100000 in
theorem w_So_listTerm_108 {D : va_G} {ad : Nat → Nat} {cA : Nat → ClassId} {p : Program} {l : Launch} {e : Env} {s : State} {m : MethodId} {args : Array Value} {below : List Frame} {meth : Method} {c : Code} {F : Nat} (hAD : ∀ σ, va_D (owC ad) (wdC ad cA σ)) (C : CC D ad cA (sXC ad) p s m args meth c bc_So_listTerm "KindRounds$Solver" 6) (hr : meth.sig.returnType = none) {σ' : zS} (σ : zS) (hm : So_listTerm_108 F σ = some σ') : ZC D ad cA p l e (rmK 3) s m args below meth c 6 (qvC D ad cA below args s σ') 108 [] [] σ := by
  unfold So_listTerm_108 at hm
  exact z_vretE (pc := 108) C hr hm d_So_listTerm_108
set_option maxHeartbeats 4000000 in
set_option maxRecDepth 100000 in
theorem w_So_listTerm_32 {D : va_G} {ad : Nat → Nat} {cA : Nat → ClassId} {p : Program} {l : Launch} {e : Env} {s : State} {m : MethodId} {args : Array Value} {below : List Frame} {meth : Method} {c : Code} {F : Nat} (hAD : ∀ σ, va_D (owC ad) (wdC ad cA σ)) (C : CC D ad cA (sXC ad) p s m args meth c bc_So_listTerm "KindRounds$Solver" 6) (hr : meth.sig.returnType = none) {σ' : zS} : ∀ (n : Nat) (σ : zS) (x1 : Nat) (x3 : Int32) (x4 : Int32) (x5 : Int32), So_listTerm_32 F n σ x1 x3 x4 x5 = some σ' → ZC D ad cA p l e (rmK 3) s m args below meth c 6 (qvC D ad cA below args s σ') 32 [(0, .ref (ad 8)), (1, .ref (ad x1)), (3, .int x3), (4, .int x4), (5, .int x5)] [] σ := by
  intro n
  induction n with
  | zero => intro σ x1 x3 x4 x5 hm; cases hm
  | succ n h32 =>
    intro σ x1 x3 x4 x5 hm
    have hm : So_listTerm_b32 F (So_listTerm_32 F n) σ x1 x3 x4 x5 = some σ' := hm
    unfold So_listTerm_b32 at hm
    refine z_iload (pc := 32) C d_So_listTerm_32 4 rfl ?_
    refine z_iload (pc := 34) C d_So_listTerm_34 3 rfl ?_
    refine z_icmp_ge (pc := 36) (tgt := 108) C d_So_listTerm_36 (by decide) (fun c1 => ?_) (fun c1 => ?_)
    · rw [if_pos c1] at hm
      refine z_lv (lv' := []) [] rfl ?_
      exact w_So_listTerm_108 hAD C hr σ hm
    · rw [if_neg c1] at hm
      refine z_aload_n (pc := 39) C d_So_listTerm_39 rfl 0 rfl ?_
      refine gC_So_190 (pc := 40) (v := (gi σ 811)) C rfl d_So_listTerm_40 ?_
      refine z_sipush (pc := 43) C d_So_listTerm_43 ks_200 ?_
      refine z_icmp_ge (pc := 46) (tgt := 108) C d_So_listTerm_46 (by decide) (fun c2 => ?_) (fun c2 => ?_)
      · rw [if_pos c2] at hm
        refine z_lv (lv' := []) [] rfl ?_
        exact w_So_listTerm_108 hAD C hr σ hm
      · rw [if_neg c2] at hm
        refine z_aload_n (pc := 49) C d_So_listTerm_49 rfl 0 rfl ?_
        refine gC_So_37 (pc := 50) C  d_So_listTerm_50 ?_
        refine z_aload_n (pc := 53) C d_So_listTerm_53 rfl 0 rfl ?_
        refine gC_So_190 (pc := 54) (v := (gi σ 811)) C rfl d_So_listTerm_54 ?_
        refine z_iload (pc := 57) C d_So_listTerm_57 4 rfl ?_
        obtain ⟨g3, hm⟩ := gd_s hm
        refine asC_52 (pc := 59) C  g3 d_So_listTerm_59 ?_
        refine z_aload_n (pc := 60) C d_So_listTerm_60 rfl 0 rfl ?_
        refine gC_So_40 (pc := 61) C  d_So_listTerm_61 ?_
        refine z_aload_n (pc := 64) C d_So_listTerm_64 rfl 0 rfl ?_
        refine gC_So_190 (pc := 65) (v := (gi σ 811)) C rfl d_So_listTerm_65 ?_
        refine z_aload_n (pc := 68) C d_So_listTerm_68 rfl 0 rfl ?_
        refine z_aload_n (pc := 69) C d_So_listTerm_69 rfl 1 rfl ?_
        refine z_iload (pc := 70) C d_So_listTerm_70 4 rfl ?_
        refine z_iload_n (pc := 72) C d_So_listTerm_72 rfl 2 rfl ?_
        obtain ⟨r5, σ4, e6, hm⟩ := bi_s hm
        refine z_callI (pc := 73) C (k_So_startKind hAD e6) km_So_startKind mC_229 rfl rfl oC_8 rfl (kR_of (Nat.le_of_ble_eq_true rfl) (Nat.le_of_ble_eq_true rfl)) rfl (Nat.le_of_ble_eq_true rfl) d_So_listTerm_73 ?_
        refine asC_53 (pc := 76) C  g3 d_So_listTerm_76 ?_
        refine z_aload_n (pc := 77) C d_So_listTerm_77 rfl 0 rfl ?_
        refine gC_So_43 (pc := 78) C  d_So_listTerm_78 ?_
        refine z_aload_n (pc := 81) C d_So_listTerm_81 rfl 0 rfl ?_
        refine gC_So_190 (pc := 82) (v := (gi σ4 811)) C rfl d_So_listTerm_82 ?_
        refine z_iconst (pc := 85) C d_So_listTerm_85 ki_0 ?_
        obtain ⟨g7, hm⟩ := gd_s hm
        refine asC_54 (pc := 86) C  g7 d_So_listTerm_86 ?_
        refine z_aload_n (pc := 87) C d_So_listTerm_87 rfl 0 rfl ?_
        refine z_dup (pc := 88) C d_So_listTerm_88 rfl ?_
        refine gC_So_190 (pc := 89) (v := (gi σ4 811)) C rfl d_So_listTerm_89 ?_
        refine z_iconst (pc := 92) C d_So_listTerm_92 ki_1 ?_
        refine z_iadd (pc := 93) C d_So_listTerm_93 ?_
        refine pC_So_190 (pc := 94) C  d_So_listTerm_94 ?_
        refine z_aload_n (pc := 97) C d_So_listTerm_97 rfl 0 rfl ?_
        refine z_aload_n (pc := 98) C d_So_listTerm_98 rfl 1 rfl ?_
        obtain ⟨σ8, e9, hm⟩ := bv_s hm
        refine z_callV (pc := 99) C (k_So_closeFrames hAD e9) km_So_closeFrames mC_231 rfl rfl oC_8 rfl (kR_of (Nat.le_of_ble_eq_true rfl) (Nat.le_of_ble_eq_true rfl)) rfl (Nat.le_of_ble_eq_true rfl) d_So_listTerm_99 ?_
        refine z_iinc (pc := 102) (lv' := [(0, .ref (ad 8)), (1, .ref (ad x1)), (3, .int x3), (4, .int x4), (5, .int (x5 + (1 : Int32)))]) C d_So_listTerm_102 4 rfl (ii ki_1) (Nat.le_of_ble_eq_true rfl) [1, 2, 3, 4, 0] rfl ?_
        refine z_goto (pc := 105) (tgt := 32) C d_So_listTerm_105 (by decide) ?_
        exact h32 σ8 x1 x3 x4 (x5 + (1 : Int32)) hm
set_option maxHeartbeats 4000000 in
set_option maxRecDepth 100000 in
theorem k_So_listTerm {l : Launch} {D : va_G} {ad : Nat → Nat} {cA : Nat → ClassId} {F : Nat} (hAD : ∀ σ, va_D (owC ad) (wdC ad cA σ)) {σ : zS} {x1 : Nat} {x2 : Int32} {σ' : zS} (hm : So_listTerm F σ x1 x2 = some σ') : kVC l D ad cA (sXC ad) y_So_listTerm bc_So_listTerm 6 3 [.ref (ad 8), .ref (ad x1), .int x2] σ σ' := by
  refine kV_of (by decide) hAD sXC_P (Nat.le_of_ble_eq_true rfl) ?_
  intro p e s m below meth c C hr
  unfold So_listTerm at hm
  refine z_lv (lv' := [(0, .ref (ad 8)), (1, .ref (ad x1)), (2, .int x2)]) [0, 1, 2] rfl ?_
  refine z_aload_n (pc := 0) C d_So_listTerm_0 rfl 0 rfl ?_
  refine z_iconst (pc := 1) C d_So_listTerm_1 ki_0 ?_
  refine pC_So_187 (pc := 2) C  d_So_listTerm_2 ?_
  refine z_aload_n (pc := 5) C d_So_listTerm_5 rfl 0 rfl ?_
  refine z_iconst (pc := 6) C d_So_listTerm_6 ki_0 ?_
  refine pC_So_190 (pc := 7) C  d_So_listTerm_7 ?_
  refine z_aload_n (pc := 10) C d_So_listTerm_10 rfl 1 rfl ?_
  obtain ⟨g1, hm⟩ := gd_s hm
  refine gC_So_174 (pc := 11) C g1  d_So_listTerm_11 ?_
  refine z_iload_n (pc := 14) C d_So_listTerm_14 rfl 2 rfl ?_
  obtain ⟨g2, hm⟩ := gd_s hm
  refine alC_Ro_5 (pc := 15) (v := (ma σ (rA x1 5) x2.toNatClampNeg)) C (x := x1) g1 rfl g2 d_So_listTerm_15 ?_
  refine z_istore_n (pc := 16) (lv' := [(0, .ref (ad 8)), (1, .ref (ad x1)), (2, .int x2), (3, .int (ma σ (rA x1 5) x2.toNatClampNeg))]) C d_So_listTerm_16 rfl (Nat.le_of_ble_eq_true rfl) [1, 2, 3, 0] rfl ?_
  refine z_aload_n (pc := 17) C d_So_listTerm_17 rfl 1 rfl ?_
  refine z_iload_n (pc := 18) C d_So_listTerm_18 rfl 2 rfl ?_
  obtain ⟨r4, σ3, e5, hm⟩ := bi_s hm
  refine z_callIN (pc := 19) C (k_Ro_termEnd hAD e5) km_Ro_termEnd mC_233 rfl rfl (oC_Ro g1) rfl (kR_of (Nat.le_of_ble_eq_true rfl) (Nat.le_of_ble_eq_true rfl)) rfl (Nat.le_of_ble_eq_true rfl) d_So_listTerm_19 ?_
  refine z_istore (pc := 22) (lv' := [(0, .ref (ad 8)), (1, .ref (ad x1)), (2, .int x2), (3, .int (ma σ (rA x1 5) x2.toNatClampNeg)), (4, .int r4)]) C d_So_listTerm_22 (Nat.le_of_ble_eq_true rfl) [1, 2, 3, 4, 0] rfl ?_
  refine z_aload_n (pc := 24) C d_So_listTerm_24 rfl 1 rfl ?_
  refine gC_So_184 (pc := 25) C g1  d_So_listTerm_25 ?_
  refine z_iload_n (pc := 28) C d_So_listTerm_28 rfl 2 rfl ?_
  refine alC_Ro_4 (pc := 29) (v := (ma σ3 (rA x1 4) x2.toNatClampNeg)) C (x := x1) g1 rfl g2 d_So_listTerm_29 ?_
  refine z_istore (pc := 30) (lv' := [(0, .ref (ad 8)), (1, .ref (ad x1)), (2, .int x2), (3, .int (ma σ (rA x1 5) x2.toNatClampNeg)), (4, .int r4), (5, .int (ma σ3 (rA x1 4) x2.toNatClampNeg))]) C d_So_listTerm_30 (Nat.le_of_ble_eq_true rfl) [1, 2, 3, 4, 5, 0] rfl ?_
  refine z_lv (lv' := [(0, .ref (ad 8)), (1, .ref (ad x1)), (3, .int (ma σ (rA x1 5) x2.toNatClampNeg)), (4, .int r4), (5, .int (ma σ3 (rA x1 4) x2.toNatClampNeg))]) [0, 1, 3, 4, 5] rfl ?_
  exact w_So_listTerm_32 hAD C hr F σ3 x1 (ma σ (rA x1 5) x2.toNatClampNeg) r4 (ma σ3 (rA x1 4) x2.toNatClampNeg) hm
set_option maxHeartbeats 4000000 in
set_option maxRecDepth 100000 in
theorem w_So_listMembers_82 {D : va_G} {ad : Nat → Nat} {cA : Nat → ClassId} {p : Program} {l : Launch} {e : Env} {s : State} {m : MethodId} {args : Array Value} {below : List Frame} {meth : Method} {c : Code} {F : Nat} (hAD : ∀ σ, va_D (owC ad) (wdC ad cA σ)) (C : CC D ad cA (sXC ad) p s m args meth c bc_So_listMembers "KindRounds$Solver" 5) (hr : meth.sig.returnType = none) {σ' : zS} (rc10 : zS → Int32 → Nat → Int32 → Option zS) (h10 : ∀ σ x1 x2 x3, rc10 σ x1 x2 x3 = some σ' → ZC D ad cA p l e (rmK 4) s m args below meth c 5 (qvC D ad cA below args s σ') 10 [(0, .ref (ad 8)), (1, .int x1), (2, .ref (ad x2)), (3, .int x3)] [] σ) (σ : zS) (x1 : Int32) (x2 : Nat) (x3 : Int32) (hm : So_listMembers_82 F rc10 σ x1 x2 x3 = some σ') : ZC D ad cA p l e (rmK 4) s m args below meth c 5 (qvC D ad cA below args s σ') 82 [(0, .ref (ad 8)), (1, .int x1), (2, .ref (ad x2)), (3, .int x3)] [] σ := by
  unfold So_listMembers_82 at hm
  refine z_iinc (pc := 82) (lv' := [(0, .ref (ad 8)), (1, .int x1), (2, .ref (ad x2)), (3, .int (x3 + (1 : Int32)))]) C d_So_listMembers_82 3 rfl (ii ki_1) (Nat.le_of_ble_eq_true rfl) [1, 2, 3, 0] rfl ?_
  refine z_goto (pc := 85) (tgt := 10) C d_So_listMembers_85 (by decide) ?_
  exact h10 σ x1 x2 (x3 + (1 : Int32)) hm
set_option maxHeartbeats 4000000 in
set_option maxRecDepth 100000 in
theorem w_So_listMembers_10 {D : va_G} {ad : Nat → Nat} {cA : Nat → ClassId} {p : Program} {l : Launch} {e : Env} {s : State} {m : MethodId} {args : Array Value} {below : List Frame} {meth : Method} {c : Code} {F : Nat} (hAD : ∀ σ, va_D (owC ad) (wdC ad cA σ)) (C : CC D ad cA (sXC ad) p s m args meth c bc_So_listMembers "KindRounds$Solver" 5) (hr : meth.sig.returnType = none) {σ' : zS} : ∀ (n : Nat) (σ : zS) (x1 : Int32) (x2 : Nat) (x3 : Int32), So_listMembers_10 F n σ x1 x2 x3 = some σ' → ZC D ad cA p l e (rmK 4) s m args below meth c 5 (qvC D ad cA below args s σ') 10 [(0, .ref (ad 8)), (1, .int x1), (2, .ref (ad x2)), (3, .int x3)] [] σ := by
  intro n
  induction n with
  | zero => intro σ x1 x2 x3 hm; cases hm
  | succ n h10 =>
    intro σ x1 x2 x3 hm
    have hm : So_listMembers_b10 F (So_listMembers_10 F n) σ x1 x2 x3 = some σ' := hm
    unfold So_listMembers_b10 at hm
    refine z_iload_n (pc := 10) C d_So_listMembers_10 rfl 3 rfl ?_
    refine z_aload_n (pc := 11) C d_So_listMembers_11 rfl 2 rfl ?_
    obtain ⟨g1, hm⟩ := gd_s hm
    refine gC_So_169 (pc := 12) (v := (mi σ (100 * x2 + 7))) C g1 rfl d_So_listMembers_12 ?_
    refine z_icmp_ge (pc := 15) (tgt := 88) C d_So_listMembers_15 (by decide) (fun c2 => ?_) (fun c2 => ?_)
    · rw [if_pos c2] at hm
      exact z_vretE (pc := 88) C hr hm d_So_listMembers_88
    · rw [if_neg c2] at hm
      refine z_aload_n (pc := 18) C d_So_listMembers_18 rfl 2 rfl ?_
      refine gC_So_174 (pc := 19) C g1  d_So_listMembers_19 ?_
      refine z_iload_n (pc := 22) C d_So_listMembers_22 rfl 3 rfl ?_
      obtain ⟨g3, hm⟩ := gd_s hm
      refine alC_Ro_5 (pc := 23) (v := (ma σ (rA x2 5) x3.toNatClampNeg)) C (x := x2) g1 rfl g3 d_So_listMembers_23 ?_
      refine z_istore (pc := 24) (lv' := [(0, .ref (ad 8)), (1, .int x1), (2, .ref (ad x2)), (3, .int x3), (4, .int (ma σ (rA x2 5) x3.toNatClampNeg))]) C d_So_listMembers_24 (Nat.le_of_ble_eq_true rfl) [1, 2, 3, 4, 0] rfl ?_
      refine z_aload_n (pc := 26) C d_So_listMembers_26 rfl 0 rfl ?_
      refine gC_So_9 (pc := 27) C  d_So_listMembers_27 ?_
      refine z_iload (pc := 30) C d_So_listMembers_30 4 rfl ?_
      obtain ⟨r5, σ4, e6, hm⟩ := bi_s hm
      refine z_callIN (pc := 32) C (k_Te_has hAD e6) km_Te_has mC_221 rfl rfl oC_4 rfl (kR_of (Nat.le_of_ble_eq_true rfl) (Nat.le_of_ble_eq_true rfl)) rfl (Nat.le_of_ble_eq_true rfl) d_So_listMembers_32 ?_
      refine z_if_eq (pc := 35) (tgt := 82) C d_So_listMembers_35 (by decide) (fun c7 => ?_) (fun c7 => ?_)
      · rw [if_pos c7] at hm
        refine z_lv (lv' := [(0, .ref (ad 8)), (1, .int x1), (2, .ref (ad x2)), (3, .int x3)]) [0, 1, 2, 3] rfl ?_
        exact w_So_listMembers_82 hAD C hr _ h10 σ4 x1 x2 x3 hm
      · rw [if_neg c7] at hm
        refine z_iload_n (pc := 38) C d_So_listMembers_38 rfl 1 rfl ?_
        refine z_iload (pc := 39) C d_So_listMembers_39 4 rfl ?_
        refine z_ishr (pc := 41) C d_So_listMembers_41 ?_
        refine z_iconst (pc := 42) C d_So_listMembers_42 ki_1 ?_
        refine z_iand (pc := 43) C d_So_listMembers_43 ?_
        refine z_if_eq (pc := 44) (tgt := 82) C d_So_listMembers_44 (by decide) (fun c8 => ?_) (fun c8 => ?_)
        · rw [if_pos c8] at hm
          refine z_lv (lv' := [(0, .ref (ad 8)), (1, .int x1), (2, .ref (ad x2)), (3, .int x3)]) [0, 1, 2, 3] rfl ?_
          exact w_So_listMembers_82 hAD C hr _ h10 σ4 x1 x2 x3 hm
        · rw [if_neg c8] at hm
          refine z_aload_n (pc := 47) C d_So_listMembers_47 rfl 0 rfl ?_
          refine z_aload_n (pc := 48) C d_So_listMembers_48 rfl 2 rfl ?_
          refine z_iload_n (pc := 49) C d_So_listMembers_49 rfl 3 rfl ?_
          obtain ⟨σ9, e10, hm⟩ := bv_s hm
          refine z_callV (pc := 50) C (k_So_listTerm hAD e10) km_So_listTerm mC_193 rfl rfl oC_8 rfl (kR_of (Nat.le_of_ble_eq_true rfl) (Nat.le_of_ble_eq_true rfl)) rfl (Nat.le_of_ble_eq_true rfl) d_So_listMembers_50 ?_
          refine z_aload_n (pc := 53) C d_So_listMembers_53 rfl 0 rfl ?_
          refine z_aload_n (pc := 54) C d_So_listMembers_54 rfl 0 rfl ?_
          refine gC_So_180 (pc := 55) (v := (gi σ9 815)) C rfl d_So_listMembers_55 ?_
          refine z_aload_n (pc := 58) C d_So_listMembers_58 rfl 0 rfl ?_
          refine gC_So_9 (pc := 59) C  d_So_listMembers_59 ?_
          refine gC_So_121 (pc := 62) C  d_So_listMembers_62 ?_
          refine z_iload (pc := 65) C d_So_listMembers_65 4 rfl ?_
          obtain ⟨g11, hm⟩ := gd_s hm
          refine alC_42 (pc := 67) (v := (ga σ9 42 (ma σ (rA x2 5) x3.toNatClampNeg).toNatClampNeg)) C  rfl g11 d_So_listMembers_67 ?_
          refine z_aload_n (pc := 68) C d_So_listMembers_68 rfl 2 rfl ?_
          refine gC_So_183 (pc := 69) C g1  d_So_listMembers_69 ?_
          refine z_aload_n (pc := 72) C d_So_listMembers_72 rfl 2 rfl ?_
          refine gC_So_184 (pc := 73) C g1  d_So_listMembers_73 ?_
          refine z_iload_n (pc := 76) C d_So_listMembers_76 rfl 3 rfl ?_
          refine alC_Ro_4 (pc := 77) (v := (ma σ9 (rA x2 4) x3.toNatClampNeg)) C (x := x2) g1 rfl g3 d_So_listMembers_77 ?_
          obtain ⟨g12, hm⟩ := gd_s hm
          refine alC_Ro_3 (pc := 78) (v := (ma σ9 (rA x2 3) (ma σ9 (rA x2 4) x3.toNatClampNeg).toNatClampNeg)) C (x := x2) g1 rfl g12 d_So_listMembers_78 ?_
          obtain ⟨σ13, e14, hm⟩ := bv_s hm
          refine z_callV (pc := 79) C (k_So_equate hAD e14) km_So_equate mC_214 rfl rfl oC_8 rfl (kR_of (Nat.le_of_ble_eq_true rfl) (Nat.le_of_ble_eq_true rfl)) rfl (Nat.le_of_ble_eq_true rfl) d_So_listMembers_79 ?_
          refine z_lv (lv' := [(0, .ref (ad 8)), (1, .int x1), (2, .ref (ad x2)), (3, .int x3)]) [0, 1, 2, 3] rfl ?_
          exact w_So_listMembers_82 hAD C hr _ h10 σ13 x1 x2 x3 hm
set_option maxHeartbeats 4000000 in
set_option maxRecDepth 100000 in
theorem k_So_listMembers {l : Launch} {D : va_G} {ad : Nat → Nat} {cA : Nat → ClassId} {F : Nat} (hAD : ∀ σ, va_D (owC ad) (wdC ad cA σ)) {σ : zS} {x1 : Int32} {σ' : zS} (hm : So_listMembers F σ x1 = some σ') : kVC l D ad cA (sXC ad) y_So_listMembers bc_So_listMembers 5 4 [.ref (ad 8), .int x1] σ σ' := by
  refine kV_of (by decide) hAD sXC_P (Nat.le_of_ble_eq_true rfl) ?_
  intro p e s m below meth c C hr
  unfold So_listMembers at hm
  refine z_lv (lv' := [(0, .ref (ad 8)), (1, .int x1)]) [0, 1] rfl ?_
  refine z_aload_n (pc := 0) C d_So_listMembers_0 rfl 0 rfl ?_
  refine gC_So_9 (pc := 1) C  d_So_listMembers_1 ?_
  refine gC_So_165 (pc := 4) C  d_So_listMembers_4 ?_
  refine z_astore_n (pc := 7) (lv' := [(0, .ref (ad 8)), (1, .int x1), (2, .ref (ad 10))]) C d_So_listMembers_7 rfl (Nat.le_of_ble_eq_true rfl) [1, 2, 0] rfl ?_
  refine z_iconst (pc := 8) C d_So_listMembers_8 ki_0 ?_
  refine z_istore_n (pc := 9) (lv' := [(0, .ref (ad 8)), (1, .int x1), (2, .ref (ad 10)), (3, .int (0 : Int32))]) C d_So_listMembers_9 rfl (Nat.le_of_ble_eq_true rfl) [1, 2, 3, 0] rfl ?_
  exact w_So_listMembers_10 hAD C hr F σ x1 10 (0 : Int32) hm
set_option maxHeartbeats 4000000 in
set_option maxRecDepth 100000 in
theorem w_So_listTold_90 {D : va_G} {ad : Nat → Nat} {cA : Nat → ClassId} {p : Program} {l : Launch} {e : Env} {s : State} {m : MethodId} {args : Array Value} {below : List Frame} {meth : Method} {c : Code} {F : Nat} (hAD : ∀ σ, va_D (owC ad) (wdC ad cA σ)) (C : CC D ad cA (sXC ad) p s m args meth c bc_So_listTold "KindRounds$Solver" 4) (hr : meth.sig.returnType = none) {σ' : zS} (rc2 : zS → Int32 → Int32 → Option zS) (h2 : ∀ σ x1 x2, rc2 σ x1 x2 = some σ' → ZC D ad cA p l e (rmK 1) s m args below meth c 4 (qvC D ad cA below args s σ') 2 [(0, .ref (ad 8)), (1, .int x1), (2, .int x2)] [] σ) (σ : zS) (x1 : Int32) (x2 : Int32) (hm : So_listTold_90 F rc2 σ x1 x2 = some σ') : ZC D ad cA p l e (rmK 1) s m args below meth c 4 (qvC D ad cA below args s σ') 90 [(0, .ref (ad 8)), (1, .int x1), (2, .int x2)] [] σ := by
  unfold So_listTold_90 at hm
  refine z_iinc (pc := 90) (lv' := [(0, .ref (ad 8)), (1, .int x1), (2, .int (x2 + (1 : Int32)))]) C d_So_listTold_90 2 rfl (ii ki_1) (Nat.le_of_ble_eq_true rfl) [1, 2, 0] rfl ?_
  refine z_goto (pc := 93) (tgt := 2) C d_So_listTold_93 (by decide) ?_
  exact h2 σ x1 (x2 + (1 : Int32)) hm
set_option maxHeartbeats 4000000 in
set_option maxRecDepth 100000 in
theorem w_So_listTold_46 {D : va_G} {ad : Nat → Nat} {cA : Nat → ClassId} {p : Program} {l : Launch} {e : Env} {s : State} {m : MethodId} {args : Array Value} {below : List Frame} {meth : Method} {c : Code} {F : Nat} (hAD : ∀ σ, va_D (owC ad) (wdC ad cA σ)) (C : CC D ad cA (sXC ad) p s m args meth c bc_So_listTold "KindRounds$Solver" 4) (hr : meth.sig.returnType = none) {σ' : zS} (rc2 : zS → Int32 → Int32 → Option zS) (h2 : ∀ σ x1 x2, rc2 σ x1 x2 = some σ' → ZC D ad cA p l e (rmK 1) s m args below meth c 4 (qvC D ad cA below args s σ') 2 [(0, .ref (ad 8)), (1, .int x1), (2, .int x2)] [] σ) (σ : zS) (x1 : Int32) (x2 : Int32) (s0 : Int32) (hm : So_listTold_46 F rc2 σ x1 x2 s0 = some σ') : ZC D ad cA p l e (rmK 1) s m args below meth c 4 (qvC D ad cA below args s σ') 46 [(0, .ref (ad 8)), (1, .int x1), (2, .int x2)] [.int s0] σ := by
  unfold So_listTold_46 at hm
  refine z_istore_n (pc := 46) (lv' := [(0, .ref (ad 8)), (1, .int x1), (2, .int x2), (3, .int s0)]) C d_So_listTold_46 rfl (Nat.le_of_ble_eq_true rfl) [1, 2, 3, 0] rfl ?_
  refine z_iload_n (pc := 47) C d_So_listTold_47 rfl 3 rfl ?_
  refine z_if_lt (pc := 48) (tgt := 90) C d_So_listTold_48 (by decide) (fun c1 => ?_) (fun c1 => ?_)
  · rw [if_pos c1] at hm
    refine z_lv (lv' := [(0, .ref (ad 8)), (1, .int x1), (2, .int x2)]) [0, 1, 2] rfl ?_
    exact w_So_listTold_90 hAD C hr _ h2 σ x1 x2 hm
  · rw [if_neg c1] at hm
    refine z_iload_n (pc := 51) C d_So_listTold_51 rfl 1 rfl ?_
    refine z_iload_n (pc := 52) C d_So_listTold_52 rfl 3 rfl ?_
    refine z_ishr (pc := 53) C d_So_listTold_53 ?_
    refine z_iconst (pc := 54) C d_So_listTold_54 ki_1 ?_
    refine z_iand (pc := 55) C d_So_listTold_55 ?_
    refine z_if_eq (pc := 56) (tgt := 90) C d_So_listTold_56 (by decide) (fun c2 => ?_) (fun c2 => ?_)
    · rw [if_pos c2] at hm
      refine z_lv (lv' := [(0, .ref (ad 8)), (1, .int x1), (2, .int x2)]) [0, 1, 2] rfl ?_
      exact w_So_listTold_90 hAD C hr _ h2 σ x1 x2 hm
    · rw [if_neg c2] at hm
      refine z_aload_n (pc := 59) C d_So_listTold_59 rfl 0 rfl ?_
      refine z_aload_n (pc := 60) C d_So_listTold_60 rfl 0 rfl ?_
      refine gC_So_9 (pc := 61) C  d_So_listTold_61 ?_
      refine gC_So_127 (pc := 64) C  d_So_listTold_64 ?_
      refine z_iload_n (pc := 67) C d_So_listTold_67 rfl 3 rfl ?_
      obtain ⟨g3, hm⟩ := gd_s hm
      refine alC_40 (pc := 68) (v := (ga σ 40 s0.toNatClampNeg)) C  rfl g3 d_So_listTold_68 ?_
      refine z_aload_n (pc := 69) C d_So_listTold_69 rfl 0 rfl ?_
      refine gC_So_15 (pc := 70) C  d_So_listTold_70 ?_
      refine gC_So_157 (pc := 73) C  d_So_listTold_73 ?_
      refine z_iload_n (pc := 76) C d_So_listTold_76 rfl 2 rfl ?_
      obtain ⟨g4, hm⟩ := gd_s hm
      refine alC_47 (pc := 77) (v := (ga σ 47 x2.toNatClampNeg)) C  rfl g4 d_So_listTold_77 ?_
      refine z_aload_n (pc := 78) C d_So_listTold_78 rfl 0 rfl ?_
      refine gC_So_15 (pc := 79) C  d_So_listTold_79 ?_
      refine gC_So_160 (pc := 82) C  d_So_listTold_82 ?_
      refine z_iload_n (pc := 85) C d_So_listTold_85 rfl 2 rfl ?_
      refine alC_45 (pc := 86) (v := (ga σ 45 x2.toNatClampNeg)) C  rfl g4 d_So_listTold_86 ?_
      obtain ⟨σ5, e6, hm⟩ := bv_s hm
      refine z_callV (pc := 87) C (k_So_equate hAD e6) km_So_equate mC_214 rfl rfl oC_8 rfl (kR_of (Nat.le_of_ble_eq_true rfl) (Nat.le_of_ble_eq_true rfl)) rfl (Nat.le_of_ble_eq_true rfl) d_So_listTold_87 ?_
      refine z_lv (lv' := [(0, .ref (ad 8)), (1, .int x1), (2, .int x2)]) [0, 1, 2] rfl ?_
      exact w_So_listTold_90 hAD C hr _ h2 σ5 x1 x2 hm
set_option maxHeartbeats 4000000 in
set_option maxRecDepth 100000 in
theorem w_So_listTold_2 {D : va_G} {ad : Nat → Nat} {cA : Nat → ClassId} {p : Program} {l : Launch} {e : Env} {s : State} {m : MethodId} {args : Array Value} {below : List Frame} {meth : Method} {c : Code} {F : Nat} (hAD : ∀ σ, va_D (owC ad) (wdC ad cA σ)) (C : CC D ad cA (sXC ad) p s m args meth c bc_So_listTold "KindRounds$Solver" 4) (hr : meth.sig.returnType = none) {σ' : zS} : ∀ (n : Nat) (σ : zS) (x1 : Int32) (x2 : Int32), So_listTold_2 F n σ x1 x2 = some σ' → ZC D ad cA p l e (rmK 1) s m args below meth c 4 (qvC D ad cA below args s σ') 2 [(0, .ref (ad 8)), (1, .int x1), (2, .int x2)] [] σ := by
  intro n
  induction n with
  | zero => intro σ x1 x2 hm; cases hm
  | succ n h2 =>
    intro σ x1 x2 hm
    have hm : So_listTold_b2 F (So_listTold_2 F n) σ x1 x2 = some σ' := hm
    unfold So_listTold_b2 at hm
    refine z_iload_n (pc := 2) C d_So_listTold_2 rfl 2 rfl ?_
    refine z_aload_n (pc := 3) C d_So_listTold_3 rfl 0 rfl ?_
    refine gC_So_15 (pc := 4) C  d_So_listTold_4 ?_
    refine gC_So_144 (pc := 7) (v := (gi σ 505)) C rfl d_So_listTold_7 ?_
    refine z_icmp_ge (pc := 10) (tgt := 96) C d_So_listTold_10 (by decide) (fun c1 => ?_) (fun c1 => ?_)
    · rw [if_pos c1] at hm
      exact z_vretE (pc := 96) C hr hm d_So_listTold_96
    · rw [if_neg c1] at hm
      refine z_aload_n (pc := 13) C d_So_listTold_13 rfl 0 rfl ?_
      refine gC_So_15 (pc := 14) C  d_So_listTold_14 ?_
      refine gC_So_147 (pc := 17) C  d_So_listTold_17 ?_
      refine z_iload_n (pc := 20) C d_So_listTold_20 rfl 2 rfl ?_
      obtain ⟨g2, hm⟩ := gd_s hm
      refine alC_43 (pc := 21) (v := (ga σ 43 x2.toNatClampNeg)) C  rfl g2 d_So_listTold_21 ?_
      refine z_iconst (pc := 22) C d_So_listTold_22 ki_4 ?_
      refine z_icmp_ne (pc := 23) (tgt := 45) C d_So_listTold_23 (by decide) (fun c3 => ?_) (fun c3 => ?_)
      · rw [if_neg c3] at hm
        refine z_iconst (pc := 45) C d_So_listTold_45 ki_m1 ?_
        exact w_So_listTold_46 hAD C hr _ h2 σ x1 x2 (-1 : Int32) hm
      · rw [if_pos c3] at hm
        refine z_aload_n (pc := 26) C d_So_listTold_26 rfl 0 rfl ?_
        refine gC_So_9 (pc := 27) C  d_So_listTold_27 ?_
        refine z_aload_n (pc := 30) C d_So_listTold_30 rfl 0 rfl ?_
        refine gC_So_15 (pc := 31) C  d_So_listTold_31 ?_
        refine gC_So_150 (pc := 34) C  d_So_listTold_34 ?_
        refine z_iload_n (pc := 37) C d_So_listTold_37 rfl 2 rfl ?_
        refine alC_44 (pc := 38) (v := (gb σ 44 x2.toNatClampNeg)) C  rfl g2 d_So_listTold_38 ?_
        obtain ⟨r5, σ4, e6, hm⟩ := bi_s hm
        refine z_callIN (pc := 39) C (k_Te_findDeclared hAD e6) km_Te_findDeclared mC_218 rfl rfl oC_4 rfl (kR_of (Nat.le_of_ble_eq_true rfl) (Nat.le_of_ble_eq_true rfl)) rfl (Nat.le_of_ble_eq_true rfl) d_So_listTold_39 ?_
        refine z_goto (pc := 42) (tgt := 46) C d_So_listTold_42 (by decide) ?_
        exact w_So_listTold_46 hAD C hr _ h2 σ4 x1 x2 r5 hm
set_option maxHeartbeats 4000000 in
set_option maxRecDepth 100000 in
theorem k_So_listTold {l : Launch} {D : va_G} {ad : Nat → Nat} {cA : Nat → ClassId} {F : Nat} (hAD : ∀ σ, va_D (owC ad) (wdC ad cA σ)) {σ : zS} {x1 : Int32} {σ' : zS} (hm : So_listTold F σ x1 = some σ') : kVC l D ad cA (sXC ad) y_So_listTold bc_So_listTold 4 1 [.ref (ad 8), .int x1] σ σ' := by
  refine kV_of (by decide) hAD sXC_P (Nat.le_of_ble_eq_true rfl) ?_
  intro p e s m below meth c C hr
  unfold So_listTold at hm
  refine z_lv (lv' := [(0, .ref (ad 8)), (1, .int x1)]) [0, 1] rfl ?_
  refine z_iconst (pc := 0) C d_So_listTold_0 ki_0 ?_
  refine z_istore_n (pc := 1) (lv' := [(0, .ref (ad 8)), (1, .int x1), (2, .int (0 : Int32))]) C d_So_listTold_1 rfl (Nat.le_of_ble_eq_true rfl) [1, 2, 0] rfl ?_
  exact w_So_listTold_2 hAD C hr F σ x1 (0 : Int32) hm
set_option maxHeartbeats 4000000 in
set_option maxRecDepth 100000 in
theorem w_So_wholeKind_50 {D : va_G} {ad : Nat → Nat} {cA : Nat → ClassId} {p : Program} {l : Launch} {e : Env} {s : State} {m : MethodId} {args : Array Value} {below : List Frame} {meth : Method} {c : Code} {F : Nat} (hAD : ∀ σ, va_D (owC ad) (wdC ad cA σ)) (C : CC D ad cA (sXC ad) p s m args meth c bc_So_wholeKind "KindRounds$Solver" 5) (hr : meth.sig.returnType = some .int) {r : Int32} {σ' : zS} : ∀ (n : Nat) (σ : zS) (x2 : Int32) (x3 : Int32) (x4 : Int32), So_wholeKind_50 F n σ x2 x3 x4 = some (r, σ') → ZC D ad cA p l e (rmK 1) s m args below meth c 5 (qiC D ad cA below args s r σ') 50 [(0, .ref (ad 8)), (2, .int x2), (3, .int x3), (4, .int x4)] [] σ := by
  intro n
  induction n with
  | zero => intro σ x2 x3 x4 hm; cases hm
  | succ n h50 =>
    intro σ x2 x3 x4 hm
    have hm : So_wholeKind_b50 F (So_wholeKind_50 F n) σ x2 x3 x4 = some (r, σ') := hm
    unfold So_wholeKind_b50 at hm
    refine z_iload (pc := 50) C d_So_wholeKind_50 3 rfl ?_
    refine z_if_lt (pc := 52) (tgt := 82) C d_So_wholeKind_52 (by decide) (fun c1 => ?_) (fun c1 => ?_)
    · rw [if_pos c1] at hm
      refine z_iload_n (pc := 82) C d_So_wholeKind_82 rfl 2 rfl ?_
      exact z_iretE (pc := 83) C hr hm d_So_wholeKind_83
    · rw [if_neg c1] at hm
      refine z_aload_n (pc := 55) C d_So_wholeKind_55 rfl 0 rfl ?_
      refine gC_So_19 (pc := 56) C  d_So_wholeKind_56 ?_
      refine z_aload_n (pc := 59) C d_So_wholeKind_59 rfl 0 rfl ?_
      refine gC_So_9 (pc := 60) C  d_So_wholeKind_60 ?_
      refine gC_So_114 (pc := 63) C  d_So_wholeKind_63 ?_
      refine z_iload_n (pc := 66) C d_So_wholeKind_66 rfl 1 rfl ?_
      refine z_iload (pc := 67) C d_So_wholeKind_67 3 rfl ?_
      refine z_iadd (pc := 69) C d_So_wholeKind_69 ?_
      obtain ⟨g2, hm⟩ := gd_s hm
      refine alC_41 (pc := 70) (v := (ga σ 41 (x2 + x4).toNatClampNeg)) C  rfl g2 d_So_wholeKind_70 ?_
      refine z_iload_n (pc := 71) C d_So_wholeKind_71 rfl 2 rfl ?_
      obtain ⟨r4, σ3, e5, hm⟩ := bi_s hm
      refine z_callIN (pc := 72) C (k_Ki_makeArrow hAD e5) km_Ki_makeArrow mC_208 rfl rfl oC_3 rfl (kR_of (Nat.le_of_ble_eq_true rfl) (Nat.le_of_ble_eq_true rfl)) rfl (Nat.le_of_ble_eq_true rfl) d_So_wholeKind_72 ?_
      refine z_istore_n (pc := 75) (lv' := [(0, .ref (ad 8)), (2, .int x2), (3, .int r4), (4, .int x4)]) C d_So_wholeKind_75 rfl (Nat.le_of_ble_eq_true rfl) [1, 2, 0, 3] rfl ?_
      refine z_iinc (pc := 76) (lv' := [(0, .ref (ad 8)), (2, .int x2), (3, .int r4), (4, .int (x4 + (-1 : Int32)))]) C d_So_wholeKind_76 3 rfl (ii ki_m1) (Nat.le_of_ble_eq_true rfl) [1, 2, 3, 0] rfl ?_
      refine z_goto (pc := 79) (tgt := 50) C d_So_wholeKind_79 (by decide) ?_
      exact h50 σ3 x2 r4 (x4 + (-1 : Int32)) hm
set_option maxHeartbeats 4000000 in
set_option maxRecDepth 100000 in
theorem k_So_wholeKind {l : Launch} {D : va_G} {ad : Nat → Nat} {cA : Nat → ClassId} {F : Nat} (hAD : ∀ σ, va_D (owC ad) (wdC ad cA σ)) {σ : zS} {x1 : Int32} {r : Int32} {σ' : zS} (hm : So_wholeKind F σ x1 = some (r, σ')) : kIC l D ad cA (sXC ad) y_So_wholeKind bc_So_wholeKind 5 .int 1 [.ref (ad 8), .int x1] σ r σ' := by
  refine kI_of (by decide) hAD sXC_P (Nat.le_of_ble_eq_true rfl) ?_
  intro p e s m below meth c C hr
  unfold So_wholeKind at hm
  refine z_lv (lv' := [(0, .ref (ad 8)), (1, .int x1)]) [0, 1] rfl ?_
  refine z_iload_n (pc := 0) C d_So_wholeKind_0 rfl 1 rfl ?_
  refine z_iconst (pc := 1) C d_So_wholeKind_1 ki_3 ?_
  refine z_imul (pc := 2) C d_So_wholeKind_2 ?_
  refine z_istore_n (pc := 3) (lv' := [(0, .ref (ad 8)), (1, .int x1), (2, .int (x1 * (3 : Int32)))]) C d_So_wholeKind_3 rfl (Nat.le_of_ble_eq_true rfl) [1, 2, 0] rfl ?_
  refine z_aload_n (pc := 4) C d_So_wholeKind_4 rfl 0 rfl ?_
  refine gC_So_9 (pc := 5) C  d_So_wholeKind_5 ?_
  refine gC_So_124 (pc := 8) C  d_So_wholeKind_8 ?_
  refine z_iload_n (pc := 11) C d_So_wholeKind_11 rfl 1 rfl ?_
  obtain ⟨g1, hm⟩ := gd_s hm
  refine alC_29 (pc := 12) (v := (ga σ 29 x1.toNatClampNeg)) C  rfl g1 d_So_wholeKind_12 ?_
  refine z_iconst (pc := 13) C d_So_wholeKind_13 ki_2 ?_
  refine z_icmp_ne (pc := 14) (tgt := 27) C d_So_wholeKind_14 (by decide) (fun c2 => ?_) (fun c2 => ?_)
  · rw [if_neg c2] at hm
    refine z_aload_n (pc := 27) C d_So_wholeKind_27 rfl 0 rfl ?_
    refine gC_So_9 (pc := 28) C  d_So_wholeKind_28 ?_
    refine gC_So_121 (pc := 31) C  d_So_wholeKind_31 ?_
    refine z_iload_n (pc := 34) C d_So_wholeKind_34 rfl 1 rfl ?_
    refine alC_42 (pc := 35) (v := (ga σ 42 x1.toNatClampNeg)) C  rfl g1 d_So_wholeKind_35 ?_
    refine z_istore_n (pc := 36) (lv' := [(0, .ref (ad 8)), (1, .int x1), (2, .int (x1 * (3 : Int32))), (3, .int (ga σ 42 x1.toNatClampNeg))]) C d_So_wholeKind_36 rfl (Nat.le_of_ble_eq_true rfl) [1, 2, 3, 0] rfl ?_
    refine z_aload_n (pc := 37) C d_So_wholeKind_37 rfl 0 rfl ?_
    refine gC_So_9 (pc := 38) C  d_So_wholeKind_38 ?_
    refine gC_So_111 (pc := 41) C  d_So_wholeKind_41 ?_
    refine z_iload_n (pc := 44) C d_So_wholeKind_44 rfl 1 rfl ?_
    refine alC_32 (pc := 45) (v := (ga σ 32 x1.toNatClampNeg)) C  rfl g1 d_So_wholeKind_45 ?_
    refine z_iconst (pc := 46) C d_So_wholeKind_46 ki_1 ?_
    refine z_isub (pc := 47) C d_So_wholeKind_47 ?_
    refine z_istore (pc := 48) (lv' := [(0, .ref (ad 8)), (1, .int x1), (2, .int (x1 * (3 : Int32))), (3, .int (ga σ 42 x1.toNatClampNeg)), (4, .int ((ga σ 32 x1.toNatClampNeg) - (1 : Int32)))]) C d_So_wholeKind_48 (Nat.le_of_ble_eq_true rfl) [1, 2, 3, 4, 0] rfl ?_
    refine z_lv (lv' := [(0, .ref (ad 8)), (2, .int (x1 * (3 : Int32))), (3, .int (ga σ 42 x1.toNatClampNeg)), (4, .int ((ga σ 32 x1.toNatClampNeg) - (1 : Int32)))]) [0, 2, 3, 4] rfl ?_
    exact w_So_wholeKind_50 hAD C hr F σ (x1 * (3 : Int32)) (ga σ 42 x1.toNatClampNeg) ((ga σ 32 x1.toNatClampNeg) - (1 : Int32)) hm
  · rw [if_pos c2] at hm
    refine z_aload_n (pc := 17) C d_So_wholeKind_17 rfl 0 rfl ?_
    refine gC_So_9 (pc := 18) C  d_So_wholeKind_18 ?_
    refine gC_So_114 (pc := 21) C  d_So_wholeKind_21 ?_
    refine z_iload_n (pc := 24) C d_So_wholeKind_24 rfl 2 rfl ?_
    obtain ⟨g3, hm⟩ := gd_s hm
    refine alC_41 (pc := 25) (v := (ga σ 41 (x1 * (3 : Int32)).toNatClampNeg)) C  rfl g3 d_So_wholeKind_25 ?_
    exact z_iretE (pc := 26) C hr hm d_So_wholeKind_26
set_option maxHeartbeats 4000000 in
set_option maxRecDepth 100000 in
theorem w_So_makeKinds_112 {D : va_G} {ad : Nat → Nat} {cA : Nat → ClassId} {p : Program} {l : Launch} {e : Env} {s : State} {m : MethodId} {args : Array Value} {below : List Frame} {meth : Method} {c : Code} {F : Nat} (hAD : ∀ σ, va_D (owC ad) (wdC ad cA σ)) (C : CC D ad cA (sXC ad) p s m args meth c bc_So_makeKinds "KindRounds$Solver" 4) (hr : meth.sig.returnType = none) {σ' : zS} (rc2 : zS → Int32 → Int32 → Option zS) (h2 : ∀ σ x1 x2, rc2 σ x1 x2 = some σ' → ZC D ad cA p l e (rmK 2) s m args below meth c 4 (qvC D ad cA below args s σ') 2 [(0, .ref (ad 8)), (1, .int x1), (2, .int x2)] [] σ) (σ : zS) (x1 : Int32) (x2 : Int32) (hm : So_makeKinds_112 F rc2 σ x1 x2 = some σ') : ZC D ad cA p l e (rmK 2) s m args below meth c 4 (qvC D ad cA below args s σ') 112 [(0, .ref (ad 8)), (1, .int x1), (2, .int x2)] [] σ := by
  unfold So_makeKinds_112 at hm
  refine z_iinc (pc := 112) (lv' := [(0, .ref (ad 8)), (1, .int x1), (2, .int (x2 + (1 : Int32)))]) C d_So_makeKinds_112 2 rfl (ii ki_1) (Nat.le_of_ble_eq_true rfl) [1, 2, 0] rfl ?_
  refine z_goto (pc := 115) (tgt := 2) C d_So_makeKinds_115 (by decide) ?_
  exact h2 σ x1 (x2 + (1 : Int32)) hm
set_option maxHeartbeats 4000000 in
set_option maxRecDepth 100000 in
theorem w_So_makeKinds_97 {D : va_G} {ad : Nat → Nat} {cA : Nat → ClassId} {p : Program} {l : Launch} {e : Env} {s : State} {m : MethodId} {args : Array Value} {below : List Frame} {meth : Method} {c : Code} {F : Nat} (hAD : ∀ σ, va_D (owC ad) (wdC ad cA σ)) (C : CC D ad cA (sXC ad) p s m args meth c bc_So_makeKinds "KindRounds$Solver" 4) (hr : meth.sig.returnType = none) {σ' : zS} (rc2 : zS → Int32 → Int32 → Option zS) (h2 : ∀ σ x1 x2, rc2 σ x1 x2 = some σ' → ZC D ad cA p l e (rmK 2) s m args below meth c 4 (qvC D ad cA below args s σ') 2 [(0, .ref (ad 8)), (1, .int x1), (2, .int x2)] [] σ) (σ : zS) (x1 : Int32) (x2 : Int32) (s1 : Int32) (s2 : Int32) (hm : So_makeKinds_97 F rc2 σ x1 x2 s1 s2 = some σ') : ZC D ad cA p l e (rmK 2) s m args below meth c 4 (qvC D ad cA below args s σ') 97 [(0, .ref (ad 8)), (1, .int x1), (2, .int x2)] [.int s2, .int s1, .ref (ad 42)] σ := by
  unfold So_makeKinds_97 at hm
  obtain ⟨g1, hm⟩ := gd_s hm
  refine asC_42 (pc := 97) C  g1 d_So_makeKinds_97 ?_
  refine z_aload_n (pc := 98) C d_So_makeKinds_98 rfl 0 rfl ?_
  refine gC_So_9 (pc := 99) C  d_So_makeKinds_99 ?_
  refine gC_So_127 (pc := 102) C  d_So_makeKinds_102 ?_
  refine z_iload_n (pc := 105) C d_So_makeKinds_105 rfl 2 rfl ?_
  refine z_aload_n (pc := 106) C d_So_makeKinds_106 rfl 0 rfl ?_
  refine z_iload_n (pc := 107) C d_So_makeKinds_107 rfl 2 rfl ?_
  obtain ⟨r3, σ2, e4, hm⟩ := bi_s hm
  refine z_callI (pc := 108) C (k_So_wholeKind hAD e4) km_So_wholeKind mC_201 rfl rfl oC_8 rfl (kR_of (Nat.le_of_ble_eq_true rfl) (Nat.le_of_ble_eq_true rfl)) rfl (Nat.le_of_ble_eq_true rfl) d_So_makeKinds_108 ?_
  obtain ⟨g5, hm⟩ := gd_s hm
  refine asC_40 (pc := 111) C  g5 d_So_makeKinds_111 ?_
  exact w_So_makeKinds_112 hAD C hr _ h2 (sa σ2 40 x2.toNatClampNeg r3) x1 x2 hm
set_option maxHeartbeats 4000000 in
set_option maxRecDepth 100000 in
theorem w_So_makeKinds_26 {D : va_G} {ad : Nat → Nat} {cA : Nat → ClassId} {p : Program} {l : Launch} {e : Env} {s : State} {m : MethodId} {args : Array Value} {below : List Frame} {meth : Method} {c : Code} {F : Nat} (hAD : ∀ σ, va_D (owC ad) (wdC ad cA σ)) (C : CC D ad cA (sXC ad) p s m args meth c bc_So_makeKinds "KindRounds$Solver" 4) (hr : meth.sig.returnType = none) {σ' : zS} (rc2 : zS → Int32 → Int32 → Option zS) (h2 : ∀ σ x1 x2, rc2 σ x1 x2 = some σ' → ZC D ad cA p l e (rmK 2) s m args below meth c 4 (qvC D ad cA below args s σ') 2 [(0, .ref (ad 8)), (1, .int x1), (2, .int x2)] [] σ) : ∀ (n : Nat) (σ : zS) (x1 : Int32) (x2 : Int32) (x3 : Int32), So_makeKinds_26 F rc2 n σ x1 x2 x3 = some σ' → ZC D ad cA p l e (rmK 2) s m args below meth c 4 (qvC D ad cA below args s σ') 26 [(0, .ref (ad 8)), (1, .int x1), (2, .int x2), (3, .int x3)] [] σ := by
  intro n
  induction n with
  | zero => intro σ x1 x2 x3 hm; cases hm
  | succ n h26 =>
    intro σ x1 x2 x3 hm
    have hm : So_makeKinds_b26 F rc2 (So_makeKinds_26 F rc2 n) σ x1 x2 x3 = some σ' := hm
    unfold So_makeKinds_b26 at hm
    refine z_iload_n (pc := 26) C d_So_makeKinds_26 rfl 3 rfl ?_
    refine z_aload_n (pc := 27) C d_So_makeKinds_27 rfl 0 rfl ?_
    refine gC_So_9 (pc := 28) C  d_So_makeKinds_28 ?_
    refine gC_So_111 (pc := 31) C  d_So_makeKinds_31 ?_
    refine z_iload_n (pc := 34) C d_So_makeKinds_34 rfl 2 rfl ?_
    obtain ⟨g1, hm⟩ := gd_s hm
    refine alC_32 (pc := 35) (v := (ga σ 32 x2.toNatClampNeg)) C  rfl g1 d_So_makeKinds_35 ?_
    refine z_icmp_ge (pc := 36) (tgt := 65) C d_So_makeKinds_36 (by decide) (fun c2 => ?_) (fun c2 => ?_)
    · rw [if_pos c2] at hm
      refine z_aload_n (pc := 65) C d_So_makeKinds_65 rfl 0 rfl ?_
      refine gC_So_9 (pc := 66) C  d_So_makeKinds_66 ?_
      refine gC_So_121 (pc := 69) C  d_So_makeKinds_69 ?_
      refine z_iload_n (pc := 72) C d_So_makeKinds_72 rfl 2 rfl ?_
      refine z_aload_n (pc := 73) C d_So_makeKinds_73 rfl 0 rfl ?_
      refine gC_So_9 (pc := 74) C  d_So_makeKinds_74 ?_
      refine gC_So_124 (pc := 77) C  d_So_makeKinds_77 ?_
      refine z_iload_n (pc := 80) C d_So_makeKinds_80 rfl 2 rfl ?_
      refine alC_29 (pc := 81) (v := (ga σ 29 x2.toNatClampNeg)) C  rfl g1 d_So_makeKinds_81 ?_
      refine z_iconst (pc := 82) C d_So_makeKinds_82 ki_1 ?_
      refine z_icmp_ne (pc := 83) (tgt := 96) C d_So_makeKinds_83 (by decide) (fun c3 => ?_) (fun c3 => ?_)
      · rw [if_neg c3] at hm
        refine z_iconst (pc := 96) C d_So_makeKinds_96 ki_0 ?_
        refine z_lv (lv' := [(0, .ref (ad 8)), (1, .int x1), (2, .int x2)]) [0, 1, 2] rfl ?_
        exact w_So_makeKinds_97 hAD C hr _ h2 σ x1 x2 x2 (0 : Int32) hm
      · rw [if_pos c3] at hm
        refine z_aload_n (pc := 86) C d_So_makeKinds_86 rfl 0 rfl ?_
        refine gC_So_19 (pc := 87) C  d_So_makeKinds_87 ?_
        obtain ⟨r5, σ4, e6, hm⟩ := bi_s hm
        refine z_callIN (pc := 90) C (k_Ki_makeOpen hAD e6) km_Ki_makeOpen mC_205 rfl rfl oC_3 rfl (kR_of (Nat.le_of_ble_eq_true rfl) (Nat.le_of_ble_eq_true rfl)) rfl (Nat.le_of_ble_eq_true rfl) d_So_makeKinds_90 ?_
        refine z_goto (pc := 93) (tgt := 97) C d_So_makeKinds_93 (by decide) ?_
        refine z_lv (lv' := [(0, .ref (ad 8)), (1, .int x1), (2, .int x2)]) [0, 1, 2] rfl ?_
        exact w_So_makeKinds_97 hAD C hr _ h2 σ4 x1 x2 x2 r5 hm
    · rw [if_neg c2] at hm
      refine z_aload_n (pc := 39) C d_So_makeKinds_39 rfl 0 rfl ?_
      refine gC_So_9 (pc := 40) C  d_So_makeKinds_40 ?_
      refine gC_So_114 (pc := 43) C  d_So_makeKinds_43 ?_
      refine z_iload_n (pc := 46) C d_So_makeKinds_46 rfl 2 rfl ?_
      refine z_iconst (pc := 47) C d_So_makeKinds_47 ki_3 ?_
      refine z_imul (pc := 48) C d_So_makeKinds_48 ?_
      refine z_iload_n (pc := 49) C d_So_makeKinds_49 rfl 3 rfl ?_
      refine z_iadd (pc := 50) C d_So_makeKinds_50 ?_
      refine z_aload_n (pc := 51) C d_So_makeKinds_51 rfl 0 rfl ?_
      refine gC_So_19 (pc := 52) C  d_So_makeKinds_52 ?_
      obtain ⟨r8, σ7, e9, hm⟩ := bi_s hm
      refine z_callIN (pc := 55) C (k_Ki_makeOpen hAD e9) km_Ki_makeOpen mC_205 rfl rfl oC_3 rfl (kR_of (Nat.le_of_ble_eq_true rfl) (Nat.le_of_ble_eq_true rfl)) rfl (Nat.le_of_ble_eq_true rfl) d_So_makeKinds_55 ?_
      obtain ⟨g10, hm⟩ := gd_s hm
      refine asC_41 (pc := 58) C  g10 d_So_makeKinds_58 ?_
      refine z_iinc (pc := 59) (lv' := [(0, .ref (ad 8)), (1, .int x1), (2, .int x2), (3, .int (x3 + (1 : Int32)))]) C d_So_makeKinds_59 3 rfl (ii ki_1) (Nat.le_of_ble_eq_true rfl) [1, 2, 3, 0] rfl ?_
      refine z_goto (pc := 62) (tgt := 26) C d_So_makeKinds_62 (by decide) ?_
      exact h26 (sa σ7 41 ((x2 * (3 : Int32)) + x3).toNatClampNeg r8) x1 x2 (x3 + (1 : Int32)) hm
set_option maxHeartbeats 4000000 in
set_option maxRecDepth 100000 in
theorem w_So_makeKinds_2 {D : va_G} {ad : Nat → Nat} {cA : Nat → ClassId} {p : Program} {l : Launch} {e : Env} {s : State} {m : MethodId} {args : Array Value} {below : List Frame} {meth : Method} {c : Code} {F : Nat} (hAD : ∀ σ, va_D (owC ad) (wdC ad cA σ)) (C : CC D ad cA (sXC ad) p s m args meth c bc_So_makeKinds "KindRounds$Solver" 4) (hr : meth.sig.returnType = none) {σ' : zS} : ∀ (n : Nat) (σ : zS) (x1 : Int32) (x2 : Int32), So_makeKinds_2 F n σ x1 x2 = some σ' → ZC D ad cA p l e (rmK 2) s m args below meth c 4 (qvC D ad cA below args s σ') 2 [(0, .ref (ad 8)), (1, .int x1), (2, .int x2)] [] σ := by
  intro n
  induction n with
  | zero => intro σ x1 x2 hm; cases hm
  | succ n h2 =>
    intro σ x1 x2 hm
    have hm : So_makeKinds_b2 F (So_makeKinds_2 F n) σ x1 x2 = some σ' := hm
    unfold So_makeKinds_b2 at hm
    refine z_iload_n (pc := 2) C d_So_makeKinds_2 rfl 2 rfl ?_
    refine z_aload_n (pc := 3) C d_So_makeKinds_3 rfl 0 rfl ?_
    refine gC_So_9 (pc := 4) C  d_So_makeKinds_4 ?_
    refine gC_So_108 (pc := 7) (v := (gi σ 400)) C rfl d_So_makeKinds_7 ?_
    refine z_icmp_ge (pc := 10) (tgt := 118) C d_So_makeKinds_10 (by decide) (fun c1 => ?_) (fun c1 => ?_)
    · rw [if_pos c1] at hm
      exact z_vretE (pc := 118) C hr hm d_So_makeKinds_118
    · rw [if_neg c1] at hm
      refine z_iload_n (pc := 13) C d_So_makeKinds_13 rfl 1 rfl ?_
      refine z_iload_n (pc := 14) C d_So_makeKinds_14 rfl 2 rfl ?_
      refine z_ishr (pc := 15) C d_So_makeKinds_15 ?_
      refine z_iconst (pc := 16) C d_So_makeKinds_16 ki_1 ?_
      refine z_iand (pc := 17) C d_So_makeKinds_17 ?_
      refine z_if_ne (pc := 18) (tgt := 24) C d_So_makeKinds_18 (by decide) (fun c2 => ?_) (fun c2 => ?_)
      · rw [if_neg c2] at hm
        refine z_iconst (pc := 24) C d_So_makeKinds_24 ki_0 ?_
        refine z_istore_n (pc := 25) (lv' := [(0, .ref (ad 8)), (1, .int x1), (2, .int x2), (3, .int (0 : Int32))]) C d_So_makeKinds_25 rfl (Nat.le_of_ble_eq_true rfl) [1, 2, 3, 0] rfl ?_
        exact w_So_makeKinds_26 hAD C hr _ h2 F σ x1 x2 (0 : Int32) hm
      · rw [if_pos c2] at hm
        refine z_goto (pc := 21) (tgt := 112) C d_So_makeKinds_21 (by decide) ?_
        exact w_So_makeKinds_112 hAD C hr _ h2 σ x1 x2 hm
set_option maxHeartbeats 4000000 in
set_option maxRecDepth 100000 in
theorem k_So_makeKinds {l : Launch} {D : va_G} {ad : Nat → Nat} {cA : Nat → ClassId} {F : Nat} (hAD : ∀ σ, va_D (owC ad) (wdC ad cA σ)) {σ : zS} {x1 : Int32} {σ' : zS} (hm : So_makeKinds F σ x1 = some σ') : kVC l D ad cA (sXC ad) y_So_makeKinds bc_So_makeKinds 4 2 [.ref (ad 8), .int x1] σ σ' := by
  refine kV_of (by decide) hAD sXC_P (Nat.le_of_ble_eq_true rfl) ?_
  intro p e s m below meth c C hr
  unfold So_makeKinds at hm
  refine z_lv (lv' := [(0, .ref (ad 8)), (1, .int x1)]) [0, 1] rfl ?_
  refine z_iconst (pc := 0) C d_So_makeKinds_0 ki_0 ?_
  refine z_istore_n (pc := 1) (lv' := [(0, .ref (ad 8)), (1, .int x1), (2, .int (0 : Int32))]) C d_So_makeKinds_1 rfl (Nat.le_of_ble_eq_true rfl) [1, 2, 0] rfl ?_
  exact w_So_makeKinds_2 hAD C hr F σ x1 (0 : Int32) hm
set_option maxHeartbeats 4000000 in
set_option maxRecDepth 100000 in
theorem w_So_solveListed_86 {D : va_G} {ad : Nat → Nat} {cA : Nat → ClassId} {p : Program} {l : Launch} {e : Env} {s : State} {m : MethodId} {args : Array Value} {below : List Frame} {meth : Method} {c : Code} {F : Nat} (hAD : ∀ σ, va_D (owC ad) (wdC ad cA σ)) (C : CC D ad cA (sXC ad) p s m args meth c bc_So_solveListed "KindRounds$Solver" 2) (hr : meth.sig.returnType = none) {σ' : zS} (σ : zS) (hm : So_solveListed_86 F σ = some σ') : ZC D ad cA p l e (rmK 5) s m args below meth c 2 (qvC D ad cA below args s σ') 86 [] [] σ := by
  unfold So_solveListed_86 at hm
  exact z_vretE (pc := 86) C hr hm d_So_solveListed_86
set_option maxHeartbeats 4000000 in
set_option maxRecDepth 100000 in
theorem w_So_solveListed_80 {D : va_G} {ad : Nat → Nat} {cA : Nat → ClassId} {p : Program} {l : Launch} {e : Env} {s : State} {m : MethodId} {args : Array Value} {below : List Frame} {meth : Method} {c : Code} {F : Nat} (hAD : ∀ σ, va_D (owC ad) (wdC ad cA σ)) (C : CC D ad cA (sXC ad) p s m args meth c bc_So_solveListed "KindRounds$Solver" 2) (hr : meth.sig.returnType = none) {σ' : zS} (rc2 : zS → Int32 → Option zS) (h2 : ∀ σ x1, rc2 σ x1 = some σ' → ZC D ad cA p l e (rmK 5) s m args below meth c 2 (qvC D ad cA below args s σ') 2 [(0, .ref (ad 8)), (1, .int x1)] [] σ) (σ : zS) (x1 : Int32) (hm : So_solveListed_80 F rc2 σ x1 = some σ') : ZC D ad cA p l e (rmK 5) s m args below meth c 2 (qvC D ad cA below args s σ') 80 [(0, .ref (ad 8)), (1, .int x1)] [] σ := by
  unfold So_solveListed_80 at hm
  refine z_iinc (pc := 80) (lv' := [(0, .ref (ad 8)), (1, .int (x1 + (1 : Int32)))]) C d_So_solveListed_80 1 rfl (ii ki_1) (Nat.le_of_ble_eq_true rfl) [1, 0] rfl ?_
  refine z_goto (pc := 83) (tgt := 2) C d_So_solveListed_83 (by decide) ?_
  exact h2 σ (x1 + (1 : Int32)) hm
set_option maxHeartbeats 4000000 in
set_option maxRecDepth 100000 in
theorem w_So_solveListed_2 {D : va_G} {ad : Nat → Nat} {cA : Nat → ClassId} {p : Program} {l : Launch} {e : Env} {s : State} {m : MethodId} {args : Array Value} {below : List Frame} {meth : Method} {c : Code} {F : Nat} (hAD : ∀ σ, va_D (owC ad) (wdC ad cA σ)) (C : CC D ad cA (sXC ad) p s m args meth c bc_So_solveListed "KindRounds$Solver" 2) (hr : meth.sig.returnType = none) {σ' : zS} : ∀ (n : Nat) (σ : zS) (x1 : Int32), So_solveListed_2 F n σ x1 = some σ' → ZC D ad cA p l e (rmK 5) s m args below meth c 2 (qvC D ad cA below args s σ') 2 [(0, .ref (ad 8)), (1, .int x1)] [] σ := by
  intro n
  induction n with
  | zero => intro σ x1 hm; cases hm
  | succ n h2 =>
    intro σ x1 hm
    have hm : So_solveListed_b2 F (So_solveListed_2 F n) σ x1 = some σ' := hm
    unfold So_solveListed_b2 at hm
    refine z_iload_n (pc := 2) C d_So_solveListed_2 rfl 1 rfl ?_
    refine z_aload_n (pc := 3) C d_So_solveListed_3 rfl 0 rfl ?_
    refine gC_So_65 (pc := 4) (v := (gi σ 807)) C rfl d_So_solveListed_4 ?_
    refine z_icmp_ge (pc := 7) (tgt := 86) C d_So_solveListed_7 (by decide) (fun c1 => ?_) (fun c1 => ?_)
    · rw [if_pos c1] at hm
      refine z_lv (lv' := []) [] rfl ?_
      exact w_So_solveListed_86 hAD C hr σ hm
    · rw [if_neg c1] at hm
      refine z_aload_n (pc := 10) C d_So_solveListed_10 rfl 0 rfl ?_
      refine gC_So_23 (pc := 11) C  d_So_solveListed_11 ?_
      obtain ⟨r3, σ2, e4, hm⟩ := bi_s hm
      refine z_callIN (pc := 14) C (k_Fa_isThere hAD e4) km_Fa_isThere mC_183 rfl rfl oC_2 rfl (kR_of (Nat.le_of_ble_eq_true rfl) (Nat.le_of_ble_eq_true rfl)) rfl (Nat.le_of_ble_eq_true rfl) d_So_solveListed_14 ?_
      refine z_if_ne (pc := 17) (tgt := 86) C d_So_solveListed_17 (by decide) (fun c5 => ?_) (fun c5 => ?_)
      · rw [if_neg c5] at hm
        refine z_lv (lv' := []) [] rfl ?_
        exact w_So_solveListed_86 hAD C hr σ2 hm
      · rw [if_pos c5] at hm
        refine z_aload_n (pc := 20) C d_So_solveListed_20 rfl 0 rfl ?_
        refine gC_So_19 (pc := 21) C  d_So_solveListed_21 ?_
        refine z_aload_n (pc := 24) C d_So_solveListed_24 rfl 0 rfl ?_
        refine gC_So_27 (pc := 25) C  d_So_solveListed_25 ?_
        refine z_iload_n (pc := 28) C d_So_solveListed_28 rfl 1 rfl ?_
        obtain ⟨g6, hm⟩ := gd_s hm
        refine alC_49 (pc := 29) (v := (ga σ2 49 x1.toNatClampNeg)) C  rfl g6 d_So_solveListed_29 ?_
        refine z_aload_n (pc := 30) C d_So_solveListed_30 rfl 0 rfl ?_
        refine gC_So_31 (pc := 31) C  d_So_solveListed_31 ?_
        refine z_iload_n (pc := 34) C d_So_solveListed_34 rfl 1 rfl ?_
        refine alC_50 (pc := 35) (v := (ga σ2 50 x1.toNatClampNeg)) C  rfl g6 d_So_solveListed_35 ?_
        obtain ⟨r8, σ7, e9, hm⟩ := bi_s hm
        refine z_callIN (pc := 36) C (k_Ki_unify hAD e9) km_Ki_unify mC_196 rfl rfl oC_3 rfl (kR_of (Nat.le_of_ble_eq_true rfl) (Nat.le_of_ble_eq_true rfl)) rfl (Nat.le_of_ble_eq_true rfl) d_So_solveListed_36 ?_
        refine z_if_ne (pc := 39) (tgt := 80) C d_So_solveListed_39 (by decide) (fun c10 => ?_) (fun c10 => ?_)
        · rw [if_neg c10] at hm
          exact w_So_solveListed_80 hAD C hr _ h2 σ7 x1 hm
        · rw [if_pos c10] at hm
          refine z_aload_n (pc := 42) C d_So_solveListed_42 rfl 0 rfl ?_
          refine gC_So_23 (pc := 43) C  d_So_solveListed_43 ?_
          refine z_bipush (pc := 46) C d_So_solveListed_46 kb_6 ?_
          refine z_aload_n (pc := 48) C d_So_solveListed_48 rfl 0 rfl ?_
          refine gC_So_34 (pc := 49) C  d_So_solveListed_49 ?_
          refine z_iload_n (pc := 52) C d_So_solveListed_52 rfl 1 rfl ?_
          refine alC_51 (pc := 53) (v := (ga σ7 51 x1.toNatClampNeg)) C  rfl g6 d_So_solveListed_53 ?_
          obtain ⟨σ11, e12, hm⟩ := bv_s hm
          refine z_callVN (pc := 54) C (k_Fa_raise hAD e12) km_Fa_raise mC_198 rfl rfl oC_2 rfl (kR_of (Nat.le_of_ble_eq_true rfl) (Nat.le_of_ble_eq_true rfl)) rfl (Nat.le_of_ble_eq_true rfl) d_So_solveListed_54 ?_
          refine z_aload_n (pc := 57) C d_So_solveListed_57 rfl 0 rfl ?_
          refine gC_So_19 (pc := 58) C  d_So_solveListed_58 ?_
          refine z_aload_n (pc := 61) C d_So_solveListed_61 rfl 0 rfl ?_
          refine gC_So_27 (pc := 62) C  d_So_solveListed_62 ?_
          refine z_iload_n (pc := 65) C d_So_solveListed_65 rfl 1 rfl ?_
          refine alC_49 (pc := 66) (v := (ga σ11 49 x1.toNatClampNeg)) C  rfl g6 d_So_solveListed_66 ?_
          refine z_aload_n (pc := 67) C d_So_solveListed_67 rfl 0 rfl ?_
          refine gC_So_31 (pc := 68) C  d_So_solveListed_68 ?_
          refine z_iload_n (pc := 71) C d_So_solveListed_71 rfl 1 rfl ?_
          refine alC_50 (pc := 72) (v := (ga σ11 50 x1.toNatClampNeg)) C  rfl g6 d_So_solveListed_72 ?_
          refine z_aload_n (pc := 73) C d_So_solveListed_73 rfl 0 rfl ?_
          refine gC_So_23 (pc := 74) C  d_So_solveListed_74 ?_
          obtain ⟨σ13, e14, hm⟩ := bv_s hm
          refine z_callVN (pc := 77) C (k_Ki_showSides hAD e14) km_Ki_showSides mC_199 rfl rfl oC_3 rfl (kR_of (Nat.le_of_ble_eq_true rfl) (Nat.le_of_ble_eq_true rfl)) rfl (Nat.le_of_ble_eq_true rfl) d_So_solveListed_77 ?_
          exact w_So_solveListed_80 hAD C hr _ h2 σ13 x1 hm
set_option maxHeartbeats 4000000 in
set_option maxRecDepth 100000 in
theorem k_So_solveListed {l : Launch} {D : va_G} {ad : Nat → Nat} {cA : Nat → ClassId} {F : Nat} (hAD : ∀ σ, va_D (owC ad) (wdC ad cA σ)) {σ : zS} {σ' : zS} (hm : So_solveListed F σ = some σ') : kVC l D ad cA (sXC ad) y_So_solveListed bc_So_solveListed 2 5 [.ref (ad 8)] σ σ' := by
  refine kV_of (by decide) hAD sXC_P (Nat.le_of_ble_eq_true rfl) ?_
  intro p e s m below meth c C hr
  unfold So_solveListed at hm
  refine z_lv (lv' := [(0, .ref (ad 8))]) [0] rfl ?_
  refine z_iconst (pc := 0) C d_So_solveListed_0 ki_0 ?_
  refine z_istore_n (pc := 1) (lv' := [(0, .ref (ad 8)), (1, .int (0 : Int32))]) C d_So_solveListed_1 rfl (Nat.le_of_ble_eq_true rfl) [1, 0] rfl ?_
  exact w_So_solveListed_2 hAD C hr F σ (0 : Int32) hm
set_option maxHeartbeats 4000000 in
set_option maxRecDepth 100000 in
theorem w_So_solveText_75 {D : va_G} {ad : Nat → Nat} {cA : Nat → ClassId} {p : Program} {l : Launch} {e : Env} {s : State} {m : MethodId} {args : Array Value} {below : List Frame} {meth : Method} {c : Code} {F : Nat} (hAD : ∀ σ, va_D (owC ad) (wdC ad cA σ)) (C : CC D ad cA (sXC ad) p s m args meth c bc_So_solveText "KindRounds$Solver" 3) (hr : meth.sig.returnType = none) {σ' : zS} (σ : zS) (hm : So_solveText_75 F σ = some σ') : ZC D ad cA p l e (rmK 6) s m args below meth c 3 (qvC D ad cA below args s σ') 75 [] [] σ := by
  unfold So_solveText_75 at hm
  exact z_vretE (pc := 75) C hr hm d_So_solveText_75
set_option maxHeartbeats 4000000 in
set_option maxRecDepth 100000 in
theorem w_So_solveText_2 {D : va_G} {ad : Nat → Nat} {cA : Nat → ClassId} {p : Program} {l : Launch} {e : Env} {s : State} {m : MethodId} {args : Array Value} {below : List Frame} {meth : Method} {c : Code} {F : Nat} (hAD : ∀ σ, va_D (owC ad) (wdC ad cA σ)) (C : CC D ad cA (sXC ad) p s m args meth c bc_So_solveText "KindRounds$Solver" 3) (hr : meth.sig.returnType = none) {σ' : zS} : ∀ (n : Nat) (σ : zS) (x1 : Int32), So_solveText_2 F n σ x1 = some σ' → ZC D ad cA p l e (rmK 6) s m args below meth c 3 (qvC D ad cA below args s σ') 2 [(0, .ref (ad 8)), (1, .int x1)] [] σ := by
  intro n
  induction n with
  | zero => intro σ x1 hm; cases hm
  | succ n h2 =>
    intro σ x1 hm
    have hm : So_solveText_b2 F (So_solveText_2 F n) σ x1 = some σ' := hm
    unfold So_solveText_b2 at hm
    refine z_iload_n (pc := 2) C d_So_solveText_2 rfl 1 rfl ?_
    refine z_aload_n (pc := 3) C d_So_solveText_3 rfl 0 rfl ?_
    refine gC_So_9 (pc := 4) C  d_So_solveText_4 ?_
    refine gC_So_53 (pc := 7) (v := (gi σ 412)) C rfl d_So_solveText_7 ?_
    refine z_icmp_ge (pc := 10) (tgt := 75) C d_So_solveText_10 (by decide) (fun c1 => ?_) (fun c1 => ?_)
    · rw [if_pos c1] at hm
      refine z_lv (lv' := []) [] rfl ?_
      exact w_So_solveText_75 hAD C hr σ hm
    · rw [if_neg c1] at hm
      refine z_aload_n (pc := 13) C d_So_solveText_13 rfl 0 rfl ?_
      refine gC_So_23 (pc := 14) C  d_So_solveText_14 ?_
      obtain ⟨r3, σ2, e4, hm⟩ := bi_s hm
      refine z_callIN (pc := 17) C (k_Fa_isThere hAD e4) km_Fa_isThere mC_183 rfl rfl oC_2 rfl (kR_of (Nat.le_of_ble_eq_true rfl) (Nat.le_of_ble_eq_true rfl)) rfl (Nat.le_of_ble_eq_true rfl) d_So_solveText_17 ?_
      refine z_if_ne (pc := 20) (tgt := 75) C d_So_solveText_20 (by decide) (fun c5 => ?_) (fun c5 => ?_)
      · rw [if_neg c5] at hm
        refine z_lv (lv' := []) [] rfl ?_
        exact w_So_solveText_75 hAD C hr σ2 hm
      · rw [if_pos c5] at hm
        refine z_aload_n (pc := 23) C d_So_solveText_23 rfl 0 rfl ?_
        refine z_iconst (pc := 24) C d_So_solveText_24 ki_0 ?_
        refine pC_So_65 (pc := 25) C  d_So_solveText_25 ?_
        refine z_aload_n (pc := 28) C d_So_solveText_28 rfl 0 rfl ?_
        refine gC_So_9 (pc := 29) C  d_So_solveText_29 ?_
        refine gC_So_68 (pc := 32) C  d_So_solveText_32 ?_
        refine z_iload_n (pc := 35) C d_So_solveText_35 rfl 1 rfl ?_
        obtain ⟨g6, hm⟩ := gd_s hm
        refine alC_39 (pc := 36) (v := (ga σ2 39 x1.toNatClampNeg)) C  rfl g6 d_So_solveText_36 ?_
        refine z_istore_n (pc := 37) (lv' := [(0, .ref (ad 8)), (1, .int x1), (2, .int (ga σ2 39 x1.toNatClampNeg))]) C d_So_solveText_37 rfl (Nat.le_of_ble_eq_true rfl) [1, 2, 0] rfl ?_
        refine z_aload_n (pc := 38) C d_So_solveText_38 rfl 0 rfl ?_
        refine z_iload_n (pc := 39) C d_So_solveText_39 rfl 2 rfl ?_
        obtain ⟨σ7, e8, hm⟩ := bv_s hm
        refine z_callV (pc := 40) C (k_So_makeKinds hAD e8) km_So_makeKinds mC_186 rfl rfl oC_8 rfl (kR_of (Nat.le_of_ble_eq_true rfl) (Nat.le_of_ble_eq_true rfl)) rfl (Nat.le_of_ble_eq_true rfl) d_So_solveText_40 ?_
        refine z_aload_n (pc := 43) C d_So_solveText_43 rfl 0 rfl ?_
        refine z_iload_n (pc := 44) C d_So_solveText_44 rfl 2 rfl ?_
        obtain ⟨σ9, e10, hm⟩ := bv_s hm
        refine z_callV (pc := 45) C (k_So_listTold hAD e10) km_So_listTold mC_187 rfl rfl oC_8 rfl (kR_of (Nat.le_of_ble_eq_true rfl) (Nat.le_of_ble_eq_true rfl)) rfl (Nat.le_of_ble_eq_true rfl) d_So_solveText_45 ?_
        refine z_aload_n (pc := 48) C d_So_solveText_48 rfl 0 rfl ?_
        refine z_iload_n (pc := 49) C d_So_solveText_49 rfl 2 rfl ?_
        obtain ⟨σ11, e12, hm⟩ := bv_s hm
        refine z_callV (pc := 50) C (k_So_listMembers hAD e12) km_So_listMembers mC_188 rfl rfl oC_8 rfl (kR_of (Nat.le_of_ble_eq_true rfl) (Nat.le_of_ble_eq_true rfl)) rfl (Nat.le_of_ble_eq_true rfl) d_So_solveText_50 ?_
        refine z_aload_n (pc := 53) C d_So_solveText_53 rfl 0 rfl ?_
        obtain ⟨σ13, e14, hm⟩ := bv_s hm
        refine z_callV (pc := 54) C (k_So_solveListed hAD e14) km_So_solveListed mC_189 rfl rfl oC_8 rfl (kR_of (Nat.le_of_ble_eq_true rfl) (Nat.le_of_ble_eq_true rfl)) rfl (Nat.le_of_ble_eq_true rfl) d_So_solveText_54 ?_
        refine z_aload_n (pc := 57) C d_So_solveText_57 rfl 0 rfl ?_
        refine z_iload_n (pc := 58) C d_So_solveText_58 rfl 2 rfl ?_
        obtain ⟨σ15, e16, hm⟩ := bv_s hm
        refine z_callV (pc := 59) C (k_So_countOpens hAD e16) km_So_countOpens mC_190 rfl rfl oC_8 rfl (kR_of (Nat.le_of_ble_eq_true rfl) (Nat.le_of_ble_eq_true rfl)) rfl (Nat.le_of_ble_eq_true rfl) d_So_solveText_59 ?_
        refine z_aload_n (pc := 62) C d_So_solveText_62 rfl 0 rfl ?_
        refine gC_So_19 (pc := 63) C  d_So_solveText_63 ?_
        obtain ⟨σ17, e18, hm⟩ := bv_s hm
        refine z_callVN (pc := 66) C (k_Ki_closeGroup hAD e18) km_Ki_closeGroup mC_192 rfl rfl oC_3 rfl (kR_of (Nat.le_of_ble_eq_true rfl) (Nat.le_of_ble_eq_true rfl)) rfl (Nat.le_of_ble_eq_true rfl) d_So_solveText_66 ?_
        refine z_iinc (pc := 69) (lv' := [(0, .ref (ad 8)), (1, .int (x1 + (1 : Int32))), (2, .int (ga σ2 39 x1.toNatClampNeg))]) C d_So_solveText_69 1 rfl (ii ki_1) (Nat.le_of_ble_eq_true rfl) [1, 0, 2] rfl ?_
        refine z_goto (pc := 72) (tgt := 2) C d_So_solveText_72 (by decide) ?_
        refine z_lv (lv' := [(0, .ref (ad 8)), (1, .int (x1 + (1 : Int32)))]) [0, 1] rfl ?_
        exact h2 σ17 (x1 + (1 : Int32)) hm
set_option maxHeartbeats 4000000 in
set_option maxRecDepth 100000 in
theorem k_So_solveText {l : Launch} {D : va_G} {ad : Nat → Nat} {cA : Nat → ClassId} {F : Nat} (hAD : ∀ σ, va_D (owC ad) (wdC ad cA σ)) {σ : zS} {σ' : zS} (hm : So_solveText F σ = some σ') : kVC l D ad cA (sXC ad) y_So_solveText bc_So_solveText 3 6 [.ref (ad 8)] σ σ' := by
  refine kV_of (by decide) hAD sXC_P (Nat.le_of_ble_eq_true rfl) ?_
  intro p e s m below meth c C hr
  unfold So_solveText at hm
  refine z_lv (lv' := [(0, .ref (ad 8))]) [0] rfl ?_
  refine z_iconst (pc := 0) C d_So_solveText_0 ki_0 ?_
  refine z_istore_n (pc := 1) (lv' := [(0, .ref (ad 8)), (1, .int (0 : Int32))]) C d_So_solveText_1 rfl (Nat.le_of_ble_eq_true rfl) [1, 0] rfl ?_
  exact w_So_solveText_2 hAD C hr F σ (0 : Int32) hm
set_option maxHeartbeats 4000000 in
set_option maxRecDepth 100000 in
theorem k_So_solveAsked {l : Launch} {D : va_G} {ad : Nat → Nat} {cA : Nat → ClassId} {F : Nat} (hAD : ∀ σ, va_D (owC ad) (wdC ad cA σ)) {σ : zS} {x1 : Nat} {x2 : Int32} {σ' : zS} (hm : So_solveAsked F σ x1 x2 = some σ') : kVC l D ad cA (sXC ad) y_So_solveAsked bc_So_solveAsked 3 6 [.ref (ad 8), .ref (ad x1), .int x2] σ σ' := by
  refine kV_of (by decide) hAD sXC_P (Nat.le_of_ble_eq_true rfl) ?_
  intro p e s m below meth c C hr
  unfold So_solveAsked at hm
  refine z_lv (lv' := [(0, .ref (ad 8)), (1, .ref (ad x1)), (2, .int x2)]) [0, 1, 2] rfl ?_
  refine z_aload_n (pc := 0) C d_So_solveAsked_0 rfl 0 rfl ?_
  refine z_iconst (pc := 1) C d_So_solveAsked_1 ki_0 ?_
  refine pC_So_65 (pc := 2) C  d_So_solveAsked_2 ?_
  refine z_aload_n (pc := 5) C d_So_solveAsked_5 rfl 0 rfl ?_
  refine z_aload_n (pc := 6) C d_So_solveAsked_6 rfl 1 rfl ?_
  refine z_iload_n (pc := 7) C d_So_solveAsked_7 rfl 2 rfl ?_
  obtain ⟨σ1, e2, hm⟩ := bv_s hm
  refine z_callV (pc := 8) C (k_So_listTerm hAD e2) km_So_listTerm mC_193 rfl rfl oC_8 rfl (kR_of (Nat.le_of_ble_eq_true rfl) (Nat.le_of_ble_eq_true rfl)) rfl (Nat.le_of_ble_eq_true rfl) d_So_solveAsked_8 ?_
  refine z_aload_n (pc := 11) C d_So_solveAsked_11 rfl 0 rfl ?_
  obtain ⟨σ3, e4, hm⟩ := bv_s hm
  refine z_callV (pc := 12) C (k_So_solveListed hAD e4) km_So_solveListed mC_189 rfl rfl oC_8 rfl (kR_of (Nat.le_of_ble_eq_true rfl) (Nat.le_of_ble_eq_true rfl)) rfl (Nat.le_of_ble_eq_true rfl) d_So_solveAsked_12 ?_
  exact z_vretE (pc := 15) C hr hm d_So_solveAsked_15
