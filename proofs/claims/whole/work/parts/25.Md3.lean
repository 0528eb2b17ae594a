/-! Walks of KindRoundsModel, 3 of 4. Written by program (wip/gen). -/
set_option maxHeartbeats 4000000 in
set_option maxRecDepth 100000 in
theorem w_Md_lookTakes_106 {D : va_G} {ad : Nat → Nat} {cA : Nat → ClassId} {p : Program} {l : Launch} {e : Env} {s : State} {m : MethodId} {args : Array Value} {below : List Frame} {meth : Method} {c : Code} {F : Nat} (hAD : ∀ σ, va_D (owM ad) (wdM ad cA σ)) (C : CM D ad cA xTr p s m args meth c bc_Md_lookTakes "KindRoundsModel" 3) (hr : meth.sig.returnType = none) {σ' : zS} (σ : zS) (hm : Md_lookTakes_106 F σ = some σ') : ZM D ad cA p l e (rmK 1) s m args below meth c 3 (qvM D ad cA below args s σ') 106 [] [] σ := by
  unfold Md_lookTakes_106 at hm
  exact z_vretE (pc := 106) C hr hm d_Md_lookTakes_106
set_option maxHeartbeats 4000000 in
set_option maxRecDepth 100000 in
theorem w_Md_lookTakes_100 {D : va_G} {ad : Nat → Nat} {cA : Nat → ClassId} {p : Program} {l : Launch} {e : Env} {s : State} {m : MethodId} {args : Array Value} {below : List Frame} {meth : Method} {c : Code} {F : Nat} (hAD : ∀ σ, va_D (owM ad) (wdM ad cA σ)) (C : CM D ad cA xTr p s m args meth c bc_Md_lookTakes "KindRoundsModel" 3) (hr : meth.sig.returnType = none) {σ' : zS} (rc2 : zS → Int32 → Option zS) (h2 : ∀ σ x1, rc2 σ x1 = some σ' → ZM D ad cA p l e (rmK 1) s m args below meth c 3 (qvM D ad cA below args s σ') 2 [(0, .ref (ad 0)), (1, .int x1)] [] σ) (σ : zS) (x1 : Int32) (hm : Md_lookTakes_100 F rc2 σ x1 = some σ') : ZM D ad cA p l e (rmK 1) s m args below meth c 3 (qvM D ad cA below args s σ') 100 [(0, .ref (ad 0)), (1, .int x1)] [] σ := by
  unfold Md_lookTakes_100 at hm
  refine z_iinc (pc := 100) (lv' := [(0, .ref (ad 0)), (1, .int (x1 + (1 : Int32)))]) C d_Md_lookTakes_100 1 rfl (ii ki_1) (Nat.le_of_ble_eq_true rfl) [1, 0] rfl ?_
  refine z_goto (pc := 103) (tgt := 2) C d_Md_lookTakes_103 (by decide) ?_
  exact h2 σ (x1 + (1 : Int32)) hm
set_option maxHeartbeats 4000000 in
set_option maxRecDepth 100000 in
theorem w_Md_lookTakes_89 {D : va_G} {ad : Nat → Nat} {cA : Nat → ClassId} {p : Program} {l : Launch} {e : Env} {s : State} {m : MethodId} {args : Array Value} {below : List Frame} {meth : Method} {c : Code} {F : Nat} (hAD : ∀ σ, va_D (owM ad) (wdM ad cA σ)) (C : CM D ad cA xTr p s m args meth c bc_Md_lookTakes "KindRoundsModel" 3) (hr : meth.sig.returnType = none) {σ' : zS} (rc2 : zS → Int32 → Option zS) (h2 : ∀ σ x1, rc2 σ x1 = some σ' → ZM D ad cA p l e (rmK 1) s m args below meth c 3 (qvM D ad cA below args s σ') 2 [(0, .ref (ad 0)), (1, .int x1)] [] σ) (σ : zS) (x1 : Int32) (hm : Md_lookTakes_89 F rc2 σ x1 = some σ') : ZM D ad cA p l e (rmK 1) s m args below meth c 3 (qvM D ad cA below args s σ') 89 [(0, .ref (ad 0)), (1, .int x1)] [] σ := by
  unfold Md_lookTakes_89 at hm
  refine z_aload_n (pc := 89) C d_Md_lookTakes_89 rfl 0 rfl ?_
  refine z_iconst (pc := 90) C d_Md_lookTakes_90 ki_5 ?_
  refine z_aload_n (pc := 91) C d_Md_lookTakes_91 rfl 0 rfl ?_
  refine gM_Md_48 (pc := 92) C  d_Md_lookTakes_92 ?_
  refine z_iload_n (pc := 95) C d_Md_lookTakes_95 rfl 1 rfl ?_
  obtain ⟨g1, hm⟩ := gd_s hm
  refine alM_12 (pc := 96) (v := (ga σ 12 x1.toNatClampNeg)) C  rfl g1 d_Md_lookTakes_96 ?_
  obtain ⟨σ2, e3, hm⟩ := bv_s hm
  refine z_callV (pc := 97) C (k_Md_wrong hAD e3) kz_Md_wrong mM_11 rfl rfl oM_0 rfl (kR_of (Nat.le_of_ble_eq_true rfl) (Nat.le_of_ble_eq_true rfl)) rfl (Nat.le_of_ble_eq_true rfl) d_Md_lookTakes_97 ?_
  exact w_Md_lookTakes_100 hAD C hr _ h2 σ2 x1 hm
set_option maxHeartbeats 4000000 in
set_option maxRecDepth 100000 in
theorem w_Md_lookTakes_41 {D : va_G} {ad : Nat → Nat} {cA : Nat → ClassId} {p : Program} {l : Launch} {e : Env} {s : State} {m : MethodId} {args : Array Value} {below : List Frame} {meth : Method} {c : Code} {F : Nat} (hAD : ∀ σ, va_D (owM ad) (wdM ad cA σ)) (C : CM D ad cA xTr p s m args meth c bc_Md_lookTakes "KindRoundsModel" 3) (hr : meth.sig.returnType = none) {σ' : zS} (rc2 : zS → Int32 → Option zS) (h2 : ∀ σ x1, rc2 σ x1 = some σ' → ZM D ad cA p l e (rmK 1) s m args below meth c 3 (qvM D ad cA below args s σ') 2 [(0, .ref (ad 0)), (1, .int x1)] [] σ) (σ : zS) (x1 : Int32) (s0 : Int32) (hm : Md_lookTakes_41 F rc2 σ x1 s0 = some σ') : ZM D ad cA p l e (rmK 1) s m args below meth c 3 (qvM D ad cA below args s σ') 41 [(0, .ref (ad 0)), (1, .int x1)] [.int s0] σ := by
  unfold Md_lookTakes_41 at hm
  refine z_istore_n (pc := 41) (lv' := [(0, .ref (ad 0)), (1, .int x1), (2, .int s0)]) C d_Md_lookTakes_41 rfl (Nat.le_of_ble_eq_true rfl) [1, 2, 0] rfl ?_
  refine z_iload_n (pc := 42) C d_Md_lookTakes_42 rfl 2 rfl ?_
  refine z_if_lt (pc := 43) (tgt := 100) C d_Md_lookTakes_43 (by decide) (fun c1 => ?_) (fun c1 => ?_)
  · rw [if_pos c1] at hm
    refine z_lv (lv' := [(0, .ref (ad 0)), (1, .int x1)]) [0, 1] rfl ?_
    exact w_Md_lookTakes_100 hAD C hr _ h2 σ x1 hm
  · rw [if_neg c1] at hm
    refine z_aload_n (pc := 46) C d_Md_lookTakes_46 rfl 0 rfl ?_
    refine gM_Md_112 (pc := 47) C  d_Md_lookTakes_47 ?_
    refine z_iload_n (pc := 50) C d_Md_lookTakes_50 rfl 2 rfl ?_
    obtain ⟨g2, hm⟩ := gd_s hm
    refine alM_33 (pc := 51) (v := (ga σ 33 s0.toNatClampNeg)) C  rfl g2 d_Md_lookTakes_51 ?_
    refine z_iconst (pc := 52) C d_Md_lookTakes_52 ki_1 ?_
    refine z_icmp_ne (pc := 53) (tgt := 100) C d_Md_lookTakes_53 (by decide) (fun c3 => ?_) (fun c3 => ?_)
    · rw [if_neg c3] at hm
      refine z_lv (lv' := [(0, .ref (ad 0)), (1, .int x1)]) [0, 1] rfl ?_
      exact w_Md_lookTakes_100 hAD C hr _ h2 σ x1 hm
    · rw [if_pos c3] at hm
      refine z_aload_n (pc := 56) C d_Md_lookTakes_56 rfl 0 rfl ?_
      refine gM_Md_121 (pc := 57) C  d_Md_lookTakes_57 ?_
      refine z_iload_n (pc := 60) C d_Md_lookTakes_60 rfl 2 rfl ?_
      refine alM_36 (pc := 61) (v := (ga σ 36 s0.toNatClampNeg)) C  rfl g2 d_Md_lookTakes_61 ?_
      refine z_if_le (pc := 62) (tgt := 100) C d_Md_lookTakes_62 (by decide) (fun c4 => ?_) (fun c4 => ?_)
      · rw [if_pos c4] at hm
        refine z_lv (lv' := [(0, .ref (ad 0)), (1, .int x1)]) [0, 1] rfl ?_
        exact w_Md_lookTakes_100 hAD C hr _ h2 σ x1 hm
      · rw [if_neg c4] at hm
        refine z_aload_n (pc := 65) C d_Md_lookTakes_65 rfl 0 rfl ?_
        refine gM_Md_57 (pc := 66) C  d_Md_lookTakes_66 ?_
        refine z_iload_n (pc := 69) C d_Md_lookTakes_69 rfl 1 rfl ?_
        obtain ⟨g5, hm⟩ := gd_s hm
        refine alM_15 (pc := 70) (v := (ga σ 15 x1.toNatClampNeg)) C  rfl g5 d_Md_lookTakes_70 ?_
        refine z_if_eq (pc := 71) (tgt := 89) C d_Md_lookTakes_71 (by decide) (fun c6 => ?_) (fun c6 => ?_)
        · rw [if_pos c6] at hm
          refine z_lv (lv' := [(0, .ref (ad 0)), (1, .int x1)]) [0, 1] rfl ?_
          exact w_Md_lookTakes_89 hAD C hr _ h2 σ x1 hm
        · rw [if_neg c6] at hm
          refine z_aload_n (pc := 74) C d_Md_lookTakes_74 rfl 0 rfl ?_
          refine gM_Md_61 (pc := 75) C  d_Md_lookTakes_75 ?_
          refine z_iload_n (pc := 78) C d_Md_lookTakes_78 rfl 1 rfl ?_
          refine alM_16 (pc := 79) (v := (ga σ 16 x1.toNatClampNeg)) C  rfl g5 d_Md_lookTakes_79 ?_
          refine z_aload_n (pc := 80) C d_Md_lookTakes_80 rfl 0 rfl ?_
          refine gM_Md_121 (pc := 81) C  d_Md_lookTakes_81 ?_
          refine z_iload_n (pc := 84) C d_Md_lookTakes_84 rfl 2 rfl ?_
          refine alM_36 (pc := 85) (v := (ga σ 36 s0.toNatClampNeg)) C  rfl g2 d_Md_lookTakes_85 ?_
          refine z_icmp_ge (pc := 86) (tgt := 100) C d_Md_lookTakes_86 (by decide) (fun c7 => ?_) (fun c7 => ?_)
          · rw [if_pos c7] at hm
            refine z_lv (lv' := [(0, .ref (ad 0)), (1, .int x1)]) [0, 1] rfl ?_
            exact w_Md_lookTakes_100 hAD C hr _ h2 σ x1 hm
          · rw [if_neg c7] at hm
            refine z_lv (lv' := [(0, .ref (ad 0)), (1, .int x1)]) [0, 1] rfl ?_
            exact w_Md_lookTakes_89 hAD C hr _ h2 σ x1 hm
set_option maxHeartbeats 4000000 in
set_option maxRecDepth 100000 in
theorem w_Md_lookTakes_2 {D : va_G} {ad : Nat → Nat} {cA : Nat → ClassId} {p : Program} {l : Launch} {e : Env} {s : State} {m : MethodId} {args : Array Value} {below : List Frame} {meth : Method} {c : Code} {F : Nat} (hAD : ∀ σ, va_D (owM ad) (wdM ad cA σ)) (C : CM D ad cA xTr p s m args meth c bc_Md_lookTakes "KindRoundsModel" 3) (hr : meth.sig.returnType = none) {σ' : zS} : ∀ (n : Nat) (σ : zS) (x1 : Int32), Md_lookTakes_2 F n σ x1 = some σ' → ZM D ad cA p l e (rmK 1) s m args below meth c 3 (qvM D ad cA below args s σ') 2 [(0, .ref (ad 0)), (1, .int x1)] [] σ := by
  intro n
  induction n with
  | zero => intro σ x1 hm; cases hm
  | succ n h2 =>
    intro σ x1 hm
    have hm : Md_lookTakes_b2 F (Md_lookTakes_2 F n) σ x1 = some σ' := hm
    unfold Md_lookTakes_b2 at hm
    refine z_iload_n (pc := 2) C d_Md_lookTakes_2 rfl 1 rfl ?_
    refine z_aload_n (pc := 3) C d_Md_lookTakes_3 rfl 0 rfl ?_
    refine gM_Md_279 (pc := 4) (v := (gi σ 31)) C rfl d_Md_lookTakes_4 ?_
    refine z_icmp_ge (pc := 7) (tgt := 106) C d_Md_lookTakes_7 (by decide) (fun c1 => ?_) (fun c1 => ?_)
    · rw [if_pos c1] at hm
      refine z_lv (lv' := []) [] rfl ?_
      exact w_Md_lookTakes_106 hAD C hr σ hm
    · rw [if_neg c1] at hm
      refine z_aload_n (pc := 10) C d_Md_lookTakes_10 rfl 0 rfl ?_
      refine gM_Md_221 (pc := 11) (v := (gi σ 8)) C rfl d_Md_lookTakes_11 ?_
      refine z_if_ne (pc := 14) (tgt := 106) C d_Md_lookTakes_14 (by decide) (fun c2 => ?_) (fun c2 => ?_)
      · rw [if_neg c2] at hm
        refine z_lv (lv' := []) [] rfl ?_
        exact w_Md_lookTakes_106 hAD C hr σ hm
      · rw [if_pos c2] at hm
        refine z_aload_n (pc := 17) C d_Md_lookTakes_17 rfl 0 rfl ?_
        refine gM_Md_42 (pc := 18) C  d_Md_lookTakes_18 ?_
        refine z_iload_n (pc := 21) C d_Md_lookTakes_21 rfl 1 rfl ?_
        obtain ⟨g3, hm⟩ := gd_s hm
        refine alM_10 (pc := 22) (v := (ga σ 10 x1.toNatClampNeg)) C  rfl g3 d_Md_lookTakes_22 ?_
        refine z_iconst (pc := 23) C d_Md_lookTakes_23 ki_5 ?_
        refine z_icmp_ne (pc := 24) (tgt := 40) C d_Md_lookTakes_24 (by decide) (fun c4 => ?_) (fun c4 => ?_)
        · rw [if_neg c4] at hm
          refine z_iconst (pc := 40) C d_Md_lookTakes_40 ki_m1 ?_
          exact w_Md_lookTakes_41 hAD C hr _ h2 σ x1 (-1 : Int32) hm
        · rw [if_pos c4] at hm
          refine z_aload_n (pc := 27) C d_Md_lookTakes_27 rfl 0 rfl ?_
          refine z_aload_n (pc := 28) C d_Md_lookTakes_28 rfl 0 rfl ?_
          refine gM_Md_45 (pc := 29) C  d_Md_lookTakes_29 ?_
          refine z_iload_n (pc := 32) C d_Md_lookTakes_32 rfl 1 rfl ?_
          refine alM_11 (pc := 33) (v := (gb σ 11 x1.toNatClampNeg)) C  rfl g3 d_Md_lookTakes_33 ?_
          obtain ⟨r6, σ5, e7, hm⟩ := bi_s hm
          refine z_callI (pc := 34) C (k_Md_typeOf hAD e7) kz_Md_typeOf mM_109 rfl rfl oM_0 rfl (kR_of (Nat.le_of_ble_eq_true rfl) (Nat.le_of_ble_eq_true rfl)) rfl (Nat.le_of_ble_eq_true rfl) d_Md_lookTakes_34 ?_
          refine z_goto (pc := 37) (tgt := 41) C d_Md_lookTakes_37 (by decide) ?_
          exact w_Md_lookTakes_41 hAD C hr _ h2 σ5 x1 r6 hm
set_option maxHeartbeats 4000000 in
set_option maxRecDepth 100000 in
theorem k_Md_lookTakes {l : Launch} {D : va_G} {ad : Nat → Nat} {cA : Nat → ClassId} {F : Nat} (hAD : ∀ σ, va_D (owM ad) (wdM ad cA σ)) {σ : zS} {σ' : zS} (hm : Md_lookTakes F σ = some σ') : kVM l D ad cA xTr y_Md_lookTakes bc_Md_lookTakes 3 1 [.ref (ad 0)] σ σ' := by
  refine kV_of (by decide) hAD xTr_P (Nat.le_of_ble_eq_true rfl) ?_
  intro p e s m below meth c C hr
  unfold Md_lookTakes at hm
  refine z_lv (lv' := [(0, .ref (ad 0))]) [0] rfl ?_
  refine z_iconst (pc := 0) C d_Md_lookTakes_0 ki_0 ?_
  refine z_istore_n (pc := 1) (lv' := [(0, .ref (ad 0)), (1, .int (0 : Int32))]) C d_Md_lookTakes_1 rfl (Nat.le_of_ble_eq_true rfl) [1, 0] rfl ?_
  exact w_Md_lookTakes_2 hAD C hr F σ (0 : Int32) hm
set_option maxHeartbeats 4000000 in
set_option maxRecDepth 100000 in
theorem w_Md_isTogether_38 {D : va_G} {ad : Nat → Nat} {cA : Nat → ClassId} {p : Program} {l : Launch} {e : Env} {s : State} {m : MethodId} {args : Array Value} {below : List Frame} {meth : Method} {c : Code} {F : Nat} (hAD : ∀ σ, va_D (owM ad) (wdM ad cA σ)) (C : CM D ad cA xTr p s m args meth c bc_Md_isTogether "KindRoundsModel" 3) (hr : meth.sig.returnType = some .boolean) {r : Int32} {σ' : zS} (σ : zS) (s0 : Int32) (hm : Md_isTogether_38 F σ s0 = some (r, σ')) : ZM D ad cA p l e (rmK 0) s m args below meth c 3 (qiM D ad cA below args s r σ') 38 [] [.int s0] σ := by
  unfold Md_isTogether_38 at hm
  obtain ⟨g1, hm⟩ := gd_s hm
  exact z_zretE (pc := 38) C hr g1 hm d_Md_isTogether_38
set_option maxHeartbeats 4000000 in
set_option maxRecDepth 100000 in
theorem w_Md_isTogether_33 {D : va_G} {ad : Nat → Nat} {cA : Nat → ClassId} {p : Program} {l : Launch} {e : Env} {s : State} {m : MethodId} {args : Array Value} {below : List Frame} {meth : Method} {c : Code} {F : Nat} (hAD : ∀ σ, va_D (owM ad) (wdM ad cA σ)) (C : CM D ad cA xTr p s m args meth c bc_Md_isTogether "KindRoundsModel" 3) (hr : meth.sig.returnType = some .boolean) {r : Int32} {σ' : zS} (σ : zS) (hm : Md_isTogether_33 F σ = some (r, σ')) : ZM D ad cA p l e (rmK 0) s m args below meth c 3 (qiM D ad cA below args s r σ') 33 [] [] σ := by
  unfold Md_isTogether_33 at hm
  refine z_iconst (pc := 33) C d_Md_isTogether_33 ki_1 ?_
  refine z_goto (pc := 34) (tgt := 38) C d_Md_isTogether_34 (by decide) ?_
  exact w_Md_isTogether_38 hAD C hr σ (1 : Int32) hm
set_option maxHeartbeats 4000000 in
set_option maxRecDepth 100000 in
theorem w_Md_isTogether_37 {D : va_G} {ad : Nat → Nat} {cA : Nat → ClassId} {p : Program} {l : Launch} {e : Env} {s : State} {m : MethodId} {args : Array Value} {below : List Frame} {meth : Method} {c : Code} {F : Nat} (hAD : ∀ σ, va_D (owM ad) (wdM ad cA σ)) (C : CM D ad cA xTr p s m args meth c bc_Md_isTogether "KindRoundsModel" 3) (hr : meth.sig.returnType = some .boolean) {r : Int32} {σ' : zS} (σ : zS) (hm : Md_isTogether_37 F σ = some (r, σ')) : ZM D ad cA p l e (rmK 0) s m args below meth c 3 (qiM D ad cA below args s r σ') 37 [] [] σ := by
  unfold Md_isTogether_37 at hm
  refine z_iconst (pc := 37) C d_Md_isTogether_37 ki_0 ?_
  exact w_Md_isTogether_38 hAD C hr σ (0 : Int32) hm
set_option maxHeartbeats 4000000 in
set_option maxRecDepth 100000 in
theorem k_Md_isTogether {l : Launch} {D : va_G} {ad : Nat → Nat} {cA : Nat → ClassId} {F : Nat} (hAD : ∀ σ, va_D (owM ad) (wdM ad cA σ)) {σ : zS} {x1 : Int32} {x2 : Int32} {r : Int32} {σ' : zS} (hm : Md_isTogether F σ x1 x2 = some (r, σ')) : kIM l D ad cA xTr y_Md_isTogether bc_Md_isTogether 3 .boolean 0 [.ref (ad 0), .int x1, .int x2] σ r σ' := by
  refine kI_of (by decide) hAD xTr_P (Nat.le_of_ble_eq_true rfl) ?_
  intro p e s m below meth c C hr
  unfold Md_isTogether at hm
  refine z_lv (lv' := [(0, .ref (ad 0)), (1, .int x1), (2, .int x2)]) [0, 1, 2] rfl ?_
  refine z_iload_n (pc := 0) C d_Md_isTogether_0 rfl 1 rfl ?_
  refine z_iload_n (pc := 1) C d_Md_isTogether_1 rfl 2 rfl ?_
  refine z_icmp_eq (pc := 2) (tgt := 33) C d_Md_isTogether_2 (by decide) (fun c1 => ?_) (fun c1 => ?_)
  · rw [if_pos c1] at hm
    refine z_lv (lv' := []) [] rfl ?_
    exact w_Md_isTogether_33 hAD C hr σ hm
  · rw [if_neg c1] at hm
    refine z_aload_n (pc := 5) C d_Md_isTogether_5 rfl 0 rfl ?_
    refine gM_Md_151 (pc := 6) C  d_Md_isTogether_6 ?_
    refine z_bipush (pc := 9) C d_Md_isTogether_9 kb_16 ?_
    refine z_iload_n (pc := 11) C d_Md_isTogether_11 rfl 1 rfl ?_
    refine z_imul (pc := 12) C d_Md_isTogether_12 ?_
    refine z_iload_n (pc := 13) C d_Md_isTogether_13 rfl 2 rfl ?_
    refine z_iadd (pc := 14) C d_Md_isTogether_14 ?_
    obtain ⟨g2, hm⟩ := gd_s hm
    refine alM_46 (pc := 15) (v := (ga σ 46 (((16 : Int32) * x1) + x2).toNatClampNeg)) C  rfl g2 d_Md_isTogether_15 ?_
    refine z_if_eq (pc := 16) (tgt := 37) C d_Md_isTogether_16 (by decide) (fun c3 => ?_) (fun c3 => ?_)
    · rw [if_pos c3] at hm
      refine z_lv (lv' := []) [] rfl ?_
      exact w_Md_isTogether_37 hAD C hr σ hm
    · rw [if_neg c3] at hm
      refine z_aload_n (pc := 19) C d_Md_isTogether_19 rfl 0 rfl ?_
      refine gM_Md_151 (pc := 20) C  d_Md_isTogether_20 ?_
      refine z_bipush (pc := 23) C d_Md_isTogether_23 kb_16 ?_
      refine z_iload_n (pc := 25) C d_Md_isTogether_25 rfl 2 rfl ?_
      refine z_imul (pc := 26) C d_Md_isTogether_26 ?_
      refine z_iload_n (pc := 27) C d_Md_isTogether_27 rfl 1 rfl ?_
      refine z_iadd (pc := 28) C d_Md_isTogether_28 ?_
      obtain ⟨g4, hm⟩ := gd_s hm
      refine alM_46 (pc := 29) (v := (ga σ 46 (((16 : Int32) * x2) + x1).toNatClampNeg)) C  rfl g4 d_Md_isTogether_29 ?_
      refine z_if_eq (pc := 30) (tgt := 37) C d_Md_isTogether_30 (by decide) (fun c5 => ?_) (fun c5 => ?_)
      · rw [if_pos c5] at hm
        refine z_lv (lv' := []) [] rfl ?_
        exact w_Md_isTogether_37 hAD C hr σ hm
      · rw [if_neg c5] at hm
        refine z_lv (lv' := []) [] rfl ?_
        exact w_Md_isTogether_33 hAD C hr σ hm
set_option maxHeartbeats 4000000 in
set_option maxRecDepth 100000 in
theorem w_Md_canCome_69 {D : va_G} {ad : Nat → Nat} {cA : Nat → ClassId} {p : Program} {l : Launch} {e : Env} {s : State} {m : MethodId} {args : Array Value} {below : List Frame} {meth : Method} {c : Code} {F : Nat} (hAD : ∀ σ, va_D (owM ad) (wdM ad cA σ)) (C : CM D ad cA xTr p s m args meth c bc_Md_canCome "KindRoundsModel" 4) (hr : meth.sig.returnType = some .boolean) {r : Int32} {σ' : zS} (rc2 : zS → Int32 → Int32 → Option (Int32 × zS)) (h2 : ∀ σ x1 x2, rc2 σ x1 x2 = some (r, σ') → ZM D ad cA p l e (rmK 1) s m args below meth c 4 (qiM D ad cA below args s r σ') 2 [(0, .ref (ad 0)), (1, .int x1), (2, .int x2)] [] σ) (σ : zS) (x1 : Int32) (x2 : Int32) (hm : Md_canCome_69 F rc2 σ x1 x2 = some (r, σ')) : ZM D ad cA p l e (rmK 1) s m args below meth c 4 (qiM D ad cA below args s r σ') 69 [(0, .ref (ad 0)), (1, .int x1), (2, .int x2)] [] σ := by
  unfold Md_canCome_69 at hm
  refine z_iinc (pc := 69) (lv' := [(0, .ref (ad 0)), (1, .int x1), (2, .int (x2 + (1 : Int32)))]) C d_Md_canCome_69 2 rfl (ii ki_1) (Nat.le_of_ble_eq_true rfl) [1, 2, 0] rfl ?_
  refine z_goto (pc := 72) (tgt := 2) C d_Md_canCome_72 (by decide) ?_
  exact h2 σ x1 (x2 + (1 : Int32)) hm
set_option maxHeartbeats 4000000 in
set_option maxRecDepth 100000 in
theorem w_Md_canCome_63 {D : va_G} {ad : Nat → Nat} {cA : Nat → ClassId} {p : Program} {l : Launch} {e : Env} {s : State} {m : MethodId} {args : Array Value} {below : List Frame} {meth : Method} {c : Code} {F : Nat} (hAD : ∀ σ, va_D (owM ad) (wdM ad cA σ)) (C : CM D ad cA xTr p s m args meth c bc_Md_canCome "KindRoundsModel" 4) (hr : meth.sig.returnType = some .boolean) {r : Int32} {σ' : zS} (rc2 : zS → Int32 → Int32 → Option (Int32 × zS)) (rc12 : zS → Int32 → Int32 → Int32 → Option (Int32 × zS)) (h2 : ∀ σ x1 x2, rc2 σ x1 x2 = some (r, σ') → ZM D ad cA p l e (rmK 1) s m args below meth c 4 (qiM D ad cA below args s r σ') 2 [(0, .ref (ad 0)), (1, .int x1), (2, .int x2)] [] σ) (h12 : ∀ σ x1 x2 x3, rc12 σ x1 x2 x3 = some (r, σ') → ZM D ad cA p l e (rmK 1) s m args below meth c 4 (qiM D ad cA below args s r σ') 12 [(0, .ref (ad 0)), (1, .int x1), (2, .int x2), (3, .int x3)] [] σ) (σ : zS) (x1 : Int32) (x2 : Int32) (x3 : Int32) (hm : Md_canCome_63 F rc2 rc12 σ x1 x2 x3 = some (r, σ')) : ZM D ad cA p l e (rmK 1) s m args below meth c 4 (qiM D ad cA below args s r σ') 63 [(0, .ref (ad 0)), (1, .int x1), (2, .int x2), (3, .int x3)] [] σ := by
  unfold Md_canCome_63 at hm
  refine z_iinc (pc := 63) (lv' := [(0, .ref (ad 0)), (1, .int x1), (2, .int x2), (3, .int (x3 + (1 : Int32)))]) C d_Md_canCome_63 3 rfl (ii ki_1) (Nat.le_of_ble_eq_true rfl) [1, 2, 3, 0] rfl ?_
  refine z_goto (pc := 66) (tgt := 12) C d_Md_canCome_66 (by decide) ?_
  exact h12 σ x1 x2 (x3 + (1 : Int32)) hm
set_option maxHeartbeats 4000000 in
set_option maxRecDepth 100000 in
theorem w_Md_canCome_12 {D : va_G} {ad : Nat → Nat} {cA : Nat → ClassId} {p : Program} {l : Launch} {e : Env} {s : State} {m : MethodId} {args : Array Value} {below : List Frame} {meth : Method} {c : Code} {F : Nat} (hAD : ∀ σ, va_D (owM ad) (wdM ad cA σ)) (C : CM D ad cA xTr p s m args meth c bc_Md_canCome "KindRoundsModel" 4) (hr : meth.sig.returnType = some .boolean) {r : Int32} {σ' : zS} (rc2 : zS → Int32 → Int32 → Option (Int32 × zS)) (h2 : ∀ σ x1 x2, rc2 σ x1 x2 = some (r, σ') → ZM D ad cA p l e (rmK 1) s m args below meth c 4 (qiM D ad cA below args s r σ') 2 [(0, .ref (ad 0)), (1, .int x1), (2, .int x2)] [] σ) : ∀ (n : Nat) (σ : zS) (x1 : Int32) (x2 : Int32) (x3 : Int32), Md_canCome_12 F rc2 n σ x1 x2 x3 = some (r, σ') → ZM D ad cA p l e (rmK 1) s m args below meth c 4 (qiM D ad cA below args s r σ') 12 [(0, .ref (ad 0)), (1, .int x1), (2, .int x2), (3, .int x3)] [] σ := by
  intro n
  induction n with
  | zero => intro σ x1 x2 x3 hm; cases hm
  | succ n h12 =>
    intro σ x1 x2 x3 hm
    have hm : Md_canCome_b12 F rc2 (Md_canCome_12 F rc2 n) σ x1 x2 x3 = some (r, σ') := hm
    unfold Md_canCome_b12 at hm
    refine z_iload_n (pc := 12) C d_Md_canCome_12 rfl 3 rfl ?_
    refine z_aload_n (pc := 13) C d_Md_canCome_13 rfl 0 rfl ?_
    refine gM_Md_364 (pc := 14) (v := (gi σ 52)) C rfl d_Md_canCome_14 ?_
    refine z_icmp_ge (pc := 17) (tgt := 69) C d_Md_canCome_17 (by decide) (fun c1 => ?_) (fun c1 => ?_)
    · rw [if_pos c1] at hm
      refine z_lv (lv' := [(0, .ref (ad 0)), (1, .int x1), (2, .int x2)]) [0, 1, 2] rfl ?_
      exact w_Md_canCome_69 hAD C hr _ h2 σ x1 x2 hm
    · rw [if_neg c1] at hm
      refine z_aload_n (pc := 20) C d_Md_canCome_20 rfl 0 rfl ?_
      refine z_iload_n (pc := 21) C d_Md_canCome_21 rfl 1 rfl ?_
      refine z_iload_n (pc := 22) C d_Md_canCome_22 rfl 2 rfl ?_
      obtain ⟨r3, σ2, e4, hm⟩ := bi_s hm
      refine z_callI (pc := 23) C (k_Md_isTogether hAD e4) kz_Md_isTogether mM_115 rfl rfl oM_0 rfl (kR_of (Nat.le_of_ble_eq_true rfl) (Nat.le_of_ble_eq_true rfl)) rfl (Nat.le_of_ble_eq_true rfl) d_Md_canCome_23 ?_
      refine z_if_eq (pc := 26) (tgt := 69) C d_Md_canCome_26 (by decide) (fun c5 => ?_) (fun c5 => ?_)
      · rw [if_pos c5] at hm
        refine z_lv (lv' := [(0, .ref (ad 0)), (1, .int x1), (2, .int x2)]) [0, 1, 2] rfl ?_
        exact w_Md_canCome_69 hAD C hr _ h2 σ2 x1 x2 hm
      · rw [if_neg c5] at hm
        refine z_aload_n (pc := 29) C d_Md_canCome_29 rfl 0 rfl ?_
        refine gM_Md_151 (pc := 30) C  d_Md_canCome_30 ?_
        refine z_bipush (pc := 33) C d_Md_canCome_33 kb_16 ?_
        refine z_iload_n (pc := 35) C d_Md_canCome_35 rfl 2 rfl ?_
        refine z_imul (pc := 36) C d_Md_canCome_36 ?_
        refine z_iload_n (pc := 37) C d_Md_canCome_37 rfl 3 rfl ?_
        refine z_iadd (pc := 38) C d_Md_canCome_38 ?_
        obtain ⟨g6, hm⟩ := gd_s hm
        refine alM_46 (pc := 39) (v := (ga σ2 46 (((16 : Int32) * x2) + x3).toNatClampNeg)) C  rfl g6 d_Md_canCome_39 ?_
        refine z_if_eq (pc := 40) (tgt := 63) C d_Md_canCome_40 (by decide) (fun c7 => ?_) (fun c7 => ?_)
        · rw [if_pos c7] at hm
          exact w_Md_canCome_63 hAD C hr _ _ h2 h12 σ2 x1 x2 x3 hm
        · rw [if_neg c7] at hm
          refine z_aload_n (pc := 43) C d_Md_canCome_43 rfl 0 rfl ?_
          refine gM_Md_157 (pc := 44) C  d_Md_canCome_44 ?_
          refine z_iload_n (pc := 47) C d_Md_canCome_47 rfl 3 rfl ?_
          obtain ⟨g8, hm⟩ := gd_s hm
          refine alM_48 (pc := 48) (v := (ga σ2 48 x3.toNatClampNeg)) C  rfl g8 d_Md_canCome_48 ?_
          refine z_if_ge (pc := 49) (tgt := 63) C d_Md_canCome_49 (by decide) (fun c9 => ?_) (fun c9 => ?_)
          · rw [if_pos c9] at hm
            exact w_Md_canCome_63 hAD C hr _ _ h2 h12 σ2 x1 x2 x3 hm
          · rw [if_neg c9] at hm
            refine z_aload_n (pc := 52) C d_Md_canCome_52 rfl 0 rfl ?_
            refine z_iload_n (pc := 53) C d_Md_canCome_53 rfl 1 rfl ?_
            refine z_iload_n (pc := 54) C d_Md_canCome_54 rfl 3 rfl ?_
            obtain ⟨r11, σ10, e12, hm⟩ := bi_s hm
            refine z_callI (pc := 55) C (k_Md_isTogether hAD e12) kz_Md_isTogether mM_115 rfl rfl oM_0 rfl (kR_of (Nat.le_of_ble_eq_true rfl) (Nat.le_of_ble_eq_true rfl)) rfl (Nat.le_of_ble_eq_true rfl) d_Md_canCome_55 ?_
            refine z_if_ne (pc := 58) (tgt := 63) C d_Md_canCome_58 (by decide) (fun c13 => ?_) (fun c13 => ?_)
            · rw [if_neg c13] at hm
              exact w_Md_canCome_63 hAD C hr _ _ h2 h12 σ10 x1 x2 x3 hm
            · rw [if_pos c13] at hm
              refine z_iconst (pc := 61) C d_Md_canCome_61 ki_0 ?_
              exact z_zretE (pc := 62) C hr (by decide) hm d_Md_canCome_62
set_option maxHeartbeats 4000000 in
set_option maxRecDepth 100000 in
theorem w_Md_canCome_2 {D : va_G} {ad : Nat → Nat} {cA : Nat → ClassId} {p : Program} {l : Launch} {e : Env} {s : State} {m : MethodId} {args : Array Value} {below : List Frame} {meth : Method} {c : Code} {F : Nat} (hAD : ∀ σ, va_D (owM ad) (wdM ad cA σ)) (C : CM D ad cA xTr p s m args meth c bc_Md_canCome "KindRoundsModel" 4) (hr : meth.sig.returnType = some .boolean) {r : Int32} {σ' : zS} : ∀ (n : Nat) (σ : zS) (x1 : Int32) (x2 : Int32), Md_canCome_2 F n σ x1 x2 = some (r, σ') → ZM D ad cA p l e (rmK 1) s m args below meth c 4 (qiM D ad cA below args s r σ') 2 [(0, .ref (ad 0)), (1, .int x1), (2, .int x2)] [] σ := by
  intro n
  induction n with
  | zero => intro σ x1 x2 hm; cases hm
  | succ n h2 =>
    intro σ x1 x2 hm
    have hm : Md_canCome_b2 F (Md_canCome_2 F n) σ x1 x2 = some (r, σ') := hm
    unfold Md_canCome_b2 at hm
    refine z_iload_n (pc := 2) C d_Md_canCome_2 rfl 2 rfl ?_
    refine z_aload_n (pc := 3) C d_Md_canCome_3 rfl 0 rfl ?_
    refine gM_Md_364 (pc := 4) (v := (gi σ 52)) C rfl d_Md_canCome_4 ?_
    refine z_icmp_ge (pc := 7) (tgt := 75) C d_Md_canCome_7 (by decide) (fun c1 => ?_) (fun c1 => ?_)
    · rw [if_pos c1] at hm
      refine z_iconst (pc := 75) C d_Md_canCome_75 ki_1 ?_
      exact z_zretE (pc := 76) C hr (by decide) hm d_Md_canCome_76
    · rw [if_neg c1] at hm
      refine z_iconst (pc := 10) C d_Md_canCome_10 ki_0 ?_
      refine z_istore_n (pc := 11) (lv' := [(0, .ref (ad 0)), (1, .int x1), (2, .int x2), (3, .int (0 : Int32))]) C d_Md_canCome_11 rfl (Nat.le_of_ble_eq_true rfl) [1, 2, 3, 0] rfl ?_
      exact w_Md_canCome_12 hAD C hr _ h2 F σ x1 x2 (0 : Int32) hm
set_option maxHeartbeats 4000000 in
set_option maxRecDepth 100000 in
theorem k_Md_canCome {l : Launch} {D : va_G} {ad : Nat → Nat} {cA : Nat → ClassId} {F : Nat} (hAD : ∀ σ, va_D (owM ad) (wdM ad cA σ)) {σ : zS} {x1 : Int32} {r : Int32} {σ' : zS} (hm : Md_canCome F σ x1 = some (r, σ')) : kIM l D ad cA xTr y_Md_canCome bc_Md_canCome 4 .boolean 1 [.ref (ad 0), .int x1] σ r σ' := by
  refine kI_of (by decide) hAD xTr_P (Nat.le_of_ble_eq_true rfl) ?_
  intro p e s m below meth c C hr
  unfold Md_canCome at hm
  refine z_lv (lv' := [(0, .ref (ad 0)), (1, .int x1)]) [0, 1] rfl ?_
  refine z_iconst (pc := 0) C d_Md_canCome_0 ki_0 ?_
  refine z_istore_n (pc := 1) (lv' := [(0, .ref (ad 0)), (1, .int x1), (2, .int (0 : Int32))]) C d_Md_canCome_1 rfl (Nat.le_of_ble_eq_true rfl) [1, 2, 0] rfl ?_
  exact w_Md_canCome_2 hAD C hr F σ x1 (0 : Int32) hm
set_option maxHeartbeats 4000000 in
set_option maxRecDepth 100000 in
theorem w_Md_unmark_2 {D : va_G} {ad : Nat → Nat} {cA : Nat → ClassId} {p : Program} {l : Launch} {e : Env} {s : State} {m : MethodId} {args : Array Value} {below : List Frame} {meth : Method} {c : Code} {F : Nat} (hAD : ∀ σ, va_D (owM ad) (wdM ad cA σ)) (C : CM D ad cA xTr p s m args meth c bc_Md_unmark "KindRoundsModel" 2) (hr : meth.sig.returnType = none) {σ' : zS} : ∀ (n : Nat) (σ : zS) (x1 : Int32), Md_unmark_2 F n σ x1 = some σ' → ZM D ad cA p l e (rmK 0) s m args below meth c 2 (qvM D ad cA below args s σ') 2 [(0, .ref (ad 0)), (1, .int x1)] [] σ := by
  intro n
  induction n with
  | zero => intro σ x1 hm; cases hm
  | succ n h2 =>
    intro σ x1 hm
    have hm : Md_unmark_b2 F (Md_unmark_2 F n) σ x1 = some σ' := hm
    unfold Md_unmark_b2 at hm
    refine z_iload_n (pc := 2) C d_Md_unmark_2 rfl 1 rfl ?_
    refine z_aload_n (pc := 3) C d_Md_unmark_3 rfl 0 rfl ?_
    refine gM_Md_209 (pc := 4) (v := (gi σ 48)) C rfl d_Md_unmark_4 ?_
    refine z_icmp_ge (pc := 7) (tgt := 23) C d_Md_unmark_7 (by decide) (fun c1 => ?_) (fun c1 => ?_)
    · rw [if_pos c1] at hm
      exact z_vretE (pc := 23) C hr hm d_Md_unmark_23
    · rw [if_neg c1] at hm
      refine z_aload_n (pc := 10) C d_Md_unmark_10 rfl 0 rfl ?_
      refine gM_Md_175 (pc := 11) C  d_Md_unmark_11 ?_
      refine z_iload_n (pc := 14) C d_Md_unmark_14 rfl 1 rfl ?_
      refine z_iconst (pc := 15) C d_Md_unmark_15 ki_0 ?_
      obtain ⟨g2, hm⟩ := gd_s hm
      refine asM_54 (pc := 16) C  g2 d_Md_unmark_16 ?_
      refine z_iinc (pc := 17) (lv' := [(0, .ref (ad 0)), (1, .int (x1 + (1 : Int32)))]) C d_Md_unmark_17 1 rfl (ii ki_1) (Nat.le_of_ble_eq_true rfl) [1, 0] rfl ?_
      refine z_goto (pc := 20) (tgt := 2) C d_Md_unmark_20 (by decide) ?_
      exact h2 (sa σ 54 x1.toNatClampNeg (0 : Int32)) (x1 + (1 : Int32)) hm
set_option maxHeartbeats 4000000 in
set_option maxRecDepth 100000 in
theorem k_Md_unmark {l : Launch} {D : va_G} {ad : Nat → Nat} {cA : Nat → ClassId} {F : Nat} (hAD : ∀ σ, va_D (owM ad) (wdM ad cA σ)) {σ : zS} {σ' : zS} (hm : Md_unmark F σ = some σ') : kVM l D ad cA xTr y_Md_unmark bc_Md_unmark 2 0 [.ref (ad 0)] σ σ' := by
  refine kV_of (by decide) hAD xTr_P (Nat.le_of_ble_eq_true rfl) ?_
  intro p e s m below meth c C hr
  unfold Md_unmark at hm
  refine z_lv (lv' := [(0, .ref (ad 0))]) [0] rfl ?_
  refine z_iconst (pc := 0) C d_Md_unmark_0 ki_0 ?_
  refine z_istore_n (pc := 1) (lv' := [(0, .ref (ad 0)), (1, .int (0 : Int32))]) C d_Md_unmark_1 rfl (Nat.le_of_ble_eq_true rfl) [1, 0] rfl ?_
  exact w_Md_unmark_2 hAD C hr F σ (0 : Int32) hm
set_option maxHeartbeats 4000000 in
set_option maxRecDepth 100000 in
theorem w_Md_hasOpen_90 {D : va_G} {ad : Nat → Nat} {cA : Nat → ClassId} {p : Program} {l : Launch} {e : Env} {s : State} {m : MethodId} {args : Array Value} {below : List Frame} {meth : Method} {c : Code} {F : Nat} (hAD : ∀ σ, va_D (owM ad) (wdM ad cA σ)) (C : CM D ad cA xTr p s m args meth c bc_Md_hasOpen "KindRoundsModel" 4) (hr : meth.sig.returnType = some .boolean) {r : Int32} {σ' : zS} (rc13 : zS → Int32 → Option (Int32 × zS)) (h13 : ∀ σ x2, rc13 σ x2 = some (r, σ') → ZM D ad cA p l e (rmK 1) s m args below meth c 4 (qiM D ad cA below args s r σ') 13 [(0, .ref (ad 0)), (2, .int x2)] [] σ) (σ : zS) (x2 : Int32) (x3 : Int32) (hm : Md_hasOpen_90 F rc13 σ x2 x3 = some (r, σ')) : ZM D ad cA p l e (rmK 1) s m args below meth c 4 (qiM D ad cA below args s r σ') 90 [(0, .ref (ad 0)), (2, .int x2), (3, .int x3)] [] σ := by
  unfold Md_hasOpen_90 at hm
  refine z_aload_n (pc := 90) C d_Md_hasOpen_90 rfl 0 rfl ?_
  refine gM_Md_175 (pc := 91) C  d_Md_hasOpen_91 ?_
  refine z_iload_n (pc := 94) C d_Md_hasOpen_94 rfl 2 rfl ?_
  refine z_iconst (pc := 95) C d_Md_hasOpen_95 ki_1 ?_
  obtain ⟨g1, hm⟩ := gd_s hm
  refine asM_54 (pc := 96) C  g1 d_Md_hasOpen_96 ?_
  refine z_goto (pc := 97) (tgt := 13) C d_Md_hasOpen_97 (by decide) ?_
  refine z_lv (lv' := [(0, .ref (ad 0)), (2, .int x2)]) [0, 1] rfl ?_
  exact h13 (sa σ 54 x3.toNatClampNeg (1 : Int32)) x2 hm
set_option maxHeartbeats 4000000 in
set_option maxRecDepth 100000 in
theorem w_Md_hasOpen_13 {D : va_G} {ad : Nat → Nat} {cA : Nat → ClassId} {p : Program} {l : Launch} {e : Env} {s : State} {m : MethodId} {args : Array Value} {below : List Frame} {meth : Method} {c : Code} {F : Nat} (hAD : ∀ σ, va_D (owM ad) (wdM ad cA σ)) (C : CM D ad cA xTr p s m args meth c bc_Md_hasOpen "KindRoundsModel" 4) (hr : meth.sig.returnType = some .boolean) {r : Int32} {σ' : zS} : ∀ (n : Nat) (σ : zS) (x2 : Int32), Md_hasOpen_13 F n σ x2 = some (r, σ') → ZM D ad cA p l e (rmK 1) s m args below meth c 4 (qiM D ad cA below args s r σ') 13 [(0, .ref (ad 0)), (2, .int x2)] [] σ := by
  intro n
  induction n with
  | zero => intro σ x2 hm; cases hm
  | succ n h13 =>
    intro σ x2 hm
    have hm : Md_hasOpen_b13 F (Md_hasOpen_13 F n) σ x2 = some (r, σ') := hm
    unfold Md_hasOpen_b13 at hm
    refine z_iload_n (pc := 13) C d_Md_hasOpen_13 rfl 1 rfl ?_
    refine z_if_le (pc := 14) (tgt := 100) C d_Md_hasOpen_14 (by decide) (fun c1 => ?_) (fun c1 => ?_)
    · rw [if_pos c1] at hm
      refine z_iconst (pc := 100) C d_Md_hasOpen_100 ki_0 ?_
      exact z_zretE (pc := 101) C hr (by decide) hm d_Md_hasOpen_101
    · rw [if_neg c1] at hm
      refine z_iinc (pc := 17) (lv' := [(0, .ref (ad 0)), (2, .int (x2 + (-1 : Int32)))]) C d_Md_hasOpen_17 1 rfl (ii ki_m1) (Nat.le_of_ble_eq_true rfl) [1, 0] rfl ?_
      refine z_aload_n (pc := 20) C d_Md_hasOpen_20 rfl 0 rfl ?_
      refine z_aload_n (pc := 21) C d_Md_hasOpen_21 rfl 0 rfl ?_
      refine gM_Md_172 (pc := 22) C  d_Md_hasOpen_22 ?_
      refine z_iload_n (pc := 25) C d_Md_hasOpen_25 rfl 1 rfl ?_
      obtain ⟨g2, hm⟩ := gd_s hm
      refine alM_53 (pc := 26) (v := (ga σ 53 (x2 + (-1 : Int32)).toNatClampNeg)) C  rfl g2 d_Md_hasOpen_26 ?_
      obtain ⟨r4, σ3, e5, hm⟩ := bi_s hm
      refine z_callI (pc := 27) C (k_Md_top hAD e5) kz_Md_top mM_140 rfl rfl oM_0 rfl (kR_of (Nat.le_of_ble_eq_true rfl) (Nat.le_of_ble_eq_true rfl)) rfl (Nat.le_of_ble_eq_true rfl) d_Md_hasOpen_27 ?_
      refine z_istore_n (pc := 30) (lv' := [(0, .ref (ad 0)), (2, .int (x2 + (-1 : Int32))), (3, .int r4)]) C d_Md_hasOpen_30 rfl (Nat.le_of_ble_eq_true rfl) [1, 2, 0] rfl ?_
      refine z_aload_n (pc := 31) C d_Md_hasOpen_31 rfl 0 rfl ?_
      refine gM_Md_91 (pc := 32) C  d_Md_hasOpen_32 ?_
      refine z_iload_n (pc := 35) C d_Md_hasOpen_35 rfl 2 rfl ?_
      obtain ⟨g6, hm⟩ := gd_s hm
      refine alM_26 (pc := 36) (v := (ga σ3 26 r4.toNatClampNeg)) C  rfl g6 d_Md_hasOpen_36 ?_
      refine z_if_ne (pc := 37) (tgt := 42) C d_Md_hasOpen_37 (by decide) (fun c7 => ?_) (fun c7 => ?_)
      · rw [if_neg c7] at hm
        refine z_aload_n (pc := 42) C d_Md_hasOpen_42 rfl 0 rfl ?_
        refine gM_Md_91 (pc := 43) C  d_Md_hasOpen_43 ?_
        refine z_iload_n (pc := 46) C d_Md_hasOpen_46 rfl 2 rfl ?_
        refine alM_26 (pc := 47) (v := (ga σ3 26 r4.toNatClampNeg)) C  rfl g6 d_Md_hasOpen_47 ?_
        refine z_iconst (pc := 48) C d_Md_hasOpen_48 ki_2 ?_
        refine z_icmp_ne (pc := 49) (tgt := 90) C d_Md_hasOpen_49 (by decide) (fun c8 => ?_) (fun c8 => ?_)
        · rw [if_neg c8] at hm
          exact w_Md_hasOpen_90 hAD C hr _ h13 σ3 (x2 + (-1 : Int32)) r4 hm
        · rw [if_pos c8] at hm
          refine z_aload_n (pc := 52) C d_Md_hasOpen_52 rfl 0 rfl ?_
          refine gM_Md_175 (pc := 53) C  d_Md_hasOpen_53 ?_
          refine z_iload_n (pc := 56) C d_Md_hasOpen_56 rfl 2 rfl ?_
          refine alM_54 (pc := 57) (v := (ga σ3 54 r4.toNatClampNeg)) C  rfl g6 d_Md_hasOpen_57 ?_
          refine z_if_ne (pc := 58) (tgt := 90) C d_Md_hasOpen_58 (by decide) (fun c9 => ?_) (fun c9 => ?_)
          · rw [if_neg c9] at hm
            exact w_Md_hasOpen_90 hAD C hr _ h13 σ3 (x2 + (-1 : Int32)) r4 hm
          · rw [if_pos c9] at hm
            refine z_aload_n (pc := 61) C d_Md_hasOpen_61 rfl 0 rfl ?_
            refine gM_Md_172 (pc := 62) C  d_Md_hasOpen_62 ?_
            refine z_iload_n (pc := 65) C d_Md_hasOpen_65 rfl 1 rfl ?_
            refine z_aload_n (pc := 66) C d_Md_hasOpen_66 rfl 0 rfl ?_
            refine gM_Md_97 (pc := 67) C  d_Md_hasOpen_67 ?_
            refine z_iload_n (pc := 70) C d_Md_hasOpen_70 rfl 2 rfl ?_
            refine alM_28 (pc := 71) (v := (ga σ3 28 r4.toNatClampNeg)) C  rfl g6 d_Md_hasOpen_71 ?_
            refine asM_53 (pc := 72) C  g2 d_Md_hasOpen_72 ?_
            refine z_aload_n (pc := 73) C d_Md_hasOpen_73 rfl 0 rfl ?_
            refine gM_Md_172 (pc := 74) C  d_Md_hasOpen_74 ?_
            refine z_iload_n (pc := 77) C d_Md_hasOpen_77 rfl 1 rfl ?_
            refine z_iconst (pc := 78) C d_Md_hasOpen_78 ki_1 ?_
            refine z_iadd (pc := 79) C d_Md_hasOpen_79 ?_
            refine z_aload_n (pc := 80) C d_Md_hasOpen_80 rfl 0 rfl ?_
            refine gM_Md_94 (pc := 81) C  d_Md_hasOpen_81 ?_
            refine z_iload_n (pc := 84) C d_Md_hasOpen_84 rfl 2 rfl ?_
            refine alM_27 (pc := 85) (v := (ga σ3 27 r4.toNatClampNeg)) C  rfl g6 d_Md_hasOpen_85 ?_
            obtain ⟨g10, hm⟩ := gd_s hm
            refine asM_53 (pc := 86) C  g10 d_Md_hasOpen_86 ?_
            refine z_iinc (pc := 87) (lv' := [(0, .ref (ad 0)), (2, .int ((x2 + (-1 : Int32)) + (2 : Int32))), (3, .int r4)]) C d_Md_hasOpen_87 1 rfl (ii ki_2) (Nat.le_of_ble_eq_true rfl) [1, 0, 2] rfl ?_
            exact w_Md_hasOpen_90 hAD C hr _ h13 (sa (sa σ3 53 (x2 + (-1 : Int32)).toNatClampNeg (ga σ3 28 r4.toNatClampNeg)) 53 ((x2 + (-1 : Int32)) + (1 : Int32)).toNatClampNeg (ga σ3 27 r4.toNatClampNeg)) ((x2 + (-1 : Int32)) + (2 : Int32)) r4 hm
      · rw [if_pos c7] at hm
        refine z_iconst (pc := 40) C d_Md_hasOpen_40 ki_1 ?_
        exact z_zretE (pc := 41) C hr (by decide) hm d_Md_hasOpen_41
set_option maxHeartbeats 4000000 in
set_option maxRecDepth 100000 in
theorem k_Md_hasOpen {l : Launch} {D : va_G} {ad : Nat → Nat} {cA : Nat → ClassId} {F : Nat} (hAD : ∀ σ, va_D (owM ad) (wdM ad cA σ)) {σ : zS} {x1 : Int32} {r : Int32} {σ' : zS} (hm : Md_hasOpen F σ x1 = some (r, σ')) : kIM l D ad cA xTr y_Md_hasOpen bc_Md_hasOpen 4 .boolean 1 [.ref (ad 0), .int x1] σ r σ' := by
  refine kI_of (by decide) hAD xTr_P (Nat.le_of_ble_eq_true rfl) ?_
  intro p e s m below meth c C hr
  unfold Md_hasOpen at hm
  refine z_lv (lv' := [(0, .ref (ad 0)), (1, .int x1)]) [0, 1] rfl ?_
  refine z_aload_n (pc := 0) C d_Md_hasOpen_0 rfl 0 rfl ?_
  obtain ⟨σ1, e2, hm⟩ := bv_s hm
  refine z_callV (pc := 1) C (k_Md_unmark hAD e2) kz_Md_unmark mM_143 rfl rfl oM_0 rfl (kR_of (Nat.le_of_ble_eq_true rfl) (Nat.le_of_ble_eq_true rfl)) rfl (Nat.le_of_ble_eq_true rfl) d_Md_hasOpen_1 ?_
  refine z_iconst (pc := 4) C d_Md_hasOpen_4 ki_1 ?_
  refine z_istore_n (pc := 5) (lv' := [(0, .ref (ad 0)), (1, .int x1), (2, .int (1 : Int32))]) C d_Md_hasOpen_5 rfl (Nat.le_of_ble_eq_true rfl) [1, 2, 0] rfl ?_
  refine z_aload_n (pc := 6) C d_Md_hasOpen_6 rfl 0 rfl ?_
  refine gM_Md_172 (pc := 7) C  d_Md_hasOpen_7 ?_
  refine z_iconst (pc := 10) C d_Md_hasOpen_10 ki_0 ?_
  refine z_iload_n (pc := 11) C d_Md_hasOpen_11 rfl 1 rfl ?_
  obtain ⟨g3, hm⟩ := gd_s hm
  refine asM_53 (pc := 12) C  g3 d_Md_hasOpen_12 ?_
  refine z_lv (lv' := [(0, .ref (ad 0)), (2, .int (1 : Int32))]) [0, 2] rfl ?_
  exact w_Md_hasOpen_13 hAD C hr F (sa σ1 53 (0 : Int32).toNatClampNeg x1) (1 : Int32) hm
set_option maxHeartbeats 4000000 in
set_option maxRecDepth 100000 in
theorem w_Md_closeGroup_129 {D : va_G} {ad : Nat → Nat} {cA : Nat → ClassId} {p : Program} {l : Launch} {e : Env} {s : State} {m : MethodId} {args : Array Value} {below : List Frame} {meth : Method} {c : Code} {F : Nat} (hAD : ∀ σ, va_D (owM ad) (wdM ad cA σ)) (C : CM D ad cA xTr p s m args meth c bc_Md_closeGroup "KindRoundsModel" 4) (hr : meth.sig.returnType = none) {σ' : zS} (rc87 : zS → Int32 → Option zS) (h87 : ∀ σ x2, rc87 σ x2 = some σ' → ZM D ad cA p l e (rmK 2) s m args below meth c 4 (qvM D ad cA below args s σ') 87 [(0, .ref (ad 0)), (2, .int x2)] [] σ) (σ : zS) (x2 : Int32) (s1 : Int32) (s2 : Int32) (hm : Md_closeGroup_129 F rc87 σ x2 s1 s2 = some σ') : ZM D ad cA p l e (rmK 2) s m args below meth c 4 (qvM D ad cA below args s σ') 129 [(0, .ref (ad 0)), (2, .int x2)] [.int s2, .int s1, .ref (ad 26)] σ := by
  unfold Md_closeGroup_129 at hm
  obtain ⟨g1, hm⟩ := gd_s hm
  refine asM_26 (pc := 129) C  g1 d_Md_closeGroup_129 ?_
  refine z_iinc (pc := 130) (lv' := [(0, .ref (ad 0)), (2, .int (x2 + (1 : Int32)))]) C d_Md_closeGroup_130 1 rfl (ii ki_1) (Nat.le_of_ble_eq_true rfl) [1, 0] rfl ?_
  refine z_goto (pc := 133) (tgt := 87) C d_Md_closeGroup_133 (by decide) ?_
  exact h87 (sa σ 26 s1.toNatClampNeg s2) (x2 + (1 : Int32)) hm
set_option maxHeartbeats 4000000 in
set_option maxRecDepth 100000 in
theorem w_Md_closeGroup_123 {D : va_G} {ad : Nat → Nat} {cA : Nat → ClassId} {p : Program} {l : Launch} {e : Env} {s : State} {m : MethodId} {args : Array Value} {below : List Frame} {meth : Method} {c : Code} {F : Nat} (hAD : ∀ σ, va_D (owM ad) (wdM ad cA σ)) (C : CM D ad cA xTr p s m args meth c bc_Md_closeGroup "KindRoundsModel" 4) (hr : meth.sig.returnType = none) {σ' : zS} (rc87 : zS → Int32 → Option zS) (h87 : ∀ σ x2, rc87 σ x2 = some σ' → ZM D ad cA p l e (rmK 2) s m args below meth c 4 (qvM D ad cA below args s σ') 87 [(0, .ref (ad 0)), (2, .int x2)] [] σ) (σ : zS) (x2 : Int32) (s1 : Int32) (hm : Md_closeGroup_123 F rc87 σ x2 s1 = some σ') : ZM D ad cA p l e (rmK 2) s m args below meth c 4 (qvM D ad cA below args s σ') 123 [(0, .ref (ad 0)), (2, .int x2)] [.int s1, .ref (ad 26)] σ := by
  unfold Md_closeGroup_123 at hm
  refine z_aload_n (pc := 123) C d_Md_closeGroup_123 rfl 0 rfl ?_
  refine gM_Md_91 (pc := 124) C  d_Md_closeGroup_124 ?_
  refine z_iload_n (pc := 127) C d_Md_closeGroup_127 rfl 1 rfl ?_
  obtain ⟨g1, hm⟩ := gd_s hm
  refine alM_26 (pc := 128) (v := (ga σ 26 x2.toNatClampNeg)) C  rfl g1 d_Md_closeGroup_128 ?_
  exact w_Md_closeGroup_129 hAD C hr _ h87 σ x2 s1 (ga σ 26 x2.toNatClampNeg) hm
set_option maxHeartbeats 4000000 in
set_option maxRecDepth 100000 in
theorem w_Md_closeGroup_87 {D : va_G} {ad : Nat → Nat} {cA : Nat → ClassId} {p : Program} {l : Launch} {e : Env} {s : State} {m : MethodId} {args : Array Value} {below : List Frame} {meth : Method} {c : Code} {F : Nat} (hAD : ∀ σ, va_D (owM ad) (wdM ad cA σ)) (C : CM D ad cA xTr p s m args meth c bc_Md_closeGroup "KindRoundsModel" 4) (hr : meth.sig.returnType = none) {σ' : zS} : ∀ (n : Nat) (σ : zS) (x2 : Int32), Md_closeGroup_87 F n σ x2 = some σ' → ZM D ad cA p l e (rmK 2) s m args below meth c 4 (qvM D ad cA below args s σ') 87 [(0, .ref (ad 0)), (2, .int x2)] [] σ := by
  intro n
  induction n with
  | zero => intro σ x2 hm; cases hm
  | succ n h87 =>
    intro σ x2 hm
    have hm : Md_closeGroup_b87 F (Md_closeGroup_87 F n) σ x2 = some σ' := hm
    unfold Md_closeGroup_b87 at hm
    refine z_iload_n (pc := 87) C d_Md_closeGroup_87 rfl 1 rfl ?_
    refine z_aload_n (pc := 88) C d_Md_closeGroup_88 rfl 0 rfl ?_
    refine gM_Md_209 (pc := 89) (v := (gi σ 48)) C rfl d_Md_closeGroup_89 ?_
    refine z_icmp_ge (pc := 92) (tgt := 136) C d_Md_closeGroup_92 (by decide) (fun c1 => ?_) (fun c1 => ?_)
    · rw [if_pos c1] at hm
      exact z_vretE (pc := 136) C hr hm d_Md_closeGroup_136
    · rw [if_neg c1] at hm
      refine z_aload_n (pc := 95) C d_Md_closeGroup_95 rfl 0 rfl ?_
      refine gM_Md_91 (pc := 96) C  d_Md_closeGroup_96 ?_
      refine z_iload_n (pc := 99) C d_Md_closeGroup_99 rfl 1 rfl ?_
      refine z_aload_n (pc := 100) C d_Md_closeGroup_100 rfl 0 rfl ?_
      refine gM_Md_91 (pc := 101) C  d_Md_closeGroup_101 ?_
      refine z_iload_n (pc := 104) C d_Md_closeGroup_104 rfl 1 rfl ?_
      obtain ⟨g2, hm⟩ := gd_s hm
      refine alM_26 (pc := 105) (v := (ga σ 26 x2.toNatClampNeg)) C  rfl g2 d_Md_closeGroup_105 ?_
      refine z_if_ne (pc := 106) (tgt := 123) C d_Md_closeGroup_106 (by decide) (fun c3 => ?_) (fun c3 => ?_)
      · rw [if_neg c3] at hm
        exact w_Md_closeGroup_123 hAD C hr _ h87 σ x2 x2 hm
      · rw [if_pos c3] at hm
        refine z_aload_n (pc := 109) C d_Md_closeGroup_109 rfl 0 rfl ?_
        refine gM_Md_100 (pc := 110) C  d_Md_closeGroup_110 ?_
        refine z_iload_n (pc := 113) C d_Md_closeGroup_113 rfl 1 rfl ?_
        refine alM_29 (pc := 114) (v := (ga σ 29 x2.toNatClampNeg)) C  rfl g2 d_Md_closeGroup_114 ?_
        refine z_iload_n (pc := 115) C d_Md_closeGroup_115 rfl 1 rfl ?_
        refine z_icmp_ne (pc := 116) (tgt := 123) C d_Md_closeGroup_116 (by decide) (fun c4 => ?_) (fun c4 => ?_)
        · rw [if_neg c4] at hm
          exact w_Md_closeGroup_123 hAD C hr _ h87 σ x2 x2 hm
        · rw [if_pos c4] at hm
          refine z_iconst (pc := 119) C d_Md_closeGroup_119 ki_1 ?_
          refine z_goto (pc := 120) (tgt := 129) C d_Md_closeGroup_120 (by decide) ?_
          exact w_Md_closeGroup_129 hAD C hr _ h87 σ x2 x2 (1 : Int32) hm
set_option maxHeartbeats 4000000 in
set_option maxRecDepth 100000 in
theorem w_Md_closeGroup_79 {D : va_G} {ad : Nat → Nat} {cA : Nat → ClassId} {p : Program} {l : Launch} {e : Env} {s : State} {m : MethodId} {args : Array Value} {below : List Frame} {meth : Method} {c : Code} {F : Nat} (hAD : ∀ σ, va_D (owM ad) (wdM ad cA σ)) (C : CM D ad cA xTr p s m args meth c bc_Md_closeGroup "KindRoundsModel" 4) (hr : meth.sig.returnType = none) {σ' : zS} (rc2 : zS → Int32 → Int32 → Option zS) (h2 : ∀ σ x1 x2, rc2 σ x1 x2 = some σ' → ZM D ad cA p l e (rmK 2) s m args below meth c 4 (qvM D ad cA below args s σ') 2 [(0, .ref (ad 0)), (1, .int x1), (2, .int x2)] [] σ) (σ : zS) (x1 : Int32) (x2 : Int32) (hm : Md_closeGroup_79 F rc2 σ x1 x2 = some σ') : ZM D ad cA p l e (rmK 2) s m args below meth c 4 (qvM D ad cA below args s σ') 79 [(0, .ref (ad 0)), (1, .int x1), (2, .int x2)] [] σ := by
  unfold Md_closeGroup_79 at hm
  refine z_iinc (pc := 79) (lv' := [(0, .ref (ad 0)), (1, .int x1), (2, .int (x2 + (1 : Int32)))]) C d_Md_closeGroup_79 2 rfl (ii ki_1) (Nat.le_of_ble_eq_true rfl) [1, 2, 0] rfl ?_
  refine z_goto (pc := 82) (tgt := 2) C d_Md_closeGroup_82 (by decide) ?_
  exact h2 σ x1 (x2 + (1 : Int32)) hm
set_option maxHeartbeats 4000000 in
set_option maxRecDepth 100000 in
theorem w_Md_closeGroup_71 {D : va_G} {ad : Nat → Nat} {cA : Nat → ClassId} {p : Program} {l : Launch} {e : Env} {s : State} {m : MethodId} {args : Array Value} {below : List Frame} {meth : Method} {c : Code} {F : Nat} (hAD : ∀ σ, va_D (owM ad) (wdM ad cA σ)) (C : CM D ad cA xTr p s m args meth c bc_Md_closeGroup "KindRoundsModel" 4) (hr : meth.sig.returnType = none) {σ' : zS} (rc2 : zS → Int32 → Int32 → Option zS) (rc32 : zS → Int32 → Int32 → Int32 → Option zS) (h2 : ∀ σ x1 x2, rc2 σ x1 x2 = some σ' → ZM D ad cA p l e (rmK 2) s m args below meth c 4 (qvM D ad cA below args s σ') 2 [(0, .ref (ad 0)), (1, .int x1), (2, .int x2)] [] σ) (h32 : ∀ σ x1 x2 x3, rc32 σ x1 x2 x3 = some σ' → ZM D ad cA p l e (rmK 2) s m args below meth c 4 (qvM D ad cA below args s σ') 32 [(0, .ref (ad 0)), (1, .int x1), (2, .int x2), (3, .int x3)] [] σ) (σ : zS) (x1 : Int32) (x2 : Int32) (x3 : Int32) (s1 : Int32) (s2 : Int32) (s3 : Int32) (hm : Md_closeGroup_71 F rc2 rc32 σ x1 x2 x3 s1 s2 s3 = some σ') : ZM D ad cA p l e (rmK 2) s m args below meth c 4 (qvM D ad cA below args s σ') 71 [(0, .ref (ad 0)), (1, .int x1), (2, .int x2), (3, .int x3)] [.int s3, .int s2, .int s1, .ref (ad 52)] σ := by
  unfold Md_closeGroup_71 at hm
  refine z_iadd (pc := 71) C d_Md_closeGroup_71 ?_
  obtain ⟨g1, hm⟩ := gd_s hm
  refine asM_52 (pc := 72) C  g1 d_Md_closeGroup_72 ?_
  refine z_iinc (pc := 73) (lv' := [(0, .ref (ad 0)), (1, .int x1), (2, .int x2), (3, .int (x3 + (1 : Int32)))]) C d_Md_closeGroup_73 3 rfl (ii ki_1) (Nat.le_of_ble_eq_true rfl) [1, 2, 3, 0] rfl ?_
  refine z_goto (pc := 76) (tgt := 32) C d_Md_closeGroup_76 (by decide) ?_
  exact h32 (sa σ 52 s1.toNatClampNeg (s2 + s3)) x1 x2 (x3 + (1 : Int32)) hm
set_option maxHeartbeats 4000000 in
set_option maxRecDepth 100000 in
theorem w_Md_closeGroup_32 {D : va_G} {ad : Nat → Nat} {cA : Nat → ClassId} {p : Program} {l : Launch} {e : Env} {s : State} {m : MethodId} {args : Array Value} {below : List Frame} {meth : Method} {c : Code} {F : Nat} (hAD : ∀ σ, va_D (owM ad) (wdM ad cA σ)) (C : CM D ad cA xTr p s m args meth c bc_Md_closeGroup "KindRoundsModel" 4) (hr : meth.sig.returnType = none) {σ' : zS} (rc2 : zS → Int32 → Int32 → Option zS) (h2 : ∀ σ x1 x2, rc2 σ x1 x2 = some σ' → ZM D ad cA p l e (rmK 2) s m args below meth c 4 (qvM D ad cA below args s σ') 2 [(0, .ref (ad 0)), (1, .int x1), (2, .int x2)] [] σ) : ∀ (n : Nat) (σ : zS) (x1 : Int32) (x2 : Int32) (x3 : Int32), Md_closeGroup_32 F rc2 n σ x1 x2 x3 = some σ' → ZM D ad cA p l e (rmK 2) s m args below meth c 4 (qvM D ad cA below args s σ') 32 [(0, .ref (ad 0)), (1, .int x1), (2, .int x2), (3, .int x3)] [] σ := by
  intro n
  induction n with
  | zero => intro σ x1 x2 x3 hm; cases hm
  | succ n h32 =>
    intro σ x1 x2 x3 hm
    have hm : Md_closeGroup_b32 F rc2 (Md_closeGroup_32 F rc2 n) σ x1 x2 x3 = some σ' := hm
    unfold Md_closeGroup_b32 at hm
    refine z_iload_n (pc := 32) C d_Md_closeGroup_32 rfl 3 rfl ?_
    refine z_aload_n (pc := 33) C d_Md_closeGroup_33 rfl 0 rfl ?_
    refine gM_Md_121 (pc := 34) C  d_Md_closeGroup_34 ?_
    refine z_iload_n (pc := 37) C d_Md_closeGroup_37 rfl 2 rfl ?_
    obtain ⟨g1, hm⟩ := gd_s hm
    refine alM_36 (pc := 38) (v := (ga σ 36 x2.toNatClampNeg)) C  rfl g1 d_Md_closeGroup_38 ?_
    refine z_icmp_ge (pc := 39) (tgt := 79) C d_Md_closeGroup_39 (by decide) (fun c2 => ?_) (fun c2 => ?_)
    · rw [if_pos c2] at hm
      refine z_lv (lv' := [(0, .ref (ad 0)), (1, .int x1), (2, .int x2)]) [0, 1, 2] rfl ?_
      exact w_Md_closeGroup_79 hAD C hr _ h2 σ x1 x2 hm
    · rw [if_neg c2] at hm
      refine z_aload_n (pc := 42) C d_Md_closeGroup_42 rfl 0 rfl ?_
      refine gM_Md_169 (pc := 43) C  d_Md_closeGroup_43 ?_
      refine z_iload_n (pc := 46) C d_Md_closeGroup_46 rfl 2 rfl ?_
      refine z_dup2 (pc := 47) C d_Md_closeGroup_47 rfl rfl ?_
      obtain ⟨g3, hm⟩ := gd_s hm
      refine alM_52 (pc := 48) (v := (ga σ 52 x2.toNatClampNeg)) C  rfl g3 d_Md_closeGroup_48 ?_
      refine z_aload_n (pc := 49) C d_Md_closeGroup_49 rfl 0 rfl ?_
      refine z_aload_n (pc := 50) C d_Md_closeGroup_50 rfl 0 rfl ?_
      refine gM_Md_163 (pc := 51) C  d_Md_closeGroup_51 ?_
      refine z_iconst (pc := 54) C d_Md_closeGroup_54 ki_3 ?_
      refine z_iload_n (pc := 55) C d_Md_closeGroup_55 rfl 2 rfl ?_
      refine z_imul (pc := 56) C d_Md_closeGroup_56 ?_
      refine z_iload_n (pc := 57) C d_Md_closeGroup_57 rfl 3 rfl ?_
      refine z_iadd (pc := 58) C d_Md_closeGroup_58 ?_
      obtain ⟨g4, hm⟩ := gd_s hm
      refine alM_50 (pc := 59) (v := (ga σ 50 (((3 : Int32) * x2) + x3).toNatClampNeg)) C  rfl g4 d_Md_closeGroup_59 ?_
      obtain ⟨r6, σ5, e7, hm⟩ := bi_s hm
      refine z_callI (pc := 60) C (k_Md_hasOpen hAD e7) kz_Md_hasOpen mM_132 rfl rfl oM_0 rfl (kR_of (Nat.le_of_ble_eq_true rfl) (Nat.le_of_ble_eq_true rfl)) rfl (Nat.le_of_ble_eq_true rfl) d_Md_closeGroup_60 ?_
      refine z_if_eq (pc := 63) (tgt := 70) C d_Md_closeGroup_63 (by decide) (fun c8 => ?_) (fun c8 => ?_)
      · rw [if_pos c8] at hm
        refine z_iconst (pc := 70) C d_Md_closeGroup_70 ki_0 ?_
        exact w_Md_closeGroup_71 hAD C hr _ _ h2 h32 σ5 x1 x2 x3 x2 (ga σ 52 x2.toNatClampNeg) (0 : Int32) hm
      · rw [if_neg c8] at hm
        refine z_iconst (pc := 66) C d_Md_closeGroup_66 ki_1 ?_
        refine z_goto (pc := 67) (tgt := 71) C d_Md_closeGroup_67 (by decide) ?_
        exact w_Md_closeGroup_71 hAD C hr _ _ h2 h32 σ5 x1 x2 x3 x2 (ga σ 52 x2.toNatClampNeg) (1 : Int32) hm
set_option maxHeartbeats 4000000 in
set_option maxRecDepth 100000 in
theorem w_Md_closeGroup_2 {D : va_G} {ad : Nat → Nat} {cA : Nat → ClassId} {p : Program} {l : Launch} {e : Env} {s : State} {m : MethodId} {args : Array Value} {below : List Frame} {meth : Method} {c : Code} {F : Nat} (hAD : ∀ σ, va_D (owM ad) (wdM ad cA σ)) (C : CM D ad cA xTr p s m args meth c bc_Md_closeGroup "KindRoundsModel" 4) (hr : meth.sig.returnType = none) {σ' : zS} : ∀ (n : Nat) (σ : zS) (x1 : Int32) (x2 : Int32), Md_closeGroup_2 F n σ x1 x2 = some σ' → ZM D ad cA p l e (rmK 2) s m args below meth c 4 (qvM D ad cA below args s σ') 2 [(0, .ref (ad 0)), (1, .int x1), (2, .int x2)] [] σ := by
  intro n
  induction n with
  | zero => intro σ x1 x2 hm; cases hm
  | succ n h2 =>
    intro σ x1 x2 hm
    have hm : Md_closeGroup_b2 F (Md_closeGroup_2 F n) σ x1 x2 = some σ' := hm
    unfold Md_closeGroup_b2 at hm
    refine z_iload_n (pc := 2) C d_Md_closeGroup_2 rfl 2 rfl ?_
    refine z_aload_n (pc := 3) C d_Md_closeGroup_3 rfl 0 rfl ?_
    refine gM_Md_364 (pc := 4) (v := (gi σ 52)) C rfl d_Md_closeGroup_4 ?_
    refine z_icmp_ge (pc := 7) (tgt := 85) C d_Md_closeGroup_7 (by decide) (fun c1 => ?_) (fun c1 => ?_)
    · rw [if_pos c1] at hm
      refine z_iconst (pc := 85) C d_Md_closeGroup_85 ki_0 ?_
      refine z_istore_n (pc := 86) (lv' := [(0, .ref (ad 0)), (1, .int x1), (2, .int (0 : Int32))]) C d_Md_closeGroup_86 rfl (Nat.le_of_ble_eq_true rfl) [1, 2, 0] rfl ?_
      refine z_lv (lv' := [(0, .ref (ad 0)), (2, .int (0 : Int32))]) [0, 2] rfl ?_
      exact w_Md_closeGroup_87 hAD C hr F σ (0 : Int32) hm
    · rw [if_neg c1] at hm
      refine z_aload_n (pc := 10) C d_Md_closeGroup_10 rfl 0 rfl ?_
      refine gM_Md_157 (pc := 11) C  d_Md_closeGroup_11 ?_
      refine z_iload_n (pc := 14) C d_Md_closeGroup_14 rfl 2 rfl ?_
      obtain ⟨g2, hm⟩ := gd_s hm
      refine alM_48 (pc := 15) (v := (ga σ 48 x2.toNatClampNeg)) C  rfl g2 d_Md_closeGroup_15 ?_
      refine z_iload_n (pc := 16) C d_Md_closeGroup_16 rfl 1 rfl ?_
      refine z_icmp_eq (pc := 17) (tgt := 23) C d_Md_closeGroup_17 (by decide) (fun c3 => ?_) (fun c3 => ?_)
      · rw [if_pos c3] at hm
        refine z_aload_n (pc := 23) C d_Md_closeGroup_23 rfl 0 rfl ?_
        refine gM_Md_169 (pc := 24) C  d_Md_closeGroup_24 ?_
        refine z_iload_n (pc := 27) C d_Md_closeGroup_27 rfl 2 rfl ?_
        refine z_iconst (pc := 28) C d_Md_closeGroup_28 ki_0 ?_
        refine asM_52 (pc := 29) C  g2 d_Md_closeGroup_29 ?_
        refine z_iconst (pc := 30) C d_Md_closeGroup_30 ki_0 ?_
        refine z_istore_n (pc := 31) (lv' := [(0, .ref (ad 0)), (1, .int x1), (2, .int x2), (3, .int (0 : Int32))]) C d_Md_closeGroup_31 rfl (Nat.le_of_ble_eq_true rfl) [1, 2, 3, 0] rfl ?_
        exact w_Md_closeGroup_32 hAD C hr _ h2 F (sa σ 52 x2.toNatClampNeg (0 : Int32)) x1 x2 (0 : Int32) hm
      · rw [if_neg c3] at hm
        refine z_goto (pc := 20) (tgt := 79) C d_Md_closeGroup_20 (by decide) ?_
        exact w_Md_closeGroup_79 hAD C hr _ h2 σ x1 x2 hm
set_option maxHeartbeats 4000000 in
set_option maxRecDepth 100000 in
theorem k_Md_closeGroup {l : Launch} {D : va_G} {ad : Nat → Nat} {cA : Nat → ClassId} {F : Nat} (hAD : ∀ σ, va_D (owM ad) (wdM ad cA σ)) {σ : zS} {x1 : Int32} {σ' : zS} (hm : Md_closeGroup F σ x1 = some σ') : kVM l D ad cA xTr y_Md_closeGroup bc_Md_closeGroup 4 2 [.ref (ad 0), .int x1] σ σ' := by
  refine kV_of (by decide) hAD xTr_P (Nat.le_of_ble_eq_true rfl) ?_
  intro p e s m below meth c C hr
  unfold Md_closeGroup at hm
  refine z_lv (lv' := [(0, .ref (ad 0)), (1, .int x1)]) [0, 1] rfl ?_
  refine z_iconst (pc := 0) C d_Md_closeGroup_0 ki_0 ?_
  refine z_istore_n (pc := 1) (lv' := [(0, .ref (ad 0)), (1, .int x1), (2, .int (0 : Int32))]) C d_Md_closeGroup_1 rfl (Nat.le_of_ble_eq_true rfl) [1, 2, 0] rfl ?_
  exact w_Md_closeGroup_2 hAD C hr F σ x1 (0 : Int32) hm
set_option maxHeartbeats 4000000 in
set_option maxRecDepth 100000 in
theorem w_Md_copy_2 {D : va_G} {ad : Nat → Nat} {cA : Nat → ClassId} {p : Program} {l : Launch} {e : Env} {s : State} {m : MethodId} {args : Array Value} {below : List Frame} {meth : Method} {c : Code} {F : Nat} (hAD : ∀ σ, va_D (owM ad) (wdM ad cA σ)) (C : CM D ad cA xTr p s m args meth c bc_Md_copy "KindRoundsModel" 4) (hr : meth.sig.returnType = none) {σ' : zS} : ∀ (n : Nat) (σ : zS) (x0 : Nat) (x1 : Nat) (x2 : Int32) (x3 : Int32), Md_copy_2 F n σ x0 x1 x2 x3 = some σ' → ZM D ad cA p l e (rmK 0) s m args below meth c 4 (qvM D ad cA below args s σ') 2 [(0, .ref (ad x0)), (1, .ref (ad x1)), (2, .int x2), (3, .int x3)] [] σ := by
  intro n
  induction n with
  | zero => intro σ x0 x1 x2 x3 hm; cases hm
  | succ n h2 =>
    intro σ x0 x1 x2 x3 hm
    have hm : Md_copy_b2 F (Md_copy_2 F n) σ x0 x1 x2 x3 = some σ' := hm
    unfold Md_copy_b2 at hm
    refine z_iload_n (pc := 2) C d_Md_copy_2 rfl 3 rfl ?_
    refine z_iload_n (pc := 3) C d_Md_copy_3 rfl 2 rfl ?_
    refine z_icmp_ge (pc := 4) (tgt := 19) C d_Md_copy_4 (by decide) (fun c1 => ?_) (fun c1 => ?_)
    · rw [if_pos c1] at hm
      exact z_vretE (pc := 19) C hr hm d_Md_copy_19
    · rw [if_neg c1] at hm
      refine z_aload_n (pc := 7) C d_Md_copy_7 rfl 1 rfl ?_
      refine z_iload_n (pc := 8) C d_Md_copy_8 rfl 3 rfl ?_
      refine z_aload_n (pc := 9) C d_Md_copy_9 rfl 0 rfl ?_
      refine z_iload_n (pc := 10) C d_Md_copy_10 rfl 3 rfl ?_
      obtain ⟨g2, hm⟩ := gd_s hm
      obtain ⟨g3, hm⟩ := gd_s hm
      refine alM_isUp (pc := 11) (v := (ga σ x0 x3.toNatClampNeg)) C (x := x0) g2 rfl g3 d_Md_copy_11 ?_
      obtain ⟨g4, hm⟩ := gd_s hm
      refine asM_isUp (pc := 12) C (x := x1) g4 g3 d_Md_copy_12 ?_
      refine z_iinc (pc := 13) (lv' := [(0, .ref (ad x0)), (1, .ref (ad x1)), (2, .int x2), (3, .int (x3 + (1 : Int32)))]) C d_Md_copy_13 3 rfl (ii ki_1) (Nat.le_of_ble_eq_true rfl) [1, 2, 3, 0] rfl ?_
      refine z_goto (pc := 16) (tgt := 2) C d_Md_copy_16 (by decide) ?_
      exact h2 (sa σ x1 x3.toNatClampNeg (ga σ x0 x3.toNatClampNeg)) x0 x1 x2 (x3 + (1 : Int32)) hm
set_option maxHeartbeats 4000000 in
set_option maxRecDepth 100000 in
theorem k_Md_copy {l : Launch} {D : va_G} {ad : Nat → Nat} {cA : Nat → ClassId} {F : Nat} (hAD : ∀ σ, va_D (owM ad) (wdM ad cA σ)) {σ : zS} {x0 : Nat} {x1 : Nat} {x2 : Int32} {σ' : zS} (hm : Md_copy F σ x0 x1 x2 = some σ') : kVM l D ad cA xTr y_Md_copy bc_Md_copy 4 0 [.ref (ad x0), .ref (ad x1), .int x2] σ σ' := by
  refine kV_of (by decide) hAD xTr_P (Nat.le_of_ble_eq_true rfl) ?_
  intro p e s m below meth c C hr
  unfold Md_copy at hm
  refine z_lv (lv' := [(0, .ref (ad x0)), (1, .ref (ad x1)), (2, .int x2)]) [0, 1, 2] rfl ?_
  refine z_iconst (pc := 0) C d_Md_copy_0 ki_0 ?_
  refine z_istore_n (pc := 1) (lv' := [(0, .ref (ad x0)), (1, .ref (ad x1)), (2, .int x2), (3, .int (0 : Int32))]) C d_Md_copy_1 rfl (Nat.le_of_ble_eq_true rfl) [1, 2, 3, 0] rfl ?_
  exact w_Md_copy_2 hAD C hr F σ x0 x1 x2 (0 : Int32) hm
set_option maxHeartbeats 4000000 in
set_option maxRecDepth 100000 in
theorem w_Md_isOnWay_19 {D : va_G} {ad : Nat → Nat} {cA : Nat → ClassId} {p : Program} {l : Launch} {e : Env} {s : State} {m : MethodId} {args : Array Value} {below : List Frame} {meth : Method} {c : Code} {F : Nat} (hAD : ∀ σ, va_D (owM ad) (wdM ad cA σ)) (C : CM D ad cA xTr p s m args meth c bc_Md_isOnWay "KindRoundsModel" 2) (hr : meth.sig.returnType = some .boolean) {r : Int32} {σ' : zS} (σ : zS) (s0 : Int32) (hm : Md_isOnWay_19 F σ s0 = some (r, σ')) : ZM D ad cA p l e (rmK 1) s m args below meth c 2 (qiM D ad cA below args s r σ') 19 [] [.int s0] σ := by
  unfold Md_isOnWay_19 at hm
  obtain ⟨g1, hm⟩ := gd_s hm
  exact z_zretE (pc := 19) C hr g1 hm d_Md_isOnWay_19
set_option maxHeartbeats 4000000 in
set_option maxRecDepth 100000 in
theorem k_Md_isOnWay {l : Launch} {D : va_G} {ad : Nat → Nat} {cA : Nat → ClassId} {F : Nat} (hAD : ∀ σ, va_D (owM ad) (wdM ad cA σ)) {σ : zS} {x1 : Int32} {r : Int32} {σ' : zS} (hm : Md_isOnWay F σ x1 = some (r, σ')) : kIM l D ad cA xTr y_Md_isOnWay bc_Md_isOnWay 2 .boolean 1 [.ref (ad 0), .int x1] σ r σ' := by
  refine kI_of (by decide) hAD xTr_P (Nat.le_of_ble_eq_true rfl) ?_
  intro p e s m below meth c C hr
  unfold Md_isOnWay at hm
  refine z_lv (lv' := [(0, .ref (ad 0)), (1, .int x1)]) [0, 1] rfl ?_
  refine z_aload_n (pc := 0) C d_Md_isOnWay_0 rfl 0 rfl ?_
  refine gM_Md_175 (pc := 1) C  d_Md_isOnWay_1 ?_
  refine z_aload_n (pc := 4) C d_Md_isOnWay_4 rfl 0 rfl ?_
  refine z_iload_n (pc := 5) C d_Md_isOnWay_5 rfl 1 rfl ?_
  obtain ⟨r2, σ1, e3, hm⟩ := bi_s hm
  refine z_callI (pc := 6) C (k_Md_top hAD e3) kz_Md_top mM_140 rfl rfl oM_0 rfl (kR_of (Nat.le_of_ble_eq_true rfl) (Nat.le_of_ble_eq_true rfl)) rfl (Nat.le_of_ble_eq_true rfl) d_Md_isOnWay_6 ?_
  obtain ⟨g4, hm⟩ := gd_s hm
  refine alM_54 (pc := 9) (v := (ga σ1 54 r2.toNatClampNeg)) C  rfl g4 d_Md_isOnWay_9 ?_
  refine z_iconst (pc := 10) C d_Md_isOnWay_10 ki_1 ?_
  refine z_icmp_ne (pc := 11) (tgt := 18) C d_Md_isOnWay_11 (by decide) (fun c5 => ?_) (fun c5 => ?_)
  · rw [if_neg c5] at hm
    refine z_iconst (pc := 18) C d_Md_isOnWay_18 ki_0 ?_
    refine z_lv (lv' := []) [] rfl ?_
    exact w_Md_isOnWay_19 hAD C hr σ1 (0 : Int32) hm
  · rw [if_pos c5] at hm
    refine z_iconst (pc := 14) C d_Md_isOnWay_14 ki_1 ?_
    refine z_goto (pc := 15) (tgt := 19) C d_Md_isOnWay_15 (by decide) ?_
    refine z_lv (lv' := []) [] rfl ?_
    exact w_Md_isOnWay_19 hAD C hr σ1 (1 : Int32) hm
set_option maxHeartbeats 4000000 in
set_option maxRecDepth 100000 in
theorem w_Md_goesRound_73 {D : va_G} {ad : Nat → Nat} {cA : Nat → ClassId} {p : Program} {l : Launch} {e : Env} {s : State} {m : MethodId} {args : Array Value} {below : List Frame} {meth : Method} {c : Code} {F : Nat} (hAD : ∀ σ, va_D (owM ad) (wdM ad cA σ)) (C : CM D ad cA xTr p s m args meth c bc_Md_goesRound "KindRoundsModel" 4) (hr : meth.sig.returnType = some .boolean) {r : Int32} {σ' : zS} (rc13 : zS → Int32 → Option (Int32 × zS)) (h13 : ∀ σ x2, rc13 σ x2 = some (r, σ') → ZM D ad cA p l e (rmK 2) s m args below meth c 4 (qiM D ad cA below args s r σ') 13 [(0, .ref (ad 0)), (2, .int x2)] [] σ) (σ : zS) (x2 : Int32) (hm : Md_goesRound_73 F rc13 σ x2 = some (r, σ')) : ZM D ad cA p l e (rmK 2) s m args below meth c 4 (qiM D ad cA below args s r σ') 73 [(0, .ref (ad 0)), (2, .int x2)] [] σ := by
  unfold Md_goesRound_73 at hm
  refine z_iinc (pc := 73) (lv' := [(0, .ref (ad 0)), (2, .int (x2 + (-1 : Int32)))]) C d_Md_goesRound_73 1 rfl (ii ki_m1) (Nat.le_of_ble_eq_true rfl) [1, 0] rfl ?_
  refine z_goto (pc := 76) (tgt := 13) C d_Md_goesRound_76 (by decide) ?_
  exact h13 σ (x2 + (-1 : Int32)) hm
set_option maxHeartbeats 4000000 in
set_option maxRecDepth 100000 in
theorem w_Md_goesRound_112 {D : va_G} {ad : Nat → Nat} {cA : Nat → ClassId} {p : Program} {l : Launch} {e : Env} {s : State} {m : MethodId} {args : Array Value} {below : List Frame} {meth : Method} {c : Code} {F : Nat} (hAD : ∀ σ, va_D (owM ad) (wdM ad cA σ)) (C : CM D ad cA xTr p s m args meth c bc_Md_goesRound "KindRoundsModel" 4) (hr : meth.sig.returnType = some .boolean) {r : Int32} {σ' : zS} (σ : zS) (hm : Md_goesRound_112 F σ = some (r, σ')) : ZM D ad cA p l e (rmK 2) s m args below meth c 4 (qiM D ad cA below args s r σ') 112 [] [] σ := by
  unfold Md_goesRound_112 at hm
  refine z_iconst (pc := 112) C d_Md_goesRound_112 ki_1 ?_
  exact z_zretE (pc := 113) C hr (by decide) hm d_Md_goesRound_113
set_option maxHeartbeats 4000000 in
set_option maxRecDepth 100000 in
theorem w_Md_goesRound_13 {D : va_G} {ad : Nat → Nat} {cA : Nat → ClassId} {p : Program} {l : Launch} {e : Env} {s : State} {m : MethodId} {args : Array Value} {below : List Frame} {meth : Method} {c : Code} {F : Nat} (hAD : ∀ σ, va_D (owM ad) (wdM ad cA σ)) (C : CM D ad cA xTr p s m args meth c bc_Md_goesRound "KindRoundsModel" 4) (hr : meth.sig.returnType = some .boolean) {r : Int32} {σ' : zS} : ∀ (n : Nat) (σ : zS) (x2 : Int32), Md_goesRound_13 F n σ x2 = some (r, σ') → ZM D ad cA p l e (rmK 2) s m args below meth c 4 (qiM D ad cA below args s r σ') 13 [(0, .ref (ad 0)), (2, .int x2)] [] σ := by
  intro n
  induction n with
  | zero => intro σ x2 hm; cases hm
  | succ n h13 =>
    intro σ x2 hm
    have hm : Md_goesRound_b13 F (Md_goesRound_13 F n) σ x2 = some (r, σ') := hm
    unfold Md_goesRound_b13 at hm
    refine z_iload_n (pc := 13) C d_Md_goesRound_13 rfl 1 rfl ?_
    refine z_if_le (pc := 14) (tgt := 146) C d_Md_goesRound_14 (by decide) (fun c1 => ?_) (fun c1 => ?_)
    · rw [if_pos c1] at hm
      refine z_iconst (pc := 146) C d_Md_goesRound_146 ki_0 ?_
      exact z_zretE (pc := 147) C hr (by decide) hm d_Md_goesRound_147
    · rw [if_neg c1] at hm
      refine z_aload_n (pc := 17) C d_Md_goesRound_17 rfl 0 rfl ?_
      refine z_aload_n (pc := 18) C d_Md_goesRound_18 rfl 0 rfl ?_
      refine gM_Md_172 (pc := 19) C  d_Md_goesRound_19 ?_
      refine z_iload_n (pc := 22) C d_Md_goesRound_22 rfl 1 rfl ?_
      refine z_iconst (pc := 23) C d_Md_goesRound_23 ki_1 ?_
      refine z_isub (pc := 24) C d_Md_goesRound_24 ?_
      obtain ⟨g2, hm⟩ := gd_s hm
      refine alM_53 (pc := 25) (v := (ga σ 53 (x2 - (1 : Int32)).toNatClampNeg)) C  rfl g2 d_Md_goesRound_25 ?_
      obtain ⟨r4, σ3, e5, hm⟩ := bi_s hm
      refine z_callI (pc := 26) C (k_Md_top hAD e5) kz_Md_top mM_140 rfl rfl oM_0 rfl (kR_of (Nat.le_of_ble_eq_true rfl) (Nat.le_of_ble_eq_true rfl)) rfl (Nat.le_of_ble_eq_true rfl) d_Md_goesRound_26 ?_
      refine z_istore_n (pc := 29) (lv' := [(0, .ref (ad 0)), (2, .int x2), (3, .int r4)]) C d_Md_goesRound_29 rfl (Nat.le_of_ble_eq_true rfl) [1, 2, 0] rfl ?_
      refine z_aload_n (pc := 30) C d_Md_goesRound_30 rfl 0 rfl ?_
      refine gM_Md_175 (pc := 31) C  d_Md_goesRound_31 ?_
      refine z_iload_n (pc := 34) C d_Md_goesRound_34 rfl 2 rfl ?_
      obtain ⟨g6, hm⟩ := gd_s hm
      refine alM_54 (pc := 35) (v := (ga σ3 54 r4.toNatClampNeg)) C  rfl g6 d_Md_goesRound_35 ?_
      refine z_iconst (pc := 36) C d_Md_goesRound_36 ki_1 ?_
      refine z_icmp_ne (pc := 37) (tgt := 53) C d_Md_goesRound_37 (by decide) (fun c7 => ?_) (fun c7 => ?_)
      · rw [if_neg c7] at hm
        refine z_aload_n (pc := 53) C d_Md_goesRound_53 rfl 0 rfl ?_
        refine gM_Md_175 (pc := 54) C  d_Md_goesRound_54 ?_
        refine z_iload_n (pc := 57) C d_Md_goesRound_57 rfl 2 rfl ?_
        refine alM_54 (pc := 58) (v := (ga σ3 54 r4.toNatClampNeg)) C  rfl g6 d_Md_goesRound_58 ?_
        refine z_iconst (pc := 59) C d_Md_goesRound_59 ki_2 ?_
        refine z_icmp_eq (pc := 60) (tgt := 73) C d_Md_goesRound_60 (by decide) (fun c8 => ?_) (fun c8 => ?_)
        · rw [if_pos c8] at hm
          refine z_lv (lv' := [(0, .ref (ad 0)), (2, .int x2)]) [0, 1] rfl ?_
          exact w_Md_goesRound_73 hAD C hr _ h13 σ3 x2 hm
        · rw [if_neg c8] at hm
          refine z_aload_n (pc := 63) C d_Md_goesRound_63 rfl 0 rfl ?_
          refine gM_Md_91 (pc := 64) C  d_Md_goesRound_64 ?_
          refine z_iload_n (pc := 67) C d_Md_goesRound_67 rfl 2 rfl ?_
          refine alM_26 (pc := 68) (v := (ga σ3 26 r4.toNatClampNeg)) C  rfl g6 d_Md_goesRound_68 ?_
          refine z_iconst (pc := 69) C d_Md_goesRound_69 ki_2 ?_
          refine z_icmp_eq (pc := 70) (tgt := 79) C d_Md_goesRound_70 (by decide) (fun c9 => ?_) (fun c9 => ?_)
          · rw [if_pos c9] at hm
            refine z_aload_n (pc := 79) C d_Md_goesRound_79 rfl 0 rfl ?_
            refine gM_Md_175 (pc := 80) C  d_Md_goesRound_80 ?_
            refine z_iload_n (pc := 83) C d_Md_goesRound_83 rfl 2 rfl ?_
            refine z_iconst (pc := 84) C d_Md_goesRound_84 ki_1 ?_
            refine asM_54 (pc := 85) C  g6 d_Md_goesRound_85 ?_
            refine z_aload_n (pc := 86) C d_Md_goesRound_86 rfl 0 rfl ?_
            refine z_aload_n (pc := 87) C d_Md_goesRound_87 rfl 0 rfl ?_
            refine gM_Md_94 (pc := 88) C  d_Md_goesRound_88 ?_
            refine z_iload_n (pc := 91) C d_Md_goesRound_91 rfl 2 rfl ?_
            refine alM_27 (pc := 92) (v := (ga σ3 27 r4.toNatClampNeg)) C  rfl g6 d_Md_goesRound_92 ?_
            obtain ⟨r11, σ10, e12, hm⟩ := bi_s hm
            refine z_callI (pc := 93) C (k_Md_isOnWay hAD e12) kz_Md_isOnWay mM_142 rfl rfl oM_0 rfl (kR_of (Nat.le_of_ble_eq_true rfl) (Nat.le_of_ble_eq_true rfl)) rfl (Nat.le_of_ble_eq_true rfl) d_Md_goesRound_93 ?_
            refine z_if_ne (pc := 96) (tgt := 112) C d_Md_goesRound_96 (by decide) (fun c13 => ?_) (fun c13 => ?_)
            · rw [if_neg c13] at hm
              refine z_lv (lv' := []) [] rfl ?_
              exact w_Md_goesRound_112 hAD C hr σ10 hm
            · rw [if_pos c13] at hm
              refine z_aload_n (pc := 99) C d_Md_goesRound_99 rfl 0 rfl ?_
              refine z_aload_n (pc := 100) C d_Md_goesRound_100 rfl 0 rfl ?_
              refine gM_Md_97 (pc := 101) C  d_Md_goesRound_101 ?_
              refine z_iload_n (pc := 104) C d_Md_goesRound_104 rfl 2 rfl ?_
              refine alM_28 (pc := 105) (v := (ga σ10 28 r4.toNatClampNeg)) C  rfl g6 d_Md_goesRound_105 ?_
              obtain ⟨r15, σ14, e16, hm⟩ := bi_s hm
              refine z_callI (pc := 106) C (k_Md_isOnWay hAD e16) kz_Md_isOnWay mM_142 rfl rfl oM_0 rfl (kR_of (Nat.le_of_ble_eq_true rfl) (Nat.le_of_ble_eq_true rfl)) rfl (Nat.le_of_ble_eq_true rfl) d_Md_goesRound_106 ?_
              refine z_if_eq (pc := 109) (tgt := 114) C d_Md_goesRound_109 (by decide) (fun c17 => ?_) (fun c17 => ?_)
              · rw [if_pos c17] at hm
                refine z_aload_n (pc := 114) C d_Md_goesRound_114 rfl 0 rfl ?_
                refine gM_Md_172 (pc := 115) C  d_Md_goesRound_115 ?_
                refine z_iload_n (pc := 118) C d_Md_goesRound_118 rfl 1 rfl ?_
                refine z_aload_n (pc := 119) C d_Md_goesRound_119 rfl 0 rfl ?_
                refine gM_Md_97 (pc := 120) C  d_Md_goesRound_120 ?_
                refine z_iload_n (pc := 123) C d_Md_goesRound_123 rfl 2 rfl ?_
                refine alM_28 (pc := 124) (v := (ga σ14 28 r4.toNatClampNeg)) C  rfl g6 d_Md_goesRound_124 ?_
                obtain ⟨g18, hm⟩ := gd_s hm
                refine asM_53 (pc := 125) C  g18 d_Md_goesRound_125 ?_
                refine z_aload_n (pc := 126) C d_Md_goesRound_126 rfl 0 rfl ?_
                refine gM_Md_172 (pc := 127) C  d_Md_goesRound_127 ?_
                refine z_iload_n (pc := 130) C d_Md_goesRound_130 rfl 1 rfl ?_
                refine z_iconst (pc := 131) C d_Md_goesRound_131 ki_1 ?_
                refine z_iadd (pc := 132) C d_Md_goesRound_132 ?_
                refine z_aload_n (pc := 133) C d_Md_goesRound_133 rfl 0 rfl ?_
                refine gM_Md_94 (pc := 134) C  d_Md_goesRound_134 ?_
                refine z_iload_n (pc := 137) C d_Md_goesRound_137 rfl 2 rfl ?_
                refine alM_27 (pc := 138) (v := (ga σ14 27 r4.toNatClampNeg)) C  rfl g6 d_Md_goesRound_138 ?_
                obtain ⟨g19, hm⟩ := gd_s hm
                refine asM_53 (pc := 139) C  g19 d_Md_goesRound_139 ?_
                refine z_iinc (pc := 140) (lv' := [(0, .ref (ad 0)), (2, .int (x2 + (2 : Int32))), (3, .int r4)]) C d_Md_goesRound_140 1 rfl (ii ki_2) (Nat.le_of_ble_eq_true rfl) [1, 0, 2] rfl ?_
                refine z_goto (pc := 143) (tgt := 13) C d_Md_goesRound_143 (by decide) ?_
                refine z_lv (lv' := [(0, .ref (ad 0)), (2, .int (x2 + (2 : Int32)))]) [0, 1] rfl ?_
                exact h13 (sa (sa σ14 53 x2.toNatClampNeg (ga σ14 28 r4.toNatClampNeg)) 53 (x2 + (1 : Int32)).toNatClampNeg (ga σ14 27 r4.toNatClampNeg)) (x2 + (2 : Int32)) hm
              · rw [if_neg c17] at hm
                refine z_lv (lv' := []) [] rfl ?_
                exact w_Md_goesRound_112 hAD C hr σ14 hm
          · rw [if_neg c9] at hm
            refine z_lv (lv' := [(0, .ref (ad 0)), (2, .int x2)]) [0, 1] rfl ?_
            exact w_Md_goesRound_73 hAD C hr _ h13 σ3 x2 hm
      · rw [if_pos c7] at hm
        refine z_aload_n (pc := 40) C d_Md_goesRound_40 rfl 0 rfl ?_
        refine gM_Md_175 (pc := 41) C  d_Md_goesRound_41 ?_
        refine z_iload_n (pc := 44) C d_Md_goesRound_44 rfl 2 rfl ?_
        refine z_iconst (pc := 45) C d_Md_goesRound_45 ki_2 ?_
        refine asM_54 (pc := 46) C  g6 d_Md_goesRound_46 ?_
        refine z_iinc (pc := 47) (lv' := [(0, .ref (ad 0)), (2, .int (x2 + (-1 : Int32))), (3, .int r4)]) C d_Md_goesRound_47 1 rfl (ii ki_m1) (Nat.le_of_ble_eq_true rfl) [1, 0, 2] rfl ?_
        refine z_goto (pc := 50) (tgt := 13) C d_Md_goesRound_50 (by decide) ?_
        refine z_lv (lv' := [(0, .ref (ad 0)), (2, .int (x2 + (-1 : Int32)))]) [0, 1] rfl ?_
        exact h13 (sa σ3 54 r4.toNatClampNeg (2 : Int32)) (x2 + (-1 : Int32)) hm
set_option maxHeartbeats 4000000 in
set_option maxRecDepth 100000 in
theorem k_Md_goesRound {l : Launch} {D : va_G} {ad : Nat → Nat} {cA : Nat → ClassId} {F : Nat} (hAD : ∀ σ, va_D (owM ad) (wdM ad cA σ)) {σ : zS} {x1 : Int32} {r : Int32} {σ' : zS} (hm : Md_goesRound F σ x1 = some (r, σ')) : kIM l D ad cA xTr y_Md_goesRound bc_Md_goesRound 4 .boolean 2 [.ref (ad 0), .int x1] σ r σ' := by
  refine kI_of (by decide) hAD xTr_P (Nat.le_of_ble_eq_true rfl) ?_
  intro p e s m below meth c C hr
  unfold Md_goesRound at hm
  refine z_lv (lv' := [(0, .ref (ad 0)), (1, .int x1)]) [0, 1] rfl ?_
  refine z_aload_n (pc := 0) C d_Md_goesRound_0 rfl 0 rfl ?_
  obtain ⟨σ1, e2, hm⟩ := bv_s hm
  refine z_callV (pc := 1) C (k_Md_unmark hAD e2) kz_Md_unmark mM_143 rfl rfl oM_0 rfl (kR_of (Nat.le_of_ble_eq_true rfl) (Nat.le_of_ble_eq_true rfl)) rfl (Nat.le_of_ble_eq_true rfl) d_Md_goesRound_1 ?_
  refine z_iconst (pc := 4) C d_Md_goesRound_4 ki_1 ?_
  refine z_istore_n (pc := 5) (lv' := [(0, .ref (ad 0)), (1, .int x1), (2, .int (1 : Int32))]) C d_Md_goesRound_5 rfl (Nat.le_of_ble_eq_true rfl) [1, 2, 0] rfl ?_
  refine z_aload_n (pc := 6) C d_Md_goesRound_6 rfl 0 rfl ?_
  refine gM_Md_172 (pc := 7) C  d_Md_goesRound_7 ?_
  refine z_iconst (pc := 10) C d_Md_goesRound_10 ki_0 ?_
  refine z_iload_n (pc := 11) C d_Md_goesRound_11 rfl 1 rfl ?_
  obtain ⟨g3, hm⟩ := gd_s hm
  refine asM_53 (pc := 12) C  g3 d_Md_goesRound_12 ?_
  refine z_lv (lv' := [(0, .ref (ad 0)), (2, .int (1 : Int32))]) [0, 2] rfl ?_
  exact w_Md_goesRound_13 hAD C hr F (sa σ1 53 (0 : Int32).toNatClampNeg x1) (1 : Int32) hm
set_option maxHeartbeats 4000000 in
set_option maxRecDepth 100000 in
theorem w_Md_join_203 {D : va_G} {ad : Nat → Nat} {cA : Nat → ClassId} {p : Program} {l : Launch} {e : Env} {s : State} {m : MethodId} {args : Array Value} {below : List Frame} {meth : Method} {c : Code} {F : Nat} (hAD : ∀ σ, va_D (owM ad) (wdM ad cA σ)) (C : CM D ad cA xTr p s m args meth c bc_Md_join "KindRoundsModel" 6) (hr : meth.sig.returnType = some .boolean) {r : Int32} {σ' : zS} (rc16 : zS → Int32 → Option (Int32 × zS)) (h16 : ∀ σ x3, rc16 σ x3 = some (r, σ') → ZM D ad cA p l e (rmK 1) s m args below meth c 6 (qiM D ad cA below args s r σ') 16 [(0, .ref (ad 0)), (3, .int x3)] [] σ) (σ : zS) (x3 : Int32) (hm : Md_join_203 F rc16 σ x3 = some (r, σ')) : ZM D ad cA p l e (rmK 1) s m args below meth c 6 (qiM D ad cA below args s r σ') 203 [(0, .ref (ad 0)), (3, .int x3)] [] σ := by
  unfold Md_join_203 at hm
  refine z_goto (pc := 203) (tgt := 16) C d_Md_join_203 (by decide) ?_
  exact h16 σ x3 hm
set_option maxHeartbeats 4000000 in
set_option maxRecDepth 100000 in
theorem w_Md_join_16 {D : va_G} {ad : Nat → Nat} {cA : Nat → ClassId} {p : Program} {l : Launch} {e : Env} {s : State} {m : MethodId} {args : Array Value} {below : List Frame} {meth : Method} {c : Code} {F : Nat} (hAD : ∀ σ, va_D (owM ad) (wdM ad cA σ)) (C : CM D ad cA xTr p s m args meth c bc_Md_join "KindRoundsModel" 6) (hr : meth.sig.returnType = some .boolean) {r : Int32} {σ' : zS} : ∀ (n : Nat) (σ : zS) (x3 : Int32), Md_join_16 F n σ x3 = some (r, σ') → ZM D ad cA p l e (rmK 1) s m args below meth c 6 (qiM D ad cA below args s r σ') 16 [(0, .ref (ad 0)), (3, .int x3)] [] σ := by
  intro n
  induction n with
  | zero => intro σ x3 hm; cases hm
  | succ n h16 =>
    intro σ x3 hm
    have hm : Md_join_b16 F (Md_join_16 F n) σ x3 = some (r, σ') := hm
    unfold Md_join_b16 at hm
    refine z_iload_n (pc := 16) C d_Md_join_16 rfl 1 rfl ?_
    refine z_if_le (pc := 17) (tgt := 206) C d_Md_join_17 (by decide) (fun c1 => ?_) (fun c1 => ?_)
    · rw [if_pos c1] at hm
      refine z_iconst (pc := 206) C d_Md_join_206 ki_1 ?_
      exact z_zretE (pc := 207) C hr (by decide) hm d_Md_join_207
    · rw [if_neg c1] at hm
      refine z_iinc (pc := 20) (lv' := [(0, .ref (ad 0)), (3, .int (x3 + (-2 : Int32)))]) C d_Md_join_20 1 rfl (ii ki_m2) (Nat.le_of_ble_eq_true rfl) [1, 0] rfl ?_
      refine z_aload_n (pc := 23) C d_Md_join_23 rfl 0 rfl ?_
      refine z_aload_n (pc := 24) C d_Md_join_24 rfl 0 rfl ?_
      refine gM_Md_172 (pc := 25) C  d_Md_join_25 ?_
      refine z_iload_n (pc := 28) C d_Md_join_28 rfl 1 rfl ?_
      obtain ⟨g2, hm⟩ := gd_s hm
      refine alM_53 (pc := 29) (v := (ga σ 53 (x3 + (-2 : Int32)).toNatClampNeg)) C  rfl g2 d_Md_join_29 ?_
      obtain ⟨r4, σ3, e5, hm⟩ := bi_s hm
      refine z_callI (pc := 30) C (k_Md_top hAD e5) kz_Md_top mM_140 rfl rfl oM_0 rfl (kR_of (Nat.le_of_ble_eq_true rfl) (Nat.le_of_ble_eq_true rfl)) rfl (Nat.le_of_ble_eq_true rfl) d_Md_join_30 ?_
      refine z_istore (pc := 33) (lv' := [(0, .ref (ad 0)), (3, .int (x3 + (-2 : Int32))), (4, .int r4)]) C d_Md_join_33 (Nat.le_of_ble_eq_true rfl) [1, 2, 0] rfl ?_
      refine z_aload_n (pc := 35) C d_Md_join_35 rfl 0 rfl ?_
      refine z_aload_n (pc := 36) C d_Md_join_36 rfl 0 rfl ?_
      refine gM_Md_172 (pc := 37) C  d_Md_join_37 ?_
      refine z_iload_n (pc := 40) C d_Md_join_40 rfl 1 rfl ?_
      refine z_iconst (pc := 41) C d_Md_join_41 ki_1 ?_
      refine z_iadd (pc := 42) C d_Md_join_42 ?_
      obtain ⟨g6, hm⟩ := gd_s hm
      refine alM_53 (pc := 43) (v := (ga σ3 53 ((x3 + (-2 : Int32)) + (1 : Int32)).toNatClampNeg)) C  rfl g6 d_Md_join_43 ?_
      obtain ⟨r8, σ7, e9, hm⟩ := bi_s hm
      refine z_callI (pc := 44) C (k_Md_top hAD e9) kz_Md_top mM_140 rfl rfl oM_0 rfl (kR_of (Nat.le_of_ble_eq_true rfl) (Nat.le_of_ble_eq_true rfl)) rfl (Nat.le_of_ble_eq_true rfl) d_Md_join_44 ?_
      refine z_istore (pc := 47) (lv' := [(0, .ref (ad 0)), (3, .int (x3 + (-2 : Int32))), (4, .int r4), (5, .int r8)]) C d_Md_join_47 (Nat.le_of_ble_eq_true rfl) [1, 2, 3, 0] rfl ?_
      refine z_iload (pc := 49) C d_Md_join_49 2 rfl ?_
      refine z_iload (pc := 51) C d_Md_join_51 3 rfl ?_
      refine z_icmp_ne (pc := 53) (tgt := 59) C d_Md_join_53 (by decide) (fun c10 => ?_) (fun c10 => ?_)
      · rw [if_neg c10] at hm
        refine z_aload_n (pc := 59) C d_Md_join_59 rfl 0 rfl ?_
        refine gM_Md_91 (pc := 60) C  d_Md_join_60 ?_
        refine z_iload (pc := 63) C d_Md_join_63 2 rfl ?_
        obtain ⟨g11, hm⟩ := gd_s hm
        refine alM_26 (pc := 65) (v := (ga σ7 26 r4.toNatClampNeg)) C  rfl g11 d_Md_join_65 ?_
        refine z_if_ne (pc := 66) (tgt := 81) C d_Md_join_66 (by decide) (fun c12 => ?_) (fun c12 => ?_)
        · rw [if_neg c12] at hm
          refine z_aload_n (pc := 81) C d_Md_join_81 rfl 0 rfl ?_
          refine gM_Md_91 (pc := 82) C  d_Md_join_82 ?_
          refine z_iload (pc := 85) C d_Md_join_85 3 rfl ?_
          obtain ⟨g13, hm⟩ := gd_s hm
          refine alM_26 (pc := 87) (v := (ga σ7 26 r8.toNatClampNeg)) C  rfl g13 d_Md_join_87 ?_
          refine z_if_ne (pc := 88) (tgt := 103) C d_Md_join_88 (by decide) (fun c14 => ?_) (fun c14 => ?_)
          · rw [if_neg c14] at hm
            refine z_aload_n (pc := 103) C d_Md_join_103 rfl 0 rfl ?_
            refine gM_Md_91 (pc := 104) C  d_Md_join_104 ?_
            refine z_iload (pc := 107) C d_Md_join_107 2 rfl ?_
            refine alM_26 (pc := 109) (v := (ga σ7 26 r4.toNatClampNeg)) C  rfl g11 d_Md_join_109 ?_
            refine z_aload_n (pc := 110) C d_Md_join_110 rfl 0 rfl ?_
            refine gM_Md_91 (pc := 111) C  d_Md_join_111 ?_
            refine z_iload (pc := 114) C d_Md_join_114 3 rfl ?_
            refine alM_26 (pc := 116) (v := (ga σ7 26 r8.toNatClampNeg)) C  rfl g13 d_Md_join_116 ?_
            refine z_icmp_eq (pc := 117) (tgt := 122) C d_Md_join_117 (by decide) (fun c15 => ?_) (fun c15 => ?_)
            · rw [if_pos c15] at hm
              refine z_aload_n (pc := 122) C d_Md_join_122 rfl 0 rfl ?_
              refine gM_Md_100 (pc := 123) C  d_Md_join_123 ?_
              refine z_iload (pc := 126) C d_Md_join_126 2 rfl ?_
              refine z_iload (pc := 128) C d_Md_join_128 3 rfl ?_
              refine asM_29 (pc := 130) C  g11 d_Md_join_130 ?_
              refine z_aload_n (pc := 131) C d_Md_join_131 rfl 0 rfl ?_
              refine gM_Md_91 (pc := 132) C  d_Md_join_132 ?_
              refine z_iload (pc := 135) C d_Md_join_135 2 rfl ?_
              refine alM_26 (pc := 137) (v := (ga σ7 26 r4.toNatClampNeg)) C  rfl g11 d_Md_join_137 ?_
              refine z_iconst (pc := 138) C d_Md_join_138 ki_2 ?_
              refine z_icmp_ne (pc := 139) (tgt := 203) C d_Md_join_139 (by decide) (fun c16 => ?_) (fun c16 => ?_)
              · rw [if_neg c16] at hm
                refine z_lv (lv' := [(0, .ref (ad 0)), (3, .int (x3 + (-2 : Int32)))]) [0, 1] rfl ?_
                exact w_Md_join_203 hAD C hr _ h16 (sa σ7 29 r4.toNatClampNeg r8) (x3 + (-2 : Int32)) hm
              · rw [if_pos c16] at hm
                refine z_aload_n (pc := 142) C d_Md_join_142 rfl 0 rfl ?_
                refine gM_Md_172 (pc := 143) C  d_Md_join_143 ?_
                refine z_iload_n (pc := 146) C d_Md_join_146 rfl 1 rfl ?_
                refine z_aload_n (pc := 147) C d_Md_join_147 rfl 0 rfl ?_
                refine gM_Md_97 (pc := 148) C  d_Md_join_148 ?_
                refine z_iload (pc := 151) C d_Md_join_151 2 rfl ?_
                refine alM_28 (pc := 153) (v := (ga σ7 28 r4.toNatClampNeg)) C  rfl g11 d_Md_join_153 ?_
                refine asM_53 (pc := 154) C  g2 d_Md_join_154 ?_
                refine z_aload_n (pc := 155) C d_Md_join_155 rfl 0 rfl ?_
                refine gM_Md_172 (pc := 156) C  d_Md_join_156 ?_
                refine z_iload_n (pc := 159) C d_Md_join_159 rfl 1 rfl ?_
                refine z_iconst (pc := 160) C d_Md_join_160 ki_1 ?_
                refine z_iadd (pc := 161) C d_Md_join_161 ?_
                refine z_aload_n (pc := 162) C d_Md_join_162 rfl 0 rfl ?_
                refine gM_Md_97 (pc := 163) C  d_Md_join_163 ?_
                refine z_iload (pc := 166) C d_Md_join_166 3 rfl ?_
                refine alM_28 (pc := 168) (v := (ga σ7 28 r8.toNatClampNeg)) C  rfl g13 d_Md_join_168 ?_
                refine asM_53 (pc := 169) C  g6 d_Md_join_169 ?_
                refine z_aload_n (pc := 170) C d_Md_join_170 rfl 0 rfl ?_
                refine gM_Md_172 (pc := 171) C  d_Md_join_171 ?_
                refine z_iload_n (pc := 174) C d_Md_join_174 rfl 1 rfl ?_
                refine z_iconst (pc := 175) C d_Md_join_175 ki_2 ?_
                refine z_iadd (pc := 176) C d_Md_join_176 ?_
                refine z_aload_n (pc := 177) C d_Md_join_177 rfl 0 rfl ?_
                refine gM_Md_94 (pc := 178) C  d_Md_join_178 ?_
                refine z_iload (pc := 181) C d_Md_join_181 2 rfl ?_
                refine alM_27 (pc := 183) (v := (ga σ7 27 r4.toNatClampNeg)) C  rfl g11 d_Md_join_183 ?_
                obtain ⟨g17, hm⟩ := gd_s hm
                refine asM_53 (pc := 184) C  g17 d_Md_join_184 ?_
                refine z_aload_n (pc := 185) C d_Md_join_185 rfl 0 rfl ?_
                refine gM_Md_172 (pc := 186) C  d_Md_join_186 ?_
                refine z_iload_n (pc := 189) C d_Md_join_189 rfl 1 rfl ?_
                refine z_iconst (pc := 190) C d_Md_join_190 ki_3 ?_
                refine z_iadd (pc := 191) C d_Md_join_191 ?_
                refine z_aload_n (pc := 192) C d_Md_join_192 rfl 0 rfl ?_
                refine gM_Md_94 (pc := 193) C  d_Md_join_193 ?_
                refine z_iload (pc := 196) C d_Md_join_196 3 rfl ?_
                refine alM_27 (pc := 198) (v := (ga σ7 27 r8.toNatClampNeg)) C  rfl g13 d_Md_join_198 ?_
                obtain ⟨g18, hm⟩ := gd_s hm
                refine asM_53 (pc := 199) C  g18 d_Md_join_199 ?_
                refine z_iinc (pc := 200) (lv' := [(0, .ref (ad 0)), (3, .int ((x3 + (-2 : Int32)) + (4 : Int32))), (4, .int r4), (5, .int r8)]) C d_Md_join_200 1 rfl (ii ki_4) (Nat.le_of_ble_eq_true rfl) [1, 0, 2, 3] rfl ?_
                refine z_lv (lv' := [(0, .ref (ad 0)), (3, .int ((x3 + (-2 : Int32)) + (4 : Int32)))]) [0, 1] rfl ?_
                exact w_Md_join_203 hAD C hr _ h16 (sa (sa (sa (sa (sa σ7 29 r4.toNatClampNeg r8) 53 (x3 + (-2 : Int32)).toNatClampNeg (ga σ7 28 r4.toNatClampNeg)) 53 ((x3 + (-2 : Int32)) + (1 : Int32)).toNatClampNeg (ga σ7 28 r8.toNatClampNeg)) 53 ((x3 + (-2 : Int32)) + (2 : Int32)).toNatClampNeg (ga σ7 27 r4.toNatClampNeg)) 53 ((x3 + (-2 : Int32)) + (3 : Int32)).toNatClampNeg (ga σ7 27 r8.toNatClampNeg)) ((x3 + (-2 : Int32)) + (4 : Int32)) hm
            · rw [if_neg c15] at hm
              refine z_iconst (pc := 120) C d_Md_join_120 ki_0 ?_
              exact z_zretE (pc := 121) C hr (by decide) hm d_Md_join_121
          · rw [if_pos c14] at hm
            refine z_aload_n (pc := 91) C d_Md_join_91 rfl 0 rfl ?_
            refine gM_Md_100 (pc := 92) C  d_Md_join_92 ?_
            refine z_iload (pc := 95) C d_Md_join_95 3 rfl ?_
            refine z_iload (pc := 97) C d_Md_join_97 2 rfl ?_
            refine asM_29 (pc := 99) C  g13 d_Md_join_99 ?_
            refine z_goto (pc := 100) (tgt := 203) C d_Md_join_100 (by decide) ?_
            refine z_lv (lv' := [(0, .ref (ad 0)), (3, .int (x3 + (-2 : Int32)))]) [0, 1] rfl ?_
            exact w_Md_join_203 hAD C hr _ h16 (sa σ7 29 r8.toNatClampNeg r4) (x3 + (-2 : Int32)) hm
        · rw [if_pos c12] at hm
          refine z_aload_n (pc := 69) C d_Md_join_69 rfl 0 rfl ?_
          refine gM_Md_100 (pc := 70) C  d_Md_join_70 ?_
          refine z_iload (pc := 73) C d_Md_join_73 2 rfl ?_
          refine z_iload (pc := 75) C d_Md_join_75 3 rfl ?_
          refine asM_29 (pc := 77) C  g11 d_Md_join_77 ?_
          refine z_goto (pc := 78) (tgt := 203) C d_Md_join_78 (by decide) ?_
          refine z_lv (lv' := [(0, .ref (ad 0)), (3, .int (x3 + (-2 : Int32)))]) [0, 1] rfl ?_
          exact w_Md_join_203 hAD C hr _ h16 (sa σ7 29 r4.toNatClampNeg r8) (x3 + (-2 : Int32)) hm
      · rw [if_pos c10] at hm
        refine z_goto (pc := 56) (tgt := 16) C d_Md_join_56 (by decide) ?_
        refine z_lv (lv' := [(0, .ref (ad 0)), (3, .int (x3 + (-2 : Int32)))]) [0, 1] rfl ?_
        exact h16 σ7 (x3 + (-2 : Int32)) hm
set_option maxHeartbeats 4000000 in
set_option maxRecDepth 100000 in
theorem k_Md_join {l : Launch} {D : va_G} {ad : Nat → Nat} {cA : Nat → ClassId} {F : Nat} (hAD : ∀ σ, va_D (owM ad) (wdM ad cA σ)) {σ : zS} {x1 : Int32} {x2 : Int32} {r : Int32} {σ' : zS} (hm : Md_join F σ x1 x2 = some (r, σ')) : kIM l D ad cA xTr y_Md_join bc_Md_join 6 .boolean 1 [.ref (ad 0), .int x1, .int x2] σ r σ' := by
  refine kI_of (by decide) hAD xTr_P (Nat.le_of_ble_eq_true rfl) ?_
  intro p e s m below meth c C hr
  unfold Md_join at hm
  refine z_lv (lv' := [(0, .ref (ad 0)), (1, .int x1), (2, .int x2)]) [0, 1, 2] rfl ?_
  refine z_iconst (pc := 0) C d_Md_join_0 ki_2 ?_
  refine z_istore_n (pc := 1) (lv' := [(0, .ref (ad 0)), (1, .int x1), (2, .int x2), (3, .int (2 : Int32))]) C d_Md_join_1 rfl (Nat.le_of_ble_eq_true rfl) [1, 2, 3, 0] rfl ?_
  refine z_aload_n (pc := 2) C d_Md_join_2 rfl 0 rfl ?_
  refine gM_Md_172 (pc := 3) C  d_Md_join_3 ?_
  refine z_iconst (pc := 6) C d_Md_join_6 ki_0 ?_
  refine z_iload_n (pc := 7) C d_Md_join_7 rfl 1 rfl ?_
  obtain ⟨g1, hm⟩ := gd_s hm
  refine asM_53 (pc := 8) C  g1 d_Md_join_8 ?_
  refine z_aload_n (pc := 9) C d_Md_join_9 rfl 0 rfl ?_
  refine gM_Md_172 (pc := 10) C  d_Md_join_10 ?_
  refine z_iconst (pc := 13) C d_Md_join_13 ki_1 ?_
  refine z_iload_n (pc := 14) C d_Md_join_14 rfl 2 rfl ?_
  obtain ⟨g2, hm⟩ := gd_s hm
  refine asM_53 (pc := 15) C  g2 d_Md_join_15 ?_
  refine z_lv (lv' := [(0, .ref (ad 0)), (3, .int (2 : Int32))]) [0, 3] rfl ?_
  exact w_Md_join_16 hAD C hr F (sa (sa σ 53 (0 : Int32).toNatClampNeg x1) 53 (1 : Int32).toNatClampNeg x2) (2 : Int32) hm
set_option maxHeartbeats 4000000 in
set_option maxRecDepth 100000 in
theorem w_Md_equate_77 {D : va_G} {ad : Nat → Nat} {cA : Nat → ClassId} {p : Program} {l : Launch} {e : Env} {s : State} {m : MethodId} {args : Array Value} {below : List Frame} {meth : Method} {c : Code} {F : Nat} (hAD : ∀ σ, va_D (owM ad) (wdM ad cA σ)) (C : CM D ad cA xTr p s m args meth c bc_Md_equate "KindRoundsModel" 4) (hr : meth.sig.returnType = none) {σ' : zS} (σ : zS) (hm : Md_equate_77 F σ = some σ') : ZM D ad cA p l e (rmK 3) s m args below meth c 4 (qvM D ad cA below args s σ') 77 [] [] σ := by
  unfold Md_equate_77 at hm
  exact z_vretE (pc := 77) C hr hm d_Md_equate_77
set_option maxHeartbeats 4000000 in
set_option maxRecDepth 100000 in
theorem w_Md_equate_40 {D : va_G} {ad : Nat → Nat} {cA : Nat → ClassId} {p : Program} {l : Launch} {e : Env} {s : State} {m : MethodId} {args : Array Value} {below : List Frame} {meth : Method} {c : Code} {F : Nat} (hAD : ∀ σ, va_D (owM ad) (wdM ad cA σ)) (C : CM D ad cA xTr p s m args meth c bc_Md_equate "KindRoundsModel" 4) (hr : meth.sig.returnType = none) {σ' : zS} (σ : zS) (x1 : Int32) (x2 : Int32) (x3 : Int32) (hm : Md_equate_40 F σ x1 x2 x3 = some σ') : ZM D ad cA p l e (rmK 3) s m args below meth c 4 (qvM D ad cA below args s σ') 40 [(0, .ref (ad 0)), (1, .int x1), (2, .int x2), (3, .int x3)] [] σ := by
  unfold Md_equate_40 at hm
  refine z_aload_n (pc := 40) C d_Md_equate_40 rfl 0 rfl ?_
  refine gM_Md_103 (pc := 41) C  d_Md_equate_41 ?_
  refine z_aload_n (pc := 44) C d_Md_equate_44 rfl 0 rfl ?_
  refine gM_Md_100 (pc := 45) C  d_Md_equate_45 ?_
  refine z_aload_n (pc := 48) C d_Md_equate_48 rfl 0 rfl ?_
  refine gM_Md_209 (pc := 49) (v := (gi σ 48)) C rfl d_Md_equate_49 ?_
  obtain ⟨σ1, e2, hm⟩ := bv_s hm
  refine z_callSV (pc := 52) C (k_Md_copy hAD e2) kz_Md_copy mM_134 rfl (kR_of (Nat.le_of_ble_eq_true rfl) (Nat.le_of_ble_eq_true rfl)) rfl (Nat.le_of_ble_eq_true rfl) d_Md_equate_52 ?_
  refine z_aload_n (pc := 55) C d_Md_equate_55 rfl 0 rfl ?_
  refine z_bipush (pc := 56) C d_Md_equate_56 kb_6 ?_
  refine z_iload_n (pc := 58) C d_Md_equate_58 rfl 3 rfl ?_
  obtain ⟨σ3, e4, hm⟩ := bv_s hm
  refine z_callV (pc := 59) C (k_Md_wrong hAD e4) kz_Md_wrong mM_11 rfl rfl oM_0 rfl (kR_of (Nat.le_of_ble_eq_true rfl) (Nat.le_of_ble_eq_true rfl)) rfl (Nat.le_of_ble_eq_true rfl) d_Md_equate_59 ?_
  refine z_aload_n (pc := 62) C d_Md_equate_62 rfl 0 rfl ?_
  refine z_iconst (pc := 63) C d_Md_equate_63 ki_1 ?_
  refine pM_Md_354 (pc := 64) C (by decide)  d_Md_equate_64 ?_
  refine z_aload_n (pc := 67) C d_Md_equate_67 rfl 0 rfl ?_
  refine z_iload_n (pc := 68) C d_Md_equate_68 rfl 1 rfl ?_
  refine pM_Md_476 (pc := 69) C  d_Md_equate_69 ?_
  refine z_aload_n (pc := 72) C d_Md_equate_72 rfl 0 rfl ?_
  refine z_iload_n (pc := 73) C d_Md_equate_73 rfl 2 rfl ?_
  refine pM_Md_479 (pc := 74) C  d_Md_equate_74 ?_
  refine z_lv (lv' := []) [] rfl ?_
  exact w_Md_equate_77 hAD C hr (si (si (si σ3 10 (1 : Int32)) 79 x1) 80 x2) hm
set_option maxHeartbeats 4000000 in
set_option maxRecDepth 100000 in
theorem k_Md_equate {l : Launch} {D : va_G} {ad : Nat → Nat} {cA : Nat → ClassId} {F : Nat} (hAD : ∀ σ, va_D (owM ad) (wdM ad cA σ)) {σ : zS} {x1 : Int32} {x2 : Int32} {x3 : Int32} {σ' : zS} (hm : Md_equate F σ x1 x2 x3 = some σ') : kVM l D ad cA xTr y_Md_equate bc_Md_equate 4 3 [.ref (ad 0), .int x1, .int x2, .int x3] σ σ' := by
  refine kV_of (by decide) hAD xTr_P (Nat.le_of_ble_eq_true rfl) ?_
  intro p e s m below meth c C hr
  unfold Md_equate at hm
  refine z_lv (lv' := [(0, .ref (ad 0)), (1, .int x1), (2, .int x2), (3, .int x3)]) [0, 1, 2, 3] rfl ?_
  refine z_aload_n (pc := 0) C d_Md_equate_0 rfl 0 rfl ?_
  refine gM_Md_221 (pc := 1) (v := (gi σ 8)) C rfl d_Md_equate_1 ?_
  refine z_if_le (pc := 4) (tgt := 8) C d_Md_equate_4 (by decide) (fun c1 => ?_) (fun c1 => ?_)
  · rw [if_pos c1] at hm
    refine z_aload_n (pc := 8) C d_Md_equate_8 rfl 0 rfl ?_
    refine gM_Md_100 (pc := 9) C  d_Md_equate_9 ?_
    refine z_aload_n (pc := 12) C d_Md_equate_12 rfl 0 rfl ?_
    refine gM_Md_103 (pc := 13) C  d_Md_equate_13 ?_
    refine z_aload_n (pc := 16) C d_Md_equate_16 rfl 0 rfl ?_
    refine gM_Md_209 (pc := 17) (v := (gi σ 48)) C rfl d_Md_equate_17 ?_
    obtain ⟨σ2, e3, hm⟩ := bv_s hm
    refine z_callSV (pc := 20) C (k_Md_copy hAD e3) kz_Md_copy mM_134 rfl (kR_of (Nat.le_of_ble_eq_true rfl) (Nat.le_of_ble_eq_true rfl)) rfl (Nat.le_of_ble_eq_true rfl) d_Md_equate_20 ?_
    refine z_aload_n (pc := 23) C d_Md_equate_23 rfl 0 rfl ?_
    refine z_iload_n (pc := 24) C d_Md_equate_24 rfl 1 rfl ?_
    refine z_iload_n (pc := 25) C d_Md_equate_25 rfl 2 rfl ?_
    obtain ⟨r5, σ4, e6, hm⟩ := bi_s hm
    refine z_callI (pc := 26) C (k_Md_join hAD e6) kz_Md_join mM_137 rfl rfl oM_0 rfl (kR_of (Nat.le_of_ble_eq_true rfl) (Nat.le_of_ble_eq_true rfl)) rfl (Nat.le_of_ble_eq_true rfl) d_Md_equate_26 ?_
    refine z_if_eq (pc := 29) (tgt := 40) C d_Md_equate_29 (by decide) (fun c7 => ?_) (fun c7 => ?_)
    · rw [if_pos c7] at hm
      exact w_Md_equate_40 hAD C hr σ4 x1 x2 x3 hm
    · rw [if_neg c7] at hm
      refine z_aload_n (pc := 32) C d_Md_equate_32 rfl 0 rfl ?_
      refine z_iload_n (pc := 33) C d_Md_equate_33 rfl 1 rfl ?_
      obtain ⟨r9, σ8, e10, hm⟩ := bi_s hm
      refine z_callI (pc := 34) C (k_Md_goesRound hAD e10) kz_Md_goesRound mM_138 rfl rfl oM_0 rfl (kR_of (Nat.le_of_ble_eq_true rfl) (Nat.le_of_ble_eq_true rfl)) rfl (Nat.le_of_ble_eq_true rfl) d_Md_equate_34 ?_
      refine z_if_eq (pc := 37) (tgt := 77) C d_Md_equate_37 (by decide) (fun c11 => ?_) (fun c11 => ?_)
      · rw [if_pos c11] at hm
        refine z_lv (lv' := []) [] rfl ?_
        exact w_Md_equate_77 hAD C hr σ8 hm
      · rw [if_neg c11] at hm
        exact w_Md_equate_40 hAD C hr σ8 x1 x2 x3 hm
  · rw [if_neg c1] at hm
    exact z_vretE (pc := 7) C hr hm d_Md_equate_7
set_option maxHeartbeats 4000000 in
set_option maxRecDepth 100000 in
theorem w_Md_doAct_118 {D : va_G} {ad : Nat → Nat} {cA : Nat → ClassId} {p : Program} {l : Launch} {e : Env} {s : State} {m : MethodId} {args : Array Value} {below : List Frame} {meth : Method} {c : Code} {F : Nat} (hAD : ∀ σ, va_D (owM ad) (wdM ad cA σ)) (C : CM D ad cA xTr p s m args meth c bc_Md_doAct "KindRoundsModel" 6) (hr : meth.sig.returnType = none) {σ' : zS} (σ : zS) (hm : Md_doAct_118 F σ = some σ') : ZM D ad cA p l e (rmK 4) s m args below meth c 6 (qvM D ad cA below args s σ') 118 [] [] σ := by
  unfold Md_doAct_118 at hm
  exact z_vretE (pc := 118) C hr hm d_Md_doAct_118
set_option maxHeartbeats 4000000 in
set_option maxRecDepth 100000 in
theorem w_Md_doAct_109 {D : va_G} {ad : Nat → Nat} {cA : Nat → ClassId} {p : Program} {l : Launch} {e : Env} {s : State} {m : MethodId} {args : Array Value} {below : List Frame} {meth : Method} {c : Code} {F : Nat} (hAD : ∀ σ, va_D (owM ad) (wdM ad cA σ)) (C : CM D ad cA xTr p s m args meth c bc_Md_doAct "KindRoundsModel" 6) (hr : meth.sig.returnType = none) {σ' : zS} (σ : zS) (x1 : Int32) (s1 : Int32) (s2 : Int32) (hm : Md_doAct_109 F σ x1 s1 s2 = some σ') : ZM D ad cA p l e (rmK 4) s m args below meth c 6 (qvM D ad cA below args s σ') 109 [(0, .ref (ad 0)), (1, .int x1)] [.int s2, .int s1, .ref (ad 0)] σ := by
  unfold Md_doAct_109 at hm
  refine z_aload_n (pc := 109) C d_Md_doAct_109 rfl 0 rfl ?_
  refine gM_Md_39 (pc := 110) C  d_Md_doAct_110 ?_
  refine z_iload_n (pc := 113) C d_Md_doAct_113 rfl 1 rfl ?_
  obtain ⟨g1, hm⟩ := gd_s hm
  refine alM_9 (pc := 114) (v := (ga σ 9 x1.toNatClampNeg)) C  rfl g1 d_Md_doAct_114 ?_
  obtain ⟨σ2, e3, hm⟩ := bv_s hm
  refine z_callV (pc := 115) C (k_Md_equate hAD e3) kz_Md_equate mM_127 rfl rfl oM_0 rfl (kR_of (Nat.le_of_ble_eq_true rfl) (Nat.le_of_ble_eq_true rfl)) rfl (Nat.le_of_ble_eq_true rfl) d_Md_doAct_115 ?_
  refine z_lv (lv' := []) [] rfl ?_
  exact w_Md_doAct_118 hAD C hr σ2 hm
set_option maxHeartbeats 4000000 in
set_option maxRecDepth 100000 in
theorem k_Md_doAct {l : Launch} {D : va_G} {ad : Nat → Nat} {cA : Nat → ClassId} {F : Nat} (hAD : ∀ σ, va_D (owM ad) (wdM ad cA σ)) {σ : zS} {x1 : Int32} {x2 : Int32} {σ' : zS} (hm : Md_doAct F σ x1 x2 = some σ') : kVM l D ad cA xTr y_Md_doAct bc_Md_doAct 6 4 [.ref (ad 0), .int x1, .int x2] σ σ' := by
  refine kV_of (by decide) hAD xTr_P (Nat.le_of_ble_eq_true rfl) ?_
  intro p e s m below meth c C hr
  unfold Md_doAct at hm
  refine z_lv (lv' := [(0, .ref (ad 0)), (1, .int x1), (2, .int x2)]) [0, 1, 2] rfl ?_
  refine z_aload_n (pc := 0) C d_Md_doAct_0 rfl 0 rfl ?_
  refine gM_Md_36 (pc := 1) C  d_Md_doAct_1 ?_
  refine z_iload_n (pc := 4) C d_Md_doAct_4 rfl 1 rfl ?_
  obtain ⟨g1, hm⟩ := gd_s hm
  refine alM_8 (pc := 5) (v := (ga σ 8 x1.toNatClampNeg)) C  rfl g1 d_Md_doAct_5 ?_
  refine z_istore_n (pc := 6) (lv' := [(0, .ref (ad 0)), (1, .int x1), (2, .int x2), (3, .int (ga σ 8 x1.toNatClampNeg))]) C d_Md_doAct_6 rfl (Nat.le_of_ble_eq_true rfl) [1, 2, 3, 0] rfl ?_
  refine z_aload_n (pc := 7) C d_Md_doAct_7 rfl 0 rfl ?_
  refine gM_Md_33 (pc := 8) C  d_Md_doAct_8 ?_
  refine z_iload_n (pc := 11) C d_Md_doAct_11 rfl 1 rfl ?_
  refine alM_7 (pc := 12) (v := (ga σ 7 x1.toNatClampNeg)) C  rfl g1 d_Md_doAct_12 ?_
  refine z_if_ne (pc := 13) (tgt := 79) C d_Md_doAct_13 (by decide) (fun c2 => ?_) (fun c2 => ?_)
  · rw [if_neg c2] at hm
    refine z_aload_n (pc := 79) C d_Md_doAct_79 rfl 0 rfl ?_
    refine z_aload_n (pc := 80) C d_Md_doAct_80 rfl 0 rfl ?_
    refine gM_Md_30 (pc := 81) C  d_Md_doAct_81 ?_
    refine z_iload_n (pc := 84) C d_Md_doAct_84 rfl 3 rfl ?_
    obtain ⟨g3, hm⟩ := gd_s hm
    refine alM_6 (pc := 85) (v := (ga σ 6 (ga σ 8 x1.toNatClampNeg).toNatClampNeg)) C  rfl g3 d_Md_doAct_85 ?_
    refine z_aload_n (pc := 86) C d_Md_doAct_86 rfl 0 rfl ?_
    refine gM_Md_33 (pc := 87) C  d_Md_doAct_87 ?_
    refine z_iload_n (pc := 90) C d_Md_doAct_90 rfl 1 rfl ?_
    refine alM_7 (pc := 91) (v := (ga σ 7 x1.toNatClampNeg)) C  rfl g1 d_Md_doAct_91 ?_
    refine z_iconst (pc := 92) C d_Md_doAct_92 ki_1 ?_
    refine z_icmp_ne (pc := 93) (tgt := 103) C d_Md_doAct_93 (by decide) (fun c4 => ?_) (fun c4 => ?_)
    · rw [if_neg c4] at hm
      refine z_aload_n (pc := 103) C d_Md_doAct_103 rfl 0 rfl ?_
      refine gM_Md_166 (pc := 104) C  d_Md_doAct_104 ?_
      refine z_iload_n (pc := 107) C d_Md_doAct_107 rfl 2 rfl ?_
      obtain ⟨g5, hm⟩ := gd_s hm
      refine alM_51 (pc := 108) (v := (ga σ 51 x2.toNatClampNeg)) C  rfl g5 d_Md_doAct_108 ?_
      refine z_lv (lv' := [(0, .ref (ad 0)), (1, .int x1)]) [0, 1] rfl ?_
      exact w_Md_doAct_109 hAD C hr σ x1 (ga σ 6 (ga σ 8 x1.toNatClampNeg).toNatClampNeg) (ga σ 51 x2.toNatClampNeg) hm
    · rw [if_pos c4] at hm
      refine z_aload_n (pc := 96) C d_Md_doAct_96 rfl 0 rfl ?_
      refine gM_Md_206 (pc := 97) (v := (gi σ 49)) C rfl d_Md_doAct_97 ?_
      refine z_goto (pc := 100) (tgt := 109) C d_Md_doAct_100 (by decide) ?_
      refine z_lv (lv' := [(0, .ref (ad 0)), (1, .int x1)]) [0, 1] rfl ?_
      exact w_Md_doAct_109 hAD C hr σ x1 (ga σ 6 (ga σ 8 x1.toNatClampNeg).toNatClampNeg) (gi σ 49) hm
  · rw [if_pos c2] at hm
    refine z_aload_n (pc := 16) C d_Md_doAct_16 rfl 0 rfl ?_
    refine z_iconst (pc := 17) C d_Md_doAct_17 ki_0 ?_
    refine z_iconst (pc := 18) C d_Md_doAct_18 ki_0 ?_
    refine z_iconst (pc := 19) C d_Md_doAct_19 ki_0 ?_
    obtain ⟨r7, σ6, e8, hm⟩ := bi_s hm
    refine z_callI (pc := 20) C (k_Md_newKind hAD e8) kz_Md_newKind mM_73 rfl rfl oM_0 rfl (kR_of (Nat.le_of_ble_eq_true rfl) (Nat.le_of_ble_eq_true rfl)) rfl (Nat.le_of_ble_eq_true rfl) d_Md_doAct_20 ?_
    refine z_istore (pc := 23) (lv' := [(0, .ref (ad 0)), (1, .int x1), (2, .int x2), (3, .int (ga σ 8 x1.toNatClampNeg)), (4, .int r7)]) C d_Md_doAct_23 (Nat.le_of_ble_eq_true rfl) [1, 2, 3, 4, 0] rfl ?_
    refine z_aload_n (pc := 25) C d_Md_doAct_25 rfl 0 rfl ?_
    refine z_iconst (pc := 26) C d_Md_doAct_26 ki_2 ?_
    refine z_aload_n (pc := 27) C d_Md_doAct_27 rfl 0 rfl ?_
    refine gM_Md_30 (pc := 28) C  d_Md_doAct_28 ?_
    refine z_aload_n (pc := 31) C d_Md_doAct_31 rfl 0 rfl ?_
    refine gM_Md_27 (pc := 32) C  d_Md_doAct_32 ?_
    refine z_iload_n (pc := 35) C d_Md_doAct_35 rfl 3 rfl ?_
    obtain ⟨g9, hm⟩ := gd_s hm
    refine alM_5 (pc := 36) (v := (ga σ6 5 (ga σ 8 x1.toNatClampNeg).toNatClampNeg)) C  rfl g9 d_Md_doAct_36 ?_
    obtain ⟨g10, hm⟩ := gd_s hm
    refine alM_6 (pc := 37) (v := (ga σ6 6 (ga σ6 5 (ga σ 8 x1.toNatClampNeg).toNatClampNeg).toNatClampNeg)) C  rfl g10 d_Md_doAct_37 ?_
    refine z_iload (pc := 38) C d_Md_doAct_38 4 rfl ?_
    obtain ⟨r12, σ11, e13, hm⟩ := bi_s hm
    refine z_callI (pc := 40) C (k_Md_newKind hAD e13) kz_Md_newKind mM_73 rfl rfl oM_0 rfl (kR_of (Nat.le_of_ble_eq_true rfl) (Nat.le_of_ble_eq_true rfl)) rfl (Nat.le_of_ble_eq_true rfl) d_Md_doAct_40 ?_
    refine z_istore (pc := 43) (lv' := [(0, .ref (ad 0)), (1, .int x1), (2, .int x2), (3, .int (ga σ 8 x1.toNatClampNeg)), (4, .int r7), (5, .int r12)]) C d_Md_doAct_43 (Nat.le_of_ble_eq_true rfl) [1, 2, 3, 4, 5, 0] rfl ?_
    refine z_aload_n (pc := 45) C d_Md_doAct_45 rfl 0 rfl ?_
    refine z_aload_n (pc := 46) C d_Md_doAct_46 rfl 0 rfl ?_
    refine gM_Md_30 (pc := 47) C  d_Md_doAct_47 ?_
    refine z_aload_n (pc := 50) C d_Md_doAct_50 rfl 0 rfl ?_
    refine gM_Md_24 (pc := 51) C  d_Md_doAct_51 ?_
    refine z_iload_n (pc := 54) C d_Md_doAct_54 rfl 3 rfl ?_
    refine alM_4 (pc := 55) (v := (ga σ11 4 (ga σ 8 x1.toNatClampNeg).toNatClampNeg)) C  rfl g9 d_Md_doAct_55 ?_
    obtain ⟨g14, hm⟩ := gd_s hm
    refine alM_6 (pc := 56) (v := (ga σ11 6 (ga σ11 4 (ga σ 8 x1.toNatClampNeg).toNatClampNeg).toNatClampNeg)) C  rfl g14 d_Md_doAct_56 ?_
    refine z_iload (pc := 57) C d_Md_doAct_57 5 rfl ?_
    refine z_aload_n (pc := 59) C d_Md_doAct_59 rfl 0 rfl ?_
    refine gM_Md_39 (pc := 60) C  d_Md_doAct_60 ?_
    refine z_iload_n (pc := 63) C d_Md_doAct_63 rfl 1 rfl ?_
    refine alM_9 (pc := 64) (v := (ga σ11 9 x1.toNatClampNeg)) C  rfl g1 d_Md_doAct_64 ?_
    obtain ⟨σ15, e16, hm⟩ := bv_s hm
    refine z_callV (pc := 65) C (k_Md_equate hAD e16) kz_Md_equate mM_127 rfl rfl oM_0 rfl (kR_of (Nat.le_of_ble_eq_true rfl) (Nat.le_of_ble_eq_true rfl)) rfl (Nat.le_of_ble_eq_true rfl) d_Md_doAct_65 ?_
    refine z_aload_n (pc := 68) C d_Md_doAct_68 rfl 0 rfl ?_
    refine gM_Md_30 (pc := 69) C  d_Md_doAct_69 ?_
    refine z_iload_n (pc := 72) C d_Md_doAct_72 rfl 3 rfl ?_
    refine z_iload (pc := 73) C d_Md_doAct_73 4 rfl ?_
    refine asM_6 (pc := 75) C  g9 d_Md_doAct_75 ?_
    refine z_goto (pc := 76) (tgt := 118) C d_Md_doAct_76 (by decide) ?_
    refine z_lv (lv' := []) [] rfl ?_
    exact w_Md_doAct_118 hAD C hr (sa σ15 6 (ga σ 8 x1.toNatClampNeg).toNatClampNeg r7) hm
set_option maxHeartbeats 4000000 in
set_option maxRecDepth 100000 in
theorem w_Md_kindOfSmall_141 {D : va_G} {ad : Nat → Nat} {cA : Nat → ClassId} {p : Program} {l : Launch} {e : Env} {s : State} {m : MethodId} {args : Array Value} {below : List Frame} {meth : Method} {c : Code} {F : Nat} (hAD : ∀ σ, va_D (owM ad) (wdM ad cA σ)) (C : CM D ad cA xTr p s m args meth c bc_Md_kindOfSmall "KindRoundsModel" 5) (hr : meth.sig.returnType = some .int) {r : Int32} {σ' : zS} (rc67 : zS → Int32 → Int32 → Option (Int32 × zS)) (h67 : ∀ σ x1 x4, rc67 σ x1 x4 = some (r, σ') → ZM D ad cA p l e (rmK 1) s m args below meth c 5 (qiM D ad cA below args s r σ') 67 [(0, .ref (ad 0)), (1, .int x1), (4, .int x4)] [] σ) (σ : zS) (x1 : Int32) (x4 : Int32) (hm : Md_kindOfSmall_141 F rc67 σ x1 x4 = some (r, σ')) : ZM D ad cA p l e (rmK 1) s m args below meth c 5 (qiM D ad cA below args s r σ') 141 [(0, .ref (ad 0)), (1, .int x1), (4, .int x4)] [] σ := by
  unfold Md_kindOfSmall_141 at hm
  refine z_iinc (pc := 141) (lv' := [(0, .ref (ad 0)), (1, .int x1), (4, .int (x4 + (1 : Int32)))]) C d_Md_kindOfSmall_141 2 rfl (ii ki_1) (Nat.le_of_ble_eq_true rfl) [1, 2, 0] rfl ?_
  refine z_goto (pc := 144) (tgt := 67) C d_Md_kindOfSmall_144 (by decide) ?_
  exact h67 σ x1 (x4 + (1 : Int32)) hm
set_option maxHeartbeats 4000000 in
set_option maxRecDepth 100000 in
theorem w_Md_kindOfSmall_67 {D : va_G} {ad : Nat → Nat} {cA : Nat → ClassId} {p : Program} {l : Launch} {e : Env} {s : State} {m : MethodId} {args : Array Value} {below : List Frame} {meth : Method} {c : Code} {F : Nat} (hAD : ∀ σ, va_D (owM ad) (wdM ad cA σ)) (C : CM D ad cA xTr p s m args meth c bc_Md_kindOfSmall "KindRoundsModel" 5) (hr : meth.sig.returnType = some .int) {r : Int32} {σ' : zS} : ∀ (n : Nat) (σ : zS) (x1 : Int32) (x4 : Int32), Md_kindOfSmall_67 F n σ x1 x4 = some (r, σ') → ZM D ad cA p l e (rmK 1) s m args below meth c 5 (qiM D ad cA below args s r σ') 67 [(0, .ref (ad 0)), (1, .int x1), (4, .int x4)] [] σ := by
  intro n
  induction n with
  | zero => intro σ x1 x4 hm; cases hm
  | succ n h67 =>
    intro σ x1 x4 hm
    have hm : Md_kindOfSmall_b67 F (Md_kindOfSmall_67 F n) σ x1 x4 = some (r, σ') := hm
    unfold Md_kindOfSmall_b67 at hm
    refine z_iload (pc := 67) C d_Md_kindOfSmall_67 2 rfl ?_
    refine z_iload_n (pc := 69) C d_Md_kindOfSmall_69 rfl 1 rfl ?_
    refine z_icmp_ge (pc := 70) (tgt := 147) C d_Md_kindOfSmall_70 (by decide) (fun c1 => ?_) (fun c1 => ?_)
    · rw [if_pos c1] at hm
      refine z_aload_n (pc := 147) C d_Md_kindOfSmall_147 rfl 0 rfl ?_
      refine z_iconst (pc := 148) C d_Md_kindOfSmall_148 ki_0 ?_
      refine z_iconst (pc := 149) C d_Md_kindOfSmall_149 ki_0 ?_
      refine z_iconst (pc := 150) C d_Md_kindOfSmall_150 ki_0 ?_
      obtain ⟨r3, σ2, e4, hm⟩ := bi_s hm
      refine z_callI (pc := 151) C (k_Md_newKind hAD e4) kz_Md_newKind mM_73 rfl rfl oM_0 rfl (kR_of (Nat.le_of_ble_eq_true rfl) (Nat.le_of_ble_eq_true rfl)) rfl (Nat.le_of_ble_eq_true rfl) d_Md_kindOfSmall_151 ?_
      exact z_iretE (pc := 154) C hr hm d_Md_kindOfSmall_154
    · rw [if_neg c1] at hm
      refine z_aload_n (pc := 73) C d_Md_kindOfSmall_73 rfl 0 rfl ?_
      refine gM_Md_17 (pc := 74) C  d_Md_kindOfSmall_74 ?_
      refine z_iload (pc := 77) C d_Md_kindOfSmall_77 2 rfl ?_
      obtain ⟨g5, hm⟩ := gd_s hm
      refine alM_2 (pc := 79) (v := (ga σ 2 x4.toNatClampNeg)) C  rfl g5 d_Md_kindOfSmall_79 ?_
      refine z_iconst (pc := 80) C d_Md_kindOfSmall_80 ki_1 ?_
      refine z_icmp_ne (pc := 81) (tgt := 141) C d_Md_kindOfSmall_81 (by decide) (fun c6 => ?_) (fun c6 => ?_)
      · rw [if_neg c6] at hm
        exact w_Md_kindOfSmall_141 hAD C hr _ h67 σ x1 x4 hm
      · rw [if_pos c6] at hm
        refine z_aload_n (pc := 84) C d_Md_kindOfSmall_84 rfl 0 rfl ?_
        refine gM_Md_24 (pc := 85) C  d_Md_kindOfSmall_85 ?_
        refine z_iload (pc := 88) C d_Md_kindOfSmall_88 2 rfl ?_
        refine alM_4 (pc := 90) (v := (ga σ 4 x4.toNatClampNeg)) C  rfl g5 d_Md_kindOfSmall_90 ?_
        refine z_aload_n (pc := 91) C d_Md_kindOfSmall_91 rfl 0 rfl ?_
        refine gM_Md_24 (pc := 92) C  d_Md_kindOfSmall_92 ?_
        refine z_iload_n (pc := 95) C d_Md_kindOfSmall_95 rfl 1 rfl ?_
        obtain ⟨g7, hm⟩ := gd_s hm
        refine alM_4 (pc := 96) (v := (ga σ 4 x1.toNatClampNeg)) C  rfl g7 d_Md_kindOfSmall_96 ?_
        refine z_icmp_ne (pc := 97) (tgt := 141) C d_Md_kindOfSmall_97 (by decide) (fun c8 => ?_) (fun c8 => ?_)
        · rw [if_neg c8] at hm
          exact w_Md_kindOfSmall_141 hAD C hr _ h67 σ x1 x4 hm
        · rw [if_pos c8] at hm
          refine z_aload_n (pc := 100) C d_Md_kindOfSmall_100 rfl 0 rfl ?_
          refine gM_Md_27 (pc := 101) C  d_Md_kindOfSmall_101 ?_
          refine z_iload (pc := 104) C d_Md_kindOfSmall_104 2 rfl ?_
          refine alM_5 (pc := 106) (v := (ga σ 5 x4.toNatClampNeg)) C  rfl g5 d_Md_kindOfSmall_106 ?_
          refine z_aload_n (pc := 107) C d_Md_kindOfSmall_107 rfl 0 rfl ?_
          refine gM_Md_27 (pc := 108) C  d_Md_kindOfSmall_108 ?_
          refine z_iload_n (pc := 111) C d_Md_kindOfSmall_111 rfl 1 rfl ?_
          refine alM_5 (pc := 112) (v := (ga σ 5 x1.toNatClampNeg)) C  rfl g7 d_Md_kindOfSmall_112 ?_
          refine z_icmp_ne (pc := 113) (tgt := 141) C d_Md_kindOfSmall_113 (by decide) (fun c9 => ?_) (fun c9 => ?_)
          · rw [if_neg c9] at hm
            exact w_Md_kindOfSmall_141 hAD C hr _ h67 σ x1 x4 hm
          · rw [if_pos c9] at hm
            refine z_aload_n (pc := 116) C d_Md_kindOfSmall_116 rfl 0 rfl ?_
            refine gM_Md_20 (pc := 117) C  d_Md_kindOfSmall_117 ?_
            refine z_iload (pc := 120) C d_Md_kindOfSmall_120 2 rfl ?_
            refine alM_3 (pc := 122) (v := (gb σ 3 x4.toNatClampNeg)) C  rfl g5 d_Md_kindOfSmall_122 ?_
            refine z_aload_n (pc := 123) C d_Md_kindOfSmall_123 rfl 0 rfl ?_
            refine gM_Md_20 (pc := 124) C  d_Md_kindOfSmall_124 ?_
            refine z_iload_n (pc := 127) C d_Md_kindOfSmall_127 rfl 1 rfl ?_
            refine alM_3 (pc := 128) (v := (gb σ 3 x1.toNatClampNeg)) C  rfl g7 d_Md_kindOfSmall_128 ?_
            refine z_lcmp (pc := 129) C d_Md_kindOfSmall_129 ?_
            refine z_if_ne (pc := 130) (tgt := 141) C d_Md_kindOfSmall_130 (by decide) (fun c10 => ?_) (fun c10 => ?_)
            · rw [if_neg c10] at hm
              exact w_Md_kindOfSmall_141 hAD C hr _ h67 σ x1 x4 hm
            · rw [if_pos c10] at hm
              refine z_aload_n (pc := 133) C d_Md_kindOfSmall_133 rfl 0 rfl ?_
              refine gM_Md_30 (pc := 134) C  d_Md_kindOfSmall_134 ?_
              refine z_iload (pc := 137) C d_Md_kindOfSmall_137 2 rfl ?_
              refine alM_6 (pc := 139) (v := (ga σ 6 x4.toNatClampNeg)) C  rfl g5 d_Md_kindOfSmall_139 ?_
              exact z_iretE (pc := 140) C hr hm d_Md_kindOfSmall_140
set_option maxHeartbeats 4000000 in
set_option maxRecDepth 100000 in
theorem w_Md_kindOfSmall_64 {D : va_G} {ad : Nat → Nat} {cA : Nat → ClassId} {p : Program} {l : Launch} {e : Env} {s : State} {m : MethodId} {args : Array Value} {below : List Frame} {meth : Method} {c : Code} {F : Nat} (hAD : ∀ σ, va_D (owM ad) (wdM ad cA σ)) (C : CM D ad cA xTr p s m args meth c bc_Md_kindOfSmall "KindRoundsModel" 5) (hr : meth.sig.returnType = some .int) {r : Int32} {σ' : zS} (σ : zS) (x1 : Int32) (x2 : Int32) (hm : Md_kindOfSmall_64 F σ x1 x2 = some (r, σ')) : ZM D ad cA p l e (rmK 1) s m args below meth c 5 (qiM D ad cA below args s r σ') 64 [(0, .ref (ad 0)), (1, .int x1), (2, .int x2)] [] σ := by
  unfold Md_kindOfSmall_64 at hm
  refine z_iload_n (pc := 64) C d_Md_kindOfSmall_64 rfl 2 rfl ?_
  refine z_istore (pc := 65) (lv' := [(0, .ref (ad 0)), (1, .int x1), (2, .int x2), (4, .int x2)]) C d_Md_kindOfSmall_65 (Nat.le_of_ble_eq_true rfl) [1, 2, 3, 0] rfl ?_
  refine z_lv (lv' := [(0, .ref (ad 0)), (1, .int x1), (4, .int x2)]) [0, 1, 3] rfl ?_
  exact w_Md_kindOfSmall_67 hAD C hr F σ x1 x2 hm
set_option maxHeartbeats 4000000 in
set_option maxRecDepth 100000 in
theorem w_Md_kindOfSmall_10 {D : va_G} {ad : Nat → Nat} {cA : Nat → ClassId} {p : Program} {l : Launch} {e : Env} {s : State} {m : MethodId} {args : Array Value} {below : List Frame} {meth : Method} {c : Code} {F : Nat} (hAD : ∀ σ, va_D (owM ad) (wdM ad cA σ)) (C : CM D ad cA xTr p s m args meth c bc_Md_kindOfSmall "KindRoundsModel" 5) (hr : meth.sig.returnType = some .int) {r : Int32} {σ' : zS} : ∀ (n : Nat) (σ : zS) (x1 : Int32) (x2 : Int32) (x3 : Int32) (x4 : Int32), Md_kindOfSmall_10 F n σ x1 x2 x3 x4 = some (r, σ') → ZM D ad cA p l e (rmK 1) s m args below meth c 5 (qiM D ad cA below args s r σ') 10 [(0, .ref (ad 0)), (1, .int x1), (2, .int x2), (3, .int x3), (4, .int x4)] [] σ := by
  intro n
  induction n with
  | zero => intro σ x1 x2 x3 x4 hm; cases hm
  | succ n h10 =>
    intro σ x1 x2 x3 x4 hm
    have hm : Md_kindOfSmall_b10 F (Md_kindOfSmall_10 F n) σ x1 x2 x3 x4 = some (r, σ') := hm
    unfold Md_kindOfSmall_b10 at hm
    refine z_iload_n (pc := 10) C d_Md_kindOfSmall_10 rfl 3 rfl ?_
    refine z_if_lt (pc := 11) (tgt := 64) C d_Md_kindOfSmall_11 (by decide) (fun c1 => ?_) (fun c1 => ?_)
    · rw [if_pos c1] at hm
      refine z_lv (lv' := [(0, .ref (ad 0)), (1, .int x1), (2, .int x2)]) [0, 1, 2] rfl ?_
      exact w_Md_kindOfSmall_64 hAD C hr σ x1 x2 hm
    · rw [if_neg c1] at hm
      refine z_iload (pc := 14) C d_Md_kindOfSmall_14 4 rfl ?_
      refine z_aload_n (pc := 16) C d_Md_kindOfSmall_16 rfl 0 rfl ?_
      refine gM_Md_121 (pc := 17) C  d_Md_kindOfSmall_17 ?_
      refine z_iload_n (pc := 20) C d_Md_kindOfSmall_20 rfl 3 rfl ?_
      obtain ⟨g2, hm⟩ := gd_s hm
      refine alM_36 (pc := 21) (v := (ga σ 36 x3.toNatClampNeg)) C  rfl g2 d_Md_kindOfSmall_21 ?_
      refine z_icmp_ge (pc := 22) (tgt := 64) C d_Md_kindOfSmall_22 (by decide) (fun c3 => ?_) (fun c3 => ?_)
      · rw [if_pos c3] at hm
        refine z_lv (lv' := [(0, .ref (ad 0)), (1, .int x1), (2, .int x2)]) [0, 1, 2] rfl ?_
        exact w_Md_kindOfSmall_64 hAD C hr σ x1 x2 hm
      · rw [if_neg c3] at hm
        refine z_aload_n (pc := 25) C d_Md_kindOfSmall_25 rfl 0 rfl ?_
        refine gM_Md_124 (pc := 26) C  d_Md_kindOfSmall_26 ?_
        refine z_iconst (pc := 29) C d_Md_kindOfSmall_29 ki_3 ?_
        refine z_iload_n (pc := 30) C d_Md_kindOfSmall_30 rfl 3 rfl ?_
        refine z_imul (pc := 31) C d_Md_kindOfSmall_31 ?_
        refine z_iload (pc := 32) C d_Md_kindOfSmall_32 4 rfl ?_
        refine z_iadd (pc := 34) C d_Md_kindOfSmall_34 ?_
        obtain ⟨g4, hm⟩ := gd_s hm
        refine alM_37 (pc := 35) (v := (gb σ 37 (((3 : Int32) * x3) + x4).toNatClampNeg)) C  rfl g4 d_Md_kindOfSmall_35 ?_
        refine z_aload_n (pc := 36) C d_Md_kindOfSmall_36 rfl 0 rfl ?_
        refine gM_Md_20 (pc := 37) C  d_Md_kindOfSmall_37 ?_
        refine z_iload_n (pc := 40) C d_Md_kindOfSmall_40 rfl 1 rfl ?_
        obtain ⟨g5, hm⟩ := gd_s hm
        refine alM_3 (pc := 41) (v := (gb σ 3 x1.toNatClampNeg)) C  rfl g5 d_Md_kindOfSmall_41 ?_
        refine z_lcmp (pc := 42) C d_Md_kindOfSmall_42 ?_
        refine z_if_ne (pc := 43) (tgt := 58) C d_Md_kindOfSmall_43 (by decide) (fun c6 => ?_) (fun c6 => ?_)
        · rw [if_neg c6] at hm
          refine z_iinc (pc := 58) (lv' := [(0, .ref (ad 0)), (1, .int x1), (2, .int x2), (3, .int x3), (4, .int (x4 + (1 : Int32)))]) C d_Md_kindOfSmall_58 4 rfl (ii ki_1) (Nat.le_of_ble_eq_true rfl) [1, 2, 3, 4, 0] rfl ?_
          refine z_goto (pc := 61) (tgt := 10) C d_Md_kindOfSmall_61 (by decide) ?_
          exact h10 σ x1 x2 x3 (x4 + (1 : Int32)) hm
        · rw [if_pos c6] at hm
          refine z_aload_n (pc := 46) C d_Md_kindOfSmall_46 rfl 0 rfl ?_
          refine gM_Md_163 (pc := 47) C  d_Md_kindOfSmall_47 ?_
          refine z_iconst (pc := 50) C d_Md_kindOfSmall_50 ki_3 ?_
          refine z_iload_n (pc := 51) C d_Md_kindOfSmall_51 rfl 3 rfl ?_
          refine z_imul (pc := 52) C d_Md_kindOfSmall_52 ?_
          refine z_iload (pc := 53) C d_Md_kindOfSmall_53 4 rfl ?_
          refine z_iadd (pc := 55) C d_Md_kindOfSmall_55 ?_
          obtain ⟨g7, hm⟩ := gd_s hm
          refine alM_50 (pc := 56) (v := (ga σ 50 (((3 : Int32) * x3) + x4).toNatClampNeg)) C  rfl g7 d_Md_kindOfSmall_56 ?_
          exact z_iretE (pc := 57) C hr hm d_Md_kindOfSmall_57
set_option maxHeartbeats 4000000 in
set_option maxRecDepth 100000 in
theorem k_Md_kindOfSmall {l : Launch} {D : va_G} {ad : Nat → Nat} {cA : Nat → ClassId} {F : Nat} (hAD : ∀ σ, va_D (owM ad) (wdM ad cA σ)) {σ : zS} {x1 : Int32} {x2 : Int32} {r : Int32} {σ' : zS} (hm : Md_kindOfSmall F σ x1 x2 = some (r, σ')) : kIM l D ad cA xTr y_Md_kindOfSmall bc_Md_kindOfSmall 5 .int 1 [.ref (ad 0), .int x1, .int x2] σ r σ' := by
  refine kI_of (by decide) hAD xTr_P (Nat.le_of_ble_eq_true rfl) ?_
  intro p e s m below meth c C hr
  unfold Md_kindOfSmall at hm
  refine z_lv (lv' := [(0, .ref (ad 0)), (1, .int x1), (2, .int x2)]) [0, 1, 2] rfl ?_
  refine z_aload_n (pc := 0) C d_Md_kindOfSmall_0 rfl 0 rfl ?_
  refine gM_Md_24 (pc := 1) C  d_Md_kindOfSmall_1 ?_
  refine z_iload_n (pc := 4) C d_Md_kindOfSmall_4 rfl 1 rfl ?_
  obtain ⟨g1, hm⟩ := gd_s hm
  refine alM_4 (pc := 5) (v := (ga σ 4 x1.toNatClampNeg)) C  rfl g1 d_Md_kindOfSmall_5 ?_
  refine z_istore_n (pc := 6) (lv' := [(0, .ref (ad 0)), (1, .int x1), (2, .int x2), (3, .int (ga σ 4 x1.toNatClampNeg))]) C d_Md_kindOfSmall_6 rfl (Nat.le_of_ble_eq_true rfl) [1, 2, 3, 0] rfl ?_
  refine z_iconst (pc := 7) C d_Md_kindOfSmall_7 ki_0 ?_
  refine z_istore (pc := 8) (lv' := [(0, .ref (ad 0)), (1, .int x1), (2, .int x2), (3, .int (ga σ 4 x1.toNatClampNeg)), (4, .int (0 : Int32))]) C d_Md_kindOfSmall_8 (Nat.le_of_ble_eq_true rfl) [1, 2, 3, 4, 0] rfl ?_
  exact w_Md_kindOfSmall_10 hAD C hr F σ x1 x2 (ga σ 4 x1.toNatClampNeg) (0 : Int32) hm
set_option maxHeartbeats 4000000 in
set_option maxRecDepth 100000 in
theorem w_Md_layKind_108 {D : va_G} {ad : Nat → Nat} {cA : Nat → ClassId} {p : Program} {l : Launch} {e : Env} {s : State} {m : MethodId} {args : Array Value} {below : List Frame} {meth : Method} {c : Code} {F : Nat} (hAD : ∀ σ, va_D (owM ad) (wdM ad cA σ)) (C : CM D ad cA xTr p s m args meth c bc_Md_layKind "KindRoundsModel" 3) (hr : meth.sig.returnType = none) {σ' : zS} (σ : zS) (hm : Md_layKind_108 F σ = some σ') : ZM D ad cA p l e (rmK 2) s m args below meth c 3 (qvM D ad cA below args s σ') 108 [] [] σ := by
  unfold Md_layKind_108 at hm
  exact z_vretE (pc := 108) C hr hm d_Md_layKind_108
set_option maxHeartbeats 4000000 in
set_option maxRecDepth 100000 in
theorem w_Md_layKind_20 {D : va_G} {ad : Nat → Nat} {cA : Nat → ClassId} {p : Program} {l : Launch} {e : Env} {s : State} {m : MethodId} {args : Array Value} {below : List Frame} {meth : Method} {c : Code} {F : Nat} (hAD : ∀ σ, va_D (owM ad) (wdM ad cA σ)) (C : CM D ad cA xTr p s m args meth c bc_Md_layKind "KindRoundsModel" 3) (hr : meth.sig.returnType = none) {σ' : zS} (σ : zS) (x1 : Int32) (hm : Md_layKind_20 F σ x1 = some σ') : ZM D ad cA p l e (rmK 2) s m args below meth c 3 (qvM D ad cA below args s σ') 20 [(0, .ref (ad 0)), (1, .int x1)] [] σ := by
  unfold Md_layKind_20 at hm
  refine z_aload_n (pc := 20) C d_Md_layKind_20 rfl 0 rfl ?_
  refine gM_Md_30 (pc := 21) C  d_Md_layKind_21 ?_
  refine z_iload_n (pc := 24) C d_Md_layKind_24 rfl 1 rfl ?_
  refine z_aload_n (pc := 25) C d_Md_layKind_25 rfl 0 rfl ?_
  refine gM_Md_206 (pc := 26) (v := (gi σ 49)) C rfl d_Md_layKind_26 ?_
  obtain ⟨g1, hm⟩ := gd_s hm
  refine asM_6 (pc := 29) C  g1 d_Md_layKind_29 ?_
  refine z_goto (pc := 30) (tgt := 108) C d_Md_layKind_30 (by decide) ?_
  refine z_lv (lv' := []) [] rfl ?_
  exact w_Md_layKind_108 hAD C hr (sa σ 6 x1.toNatClampNeg (gi σ 49)) hm
set_option maxHeartbeats 4000000 in
set_option maxRecDepth 100000 in
theorem w_Md_layKind_82 {D : va_G} {ad : Nat → Nat} {cA : Nat → ClassId} {p : Program} {l : Launch} {e : Env} {s : State} {m : MethodId} {args : Array Value} {below : List Frame} {meth : Method} {c : Code} {F : Nat} (hAD : ∀ σ, va_D (owM ad) (wdM ad cA σ)) (C : CM D ad cA xTr p s m args meth c bc_Md_layKind "KindRoundsModel" 3) (hr : meth.sig.returnType = none) {σ' : zS} (σ : zS) (s1 : Int32) (s2 : Int32) (hm : Md_layKind_82 F σ s1 s2 = some σ') : ZM D ad cA p l e (rmK 2) s m args below meth c 3 (qvM D ad cA below args s σ') 82 [] [.int s2, .int s1, .ref (ad 6)] σ := by
  unfold Md_layKind_82 at hm
  obtain ⟨g1, hm⟩ := gd_s hm
  refine asM_6 (pc := 82) C  g1 d_Md_layKind_82 ?_
  refine z_goto (pc := 83) (tgt := 108) C d_Md_layKind_83 (by decide) ?_
  exact w_Md_layKind_108 hAD C hr (sa σ 6 s1.toNatClampNeg s2) hm
set_option maxHeartbeats 4000000 in
set_option maxRecDepth 100000 in
theorem k_Md_layKind {l : Launch} {D : va_G} {ad : Nat → Nat} {cA : Nat → ClassId} {F : Nat} (hAD : ∀ σ, va_D (owM ad) (wdM ad cA σ)) {σ : zS} {x1 : Int32} {x2 : Int32} {σ' : zS} (hm : Md_layKind F σ x1 x2 = some σ') : kVM l D ad cA xTr y_Md_layKind bc_Md_layKind 3 2 [.ref (ad 0), .int x1, .int x2] σ σ' := by
  refine kV_of (by decide) hAD xTr_P (Nat.le_of_ble_eq_true rfl) ?_
  intro p e s m below meth c C hr
  unfold Md_layKind at hm
  refine z_lv (lv' := [(0, .ref (ad 0)), (1, .int x1), (2, .int x2)]) [0, 1, 2] rfl ?_
  refine z_aload_n (pc := 0) C d_Md_layKind_0 rfl 0 rfl ?_
  refine gM_Md_17 (pc := 1) C  d_Md_layKind_1 ?_
  refine z_iload_n (pc := 4) C d_Md_layKind_4 rfl 1 rfl ?_
  obtain ⟨g1, hm⟩ := gd_s hm
  refine alM_2 (pc := 5) (v := (ga σ 2 x1.toNatClampNeg)) C  rfl g1 d_Md_layKind_5 ?_
  refine z_iconst (pc := 6) C d_Md_layKind_6 ki_3 ?_
  refine z_icmp_eq (pc := 7) (tgt := 20) C d_Md_layKind_7 (by decide) (fun c2 => ?_) (fun c2 => ?_)
  · rw [if_pos c2] at hm
    refine z_lv (lv' := [(0, .ref (ad 0)), (1, .int x1)]) [0, 1] rfl ?_
    exact w_Md_layKind_20 hAD C hr σ x1 hm
  · rw [if_neg c2] at hm
    refine z_aload_n (pc := 10) C d_Md_layKind_10 rfl 0 rfl ?_
    refine gM_Md_17 (pc := 11) C  d_Md_layKind_11 ?_
    refine z_iload_n (pc := 14) C d_Md_layKind_14 rfl 1 rfl ?_
    refine alM_2 (pc := 15) (v := (ga σ 2 x1.toNatClampNeg)) C  rfl g1 d_Md_layKind_15 ?_
    refine z_iconst (pc := 16) C d_Md_layKind_16 ki_4 ?_
    refine z_icmp_ne (pc := 17) (tgt := 33) C d_Md_layKind_17 (by decide) (fun c3 => ?_) (fun c3 => ?_)
    · rw [if_neg c3] at hm
      refine z_aload_n (pc := 33) C d_Md_layKind_33 rfl 0 rfl ?_
      refine gM_Md_17 (pc := 34) C  d_Md_layKind_34 ?_
      refine z_iload_n (pc := 37) C d_Md_layKind_37 rfl 1 rfl ?_
      refine alM_2 (pc := 38) (v := (ga σ 2 x1.toNatClampNeg)) C  rfl g1 d_Md_layKind_38 ?_
      refine z_if_ne (pc := 39) (tgt := 86) C d_Md_layKind_39 (by decide) (fun c4 => ?_) (fun c4 => ?_)
      · rw [if_neg c4] at hm
        refine z_aload_n (pc := 86) C d_Md_layKind_86 rfl 0 rfl ?_
        refine gM_Md_17 (pc := 87) C  d_Md_layKind_87 ?_
        refine z_iload_n (pc := 90) C d_Md_layKind_90 rfl 1 rfl ?_
        refine alM_2 (pc := 91) (v := (ga σ 2 x1.toNatClampNeg)) C  rfl g1 d_Md_layKind_91 ?_
        refine z_iconst (pc := 92) C d_Md_layKind_92 ki_1 ?_
        refine z_icmp_ne (pc := 93) (tgt := 108) C d_Md_layKind_93 (by decide) (fun c5 => ?_) (fun c5 => ?_)
        · rw [if_neg c5] at hm
          refine z_lv (lv' := []) [] rfl ?_
          exact w_Md_layKind_108 hAD C hr σ hm
        · rw [if_pos c5] at hm
          refine z_aload_n (pc := 96) C d_Md_layKind_96 rfl 0 rfl ?_
          refine gM_Md_30 (pc := 97) C  d_Md_layKind_97 ?_
          refine z_iload_n (pc := 100) C d_Md_layKind_100 rfl 1 rfl ?_
          refine z_aload_n (pc := 101) C d_Md_layKind_101 rfl 0 rfl ?_
          refine z_iload_n (pc := 102) C d_Md_layKind_102 rfl 1 rfl ?_
          refine z_iload_n (pc := 103) C d_Md_layKind_103 rfl 2 rfl ?_
          obtain ⟨r7, σ6, e8, hm⟩ := bi_s hm
          refine z_callI (pc := 104) C (k_Md_kindOfSmall hAD e8) kz_Md_kindOfSmall mM_124 rfl rfl oM_0 rfl (kR_of (Nat.le_of_ble_eq_true rfl) (Nat.le_of_ble_eq_true rfl)) rfl (Nat.le_of_ble_eq_true rfl) d_Md_layKind_104 ?_
          refine asM_6 (pc := 107) C  g1 d_Md_layKind_107 ?_
          refine z_lv (lv' := []) [] rfl ?_
          exact w_Md_layKind_108 hAD C hr (sa σ6 6 x1.toNatClampNeg r7) hm
      · rw [if_pos c4] at hm
        refine z_aload_n (pc := 42) C d_Md_layKind_42 rfl 0 rfl ?_
        refine gM_Md_30 (pc := 43) C  d_Md_layKind_43 ?_
        refine z_iload_n (pc := 46) C d_Md_layKind_46 rfl 1 rfl ?_
        refine z_aload_n (pc := 47) C d_Md_layKind_47 rfl 0 rfl ?_
        refine gM_Md_20 (pc := 48) C  d_Md_layKind_48 ?_
        refine z_iload_n (pc := 51) C d_Md_layKind_51 rfl 1 rfl ?_
        refine alM_3 (pc := 52) (v := (gb σ 3 x1.toNatClampNeg)) C  rfl g1 d_Md_layKind_52 ?_
        refine z_ldc2 (pc := 53) C mM_107 d_Md_layKind_53 ?_
        refine z_lcmp (pc := 56) C d_Md_layKind_56 ?_
        refine z_if_ne (pc := 57) (tgt := 67) C d_Md_layKind_57 (by decide) (fun c9 => ?_) (fun c9 => ?_)
        · rw [if_neg c9] at hm
          refine z_aload_n (pc := 67) C d_Md_layKind_67 rfl 0 rfl ?_
          refine gM_Md_160 (pc := 68) C  d_Md_layKind_68 ?_
          refine z_aload_n (pc := 71) C d_Md_layKind_71 rfl 0 rfl ?_
          refine z_aload_n (pc := 72) C d_Md_layKind_72 rfl 0 rfl ?_
          refine gM_Md_20 (pc := 73) C  d_Md_layKind_73 ?_
          refine z_iload_n (pc := 76) C d_Md_layKind_76 rfl 1 rfl ?_
          refine alM_3 (pc := 77) (v := (gb σ 3 x1.toNatClampNeg)) C  rfl g1 d_Md_layKind_77 ?_
          obtain ⟨r11, σ10, e12, hm⟩ := bi_s hm
          refine z_callI (pc := 78) C (k_Md_typeOf hAD e12) kz_Md_typeOf mM_109 rfl rfl oM_0 rfl (kR_of (Nat.le_of_ble_eq_true rfl) (Nat.le_of_ble_eq_true rfl)) rfl (Nat.le_of_ble_eq_true rfl) d_Md_layKind_78 ?_
          obtain ⟨g13, hm⟩ := gd_s hm
          refine alM_49 (pc := 81) (v := (ga σ10 49 r11.toNatClampNeg)) C  rfl g13 d_Md_layKind_81 ?_
          refine z_lv (lv' := []) [] rfl ?_
          exact w_Md_layKind_82 hAD C hr σ10 x1 (ga σ10 49 r11.toNatClampNeg) hm
        · rw [if_pos c9] at hm
          refine z_aload_n (pc := 60) C d_Md_layKind_60 rfl 0 rfl ?_
          refine gM_Md_206 (pc := 61) (v := (gi σ 49)) C rfl d_Md_layKind_61 ?_
          refine z_goto (pc := 64) (tgt := 82) C d_Md_layKind_64 (by decide) ?_
          refine z_lv (lv' := []) [] rfl ?_
          exact w_Md_layKind_82 hAD C hr σ x1 (gi σ 49) hm
    · rw [if_pos c3] at hm
      refine z_lv (lv' := [(0, .ref (ad 0)), (1, .int x1)]) [0, 1] rfl ?_
      exact w_Md_layKind_20 hAD C hr σ x1 hm
set_option maxHeartbeats 4000000 in
set_option maxRecDepth 100000 in
theorem w_Md_layKindOnce_16 {D : va_G} {ad : Nat → Nat} {cA : Nat → ClassId} {p : Program} {l : Launch} {e : Env} {s : State} {m : MethodId} {args : Array Value} {below : List Frame} {meth : Method} {c : Code} {F : Nat} (hAD : ∀ σ, va_D (owM ad) (wdM ad cA σ)) (C : CM D ad cA xTr p s m args meth c bc_Md_layKindOnce "KindRoundsModel" 2) (hr : meth.sig.returnType = none) {σ' : zS} (σ : zS) (hm : Md_layKindOnce_16 F σ = some σ') : ZM D ad cA p l e (rmK 3) s m args below meth c 2 (qvM D ad cA below args s σ') 16 [] [] σ := by
  unfold Md_layKindOnce_16 at hm
  exact z_vretE (pc := 16) C hr hm d_Md_layKindOnce_16
set_option maxHeartbeats 4000000 in
set_option maxRecDepth 100000 in
theorem k_Md_layKindOnce {l : Launch} {D : va_G} {ad : Nat → Nat} {cA : Nat → ClassId} {F : Nat} (hAD : ∀ σ, va_D (owM ad) (wdM ad cA σ)) {σ : zS} {x1 : Int32} {σ' : zS} (hm : Md_layKindOnce F σ x1 = some σ') : kVM l D ad cA xTr y_Md_layKindOnce bc_Md_layKindOnce 2 3 [.ref (ad 0), .int x1] σ σ' := by
  refine kV_of (by decide) hAD xTr_P (Nat.le_of_ble_eq_true rfl) ?_
  intro p e s m below meth c C hr
  unfold Md_layKindOnce at hm
  refine z_lv (lv' := [(0, .ref (ad 0)), (1, .int x1)]) [0, 1] rfl ?_
  refine z_aload_n (pc := 0) C d_Md_layKindOnce_0 rfl 0 rfl ?_
  refine gM_Md_17 (pc := 1) C  d_Md_layKindOnce_1 ?_
  refine z_iload_n (pc := 4) C d_Md_layKindOnce_4 rfl 1 rfl ?_
  obtain ⟨g1, hm⟩ := gd_s hm
  refine alM_2 (pc := 5) (v := (ga σ 2 x1.toNatClampNeg)) C  rfl g1 d_Md_layKindOnce_5 ?_
  refine z_iconst (pc := 6) C d_Md_layKindOnce_6 ki_2 ?_
  refine z_icmp_eq (pc := 7) (tgt := 16) C d_Md_layKindOnce_7 (by decide) (fun c2 => ?_) (fun c2 => ?_)
  · rw [if_pos c2] at hm
    refine z_lv (lv' := []) [] rfl ?_
    exact w_Md_layKindOnce_16 hAD C hr σ hm
  · rw [if_neg c2] at hm
    refine z_aload_n (pc := 10) C d_Md_layKindOnce_10 rfl 0 rfl ?_
    refine z_iload_n (pc := 11) C d_Md_layKindOnce_11 rfl 1 rfl ?_
    refine z_iconst (pc := 12) C d_Md_layKindOnce_12 ki_0 ?_
    obtain ⟨σ3, e4, hm⟩ := bv_s hm
    refine z_callV (pc := 13) C (k_Md_layKind hAD e4) kz_Md_layKind mM_130 rfl rfl oM_0 rfl (kR_of (Nat.le_of_ble_eq_true rfl) (Nat.le_of_ble_eq_true rfl)) rfl (Nat.le_of_ble_eq_true rfl) d_Md_layKindOnce_13 ?_
    refine z_lv (lv' := []) [] rfl ?_
    exact w_Md_layKindOnce_16 hAD C hr σ3 hm
set_option maxHeartbeats 4000000 in
set_option maxRecDepth 100000 in
theorem w_Md_prepare_145 {D : va_G} {ad : Nat → Nat} {cA : Nat → ClassId} {p : Program} {l : Launch} {e : Env} {s : State} {m : MethodId} {args : Array Value} {below : List Frame} {meth : Method} {c : Code} {F : Nat} (hAD : ∀ σ, va_D (owM ad) (wdM ad cA σ)) (C : CM D ad cA xTr p s m args meth c bc_Md_prepare "KindRoundsModel" 4) (hr : meth.sig.returnType = none) {σ' : zS} (σ : zS) (s1 : Int32) (s2 : Int32) (hm : Md_prepare_145 F σ s1 s2 = some σ') : ZM D ad cA p l e (rmK 1) s m args below meth c 4 (qvM D ad cA below args s σ') 145 [] [.int s2, .int s1, .ref (ad 49)] σ := by
  unfold Md_prepare_145 at hm
  obtain ⟨g1, hm⟩ := gd_s hm
  refine asM_49 (pc := 145) C  g1 d_Md_prepare_145 ?_
  exact z_vretE (pc := 146) C hr hm d_Md_prepare_146
set_option maxHeartbeats 4000000 in
set_option maxRecDepth 100000 in
theorem w_Md_prepare_118 {D : va_G} {ad : Nat → Nat} {cA : Nat → ClassId} {p : Program} {l : Launch} {e : Env} {s : State} {m : MethodId} {args : Array Value} {below : List Frame} {meth : Method} {c : Code} {F : Nat} (hAD : ∀ σ, va_D (owM ad) (wdM ad cA σ)) (C : CM D ad cA xTr p s m args meth c bc_Md_prepare "KindRoundsModel" 4) (hr : meth.sig.returnType = none) {σ' : zS} (σ : zS) (x1 : Int32) (x2 : Int32) (hm : Md_prepare_118 F σ x1 x2 = some σ') : ZM D ad cA p l e (rmK 1) s m args below meth c 4 (qvM D ad cA below args s σ') 118 [(0, .ref (ad 0)), (1, .int x1), (2, .int x2)] [] σ := by
  unfold Md_prepare_118 at hm
  refine z_aload_n (pc := 118) C d_Md_prepare_118 rfl 0 rfl ?_
  refine gM_Md_160 (pc := 119) C  d_Md_prepare_119 ?_
  refine z_iload_n (pc := 122) C d_Md_prepare_122 rfl 1 rfl ?_
  refine z_aload_n (pc := 123) C d_Md_prepare_123 rfl 0 rfl ?_
  refine gM_Md_112 (pc := 124) C  d_Md_prepare_124 ?_
  refine z_iload_n (pc := 127) C d_Md_prepare_127 rfl 1 rfl ?_
  obtain ⟨g1, hm⟩ := gd_s hm
  refine alM_33 (pc := 128) (v := (ga σ 33 x1.toNatClampNeg)) C  rfl g1 d_Md_prepare_128 ?_
  refine z_iconst (pc := 129) C d_Md_prepare_129 ki_2 ?_
  refine z_icmp_ne (pc := 130) (tgt := 144) C d_Md_prepare_130 (by decide) (fun c2 => ?_) (fun c2 => ?_)
  · rw [if_neg c2] at hm
    refine z_iload_n (pc := 144) C d_Md_prepare_144 rfl 2 rfl ?_
    refine z_lv (lv' := []) [] rfl ?_
    exact w_Md_prepare_145 hAD C hr σ x1 x2 hm
  · rw [if_pos c2] at hm
    refine z_aload_n (pc := 133) C d_Md_prepare_133 rfl 0 rfl ?_
    refine gM_Md_163 (pc := 134) C  d_Md_prepare_134 ?_
    refine z_iconst (pc := 137) C d_Md_prepare_137 ki_3 ?_
    refine z_iload_n (pc := 138) C d_Md_prepare_138 rfl 1 rfl ?_
    refine z_imul (pc := 139) C d_Md_prepare_139 ?_
    obtain ⟨g3, hm⟩ := gd_s hm
    refine alM_50 (pc := 140) (v := (ga σ 50 ((3 : Int32) * x1).toNatClampNeg)) C  rfl g3 d_Md_prepare_140 ?_
    refine z_goto (pc := 141) (tgt := 145) C d_Md_prepare_141 (by decide) ?_
    refine z_lv (lv' := []) [] rfl ?_
    exact w_Md_prepare_145 hAD C hr σ x1 (ga σ 50 ((3 : Int32) * x1).toNatClampNeg) hm
set_option maxHeartbeats 4000000 in
set_option maxRecDepth 100000 in
theorem w_Md_prepare_81 {D : va_G} {ad : Nat → Nat} {cA : Nat → ClassId} {p : Program} {l : Launch} {e : Env} {s : State} {m : MethodId} {args : Array Value} {below : List Frame} {meth : Method} {c : Code} {F : Nat} (hAD : ∀ σ, va_D (owM ad) (wdM ad cA σ)) (C : CM D ad cA xTr p s m args meth c bc_Md_prepare "KindRoundsModel" 4) (hr : meth.sig.returnType = none) {σ' : zS} : ∀ (n : Nat) (σ : zS) (x1 : Int32) (x2 : Int32) (x3 : Int32), Md_prepare_81 F n σ x1 x2 x3 = some σ' → ZM D ad cA p l e (rmK 1) s m args below meth c 4 (qvM D ad cA below args s σ') 81 [(0, .ref (ad 0)), (1, .int x1), (2, .int x2), (3, .int x3)] [] σ := by
  intro n
  induction n with
  | zero => intro σ x1 x2 x3 hm; cases hm
  | succ n h81 =>
    intro σ x1 x2 x3 hm
    have hm : Md_prepare_b81 F (Md_prepare_81 F n) σ x1 x2 x3 = some σ' := hm
    unfold Md_prepare_b81 at hm
    refine z_iload_n (pc := 81) C d_Md_prepare_81 rfl 3 rfl ?_
    refine z_if_lt (pc := 82) (tgt := 118) C d_Md_prepare_82 (by decide) (fun c1 => ?_) (fun c1 => ?_)
    · rw [if_pos c1] at hm
      refine z_lv (lv' := [(0, .ref (ad 0)), (1, .int x1), (2, .int x2)]) [0, 1, 2] rfl ?_
      exact w_Md_prepare_118 hAD C hr σ x1 x2 hm
    · rw [if_neg c1] at hm
      refine z_aload_n (pc := 85) C d_Md_prepare_85 rfl 0 rfl ?_
      refine gM_Md_112 (pc := 86) C  d_Md_prepare_86 ?_
      refine z_iload_n (pc := 89) C d_Md_prepare_89 rfl 1 rfl ?_
      obtain ⟨g2, hm⟩ := gd_s hm
      refine alM_33 (pc := 90) (v := (ga σ 33 x1.toNatClampNeg)) C  rfl g2 d_Md_prepare_90 ?_
      refine z_iconst (pc := 91) C d_Md_prepare_91 ki_2 ?_
      refine z_icmp_ge (pc := 92) (tgt := 118) C d_Md_prepare_92 (by decide) (fun c3 => ?_) (fun c3 => ?_)
      · rw [if_pos c3] at hm
        refine z_lv (lv' := [(0, .ref (ad 0)), (1, .int x1), (2, .int x2)]) [0, 1, 2] rfl ?_
        exact w_Md_prepare_118 hAD C hr σ x1 x2 hm
      · rw [if_neg c3] at hm
        refine z_aload_n (pc := 95) C d_Md_prepare_95 rfl 0 rfl ?_
        refine z_iconst (pc := 96) C d_Md_prepare_96 ki_2 ?_
        refine z_aload_n (pc := 97) C d_Md_prepare_97 rfl 0 rfl ?_
        refine gM_Md_163 (pc := 98) C  d_Md_prepare_98 ?_
        refine z_iconst (pc := 101) C d_Md_prepare_101 ki_3 ?_
        refine z_iload_n (pc := 102) C d_Md_prepare_102 rfl 1 rfl ?_
        refine z_imul (pc := 103) C d_Md_prepare_103 ?_
        refine z_iload_n (pc := 104) C d_Md_prepare_104 rfl 3 rfl ?_
        refine z_iadd (pc := 105) C d_Md_prepare_105 ?_
        obtain ⟨g4, hm⟩ := gd_s hm
        refine alM_50 (pc := 106) (v := (ga σ 50 (((3 : Int32) * x1) + x3).toNatClampNeg)) C  rfl g4 d_Md_prepare_106 ?_
        refine z_iload_n (pc := 107) C d_Md_prepare_107 rfl 2 rfl ?_
        obtain ⟨r6, σ5, e7, hm⟩ := bi_s hm
        refine z_callI (pc := 108) C (k_Md_newKind hAD e7) kz_Md_newKind mM_73 rfl rfl oM_0 rfl (kR_of (Nat.le_of_ble_eq_true rfl) (Nat.le_of_ble_eq_true rfl)) rfl (Nat.le_of_ble_eq_true rfl) d_Md_prepare_108 ?_
        refine z_istore_n (pc := 111) (lv' := [(0, .ref (ad 0)), (1, .int x1), (2, .int r6), (3, .int x3)]) C d_Md_prepare_111 rfl (Nat.le_of_ble_eq_true rfl) [1, 2, 0, 3] rfl ?_
        refine z_iinc (pc := 112) (lv' := [(0, .ref (ad 0)), (1, .int x1), (2, .int r6), (3, .int (x3 + (-1 : Int32)))]) C d_Md_prepare_112 3 rfl (ii ki_m1) (Nat.le_of_ble_eq_true rfl) [1, 2, 3, 0] rfl ?_
        refine z_goto (pc := 115) (tgt := 81) C d_Md_prepare_115 (by decide) ?_
        exact h81 σ5 x1 r6 (x3 + (-1 : Int32)) hm
set_option maxHeartbeats 4000000 in
set_option maxRecDepth 100000 in
theorem w_Md_prepare_64 {D : va_G} {ad : Nat → Nat} {cA : Nat → ClassId} {p : Program} {l : Launch} {e : Env} {s : State} {m : MethodId} {args : Array Value} {below : List Frame} {meth : Method} {c : Code} {F : Nat} (hAD : ∀ σ, va_D (owM ad) (wdM ad cA σ)) (C : CM D ad cA xTr p s m args meth c bc_Md_prepare "KindRoundsModel" 4) (hr : meth.sig.returnType = none) {σ' : zS} (σ : zS) (x1 : Int32) (s1 : Int32) (s2 : Int32) (hm : Md_prepare_64 F σ x1 s1 s2 = some σ') : ZM D ad cA p l e (rmK 1) s m args below meth c 4 (qvM D ad cA below args s σ') 64 [(0, .ref (ad 0)), (1, .int x1)] [.int s2, .int s1, .ref (ad 51)] σ := by
  unfold Md_prepare_64 at hm
  obtain ⟨g1, hm⟩ := gd_s hm
  refine asM_51 (pc := 64) C  g1 d_Md_prepare_64 ?_
  refine z_aload_n (pc := 65) C d_Md_prepare_65 rfl 0 rfl ?_
  refine gM_Md_166 (pc := 66) C  d_Md_prepare_66 ?_
  refine z_iload_n (pc := 69) C d_Md_prepare_69 rfl 1 rfl ?_
  obtain ⟨g2, hm⟩ := gd_s hm
  refine alM_51 (pc := 70) (v := (ga (sa σ 51 s1.toNatClampNeg s2) 51 x1.toNatClampNeg)) C  rfl g2 d_Md_prepare_70 ?_
  refine z_istore_n (pc := 71) (lv' := [(0, .ref (ad 0)), (1, .int x1), (2, .int (ga (sa σ 51 s1.toNatClampNeg s2) 51 x1.toNatClampNeg))]) C d_Md_prepare_71 rfl (Nat.le_of_ble_eq_true rfl) [1, 2, 0] rfl ?_
  refine z_aload_n (pc := 72) C d_Md_prepare_72 rfl 0 rfl ?_
  refine gM_Md_121 (pc := 73) C  d_Md_prepare_73 ?_
  refine z_iload_n (pc := 76) C d_Md_prepare_76 rfl 1 rfl ?_
  obtain ⟨g3, hm⟩ := gd_s hm
  refine alM_36 (pc := 77) (v := (ga σ 36 x1.toNatClampNeg)) C  rfl g3 d_Md_prepare_77 ?_
  refine z_iconst (pc := 78) C d_Md_prepare_78 ki_1 ?_
  refine z_isub (pc := 79) C d_Md_prepare_79 ?_
  refine z_istore_n (pc := 80) (lv' := [(0, .ref (ad 0)), (1, .int x1), (2, .int (ga (sa σ 51 s1.toNatClampNeg s2) 51 x1.toNatClampNeg)), (3, .int ((ga σ 36 x1.toNatClampNeg) - (1 : Int32)))]) C d_Md_prepare_80 rfl (Nat.le_of_ble_eq_true rfl) [1, 2, 3, 0] rfl ?_
  exact w_Md_prepare_81 hAD C hr F (sa σ 51 s1.toNatClampNeg s2) x1 (ga (sa σ 51 s1.toNatClampNeg s2) 51 x1.toNatClampNeg) ((ga σ 36 x1.toNatClampNeg) - (1 : Int32)) hm
set_option maxHeartbeats 4000000 in
set_option maxRecDepth 100000 in
theorem w_Md_prepare_2 {D : va_G} {ad : Nat → Nat} {cA : Nat → ClassId} {p : Program} {l : Launch} {e : Env} {s : State} {m : MethodId} {args : Array Value} {below : List Frame} {meth : Method} {c : Code} {F : Nat} (hAD : ∀ σ, va_D (owM ad) (wdM ad cA σ)) (C : CM D ad cA xTr p s m args meth c bc_Md_prepare "KindRoundsModel" 4) (hr : meth.sig.returnType = none) {σ' : zS} : ∀ (n : Nat) (σ : zS) (x1 : Int32) (x2 : Int32), Md_prepare_2 F n σ x1 x2 = some σ' → ZM D ad cA p l e (rmK 1) s m args below meth c 4 (qvM D ad cA below args s σ') 2 [(0, .ref (ad 0)), (1, .int x1), (2, .int x2)] [] σ := by
  intro n
  induction n with
  | zero => intro σ x1 x2 hm; cases hm
  | succ n h2 =>
    intro σ x1 x2 hm
    have hm : Md_prepare_b2 F (Md_prepare_2 F n) σ x1 x2 = some σ' := hm
    unfold Md_prepare_b2 at hm
    refine z_iload_n (pc := 2) C d_Md_prepare_2 rfl 2 rfl ?_
    refine z_aload_n (pc := 3) C d_Md_prepare_3 rfl 0 rfl ?_
    refine gM_Md_121 (pc := 4) C  d_Md_prepare_4 ?_
    refine z_iload_n (pc := 7) C d_Md_prepare_7 rfl 1 rfl ?_
    obtain ⟨g1, hm⟩ := gd_s hm
    refine alM_36 (pc := 8) (v := (ga σ 36 x1.toNatClampNeg)) C  rfl g1 d_Md_prepare_8 ?_
    refine z_icmp_ge (pc := 9) (tgt := 35) C d_Md_prepare_9 (by decide) (fun c2 => ?_) (fun c2 => ?_)
    · rw [if_pos c2] at hm
      refine z_aload_n (pc := 35) C d_Md_prepare_35 rfl 0 rfl ?_
      refine gM_Md_166 (pc := 36) C  d_Md_prepare_36 ?_
      refine z_iload_n (pc := 39) C d_Md_prepare_39 rfl 1 rfl ?_
      refine z_aload_n (pc := 40) C d_Md_prepare_40 rfl 0 rfl ?_
      refine gM_Md_112 (pc := 41) C  d_Md_prepare_41 ?_
      refine z_iload_n (pc := 44) C d_Md_prepare_44 rfl 1 rfl ?_
      refine alM_33 (pc := 45) (v := (ga σ 33 x1.toNatClampNeg)) C  rfl g1 d_Md_prepare_45 ?_
      refine z_iconst (pc := 46) C d_Md_prepare_46 ki_1 ?_
      refine z_icmp_ne (pc := 47) (tgt := 60) C d_Md_prepare_47 (by decide) (fun c3 => ?_) (fun c3 => ?_)
      · rw [if_neg c3] at hm
        refine z_aload_n (pc := 60) C d_Md_prepare_60 rfl 0 rfl ?_
        refine gM_Md_206 (pc := 61) (v := (gi σ 49)) C rfl d_Md_prepare_61 ?_
        refine z_lv (lv' := [(0, .ref (ad 0)), (1, .int x1)]) [0, 1] rfl ?_
        exact w_Md_prepare_64 hAD C hr σ x1 x1 (gi σ 49) hm
      · rw [if_pos c3] at hm
        refine z_aload_n (pc := 50) C d_Md_prepare_50 rfl 0 rfl ?_
        refine z_iconst (pc := 51) C d_Md_prepare_51 ki_0 ?_
        refine z_iconst (pc := 52) C d_Md_prepare_52 ki_0 ?_
        refine z_iconst (pc := 53) C d_Md_prepare_53 ki_0 ?_
        obtain ⟨r5, σ4, e6, hm⟩ := bi_s hm
        refine z_callI (pc := 54) C (k_Md_newKind hAD e6) kz_Md_newKind mM_73 rfl rfl oM_0 rfl (kR_of (Nat.le_of_ble_eq_true rfl) (Nat.le_of_ble_eq_true rfl)) rfl (Nat.le_of_ble_eq_true rfl) d_Md_prepare_54 ?_
        refine z_goto (pc := 57) (tgt := 64) C d_Md_prepare_57 (by decide) ?_
        refine z_lv (lv' := [(0, .ref (ad 0)), (1, .int x1)]) [0, 1] rfl ?_
        exact w_Md_prepare_64 hAD C hr σ4 x1 x1 r5 hm
    · rw [if_neg c2] at hm
      refine z_aload_n (pc := 12) C d_Md_prepare_12 rfl 0 rfl ?_
      refine gM_Md_163 (pc := 13) C  d_Md_prepare_13 ?_
      refine z_iconst (pc := 16) C d_Md_prepare_16 ki_3 ?_
      refine z_iload_n (pc := 17) C d_Md_prepare_17 rfl 1 rfl ?_
      refine z_imul (pc := 18) C d_Md_prepare_18 ?_
      refine z_iload_n (pc := 19) C d_Md_prepare_19 rfl 2 rfl ?_
      refine z_iadd (pc := 20) C d_Md_prepare_20 ?_
      refine z_aload_n (pc := 21) C d_Md_prepare_21 rfl 0 rfl ?_
      refine z_iconst (pc := 22) C d_Md_prepare_22 ki_0 ?_
      refine z_iconst (pc := 23) C d_Md_prepare_23 ki_0 ?_
      refine z_iconst (pc := 24) C d_Md_prepare_24 ki_0 ?_
      obtain ⟨r8, σ7, e9, hm⟩ := bi_s hm
      refine z_callI (pc := 25) C (k_Md_newKind hAD e9) kz_Md_newKind mM_73 rfl rfl oM_0 rfl (kR_of (Nat.le_of_ble_eq_true rfl) (Nat.le_of_ble_eq_true rfl)) rfl (Nat.le_of_ble_eq_true rfl) d_Md_prepare_25 ?_
      obtain ⟨g10, hm⟩ := gd_s hm
      refine asM_50 (pc := 28) C  g10 d_Md_prepare_28 ?_
      refine z_iinc (pc := 29) (lv' := [(0, .ref (ad 0)), (1, .int x1), (2, .int (x2 + (1 : Int32)))]) C d_Md_prepare_29 2 rfl (ii ki_1) (Nat.le_of_ble_eq_true rfl) [1, 2, 0] rfl ?_
      refine z_goto (pc := 32) (tgt := 2) C d_Md_prepare_32 (by decide) ?_
      exact h2 (sa σ7 50 (((3 : Int32) * x1) + x2).toNatClampNeg r8) x1 (x2 + (1 : Int32)) hm
set_option maxHeartbeats 4000000 in
set_option maxRecDepth 100000 in
theorem k_Md_prepare {l : Launch} {D : va_G} {ad : Nat → Nat} {cA : Nat → ClassId} {F : Nat} (hAD : ∀ σ, va_D (owM ad) (wdM ad cA σ)) {σ : zS} {x1 : Int32} {σ' : zS} (hm : Md_prepare F σ x1 = some σ') : kVM l D ad cA xTr y_Md_prepare bc_Md_prepare 4 1 [.ref (ad 0), .int x1] σ σ' := by
  refine kV_of (by decide) hAD xTr_P (Nat.le_of_ble_eq_true rfl) ?_
  intro p e s m below meth c C hr
  unfold Md_prepare at hm
  refine z_lv (lv' := [(0, .ref (ad 0)), (1, .int x1)]) [0, 1] rfl ?_
  refine z_iconst (pc := 0) C d_Md_prepare_0 ki_0 ?_
  refine z_istore_n (pc := 1) (lv' := [(0, .ref (ad 0)), (1, .int x1), (2, .int (0 : Int32))]) C d_Md_prepare_1 rfl (Nat.le_of_ble_eq_true rfl) [1, 2, 0] rfl ?_
  exact w_Md_prepare_2 hAD C hr F σ x1 (0 : Int32) hm
set_option maxHeartbeats 4000000 in
set_option maxRecDepth 100000 in
theorem w_Md_solve_236 {D : va_G} {ad : Nat → Nat} {cA : Nat → ClassId} {p : Program} {l : Launch} {e : Env} {s : State} {m : MethodId} {args : Array Value} {below : List Frame} {meth : Method} {c : Code} {F : Nat} (hAD : ∀ σ, va_D (owM ad) (wdM ad cA σ)) (C : CM D ad cA xTr p s m args meth c bc_Md_solve "KindRoundsModel" 4) (hr : meth.sig.returnType = none) {σ' : zS} (σ : zS) (hm : Md_solve_236 F σ = some σ') : ZM D ad cA p l e (rmK 5) s m args below meth c 4 (qvM D ad cA below args s σ') 236 [] [] σ := by
  unfold Md_solve_236 at hm
  exact z_vretE (pc := 236) C hr hm d_Md_solve_236
set_option maxHeartbeats 4000000 in
set_option maxRecDepth 100000 in
theorem w_Md_solve_218 {D : va_G} {ad : Nat → Nat} {cA : Nat → ClassId} {p : Program} {l : Launch} {e : Env} {s : State} {m : MethodId} {args : Array Value} {below : List Frame} {meth : Method} {c : Code} {F : Nat} (hAD : ∀ σ, va_D (owM ad) (wdM ad cA σ)) (C : CM D ad cA xTr p s m args meth c bc_Md_solve "KindRoundsModel" 4) (hr : meth.sig.returnType = none) {σ' : zS} (rc164 : zS → Int32 → Int32 → Option zS) (h164 : ∀ σ x1 x2, rc164 σ x1 x2 = some σ' → ZM D ad cA p l e (rmK 5) s m args below meth c 4 (qvM D ad cA below args s σ') 164 [(0, .ref (ad 0)), (1, .int x1), (2, .int x2)] [] σ) (σ : zS) (x1 : Int32) (x2 : Int32) (hm : Md_solve_218 F rc164 σ x1 x2 = some σ') : ZM D ad cA p l e (rmK 5) s m args below meth c 4 (qvM D ad cA below args s σ') 218 [(0, .ref (ad 0)), (1, .int x1), (2, .int x2)] [] σ := by
  unfold Md_solve_218 at hm
  refine z_iinc (pc := 218) (lv' := [(0, .ref (ad 0)), (1, .int x1), (2, .int (x2 + (1 : Int32)))]) C d_Md_solve_218 2 rfl (ii ki_1) (Nat.le_of_ble_eq_true rfl) [1, 2, 0] rfl ?_
  refine z_goto (pc := 221) (tgt := 164) C d_Md_solve_221 (by decide) ?_
  exact h164 σ x1 (x2 + (1 : Int32)) hm
set_option maxHeartbeats 4000000 in
set_option maxRecDepth 100000 in
theorem w_Md_solve_179 {D : va_G} {ad : Nat → Nat} {cA : Nat → ClassId} {p : Program} {l : Launch} {e : Env} {s : State} {m : MethodId} {args : Array Value} {below : List Frame} {meth : Method} {c : Code} {F : Nat} (hAD : ∀ σ, va_D (owM ad) (wdM ad cA σ)) (C : CM D ad cA xTr p s m args meth c bc_Md_solve "KindRoundsModel" 4) (hr : meth.sig.returnType = none) {σ' : zS} (rc164 : zS → Int32 → Int32 → Option zS) (h164 : ∀ σ x1 x2, rc164 σ x1 x2 = some σ' → ZM D ad cA p l e (rmK 5) s m args below meth c 4 (qvM D ad cA below args s σ') 164 [(0, .ref (ad 0)), (1, .int x1), (2, .int x2)] [] σ) : ∀ (n : Nat) (σ : zS) (x1 : Int32) (x2 : Int32) (x3 : Int32), Md_solve_179 F rc164 n σ x1 x2 x3 = some σ' → ZM D ad cA p l e (rmK 5) s m args below meth c 4 (qvM D ad cA below args s σ') 179 [(0, .ref (ad 0)), (1, .int x1), (2, .int x2), (3, .int x3)] [] σ := by
  intro n
  induction n with
  | zero => intro σ x1 x2 x3 hm; cases hm
  | succ n h179 =>
    intro σ x1 x2 x3 hm
    have hm : Md_solve_b179 F rc164 (Md_solve_179 F rc164 n) σ x1 x2 x3 = some σ' := hm
    unfold Md_solve_b179 at hm
    refine z_iload_n (pc := 179) C d_Md_solve_179 rfl 3 rfl ?_
    refine z_aload_n (pc := 180) C d_Md_solve_180 rfl 0 rfl ?_
    refine gM_Md_133 (pc := 181) C  d_Md_solve_181 ?_
    refine z_iload_n (pc := 184) C d_Md_solve_184 rfl 2 rfl ?_
    obtain ⟨g1, hm⟩ := gd_s hm
    refine alM_40 (pc := 185) (v := (ga σ 40 x2.toNatClampNeg)) C  rfl g1 d_Md_solve_185 ?_
    refine z_icmp_ge (pc := 186) (tgt := 218) C d_Md_solve_186 (by decide) (fun c2 => ?_) (fun c2 => ?_)
    · rw [if_pos c2] at hm
      refine z_lv (lv' := [(0, .ref (ad 0)), (1, .int x1), (2, .int x2)]) [0, 1, 2] rfl ?_
      exact w_Md_solve_218 hAD C hr _ h164 σ x1 x2 hm
    · rw [if_neg c2] at hm
      refine z_aload_n (pc := 189) C d_Md_solve_189 rfl 0 rfl ?_
      refine gM_Md_221 (pc := 190) (v := (gi σ 8)) C rfl d_Md_solve_190 ?_
      refine z_if_ne (pc := 193) (tgt := 218) C d_Md_solve_193 (by decide) (fun c3 => ?_) (fun c3 => ?_)
      · rw [if_neg c3] at hm
        refine z_lv (lv' := [(0, .ref (ad 0)), (1, .int x1), (2, .int x2)]) [0, 1, 2] rfl ?_
        exact w_Md_solve_218 hAD C hr _ h164 σ x1 x2 hm
      · rw [if_pos c3] at hm
        refine z_aload_n (pc := 196) C d_Md_solve_196 rfl 0 rfl ?_
        refine gM_Md_157 (pc := 197) C  d_Md_solve_197 ?_
        refine z_iload_n (pc := 200) C d_Md_solve_200 rfl 2 rfl ?_
        obtain ⟨g4, hm⟩ := gd_s hm
        refine alM_48 (pc := 201) (v := (ga σ 48 x2.toNatClampNeg)) C  rfl g4 d_Md_solve_201 ?_
        refine z_iload_n (pc := 202) C d_Md_solve_202 rfl 1 rfl ?_
        refine z_icmp_ne (pc := 203) (tgt := 218) C d_Md_solve_203 (by decide) (fun c5 => ?_) (fun c5 => ?_)
        · rw [if_neg c5] at hm
          refine z_lv (lv' := [(0, .ref (ad 0)), (1, .int x1), (2, .int x2)]) [0, 1, 2] rfl ?_
          exact w_Md_solve_218 hAD C hr _ h164 σ x1 x2 hm
        · rw [if_pos c5] at hm
          refine z_aload_n (pc := 206) C d_Md_solve_206 rfl 0 rfl ?_
          refine z_iload_n (pc := 207) C d_Md_solve_207 rfl 3 rfl ?_
          refine z_iload_n (pc := 208) C d_Md_solve_208 rfl 2 rfl ?_
          obtain ⟨σ6, e7, hm⟩ := bv_s hm
          refine z_callV (pc := 209) C (k_Md_doAct hAD e7) kz_Md_doAct mM_125 rfl rfl oM_0 rfl (kR_of (Nat.le_of_ble_eq_true rfl) (Nat.le_of_ble_eq_true rfl)) rfl (Nat.le_of_ble_eq_true rfl) d_Md_solve_209 ?_
          refine z_iinc (pc := 212) (lv' := [(0, .ref (ad 0)), (1, .int x1), (2, .int x2), (3, .int (x3 + (1 : Int32)))]) C d_Md_solve_212 3 rfl (ii ki_1) (Nat.le_of_ble_eq_true rfl) [1, 2, 3, 0] rfl ?_
          refine z_goto (pc := 215) (tgt := 179) C d_Md_solve_215 (by decide) ?_
          exact h179 σ6 x1 x2 (x3 + (1 : Int32)) hm
set_option maxHeartbeats 4000000 in
set_option maxRecDepth 100000 in
theorem w_Md_solve_164 {D : va_G} {ad : Nat → Nat} {cA : Nat → ClassId} {p : Program} {l : Launch} {e : Env} {s : State} {m : MethodId} {args : Array Value} {below : List Frame} {meth : Method} {c : Code} {F : Nat} (hAD : ∀ σ, va_D (owM ad) (wdM ad cA σ)) (C : CM D ad cA xTr p s m args meth c bc_Md_solve "KindRoundsModel" 4) (hr : meth.sig.returnType = none) {σ' : zS} : ∀ (n : Nat) (σ : zS) (x1 : Int32) (x2 : Int32), Md_solve_164 F n σ x1 x2 = some σ' → ZM D ad cA p l e (rmK 5) s m args below meth c 4 (qvM D ad cA below args s σ') 164 [(0, .ref (ad 0)), (1, .int x1), (2, .int x2)] [] σ := by
  intro n
  induction n with
  | zero => intro σ x1 x2 hm; cases hm
  | succ n h164 =>
    intro σ x1 x2 hm
    have hm : Md_solve_b164 F (Md_solve_164 F n) σ x1 x2 = some σ' := hm
    unfold Md_solve_b164 at hm
    refine z_iload_n (pc := 164) C d_Md_solve_164 rfl 2 rfl ?_
    refine z_aload_n (pc := 165) C d_Md_solve_165 rfl 0 rfl ?_
    refine gM_Md_364 (pc := 166) (v := (gi σ 52)) C rfl d_Md_solve_166 ?_
    refine z_icmp_ge (pc := 169) (tgt := 224) C d_Md_solve_169 (by decide) (fun c1 => ?_) (fun c1 => ?_)
    · rw [if_pos c1] at hm
      refine z_aload_n (pc := 224) C d_Md_solve_224 rfl 0 rfl ?_
      refine gM_Md_221 (pc := 225) (v := (gi σ 8)) C rfl d_Md_solve_225 ?_
      refine z_if_ne (pc := 228) (tgt := 236) C d_Md_solve_228 (by decide) (fun c2 => ?_) (fun c2 => ?_)
      · rw [if_neg c2] at hm
        refine z_lv (lv' := []) [] rfl ?_
        exact w_Md_solve_236 hAD C hr σ hm
      · rw [if_pos c2] at hm
        refine z_aload_n (pc := 231) C d_Md_solve_231 rfl 0 rfl ?_
        refine z_iload_n (pc := 232) C d_Md_solve_232 rfl 1 rfl ?_
        obtain ⟨σ3, e4, hm⟩ := bv_s hm
        refine z_callV (pc := 233) C (k_Md_closeGroup hAD e4) kz_Md_closeGroup mM_126 rfl rfl oM_0 rfl (kR_of (Nat.le_of_ble_eq_true rfl) (Nat.le_of_ble_eq_true rfl)) rfl (Nat.le_of_ble_eq_true rfl) d_Md_solve_233 ?_
        refine z_lv (lv' := []) [] rfl ?_
        exact w_Md_solve_236 hAD C hr σ3 hm
    · rw [if_neg c1] at hm
      refine z_aload_n (pc := 172) C d_Md_solve_172 rfl 0 rfl ?_
      refine gM_Md_130 (pc := 173) C  d_Md_solve_173 ?_
      refine z_iload_n (pc := 176) C d_Md_solve_176 rfl 2 rfl ?_
      obtain ⟨g5, hm⟩ := gd_s hm
      refine alM_39 (pc := 177) (v := (ga σ 39 x2.toNatClampNeg)) C  rfl g5 d_Md_solve_177 ?_
      refine z_istore_n (pc := 178) (lv' := [(0, .ref (ad 0)), (1, .int x1), (2, .int x2), (3, .int (ga σ 39 x2.toNatClampNeg))]) C d_Md_solve_178 rfl (Nat.le_of_ble_eq_true rfl) [1, 2, 3, 0] rfl ?_
      exact w_Md_solve_179 hAD C hr _ h164 F σ x1 x2 (ga σ 39 x2.toNatClampNeg) hm
set_option maxHeartbeats 4000000 in
set_option maxRecDepth 100000 in
theorem w_Md_solve_162 {D : va_G} {ad : Nat → Nat} {cA : Nat → ClassId} {p : Program} {l : Launch} {e : Env} {s : State} {m : MethodId} {args : Array Value} {below : List Frame} {meth : Method} {c : Code} {F : Nat} (hAD : ∀ σ, va_D (owM ad) (wdM ad cA σ)) (C : CM D ad cA xTr p s m args meth c bc_Md_solve "KindRoundsModel" 4) (hr : meth.sig.returnType = none) {σ' : zS} (σ : zS) (x1 : Int32) (hm : Md_solve_162 F σ x1 = some σ') : ZM D ad cA p l e (rmK 5) s m args below meth c 4 (qvM D ad cA below args s σ') 162 [(0, .ref (ad 0)), (1, .int x1)] [] σ := by
  unfold Md_solve_162 at hm
  refine z_iconst (pc := 162) C d_Md_solve_162 ki_0 ?_
  refine z_istore_n (pc := 163) (lv' := [(0, .ref (ad 0)), (1, .int x1), (2, .int (0 : Int32))]) C d_Md_solve_163 rfl (Nat.le_of_ble_eq_true rfl) [1, 2, 0] rfl ?_
  exact w_Md_solve_164 hAD C hr F σ x1 (0 : Int32) hm
set_option maxHeartbeats 4000000 in
set_option maxRecDepth 100000 in
theorem w_Md_solve_156 {D : va_G} {ad : Nat → Nat} {cA : Nat → ClassId} {p : Program} {l : Launch} {e : Env} {s : State} {m : MethodId} {args : Array Value} {below : List Frame} {meth : Method} {c : Code} {F : Nat} (hAD : ∀ σ, va_D (owM ad) (wdM ad cA σ)) (C : CM D ad cA xTr p s m args meth c bc_Md_solve "KindRoundsModel" 4) (hr : meth.sig.returnType = none) {σ' : zS} (rc98 : zS → Int32 → Int32 → Option zS) (h98 : ∀ σ x1 x2, rc98 σ x1 x2 = some σ' → ZM D ad cA p l e (rmK 5) s m args below meth c 4 (qvM D ad cA below args s σ') 98 [(0, .ref (ad 0)), (1, .int x1), (2, .int x2)] [] σ) (σ : zS) (x1 : Int32) (x2 : Int32) (hm : Md_solve_156 F rc98 σ x1 x2 = some σ') : ZM D ad cA p l e (rmK 5) s m args below meth c 4 (qvM D ad cA below args s σ') 156 [(0, .ref (ad 0)), (1, .int x1), (2, .int x2)] [] σ := by
  unfold Md_solve_156 at hm
  refine z_iinc (pc := 156) (lv' := [(0, .ref (ad 0)), (1, .int x1), (2, .int (x2 + (1 : Int32)))]) C d_Md_solve_156 2 rfl (ii ki_1) (Nat.le_of_ble_eq_true rfl) [1, 2, 0] rfl ?_
  refine z_goto (pc := 159) (tgt := 98) C d_Md_solve_159 (by decide) ?_
  exact h98 σ x1 (x2 + (1 : Int32)) hm
set_option maxHeartbeats 4000000 in
set_option maxRecDepth 100000 in
theorem w_Md_solve_98 {D : va_G} {ad : Nat → Nat} {cA : Nat → ClassId} {p : Program} {l : Launch} {e : Env} {s : State} {m : MethodId} {args : Array Value} {below : List Frame} {meth : Method} {c : Code} {F : Nat} (hAD : ∀ σ, va_D (owM ad) (wdM ad cA σ)) (C : CM D ad cA xTr p s m args meth c bc_Md_solve "KindRoundsModel" 4) (hr : meth.sig.returnType = none) {σ' : zS} : ∀ (n : Nat) (σ : zS) (x1 : Int32) (x2 : Int32), Md_solve_98 F n σ x1 x2 = some σ' → ZM D ad cA p l e (rmK 5) s m args below meth c 4 (qvM D ad cA below args s σ') 98 [(0, .ref (ad 0)), (1, .int x1), (2, .int x2)] [] σ := by
  intro n
  induction n with
  | zero => intro σ x1 x2 hm; cases hm
  | succ n h98 =>
    intro σ x1 x2 hm
    have hm : Md_solve_b98 F (Md_solve_98 F n) σ x1 x2 = some σ' := hm
    unfold Md_solve_b98 at hm
    refine z_iload_n (pc := 98) C d_Md_solve_98 rfl 2 rfl ?_
    refine z_aload_n (pc := 99) C d_Md_solve_99 rfl 0 rfl ?_
    refine gM_Md_373 (pc := 100) (v := (gi σ 62)) C rfl d_Md_solve_100 ?_
    refine z_icmp_ge (pc := 103) (tgt := 162) C d_Md_solve_103 (by decide) (fun c1 => ?_) (fun c1 => ?_)
    · rw [if_pos c1] at hm
      refine z_lv (lv' := [(0, .ref (ad 0)), (1, .int x1)]) [0, 1] rfl ?_
      exact w_Md_solve_162 hAD C hr σ x1 hm
    · rw [if_neg c1] at hm
      refine z_aload_n (pc := 106) C d_Md_solve_106 rfl 0 rfl ?_
      refine gM_Md_221 (pc := 107) (v := (gi σ 8)) C rfl d_Md_solve_107 ?_
      refine z_if_ne (pc := 110) (tgt := 162) C d_Md_solve_110 (by decide) (fun c2 => ?_) (fun c2 => ?_)
      · rw [if_neg c2] at hm
        refine z_lv (lv' := [(0, .ref (ad 0)), (1, .int x1)]) [0, 1] rfl ?_
        exact w_Md_solve_162 hAD C hr σ x1 hm
      · rw [if_pos c2] at hm
        refine z_aload_n (pc := 113) C d_Md_solve_113 rfl 0 rfl ?_
        refine z_aload_n (pc := 114) C d_Md_solve_114 rfl 0 rfl ?_
        refine gM_Md_139 (pc := 115) C  d_Md_solve_115 ?_
        refine z_iload_n (pc := 118) C d_Md_solve_118 rfl 2 rfl ?_
        obtain ⟨g3, hm⟩ := gd_s hm
        refine alM_42 (pc := 119) (v := (gb σ 42 x2.toNatClampNeg)) C  rfl g3 d_Md_solve_119 ?_
        obtain ⟨r5, σ4, e6, hm⟩ := bi_s hm
        refine z_callI (pc := 120) C (k_Md_declOf hAD e6) kz_Md_declOf mM_105 rfl rfl oM_0 rfl (kR_of (Nat.le_of_ble_eq_true rfl) (Nat.le_of_ble_eq_true rfl)) rfl (Nat.le_of_ble_eq_true rfl) d_Md_solve_120 ?_
        refine z_istore_n (pc := 123) (lv' := [(0, .ref (ad 0)), (1, .int x1), (2, .int x2), (3, .int r5)]) C d_Md_solve_123 rfl (Nat.le_of_ble_eq_true rfl) [1, 2, 3, 0] rfl ?_
        refine z_aload_n (pc := 124) C d_Md_solve_124 rfl 0 rfl ?_
        refine gM_Md_157 (pc := 125) C  d_Md_solve_125 ?_
        refine z_iload_n (pc := 128) C d_Md_solve_128 rfl 3 rfl ?_
        obtain ⟨g7, hm⟩ := gd_s hm
        refine alM_48 (pc := 129) (v := (ga σ4 48 r5.toNatClampNeg)) C  rfl g7 d_Md_solve_129 ?_
        refine z_iload_n (pc := 130) C d_Md_solve_130 rfl 1 rfl ?_
        refine z_icmp_ne (pc := 131) (tgt := 156) C d_Md_solve_131 (by decide) (fun c8 => ?_) (fun c8 => ?_)
        · rw [if_neg c8] at hm
          refine z_lv (lv' := [(0, .ref (ad 0)), (1, .int x1), (2, .int x2)]) [0, 1, 2] rfl ?_
          exact w_Md_solve_156 hAD C hr _ h98 σ4 x1 x2 hm
        · rw [if_pos c8] at hm
          refine z_aload_n (pc := 134) C d_Md_solve_134 rfl 0 rfl ?_
          refine z_aload_n (pc := 135) C d_Md_solve_135 rfl 0 rfl ?_
          refine gM_Md_160 (pc := 136) C  d_Md_solve_136 ?_
          refine z_iload_n (pc := 139) C d_Md_solve_139 rfl 3 rfl ?_
          refine alM_49 (pc := 140) (v := (ga σ4 49 r5.toNatClampNeg)) C  rfl g7 d_Md_solve_140 ?_
          refine z_aload_n (pc := 141) C d_Md_solve_141 rfl 0 rfl ?_
          refine gM_Md_145 (pc := 142) C  d_Md_solve_142 ?_
          refine z_iload_n (pc := 145) C d_Md_solve_145 rfl 2 rfl ?_
          refine alM_44 (pc := 146) (v := (ga σ4 44 x2.toNatClampNeg)) C  rfl g3 d_Md_solve_146 ?_
          refine z_aload_n (pc := 147) C d_Md_solve_147 rfl 0 rfl ?_
          refine gM_Md_142 (pc := 148) C  d_Md_solve_148 ?_
          refine z_iload_n (pc := 151) C d_Md_solve_151 rfl 2 rfl ?_
          refine alM_43 (pc := 152) (v := (ga σ4 43 x2.toNatClampNeg)) C  rfl g3 d_Md_solve_152 ?_
          obtain ⟨σ9, e10, hm⟩ := bv_s hm
          refine z_callV (pc := 153) C (k_Md_equate hAD e10) kz_Md_equate mM_127 rfl rfl oM_0 rfl (kR_of (Nat.le_of_ble_eq_true rfl) (Nat.le_of_ble_eq_true rfl)) rfl (Nat.le_of_ble_eq_true rfl) d_Md_solve_153 ?_
          refine z_lv (lv' := [(0, .ref (ad 0)), (1, .int x1), (2, .int x2)]) [0, 1, 2] rfl ?_
          exact w_Md_solve_156 hAD C hr _ h98 σ9 x1 x2 hm
set_option maxHeartbeats 4000000 in
set_option maxRecDepth 100000 in
theorem w_Md_solve_90 {D : va_G} {ad : Nat → Nat} {cA : Nat → ClassId} {p : Program} {l : Launch} {e : Env} {s : State} {m : MethodId} {args : Array Value} {below : List Frame} {meth : Method} {c : Code} {F : Nat} (hAD : ∀ σ, va_D (owM ad) (wdM ad cA σ)) (C : CM D ad cA xTr p s m args meth c bc_Md_solve "KindRoundsModel" 4) (hr : meth.sig.returnType = none) {σ' : zS} (rc33 : zS → Int32 → Int32 → Option zS) (h33 : ∀ σ x1 x2, rc33 σ x1 x2 = some σ' → ZM D ad cA p l e (rmK 5) s m args below meth c 4 (qvM D ad cA below args s σ') 33 [(0, .ref (ad 0)), (1, .int x1), (2, .int x2)] [] σ) (σ : zS) (x1 : Int32) (x2 : Int32) (hm : Md_solve_90 F rc33 σ x1 x2 = some σ') : ZM D ad cA p l e (rmK 5) s m args below meth c 4 (qvM D ad cA below args s σ') 90 [(0, .ref (ad 0)), (1, .int x1), (2, .int x2)] [] σ := by
  unfold Md_solve_90 at hm
  refine z_iinc (pc := 90) (lv' := [(0, .ref (ad 0)), (1, .int x1), (2, .int (x2 + (1 : Int32)))]) C d_Md_solve_90 2 rfl (ii ki_1) (Nat.le_of_ble_eq_true rfl) [1, 2, 0] rfl ?_
  refine z_goto (pc := 93) (tgt := 33) C d_Md_solve_93 (by decide) ?_
  exact h33 σ x1 (x2 + (1 : Int32)) hm
set_option maxHeartbeats 4000000 in
set_option maxRecDepth 100000 in
theorem w_Md_solve_85 {D : va_G} {ad : Nat → Nat} {cA : Nat → ClassId} {p : Program} {l : Launch} {e : Env} {s : State} {m : MethodId} {args : Array Value} {below : List Frame} {meth : Method} {c : Code} {F : Nat} (hAD : ∀ σ, va_D (owM ad) (wdM ad cA σ)) (C : CM D ad cA xTr p s m args meth c bc_Md_solve "KindRoundsModel" 4) (hr : meth.sig.returnType = none) {σ' : zS} (rc33 : zS → Int32 → Int32 → Option zS) (h33 : ∀ σ x1 x2, rc33 σ x1 x2 = some σ' → ZM D ad cA p l e (rmK 5) s m args below meth c 4 (qvM D ad cA below args s σ') 33 [(0, .ref (ad 0)), (1, .int x1), (2, .int x2)] [] σ) (σ : zS) (x1 : Int32) (x2 : Int32) (hm : Md_solve_85 F rc33 σ x1 x2 = some σ') : ZM D ad cA p l e (rmK 5) s m args below meth c 4 (qvM D ad cA below args s σ') 85 [(0, .ref (ad 0)), (1, .int x1), (2, .int x2)] [] σ := by
  unfold Md_solve_85 at hm
  refine z_aload_n (pc := 85) C d_Md_solve_85 rfl 0 rfl ?_
  refine z_iload_n (pc := 86) C d_Md_solve_86 rfl 2 rfl ?_
  obtain ⟨σ1, e2, hm⟩ := bv_s hm
  refine z_callV (pc := 87) C (k_Md_layKindOnce hAD e2) kz_Md_layKindOnce mM_128 rfl rfl oM_0 rfl (kR_of (Nat.le_of_ble_eq_true rfl) (Nat.le_of_ble_eq_true rfl)) rfl (Nat.le_of_ble_eq_true rfl) d_Md_solve_87 ?_
  exact w_Md_solve_90 hAD C hr _ h33 σ1 x1 x2 hm
set_option maxHeartbeats 4000000 in
set_option maxRecDepth 100000 in
theorem w_Md_solve_65 {D : va_G} {ad : Nat → Nat} {cA : Nat → ClassId} {p : Program} {l : Launch} {e : Env} {s : State} {m : MethodId} {args : Array Value} {below : List Frame} {meth : Method} {c : Code} {F : Nat} (hAD : ∀ σ, va_D (owM ad) (wdM ad cA σ)) (C : CM D ad cA xTr p s m args meth c bc_Md_solve "KindRoundsModel" 4) (hr : meth.sig.returnType = none) {σ' : zS} (rc33 : zS → Int32 → Int32 → Option zS) (h33 : ∀ σ x1 x2, rc33 σ x1 x2 = some σ' → ZM D ad cA p l e (rmK 5) s m args below meth c 4 (qvM D ad cA below args s σ') 33 [(0, .ref (ad 0)), (1, .int x1), (2, .int x2)] [] σ) (σ : zS) (x1 : Int32) (x2 : Int32) (s0 : Int32) (hm : Md_solve_65 F rc33 σ x1 x2 s0 = some σ') : ZM D ad cA p l e (rmK 5) s m args below meth c 4 (qvM D ad cA below args s σ') 65 [(0, .ref (ad 0)), (1, .int x1), (2, .int x2)] [.int s0] σ := by
  unfold Md_solve_65 at hm
  refine z_istore_n (pc := 65) (lv' := [(0, .ref (ad 0)), (1, .int x1), (2, .int x2), (3, .int s0)]) C d_Md_solve_65 rfl (Nat.le_of_ble_eq_true rfl) [1, 2, 3, 0] rfl ?_
  refine z_iload_n (pc := 66) C d_Md_solve_66 rfl 3 rfl ?_
  refine z_if_eq (pc := 67) (tgt := 85) C d_Md_solve_67 (by decide) (fun c1 => ?_) (fun c1 => ?_)
  · rw [if_pos c1] at hm
    refine z_lv (lv' := [(0, .ref (ad 0)), (1, .int x1), (2, .int x2)]) [0, 1, 2] rfl ?_
    exact w_Md_solve_85 hAD C hr _ h33 σ x1 x2 hm
  · rw [if_neg c1] at hm
    refine z_aload_n (pc := 70) C d_Md_solve_70 rfl 0 rfl ?_
    refine gM_Md_157 (pc := 71) C  d_Md_solve_71 ?_
    refine z_aload_n (pc := 74) C d_Md_solve_74 rfl 0 rfl ?_
    refine gM_Md_24 (pc := 75) C  d_Md_solve_75 ?_
    refine z_iload_n (pc := 78) C d_Md_solve_78 rfl 2 rfl ?_
    obtain ⟨g2, hm⟩ := gd_s hm
    refine alM_4 (pc := 79) (v := (ga σ 4 x2.toNatClampNeg)) C  rfl g2 d_Md_solve_79 ?_
    obtain ⟨g3, hm⟩ := gd_s hm
    refine alM_48 (pc := 80) (v := (ga σ 48 (ga σ 4 x2.toNatClampNeg).toNatClampNeg)) C  rfl g3 d_Md_solve_80 ?_
    refine z_iload_n (pc := 81) C d_Md_solve_81 rfl 1 rfl ?_
    refine z_icmp_ne (pc := 82) (tgt := 90) C d_Md_solve_82 (by decide) (fun c4 => ?_) (fun c4 => ?_)
    · rw [if_neg c4] at hm
      refine z_lv (lv' := [(0, .ref (ad 0)), (1, .int x1), (2, .int x2)]) [0, 1, 2] rfl ?_
      exact w_Md_solve_90 hAD C hr _ h33 σ x1 x2 hm
    · rw [if_pos c4] at hm
      refine z_lv (lv' := [(0, .ref (ad 0)), (1, .int x1), (2, .int x2)]) [0, 1, 2] rfl ?_
      exact w_Md_solve_85 hAD C hr _ h33 σ x1 x2 hm
set_option maxHeartbeats 4000000 in
set_option maxRecDepth 100000 in
theorem w_Md_solve_60 {D : va_G} {ad : Nat → Nat} {cA : Nat → ClassId} {p : Program} {l : Launch} {e : Env} {s : State} {m : MethodId} {args : Array Value} {below : List Frame} {meth : Method} {c : Code} {F : Nat} (hAD : ∀ σ, va_D (owM ad) (wdM ad cA σ)) (C : CM D ad cA xTr p s m args meth c bc_Md_solve "KindRoundsModel" 4) (hr : meth.sig.returnType = none) {σ' : zS} (rc33 : zS → Int32 → Int32 → Option zS) (h33 : ∀ σ x1 x2, rc33 σ x1 x2 = some σ' → ZM D ad cA p l e (rmK 5) s m args below meth c 4 (qvM D ad cA below args s σ') 33 [(0, .ref (ad 0)), (1, .int x1), (2, .int x2)] [] σ) (σ : zS) (x1 : Int32) (x2 : Int32) (hm : Md_solve_60 F rc33 σ x1 x2 = some σ') : ZM D ad cA p l e (rmK 5) s m args below meth c 4 (qvM D ad cA below args s σ') 60 [(0, .ref (ad 0)), (1, .int x1), (2, .int x2)] [] σ := by
  unfold Md_solve_60 at hm
  refine z_iconst (pc := 60) C d_Md_solve_60 ki_1 ?_
  refine z_goto (pc := 61) (tgt := 65) C d_Md_solve_61 (by decide) ?_
  exact w_Md_solve_65 hAD C hr _ h33 σ x1 x2 (1 : Int32) hm
set_option maxHeartbeats 4000000 in
set_option maxRecDepth 100000 in
theorem w_Md_solve_33 {D : va_G} {ad : Nat → Nat} {cA : Nat → ClassId} {p : Program} {l : Launch} {e : Env} {s : State} {m : MethodId} {args : Array Value} {below : List Frame} {meth : Method} {c : Code} {F : Nat} (hAD : ∀ σ, va_D (owM ad) (wdM ad cA σ)) (C : CM D ad cA xTr p s m args meth c bc_Md_solve "KindRoundsModel" 4) (hr : meth.sig.returnType = none) {σ' : zS} : ∀ (n : Nat) (σ : zS) (x1 : Int32) (x2 : Int32), Md_solve_33 F n σ x1 x2 = some σ' → ZM D ad cA p l e (rmK 5) s m args below meth c 4 (qvM D ad cA below args s σ') 33 [(0, .ref (ad 0)), (1, .int x1), (2, .int x2)] [] σ := by
  intro n
  induction n with
  | zero => intro σ x1 x2 hm; cases hm
  | succ n h33 =>
    intro σ x1 x2 hm
    have hm : Md_solve_b33 F (Md_solve_33 F n) σ x1 x2 = some σ' := hm
    unfold Md_solve_b33 at hm
    refine z_iload_n (pc := 33) C d_Md_solve_33 rfl 2 rfl ?_
    refine z_aload_n (pc := 34) C d_Md_solve_34 rfl 0 rfl ?_
    refine gM_Md_288 (pc := 35) (v := (gi σ 16)) C rfl d_Md_solve_35 ?_
    refine z_icmp_ge (pc := 38) (tgt := 96) C d_Md_solve_38 (by decide) (fun c1 => ?_) (fun c1 => ?_)
    · rw [if_pos c1] at hm
      refine z_iconst (pc := 96) C d_Md_solve_96 ki_0 ?_
      refine z_istore_n (pc := 97) (lv' := [(0, .ref (ad 0)), (1, .int x1), (2, .int (0 : Int32))]) C d_Md_solve_97 rfl (Nat.le_of_ble_eq_true rfl) [1, 2, 0] rfl ?_
      exact w_Md_solve_98 hAD C hr F σ x1 (0 : Int32) hm
    · rw [if_neg c1] at hm
      refine z_aload_n (pc := 41) C d_Md_solve_41 rfl 0 rfl ?_
      refine gM_Md_17 (pc := 42) C  d_Md_solve_42 ?_
      refine z_iload_n (pc := 45) C d_Md_solve_45 rfl 2 rfl ?_
      obtain ⟨g2, hm⟩ := gd_s hm
      refine alM_2 (pc := 46) (v := (ga σ 2 x2.toNatClampNeg)) C  rfl g2 d_Md_solve_46 ?_
      refine z_if_eq (pc := 47) (tgt := 60) C d_Md_solve_47 (by decide) (fun c3 => ?_) (fun c3 => ?_)
      · rw [if_pos c3] at hm
        exact w_Md_solve_60 hAD C hr _ h33 σ x1 x2 hm
      · rw [if_neg c3] at hm
        refine z_aload_n (pc := 50) C d_Md_solve_50 rfl 0 rfl ?_
        refine gM_Md_17 (pc := 51) C  d_Md_solve_51 ?_
        refine z_iload_n (pc := 54) C d_Md_solve_54 rfl 2 rfl ?_
        refine alM_2 (pc := 55) (v := (ga σ 2 x2.toNatClampNeg)) C  rfl g2 d_Md_solve_55 ?_
        refine z_iconst (pc := 56) C d_Md_solve_56 ki_1 ?_
        refine z_icmp_ne (pc := 57) (tgt := 64) C d_Md_solve_57 (by decide) (fun c4 => ?_) (fun c4 => ?_)
        · rw [if_neg c4] at hm
          refine z_iconst (pc := 64) C d_Md_solve_64 ki_0 ?_
          exact w_Md_solve_65 hAD C hr _ h33 σ x1 x2 (0 : Int32) hm
        · rw [if_pos c4] at hm
          exact w_Md_solve_60 hAD C hr _ h33 σ x1 x2 hm
set_option maxHeartbeats 4000000 in
set_option maxRecDepth 100000 in
theorem w_Md_solve_25 {D : va_G} {ad : Nat → Nat} {cA : Nat → ClassId} {p : Program} {l : Launch} {e : Env} {s : State} {m : MethodId} {args : Array Value} {below : List Frame} {meth : Method} {c : Code} {F : Nat} (hAD : ∀ σ, va_D (owM ad) (wdM ad cA σ)) (C : CM D ad cA xTr p s m args meth c bc_Md_solve "KindRoundsModel" 4) (hr : meth.sig.returnType = none) {σ' : zS} (rc2 : zS → Int32 → Int32 → Option zS) (h2 : ∀ σ x1 x2, rc2 σ x1 x2 = some σ' → ZM D ad cA p l e (rmK 5) s m args below meth c 4 (qvM D ad cA below args s σ') 2 [(0, .ref (ad 0)), (1, .int x1), (2, .int x2)] [] σ) (σ : zS) (x1 : Int32) (x2 : Int32) (hm : Md_solve_25 F rc2 σ x1 x2 = some σ') : ZM D ad cA p l e (rmK 5) s m args below meth c 4 (qvM D ad cA below args s σ') 25 [(0, .ref (ad 0)), (1, .int x1), (2, .int x2)] [] σ := by
  unfold Md_solve_25 at hm
  refine z_iinc (pc := 25) (lv' := [(0, .ref (ad 0)), (1, .int x1), (2, .int (x2 + (1 : Int32)))]) C d_Md_solve_25 2 rfl (ii ki_1) (Nat.le_of_ble_eq_true rfl) [1, 2, 0] rfl ?_
  refine z_goto (pc := 28) (tgt := 2) C d_Md_solve_28 (by decide) ?_
  exact h2 σ x1 (x2 + (1 : Int32)) hm
set_option maxHeartbeats 4000000 in
set_option maxRecDepth 100000 in
theorem w_Md_solve_2 {D : va_G} {ad : Nat → Nat} {cA : Nat → ClassId} {p : Program} {l : Launch} {e : Env} {s : State} {m : MethodId} {args : Array Value} {below : List Frame} {meth : Method} {c : Code} {F : Nat} (hAD : ∀ σ, va_D (owM ad) (wdM ad cA σ)) (C : CM D ad cA xTr p s m args meth c bc_Md_solve "KindRoundsModel" 4) (hr : meth.sig.returnType = none) {σ' : zS} : ∀ (n : Nat) (σ : zS) (x1 : Int32) (x2 : Int32), Md_solve_2 F n σ x1 x2 = some σ' → ZM D ad cA p l e (rmK 5) s m args below meth c 4 (qvM D ad cA below args s σ') 2 [(0, .ref (ad 0)), (1, .int x1), (2, .int x2)] [] σ := by
  intro n
  induction n with
  | zero => intro σ x1 x2 hm; cases hm
  | succ n h2 =>
    intro σ x1 x2 hm
    have hm : Md_solve_b2 F (Md_solve_2 F n) σ x1 x2 = some σ' := hm
    unfold Md_solve_b2 at hm
    refine z_iload_n (pc := 2) C d_Md_solve_2 rfl 2 rfl ?_
    refine z_aload_n (pc := 3) C d_Md_solve_3 rfl 0 rfl ?_
    refine gM_Md_364 (pc := 4) (v := (gi σ 52)) C rfl d_Md_solve_4 ?_
    refine z_icmp_ge (pc := 7) (tgt := 31) C d_Md_solve_7 (by decide) (fun c1 => ?_) (fun c1 => ?_)
    · rw [if_pos c1] at hm
      refine z_iconst (pc := 31) C d_Md_solve_31 ki_0 ?_
      refine z_istore_n (pc := 32) (lv' := [(0, .ref (ad 0)), (1, .int x1), (2, .int (0 : Int32))]) C d_Md_solve_32 rfl (Nat.le_of_ble_eq_true rfl) [1, 2, 0] rfl ?_
      exact w_Md_solve_33 hAD C hr F σ x1 (0 : Int32) hm
    · rw [if_neg c1] at hm
      refine z_aload_n (pc := 10) C d_Md_solve_10 rfl 0 rfl ?_
      refine gM_Md_157 (pc := 11) C  d_Md_solve_11 ?_
      refine z_iload_n (pc := 14) C d_Md_solve_14 rfl 2 rfl ?_
      obtain ⟨g2, hm⟩ := gd_s hm
      refine alM_48 (pc := 15) (v := (ga σ 48 x2.toNatClampNeg)) C  rfl g2 d_Md_solve_15 ?_
      refine z_iload_n (pc := 16) C d_Md_solve_16 rfl 1 rfl ?_
      refine z_icmp_ne (pc := 17) (tgt := 25) C d_Md_solve_17 (by decide) (fun c3 => ?_) (fun c3 => ?_)
      · rw [if_neg c3] at hm
        exact w_Md_solve_25 hAD C hr _ h2 σ x1 x2 hm
      · rw [if_pos c3] at hm
        refine z_aload_n (pc := 20) C d_Md_solve_20 rfl 0 rfl ?_
        refine z_iload_n (pc := 21) C d_Md_solve_21 rfl 2 rfl ?_
        obtain ⟨σ4, e5, hm⟩ := bv_s hm
        refine z_callV (pc := 22) C (k_Md_prepare hAD e5) kz_Md_prepare mM_129 rfl rfl oM_0 rfl (kR_of (Nat.le_of_ble_eq_true rfl) (Nat.le_of_ble_eq_true rfl)) rfl (Nat.le_of_ble_eq_true rfl) d_Md_solve_22 ?_
        exact w_Md_solve_25 hAD C hr _ h2 σ4 x1 x2 hm
set_option maxHeartbeats 4000000 in
set_option maxRecDepth 100000 in
theorem k_Md_solve {l : Launch} {D : va_G} {ad : Nat → Nat} {cA : Nat → ClassId} {F : Nat} (hAD : ∀ σ, va_D (owM ad) (wdM ad cA σ)) {σ : zS} {x1 : Int32} {σ' : zS} (hm : Md_solve F σ x1 = some σ') : kVM l D ad cA xTr y_Md_solve bc_Md_solve 4 5 [.ref (ad 0), .int x1] σ σ' := by
  refine kV_of (by decide) hAD xTr_P (Nat.le_of_ble_eq_true rfl) ?_
  intro p e s m below meth c C hr
  unfold Md_solve at hm
  refine z_lv (lv' := [(0, .ref (ad 0)), (1, .int x1)]) [0, 1] rfl ?_
  refine z_iconst (pc := 0) C d_Md_solve_0 ki_0 ?_
  refine z_istore_n (pc := 1) (lv' := [(0, .ref (ad 0)), (1, .int x1), (2, .int (0 : Int32))]) C d_Md_solve_1 rfl (Nat.le_of_ble_eq_true rfl) [1, 2, 0] rfl ?_
  exact w_Md_solve_2 hAD C hr F σ x1 (0 : Int32) hm
set_option maxHeartbeats 4000000 in
set_option maxRecDepth 100000 in
theorem w_Md_solveAll_159 {D : va_G} {ad : Nat → Nat} {cA : Nat → ClassId} {p : Program} {l : Launch} {e : Env} {s : State} {m : MethodId} {args : Array Value} {below : List Frame} {meth : Method} {c : Code} {F : Nat} (hAD : ∀ σ, va_D (owM ad) (wdM ad cA σ)) (C : CM D ad cA xTr p s m args meth c bc_Md_solveAll "KindRoundsModel" 4) (hr : meth.sig.returnType = none) {σ' : zS} (σ : zS) (hm : Md_solveAll_159 F σ = some σ') : ZM D ad cA p l e (rmK 6) s m args below meth c 4 (qvM D ad cA below args s σ') 159 [] [] σ := by
  unfold Md_solveAll_159 at hm
  exact z_vretE (pc := 159) C hr hm d_Md_solveAll_159
set_option maxHeartbeats 4000000 in
set_option maxRecDepth 100000 in
theorem w_Md_solveAll_153 {D : va_G} {ad : Nat → Nat} {cA : Nat → ClassId} {p : Program} {l : Launch} {e : Env} {s : State} {m : MethodId} {args : Array Value} {below : List Frame} {meth : Method} {c : Code} {F : Nat} (hAD : ∀ σ, va_D (owM ad) (wdM ad cA σ)) (C : CM D ad cA xTr p s m args meth c bc_Md_solveAll "KindRoundsModel" 4) (hr : meth.sig.returnType = none) {σ' : zS} (rc30 : zS → Int32 → Option zS) (h30 : ∀ σ x1, rc30 σ x1 = some σ' → ZM D ad cA p l e (rmK 6) s m args below meth c 4 (qvM D ad cA below args s σ') 30 [(0, .ref (ad 0)), (1, .int x1)] [] σ) (σ : zS) (x1 : Int32) (hm : Md_solveAll_153 F rc30 σ x1 = some σ') : ZM D ad cA p l e (rmK 6) s m args below meth c 4 (qvM D ad cA below args s σ') 153 [(0, .ref (ad 0)), (1, .int x1)] [] σ := by
  unfold Md_solveAll_153 at hm
  refine z_iinc (pc := 153) (lv' := [(0, .ref (ad 0)), (1, .int (x1 + (1 : Int32)))]) C d_Md_solveAll_153 1 rfl (ii ki_1) (Nat.le_of_ble_eq_true rfl) [1, 0] rfl ?_
  refine z_goto (pc := 156) (tgt := 30) C d_Md_solveAll_156 (by decide) ?_
  exact h30 σ (x1 + (1 : Int32)) hm
set_option maxHeartbeats 4000000 in
set_option maxRecDepth 100000 in
theorem w_Md_solveAll_128 {D : va_G} {ad : Nat → Nat} {cA : Nat → ClassId} {p : Program} {l : Launch} {e : Env} {s : State} {m : MethodId} {args : Array Value} {below : List Frame} {meth : Method} {c : Code} {F : Nat} (hAD : ∀ σ, va_D (owM ad) (wdM ad cA σ)) (C : CM D ad cA xTr p s m args meth c bc_Md_solveAll "KindRoundsModel" 4) (hr : meth.sig.returnType = none) {σ' : zS} (rc30 : zS → Int32 → Option zS) (rc93 : zS → Int32 → Int32 → Int32 → Option zS) (h30 : ∀ σ x1, rc30 σ x1 = some σ' → ZM D ad cA p l e (rmK 6) s m args below meth c 4 (qvM D ad cA below args s σ') 30 [(0, .ref (ad 0)), (1, .int x1)] [] σ) (h93 : ∀ σ x1 x2 x3, rc93 σ x1 x2 x3 = some σ' → ZM D ad cA p l e (rmK 6) s m args below meth c 4 (qvM D ad cA below args s σ') 93 [(0, .ref (ad 0)), (1, .int x1), (2, .int x2), (3, .int x3)] [] σ) (σ : zS) (x1 : Int32) (x2 : Int32) (x3 : Int32) (s1 : Int32) (s2 : Int32) (hm : Md_solveAll_128 F rc30 rc93 σ x1 x2 x3 s1 s2 = some σ') : ZM D ad cA p l e (rmK 6) s m args below meth c 4 (qvM D ad cA below args s σ') 128 [(0, .ref (ad 0)), (1, .int x1), (2, .int x2), (3, .int x3)] [.int s2, .int s1, .ref (ad 48)] σ := by
  unfold Md_solveAll_128 at hm
  obtain ⟨g1, hm⟩ := gd_s hm
  refine asM_48 (pc := 128) C  g1 d_Md_solveAll_128 ?_
  refine z_iinc (pc := 129) (lv' := [(0, .ref (ad 0)), (1, .int x1), (2, .int x2), (3, .int (x3 + (1 : Int32)))]) C d_Md_solveAll_129 3 rfl (ii ki_1) (Nat.le_of_ble_eq_true rfl) [1, 2, 3, 0] rfl ?_
  refine z_goto (pc := 132) (tgt := 93) C d_Md_solveAll_132 (by decide) ?_
  exact h93 (sa σ 48 s1.toNatClampNeg s2) x1 x2 (x3 + (1 : Int32)) hm
set_option maxHeartbeats 4000000 in
set_option maxRecDepth 100000 in
theorem w_Md_solveAll_93 {D : va_G} {ad : Nat → Nat} {cA : Nat → ClassId} {p : Program} {l : Launch} {e : Env} {s : State} {m : MethodId} {args : Array Value} {below : List Frame} {meth : Method} {c : Code} {F : Nat} (hAD : ∀ σ, va_D (owM ad) (wdM ad cA σ)) (C : CM D ad cA xTr p s m args meth c bc_Md_solveAll "KindRoundsModel" 4) (hr : meth.sig.returnType = none) {σ' : zS} (rc30 : zS → Int32 → Option zS) (h30 : ∀ σ x1, rc30 σ x1 = some σ' → ZM D ad cA p l e (rmK 6) s m args below meth c 4 (qvM D ad cA below args s σ') 30 [(0, .ref (ad 0)), (1, .int x1)] [] σ) : ∀ (n : Nat) (σ : zS) (x1 : Int32) (x2 : Int32) (x3 : Int32), Md_solveAll_93 F rc30 n σ x1 x2 x3 = some σ' → ZM D ad cA p l e (rmK 6) s m args below meth c 4 (qvM D ad cA below args s σ') 93 [(0, .ref (ad 0)), (1, .int x1), (2, .int x2), (3, .int x3)] [] σ := by
  intro n
  induction n with
  | zero => intro σ x1 x2 x3 hm; cases hm
  | succ n h93 =>
    intro σ x1 x2 x3 hm
    have hm : Md_solveAll_b93 F rc30 (Md_solveAll_93 F rc30 n) σ x1 x2 x3 = some σ' := hm
    unfold Md_solveAll_b93 at hm
    refine z_iload_n (pc := 93) C d_Md_solveAll_93 rfl 3 rfl ?_
    refine z_aload_n (pc := 94) C d_Md_solveAll_94 rfl 0 rfl ?_
    refine gM_Md_364 (pc := 95) (v := (gi σ 52)) C rfl d_Md_solveAll_95 ?_
    refine z_icmp_ge (pc := 98) (tgt := 135) C d_Md_solveAll_98 (by decide) (fun c1 => ?_) (fun c1 => ?_)
    · rw [if_pos c1] at hm
      refine z_aload_n (pc := 135) C d_Md_solveAll_135 rfl 0 rfl ?_
      refine z_aload_n (pc := 136) C d_Md_solveAll_136 rfl 0 rfl ?_
      refine gM_Md_432 (pc := 137) (v := (gi σ 71)) C rfl d_Md_solveAll_137 ?_
      obtain ⟨σ2, e3, hm⟩ := bv_s hm
      refine z_callV (pc := 140) C (k_Md_solve hAD e3) kz_Md_solve mM_118 rfl rfl oM_0 rfl (kR_of (Nat.le_of_ble_eq_true rfl) (Nat.le_of_ble_eq_true rfl)) rfl (Nat.le_of_ble_eq_true rfl) d_Md_solveAll_140 ?_
      refine z_aload_n (pc := 143) C d_Md_solveAll_143 rfl 0 rfl ?_
      refine z_dup (pc := 144) C d_Md_solveAll_144 rfl ?_
      refine gM_Md_432 (pc := 145) (v := (gi σ2 71)) C rfl d_Md_solveAll_145 ?_
      refine z_iconst (pc := 148) C d_Md_solveAll_148 ki_1 ?_
      refine z_iadd (pc := 149) C d_Md_solveAll_149 ?_
      refine pM_Md_432 (pc := 150) C  d_Md_solveAll_150 ?_
      refine z_lv (lv' := [(0, .ref (ad 0)), (1, .int x1)]) [0, 1] rfl ?_
      exact w_Md_solveAll_153 hAD C hr _ h30 (si σ2 71 ((gi σ2 71) + (1 : Int32))) x1 hm
    · rw [if_neg c1] at hm
      refine z_aload_n (pc := 101) C d_Md_solveAll_101 rfl 0 rfl ?_
      refine gM_Md_157 (pc := 102) C  d_Md_solveAll_102 ?_
      refine z_iload_n (pc := 105) C d_Md_solveAll_105 rfl 3 rfl ?_
      refine z_aload_n (pc := 106) C d_Md_solveAll_106 rfl 0 rfl ?_
      refine z_iload_n (pc := 107) C d_Md_solveAll_107 rfl 2 rfl ?_
      refine z_iload_n (pc := 108) C d_Md_solveAll_108 rfl 3 rfl ?_
      obtain ⟨r5, σ4, e6, hm⟩ := bi_s hm
      refine z_callI (pc := 109) C (k_Md_isTogether hAD e6) kz_Md_isTogether mM_115 rfl rfl oM_0 rfl (kR_of (Nat.le_of_ble_eq_true rfl) (Nat.le_of_ble_eq_true rfl)) rfl (Nat.le_of_ble_eq_true rfl) d_Md_solveAll_109 ?_
      refine z_if_eq (pc := 112) (tgt := 122) C d_Md_solveAll_112 (by decide) (fun c7 => ?_) (fun c7 => ?_)
      · rw [if_pos c7] at hm
        refine z_aload_n (pc := 122) C d_Md_solveAll_122 rfl 0 rfl ?_
        refine gM_Md_157 (pc := 123) C  d_Md_solveAll_123 ?_
        refine z_iload_n (pc := 126) C d_Md_solveAll_126 rfl 3 rfl ?_
        obtain ⟨g8, hm⟩ := gd_s hm
        refine alM_48 (pc := 127) (v := (ga σ4 48 x3.toNatClampNeg)) C  rfl g8 d_Md_solveAll_127 ?_
        exact w_Md_solveAll_128 hAD C hr _ _ h30 h93 σ4 x1 x2 x3 x3 (ga σ4 48 x3.toNatClampNeg) hm
      · rw [if_neg c7] at hm
        refine z_aload_n (pc := 115) C d_Md_solveAll_115 rfl 0 rfl ?_
        refine gM_Md_432 (pc := 116) (v := (gi σ4 71)) C rfl d_Md_solveAll_116 ?_
        refine z_goto (pc := 119) (tgt := 128) C d_Md_solveAll_119 (by decide) ?_
        exact w_Md_solveAll_128 hAD C hr _ _ h30 h93 σ4 x1 x2 x3 x3 (gi σ4 71) hm
set_option maxHeartbeats 4000000 in
set_option maxRecDepth 100000 in
theorem w_Md_solveAll_80 {D : va_G} {ad : Nat → Nat} {cA : Nat → ClassId} {p : Program} {l : Launch} {e : Env} {s : State} {m : MethodId} {args : Array Value} {below : List Frame} {meth : Method} {c : Code} {F : Nat} (hAD : ∀ σ, va_D (owM ad) (wdM ad cA σ)) (C : CM D ad cA xTr p s m args meth c bc_Md_solveAll "KindRoundsModel" 4) (hr : meth.sig.returnType = none) {σ' : zS} (rc30 : zS → Int32 → Option zS) (rc54 : zS → Int32 → Int32 → Int32 → Option zS) (h30 : ∀ σ x1, rc30 σ x1 = some σ' → ZM D ad cA p l e (rmK 6) s m args below meth c 4 (qvM D ad cA below args s σ') 30 [(0, .ref (ad 0)), (1, .int x1)] [] σ) (h54 : ∀ σ x1 x2 x3, rc54 σ x1 x2 x3 = some σ' → ZM D ad cA p l e (rmK 6) s m args below meth c 4 (qvM D ad cA below args s σ') 54 [(0, .ref (ad 0)), (1, .int x1), (2, .int x2), (3, .int x3)] [] σ) (σ : zS) (x1 : Int32) (x3 : Int32) (s0 : Int32) (hm : Md_solveAll_80 F rc30 rc54 σ x1 x3 s0 = some σ') : ZM D ad cA p l e (rmK 6) s m args below meth c 4 (qvM D ad cA below args s σ') 80 [(0, .ref (ad 0)), (1, .int x1), (3, .int x3)] [.int s0] σ := by
  unfold Md_solveAll_80 at hm
  refine z_istore_n (pc := 80) (lv' := [(0, .ref (ad 0)), (1, .int x1), (2, .int s0), (3, .int x3)]) C d_Md_solveAll_80 rfl (Nat.le_of_ble_eq_true rfl) [1, 2, 0, 3] rfl ?_
  refine z_iinc (pc := 81) (lv' := [(0, .ref (ad 0)), (1, .int x1), (2, .int s0), (3, .int (x3 + (-1 : Int32)))]) C d_Md_solveAll_81 3 rfl (ii ki_m1) (Nat.le_of_ble_eq_true rfl) [1, 2, 3, 0] rfl ?_
  refine z_goto (pc := 84) (tgt := 54) C d_Md_solveAll_84 (by decide) ?_
  exact h54 σ x1 s0 (x3 + (-1 : Int32)) hm
set_option maxHeartbeats 4000000 in
set_option maxRecDepth 100000 in
theorem w_Md_solveAll_79 {D : va_G} {ad : Nat → Nat} {cA : Nat → ClassId} {p : Program} {l : Launch} {e : Env} {s : State} {m : MethodId} {args : Array Value} {below : List Frame} {meth : Method} {c : Code} {F : Nat} (hAD : ∀ σ, va_D (owM ad) (wdM ad cA σ)) (C : CM D ad cA xTr p s m args meth c bc_Md_solveAll "KindRoundsModel" 4) (hr : meth.sig.returnType = none) {σ' : zS} (rc30 : zS → Int32 → Option zS) (rc54 : zS → Int32 → Int32 → Int32 → Option zS) (h30 : ∀ σ x1, rc30 σ x1 = some σ' → ZM D ad cA p l e (rmK 6) s m args below meth c 4 (qvM D ad cA below args s σ') 30 [(0, .ref (ad 0)), (1, .int x1)] [] σ) (h54 : ∀ σ x1 x2 x3, rc54 σ x1 x2 x3 = some σ' → ZM D ad cA p l e (rmK 6) s m args below meth c 4 (qvM D ad cA below args s σ') 54 [(0, .ref (ad 0)), (1, .int x1), (2, .int x2), (3, .int x3)] [] σ) (σ : zS) (x1 : Int32) (x2 : Int32) (x3 : Int32) (hm : Md_solveAll_79 F rc30 rc54 σ x1 x2 x3 = some σ') : ZM D ad cA p l e (rmK 6) s m args below meth c 4 (qvM D ad cA below args s σ') 79 [(0, .ref (ad 0)), (1, .int x1), (2, .int x2), (3, .int x3)] [] σ := by
  unfold Md_solveAll_79 at hm
  refine z_iload_n (pc := 79) C d_Md_solveAll_79 rfl 2 rfl ?_
  refine z_lv (lv' := [(0, .ref (ad 0)), (1, .int x1), (3, .int x3)]) [0, 1, 3] rfl ?_
  exact w_Md_solveAll_80 hAD C hr _ _ h30 h54 σ x1 x3 x2 hm
set_option maxHeartbeats 4000000 in
set_option maxRecDepth 100000 in
theorem w_Md_solveAll_54 {D : va_G} {ad : Nat → Nat} {cA : Nat → ClassId} {p : Program} {l : Launch} {e : Env} {s : State} {m : MethodId} {args : Array Value} {below : List Frame} {meth : Method} {c : Code} {F : Nat} (hAD : ∀ σ, va_D (owM ad) (wdM ad cA σ)) (C : CM D ad cA xTr p s m args meth c bc_Md_solveAll "KindRoundsModel" 4) (hr : meth.sig.returnType = none) {σ' : zS} (rc30 : zS → Int32 → Option zS) (h30 : ∀ σ x1, rc30 σ x1 = some σ' → ZM D ad cA p l e (rmK 6) s m args below meth c 4 (qvM D ad cA below args s σ') 30 [(0, .ref (ad 0)), (1, .int x1)] [] σ) : ∀ (n : Nat) (σ : zS) (x1 : Int32) (x2 : Int32) (x3 : Int32), Md_solveAll_54 F rc30 n σ x1 x2 x3 = some σ' → ZM D ad cA p l e (rmK 6) s m args below meth c 4 (qvM D ad cA below args s σ') 54 [(0, .ref (ad 0)), (1, .int x1), (2, .int x2), (3, .int x3)] [] σ := by
  intro n
  induction n with
  | zero => intro σ x1 x2 x3 hm; cases hm
  | succ n h54 =>
    intro σ x1 x2 x3 hm
    have hm : Md_solveAll_b54 F rc30 (Md_solveAll_54 F rc30 n) σ x1 x2 x3 = some σ' := hm
    unfold Md_solveAll_b54 at hm
    refine z_iload_n (pc := 54) C d_Md_solveAll_54 rfl 3 rfl ?_
    refine z_if_lt (pc := 55) (tgt := 87) C d_Md_solveAll_55 (by decide) (fun c1 => ?_) (fun c1 => ?_)
    · rw [if_pos c1] at hm
      refine z_iload_n (pc := 87) C d_Md_solveAll_87 rfl 2 rfl ?_
      refine z_if_lt (pc := 88) (tgt := 153) C d_Md_solveAll_88 (by decide) (fun c2 => ?_) (fun c2 => ?_)
      · rw [if_pos c2] at hm
        refine z_lv (lv' := [(0, .ref (ad 0)), (1, .int x1)]) [0, 1] rfl ?_
        exact w_Md_solveAll_153 hAD C hr _ h30 σ x1 hm
      · rw [if_neg c2] at hm
        refine z_iconst (pc := 91) C d_Md_solveAll_91 ki_0 ?_
        refine z_istore_n (pc := 92) (lv' := [(0, .ref (ad 0)), (1, .int x1), (2, .int x2), (3, .int (0 : Int32))]) C d_Md_solveAll_92 rfl (Nat.le_of_ble_eq_true rfl) [1, 2, 3, 0] rfl ?_
        exact w_Md_solveAll_93 hAD C hr _ h30 F σ x1 x2 (0 : Int32) hm
    · rw [if_neg c1] at hm
      refine z_aload_n (pc := 58) C d_Md_solveAll_58 rfl 0 rfl ?_
      refine gM_Md_157 (pc := 59) C  d_Md_solveAll_59 ?_
      refine z_iload_n (pc := 62) C d_Md_solveAll_62 rfl 3 rfl ?_
      obtain ⟨g3, hm⟩ := gd_s hm
      refine alM_48 (pc := 63) (v := (ga σ 48 x3.toNatClampNeg)) C  rfl g3 d_Md_solveAll_63 ?_
      refine z_if_ge (pc := 64) (tgt := 79) C d_Md_solveAll_64 (by decide) (fun c4 => ?_) (fun c4 => ?_)
      · rw [if_pos c4] at hm
        exact w_Md_solveAll_79 hAD C hr _ _ h30 h54 σ x1 x2 x3 hm
      · rw [if_neg c4] at hm
        refine z_aload_n (pc := 67) C d_Md_solveAll_67 rfl 0 rfl ?_
        refine z_iload_n (pc := 68) C d_Md_solveAll_68 rfl 3 rfl ?_
        obtain ⟨r6, σ5, e7, hm⟩ := bi_s hm
        refine z_callI (pc := 69) C (k_Md_canCome hAD e7) kz_Md_canCome mM_119 rfl rfl oM_0 rfl (kR_of (Nat.le_of_ble_eq_true rfl) (Nat.le_of_ble_eq_true rfl)) rfl (Nat.le_of_ble_eq_true rfl) d_Md_solveAll_69 ?_
        refine z_if_eq (pc := 72) (tgt := 79) C d_Md_solveAll_72 (by decide) (fun c8 => ?_) (fun c8 => ?_)
        · rw [if_pos c8] at hm
          exact w_Md_solveAll_79 hAD C hr _ _ h30 h54 σ5 x1 x2 x3 hm
        · rw [if_neg c8] at hm
          refine z_iload_n (pc := 75) C d_Md_solveAll_75 rfl 3 rfl ?_
          refine z_goto (pc := 76) (tgt := 80) C d_Md_solveAll_76 (by decide) ?_
          refine z_lv (lv' := [(0, .ref (ad 0)), (1, .int x1), (3, .int x3)]) [0, 1, 3] rfl ?_
          exact w_Md_solveAll_80 hAD C hr _ _ h30 h54 σ5 x1 x3 x3 hm
set_option maxHeartbeats 4000000 in
set_option maxRecDepth 100000 in
theorem w_Md_solveAll_30 {D : va_G} {ad : Nat → Nat} {cA : Nat → ClassId} {p : Program} {l : Launch} {e : Env} {s : State} {m : MethodId} {args : Array Value} {below : List Frame} {meth : Method} {c : Code} {F : Nat} (hAD : ∀ σ, va_D (owM ad) (wdM ad cA σ)) (C : CM D ad cA xTr p s m args meth c bc_Md_solveAll "KindRoundsModel" 4) (hr : meth.sig.returnType = none) {σ' : zS} : ∀ (n : Nat) (σ : zS) (x1 : Int32), Md_solveAll_30 F n σ x1 = some σ' → ZM D ad cA p l e (rmK 6) s m args below meth c 4 (qvM D ad cA below args s σ') 30 [(0, .ref (ad 0)), (1, .int x1)] [] σ := by
  intro n
  induction n with
  | zero => intro σ x1 hm; cases hm
  | succ n h30 =>
    intro σ x1 hm
    have hm : Md_solveAll_b30 F (Md_solveAll_30 F n) σ x1 = some σ' := hm
    unfold Md_solveAll_b30 at hm
    refine z_iload_n (pc := 30) C d_Md_solveAll_30 rfl 1 rfl ?_
    refine z_aload_n (pc := 31) C d_Md_solveAll_31 rfl 0 rfl ?_
    refine gM_Md_364 (pc := 32) (v := (gi σ 52)) C rfl d_Md_solveAll_32 ?_
    refine z_icmp_ge (pc := 35) (tgt := 159) C d_Md_solveAll_35 (by decide) (fun c1 => ?_) (fun c1 => ?_)
    · rw [if_pos c1] at hm
      refine z_lv (lv' := []) [] rfl ?_
      exact w_Md_solveAll_159 hAD C hr σ hm
    · rw [if_neg c1] at hm
      refine z_aload_n (pc := 38) C d_Md_solveAll_38 rfl 0 rfl ?_
      refine gM_Md_221 (pc := 39) (v := (gi σ 8)) C rfl d_Md_solveAll_39 ?_
      refine z_if_ne (pc := 42) (tgt := 159) C d_Md_solveAll_42 (by decide) (fun c2 => ?_) (fun c2 => ?_)
      · rw [if_neg c2] at hm
        refine z_lv (lv' := []) [] rfl ?_
        exact w_Md_solveAll_159 hAD C hr σ hm
      · rw [if_pos c2] at hm
        refine z_iconst (pc := 45) C d_Md_solveAll_45 ki_m1 ?_
        refine z_istore_n (pc := 46) (lv' := [(0, .ref (ad 0)), (1, .int x1), (2, .int (-1 : Int32))]) C d_Md_solveAll_46 rfl (Nat.le_of_ble_eq_true rfl) [1, 2, 0] rfl ?_
        refine z_aload_n (pc := 47) C d_Md_solveAll_47 rfl 0 rfl ?_
        refine gM_Md_364 (pc := 48) (v := (gi σ 52)) C rfl d_Md_solveAll_48 ?_
        refine z_iconst (pc := 51) C d_Md_solveAll_51 ki_1 ?_
        refine z_isub (pc := 52) C d_Md_solveAll_52 ?_
        refine z_istore_n (pc := 53) (lv' := [(0, .ref (ad 0)), (1, .int x1), (2, .int (-1 : Int32)), (3, .int ((gi σ 52) - (1 : Int32)))]) C d_Md_solveAll_53 rfl (Nat.le_of_ble_eq_true rfl) [1, 2, 3, 0] rfl ?_
        exact w_Md_solveAll_54 hAD C hr _ h30 F σ x1 (-1 : Int32) ((gi σ 52) - (1 : Int32)) hm
set_option maxHeartbeats 4000000 in
set_option maxRecDepth 100000 in
theorem w_Md_solveAll_7 {D : va_G} {ad : Nat → Nat} {cA : Nat → ClassId} {p : Program} {l : Launch} {e : Env} {s : State} {m : MethodId} {args : Array Value} {below : List Frame} {meth : Method} {c : Code} {F : Nat} (hAD : ∀ σ, va_D (owM ad) (wdM ad cA σ)) (C : CM D ad cA xTr p s m args meth c bc_Md_solveAll "KindRoundsModel" 4) (hr : meth.sig.returnType = none) {σ' : zS} : ∀ (n : Nat) (σ : zS) (x1 : Int32), Md_solveAll_7 F n σ x1 = some σ' → ZM D ad cA p l e (rmK 6) s m args below meth c 4 (qvM D ad cA below args s σ') 7 [(0, .ref (ad 0)), (1, .int x1)] [] σ := by
  intro n
  induction n with
  | zero => intro σ x1 hm; cases hm
  | succ n h7 =>
    intro σ x1 hm
    have hm : Md_solveAll_b7 F (Md_solveAll_7 F n) σ x1 = some σ' := hm
    unfold Md_solveAll_b7 at hm
    refine z_iload_n (pc := 7) C d_Md_solveAll_7 rfl 1 rfl ?_
    refine z_aload_n (pc := 8) C d_Md_solveAll_8 rfl 0 rfl ?_
    refine gM_Md_364 (pc := 9) (v := (gi σ 52)) C rfl d_Md_solveAll_9 ?_
    refine z_icmp_ge (pc := 12) (tgt := 28) C d_Md_solveAll_12 (by decide) (fun c1 => ?_) (fun c1 => ?_)
    · rw [if_pos c1] at hm
      refine z_iconst (pc := 28) C d_Md_solveAll_28 ki_0 ?_
      refine z_istore_n (pc := 29) (lv' := [(0, .ref (ad 0)), (1, .int (0 : Int32))]) C d_Md_solveAll_29 rfl (Nat.le_of_ble_eq_true rfl) [1, 0] rfl ?_
      exact w_Md_solveAll_30 hAD C hr F σ (0 : Int32) hm
    · rw [if_neg c1] at hm
      refine z_aload_n (pc := 15) C d_Md_solveAll_15 rfl 0 rfl ?_
      refine gM_Md_157 (pc := 16) C  d_Md_solveAll_16 ?_
      refine z_iload_n (pc := 19) C d_Md_solveAll_19 rfl 1 rfl ?_
      refine z_iconst (pc := 20) C d_Md_solveAll_20 ki_m1 ?_
      obtain ⟨g2, hm⟩ := gd_s hm
      refine asM_48 (pc := 21) C  g2 d_Md_solveAll_21 ?_
      refine z_iinc (pc := 22) (lv' := [(0, .ref (ad 0)), (1, .int (x1 + (1 : Int32)))]) C d_Md_solveAll_22 1 rfl (ii ki_1) (Nat.le_of_ble_eq_true rfl) [1, 0] rfl ?_
      refine z_goto (pc := 25) (tgt := 7) C d_Md_solveAll_25 (by decide) ?_
      exact h7 (sa σ 48 x1.toNatClampNeg (-1 : Int32)) (x1 + (1 : Int32)) hm
set_option maxHeartbeats 4000000 in
set_option maxRecDepth 100000 in
theorem k_Md_solveAll {l : Launch} {D : va_G} {ad : Nat → Nat} {cA : Nat → ClassId} {F : Nat} (hAD : ∀ σ, va_D (owM ad) (wdM ad cA σ)) {σ : zS} {σ' : zS} (hm : Md_solveAll F σ = some σ') : kVM l D ad cA xTr y_Md_solveAll bc_Md_solveAll 4 6 [.ref (ad 0)] σ σ' := by
  refine kV_of (by decide) hAD xTr_P (Nat.le_of_ble_eq_true rfl) ?_
  intro p e s m below meth c C hr
  unfold Md_solveAll at hm
  refine z_lv (lv' := [(0, .ref (ad 0))]) [0] rfl ?_
  refine z_aload_n (pc := 0) C d_Md_solveAll_0 rfl 0 rfl ?_
  refine z_iconst (pc := 1) C d_Md_solveAll_1 ki_0 ?_
  refine pM_Md_432 (pc := 2) C  d_Md_solveAll_2 ?_
  refine z_iconst (pc := 5) C d_Md_solveAll_5 ki_0 ?_
  refine z_istore_n (pc := 6) (lv' := [(0, .ref (ad 0)), (1, .int (0 : Int32))]) C d_Md_solveAll_6 rfl (Nat.le_of_ble_eq_true rfl) [1, 0] rfl ?_
  exact w_Md_solveAll_7 hAD C hr F (si σ 71 (0 : Int32)) (0 : Int32) hm
set_option maxHeartbeats 4000000 in
set_option maxRecDepth 100000 in
theorem w_Md_put_20 {D : va_G} {ad : Nat → Nat} {cA : Nat → ClassId} {p : Program} {l : Launch} {e : Env} {s : State} {m : MethodId} {args : Array Value} {below : List Frame} {meth : Method} {c : Code} {F : Nat} (hAD : ∀ σ, va_D (owM ad) (wdM ad cA σ)) (C : CM D ad cA xTr p s m args meth c bc_Md_put "KindRoundsModel" 2) (hr : meth.sig.returnType = none) {σ' : zS} (σ : zS) (hm : Md_put_20 F σ = some σ') : ZM D ad cA p l e (rmK 0) s m args below meth c 2 (qvM D ad cA below args s σ') 20 [(0, .ref (ad 0))] [] σ := by
  unfold Md_put_20 at hm
  refine z_aload_n (pc := 20) C d_Md_put_20 rfl 0 rfl ?_
  refine z_dup (pc := 21) C d_Md_put_21 rfl ?_
  refine gM_Md_491 (pc := 22) (v := (gi σ 82)) C rfl d_Md_put_22 ?_
  refine z_iconst (pc := 25) C d_Md_put_25 ki_1 ?_
  refine z_iadd (pc := 26) C d_Md_put_26 ?_
  refine pM_Md_491 (pc := 27) C  d_Md_put_27 ?_
  exact z_vretE (pc := 30) C hr hm d_Md_put_30
set_option maxHeartbeats 4000000 in
set_option maxRecDepth 100000 in
theorem k_Md_put {l : Launch} {D : va_G} {ad : Nat → Nat} {cA : Nat → ClassId} {F : Nat} (hAD : ∀ σ, va_D (owM ad) (wdM ad cA σ)) {σ : zS} {x1 : Int32} {σ' : zS} (hm : Md_put F σ x1 = some σ') : kVM l D ad cA xTr y_Md_put bc_Md_put 2 0 [.ref (ad 0), .int x1] σ σ' := by
  refine kV_of (by decide) hAD xTr_P (Nat.le_of_ble_eq_true rfl) ?_
  intro p e s m below meth c C hr
  unfold Md_put at hm
  refine z_lv (lv' := [(0, .ref (ad 0)), (1, .int x1)]) [0, 1] rfl ?_
  refine z_aload_n (pc := 0) C d_Md_put_0 rfl 0 rfl ?_
  refine gM_Md_491 (pc := 1) (v := (gi σ 82)) C rfl d_Md_put_1 ?_
  refine z_sipush (pc := 4) C d_Md_put_4 ks_5990 ?_
  refine z_icmp_ge (pc := 7) (tgt := 20) C d_Md_put_7 (by decide) (fun c1 => ?_) (fun c1 => ?_)
  · rw [if_pos c1] at hm
    refine z_lv (lv' := [(0, .ref (ad 0))]) [0] rfl ?_
    exact w_Md_put_20 hAD C hr σ hm
  · rw [if_neg c1] at hm
    refine z_aload_n (pc := 10) C d_Md_put_10 rfl 0 rfl ?_
    refine gM_Md_178 (pc := 11) C  d_Md_put_11 ?_
    refine z_aload_n (pc := 14) C d_Md_put_14 rfl 0 rfl ?_
    refine gM_Md_491 (pc := 15) (v := (gi σ 82)) C rfl d_Md_put_15 ?_
    refine z_iload_n (pc := 18) C d_Md_put_18 rfl 1 rfl ?_
    obtain ⟨g2, hm⟩ := gd_s hm
    refine asM_55 (pc := 19) C  g2 d_Md_put_19 ?_
    refine z_lv (lv' := [(0, .ref (ad 0))]) [0] rfl ?_
    exact w_Md_put_20 hAD C hr (sa σ 55 (gi σ 82).toNatClampNeg x1) hm
set_option maxHeartbeats 4000000 in
set_option maxRecDepth 100000 in
theorem w_Md_commit_2 {D : va_G} {ad : Nat → Nat} {cA : Nat → ClassId} {p : Program} {l : Launch} {e : Env} {s : State} {m : MethodId} {args : Array Value} {below : List Frame} {meth : Method} {c : Code} {F : Nat} (hAD : ∀ σ, va_D (owM ad) (wdM ad cA σ)) (C : CM D ad cA xTr p s m args meth c bc_Md_commit "KindRoundsModel" 2) (hr : meth.sig.returnType = some .int) {r : Int32} {σ' : zS} : ∀ (n : Nat) (σ : zS) (x1 : Int32), Md_commit_2 F n σ x1 = some (r, σ') → ZM D ad cA p l e (rmK 0) s m args below meth c 2 (qiM D ad cA below args s r σ') 2 [(0, .ref (ad 0)), (1, .int x1)] [] σ := by
  intro n
  induction n with
  | zero => intro σ x1 hm; cases hm
  | succ n h2 =>
    intro σ x1 hm
    have hm : Md_commit_b2 F (Md_commit_2 F n) σ x1 = some (r, σ') := hm
    unfold Md_commit_b2 at hm
    refine z_iload_n (pc := 2) C d_Md_commit_2 rfl 1 rfl ?_
    refine z_aload_n (pc := 3) C d_Md_commit_3 rfl 0 rfl ?_
    refine gM_Md_491 (pc := 4) (v := (gi σ 82)) C rfl d_Md_commit_4 ?_
    refine z_icmp_ge (pc := 7) (tgt := 28) C d_Md_commit_7 (by decide) (fun c1 => ?_) (fun c1 => ?_)
    · rw [if_pos c1] at hm
      refine z_aload_n (pc := 28) C d_Md_commit_28 rfl 0 rfl ?_
      refine z_aload_n (pc := 29) C d_Md_commit_29 rfl 0 rfl ?_
      refine gM_Md_491 (pc := 30) (v := (gi σ 82)) C rfl d_Md_commit_30 ?_
      refine pM_Md_494 (pc := 33) C  d_Md_commit_33 ?_
      refine z_aload_n (pc := 36) C d_Md_commit_36 rfl 0 rfl ?_
      refine gM_Md_491 (pc := 37) (v := (gi σ 82)) C rfl d_Md_commit_37 ?_
      exact z_iretE (pc := 40) C hr hm d_Md_commit_40
    · rw [if_neg c1] at hm
      refine z_aload_n (pc := 10) C d_Md_commit_10 rfl 0 rfl ?_
      refine gM_Md_181 (pc := 11) C  d_Md_commit_11 ?_
      refine z_iload_n (pc := 14) C d_Md_commit_14 rfl 1 rfl ?_
      refine z_aload_n (pc := 15) C d_Md_commit_15 rfl 0 rfl ?_
      refine gM_Md_178 (pc := 16) C  d_Md_commit_16 ?_
      refine z_iload_n (pc := 19) C d_Md_commit_19 rfl 1 rfl ?_
      obtain ⟨g2, hm⟩ := gd_s hm
      refine alM_55 (pc := 20) (v := (ga σ 55 x1.toNatClampNeg)) C  rfl g2 d_Md_commit_20 ?_
      refine asM_56 (pc := 21) C  g2 d_Md_commit_21 ?_
      refine z_iinc (pc := 22) (lv' := [(0, .ref (ad 0)), (1, .int (x1 + (1 : Int32)))]) C d_Md_commit_22 1 rfl (ii ki_1) (Nat.le_of_ble_eq_true rfl) [1, 0] rfl ?_
      refine z_goto (pc := 25) (tgt := 2) C d_Md_commit_25 (by decide) ?_
      exact h2 (sa σ 56 x1.toNatClampNeg (ga σ 55 x1.toNatClampNeg)) (x1 + (1 : Int32)) hm
set_option maxHeartbeats 4000000 in
set_option maxRecDepth 100000 in
theorem k_Md_commit {l : Launch} {D : va_G} {ad : Nat → Nat} {cA : Nat → ClassId} {F : Nat} (hAD : ∀ σ, va_D (owM ad) (wdM ad cA σ)) {σ : zS} {r : Int32} {σ' : zS} (hm : Md_commit F σ = some (r, σ')) : kIM l D ad cA xTr y_Md_commit bc_Md_commit 2 .int 0 [.ref (ad 0)] σ r σ' := by
  refine kI_of (by decide) hAD xTr_P (Nat.le_of_ble_eq_true rfl) ?_
  intro p e s m below meth c C hr
  unfold Md_commit at hm
  refine z_lv (lv' := [(0, .ref (ad 0))]) [0] rfl ?_
  refine z_iconst (pc := 0) C d_Md_commit_0 ki_0 ?_
  refine z_istore_n (pc := 1) (lv' := [(0, .ref (ad 0)), (1, .int (0 : Int32))]) C d_Md_commit_1 rfl (Nat.le_of_ble_eq_true rfl) [1, 0] rfl ?_
  exact w_Md_commit_2 hAD C hr F σ (0 : Int32) hm
set_option maxHeartbeats 4000000 in
set_option maxRecDepth 100000 in
theorem w_Md_giveLetters_130 {D : va_G} {ad : Nat → Nat} {cA : Nat → ClassId} {p : Program} {l : Launch} {e : Env} {s : State} {m : MethodId} {args : Array Value} {below : List Frame} {meth : Method} {c : Code} {F : Nat} (hAD : ∀ σ, va_D (owM ad) (wdM ad cA σ)) (C : CM D ad cA xTr p s m args meth c bc_Md_giveLetters "KindRoundsModel" 4) (hr : meth.sig.returnType = none) {σ' : zS} (rc9 : zS → Int32 → Option zS) (h9 : ∀ σ x2, rc9 σ x2 = some σ' → ZM D ad cA p l e (rmK 1) s m args below meth c 4 (qvM D ad cA below args s σ') 9 [(0, .ref (ad 0)), (2, .int x2)] [] σ) (σ : zS) (x2 : Int32) (x3 : Int32) (hm : Md_giveLetters_130 F rc9 σ x2 x3 = some σ') : ZM D ad cA p l e (rmK 1) s m args below meth c 4 (qvM D ad cA below args s σ') 130 [(0, .ref (ad 0)), (2, .int x2), (3, .int x3)] [] σ := by
  unfold Md_giveLetters_130 at hm
  refine z_aload_n (pc := 130) C d_Md_giveLetters_130 rfl 0 rfl ?_
  refine gM_Md_175 (pc := 131) C  d_Md_giveLetters_131 ?_
  refine z_iload_n (pc := 134) C d_Md_giveLetters_134 rfl 2 rfl ?_
  refine z_iconst (pc := 135) C d_Md_giveLetters_135 ki_1 ?_
  obtain ⟨g1, hm⟩ := gd_s hm
  refine asM_54 (pc := 136) C  g1 d_Md_giveLetters_136 ?_
  refine z_goto (pc := 137) (tgt := 9) C d_Md_giveLetters_137 (by decide) ?_
  refine z_lv (lv' := [(0, .ref (ad 0)), (2, .int x2)]) [0, 1] rfl ?_
  exact h9 (sa σ 54 x3.toNatClampNeg (1 : Int32)) x2 hm
set_option maxHeartbeats 4000000 in
set_option maxRecDepth 100000 in
theorem w_Md_giveLetters_82 {D : va_G} {ad : Nat → Nat} {cA : Nat → ClassId} {p : Program} {l : Launch} {e : Env} {s : State} {m : MethodId} {args : Array Value} {below : List Frame} {meth : Method} {c : Code} {F : Nat} (hAD : ∀ σ, va_D (owM ad) (wdM ad cA σ)) (C : CM D ad cA xTr p s m args meth c bc_Md_giveLetters "KindRoundsModel" 4) (hr : meth.sig.returnType = none) {σ' : zS} (rc9 : zS → Int32 → Option zS) (h9 : ∀ σ x2, rc9 σ x2 = some σ' → ZM D ad cA p l e (rmK 1) s m args below meth c 4 (qvM D ad cA below args s σ') 9 [(0, .ref (ad 0)), (2, .int x2)] [] σ) (σ : zS) (x2 : Int32) (x3 : Int32) (hm : Md_giveLetters_82 F rc9 σ x2 x3 = some σ') : ZM D ad cA p l e (rmK 1) s m args below meth c 4 (qvM D ad cA below args s σ') 82 [(0, .ref (ad 0)), (2, .int x2), (3, .int x3)] [] σ := by
  unfold Md_giveLetters_82 at hm
  refine z_aload_n (pc := 82) C d_Md_giveLetters_82 rfl 0 rfl ?_
  refine gM_Md_175 (pc := 83) C  d_Md_giveLetters_83 ?_
  refine z_iload_n (pc := 86) C d_Md_giveLetters_86 rfl 2 rfl ?_
  obtain ⟨g1, hm⟩ := gd_s hm
  refine alM_54 (pc := 87) (v := (ga σ 54 x3.toNatClampNeg)) C  rfl g1 d_Md_giveLetters_87 ?_
  refine z_if_ne (pc := 88) (tgt := 130) C d_Md_giveLetters_88 (by decide) (fun c2 => ?_) (fun c2 => ?_)
  · rw [if_neg c2] at hm
    exact w_Md_giveLetters_130 hAD C hr _ h9 σ x2 x3 hm
  · rw [if_pos c2] at hm
    refine z_aload_n (pc := 91) C d_Md_giveLetters_91 rfl 0 rfl ?_
    refine gM_Md_91 (pc := 92) C  d_Md_giveLetters_92 ?_
    refine z_iload_n (pc := 95) C d_Md_giveLetters_95 rfl 2 rfl ?_
    refine alM_26 (pc := 96) (v := (ga σ 26 x3.toNatClampNeg)) C  rfl g1 d_Md_giveLetters_96 ?_
    refine z_iconst (pc := 97) C d_Md_giveLetters_97 ki_2 ?_
    refine z_icmp_ne (pc := 98) (tgt := 130) C d_Md_giveLetters_98 (by decide) (fun c3 => ?_) (fun c3 => ?_)
    · rw [if_neg c3] at hm
      exact w_Md_giveLetters_130 hAD C hr _ h9 σ x2 x3 hm
    · rw [if_pos c3] at hm
      refine z_aload_n (pc := 101) C d_Md_giveLetters_101 rfl 0 rfl ?_
      refine gM_Md_172 (pc := 102) C  d_Md_giveLetters_102 ?_
      refine z_iload_n (pc := 105) C d_Md_giveLetters_105 rfl 1 rfl ?_
      refine z_aload_n (pc := 106) C d_Md_giveLetters_106 rfl 0 rfl ?_
      refine gM_Md_97 (pc := 107) C  d_Md_giveLetters_107 ?_
      refine z_iload_n (pc := 110) C d_Md_giveLetters_110 rfl 2 rfl ?_
      refine alM_28 (pc := 111) (v := (ga σ 28 x3.toNatClampNeg)) C  rfl g1 d_Md_giveLetters_111 ?_
      obtain ⟨g4, hm⟩ := gd_s hm
      refine asM_53 (pc := 112) C  g4 d_Md_giveLetters_112 ?_
      refine z_aload_n (pc := 113) C d_Md_giveLetters_113 rfl 0 rfl ?_
      refine gM_Md_172 (pc := 114) C  d_Md_giveLetters_114 ?_
      refine z_iload_n (pc := 117) C d_Md_giveLetters_117 rfl 1 rfl ?_
      refine z_iconst (pc := 118) C d_Md_giveLetters_118 ki_1 ?_
      refine z_iadd (pc := 119) C d_Md_giveLetters_119 ?_
      refine z_aload_n (pc := 120) C d_Md_giveLetters_120 rfl 0 rfl ?_
      refine gM_Md_94 (pc := 121) C  d_Md_giveLetters_121 ?_
      refine z_iload_n (pc := 124) C d_Md_giveLetters_124 rfl 2 rfl ?_
      refine alM_27 (pc := 125) (v := (ga σ 27 x3.toNatClampNeg)) C  rfl g1 d_Md_giveLetters_125 ?_
      obtain ⟨g5, hm⟩ := gd_s hm
      refine asM_53 (pc := 126) C  g5 d_Md_giveLetters_126 ?_
      refine z_iinc (pc := 127) (lv' := [(0, .ref (ad 0)), (2, .int (x2 + (2 : Int32))), (3, .int x3)]) C d_Md_giveLetters_127 1 rfl (ii ki_2) (Nat.le_of_ble_eq_true rfl) [1, 0, 2] rfl ?_
      exact w_Md_giveLetters_130 hAD C hr _ h9 (sa (sa σ 53 x2.toNatClampNeg (ga σ 28 x3.toNatClampNeg)) 53 (x2 + (1 : Int32)).toNatClampNeg (ga σ 27 x3.toNatClampNeg)) (x2 + (2 : Int32)) x3 hm
set_option maxHeartbeats 4000000 in
set_option maxRecDepth 100000 in
theorem w_Md_giveLetters_71 {D : va_G} {ad : Nat → Nat} {cA : Nat → ClassId} {p : Program} {l : Launch} {e : Env} {s : State} {m : MethodId} {args : Array Value} {below : List Frame} {meth : Method} {c : Code} {F : Nat} (hAD : ∀ σ, va_D (owM ad) (wdM ad cA σ)) (C : CM D ad cA xTr p s m args meth c bc_Md_giveLetters "KindRoundsModel" 4) (hr : meth.sig.returnType = none) {σ' : zS} (rc9 : zS → Int32 → Option zS) (h9 : ∀ σ x2, rc9 σ x2 = some σ' → ZM D ad cA p l e (rmK 1) s m args below meth c 4 (qvM D ad cA below args s σ') 9 [(0, .ref (ad 0)), (2, .int x2)] [] σ) (σ : zS) (x2 : Int32) (x3 : Int32) (s1 : Int32) (s2 : Int32) (hm : Md_giveLetters_71 F rc9 σ x2 x3 s1 s2 = some σ') : ZM D ad cA p l e (rmK 1) s m args below meth c 4 (qvM D ad cA below args s σ') 71 [(0, .ref (ad 0)), (2, .int x2), (3, .int x3)] [.int s2, .int s1, .ref (ad 57)] σ := by
  unfold Md_giveLetters_71 at hm
  obtain ⟨g1, hm⟩ := gd_s hm
  refine asM_57 (pc := 71) C  g1 d_Md_giveLetters_71 ?_
  refine z_aload_n (pc := 72) C d_Md_giveLetters_72 rfl 0 rfl ?_
  refine z_dup (pc := 73) C d_Md_giveLetters_73 rfl ?_
  refine gM_Md_497 (pc := 74) (v := (gi σ 87)) C rfl d_Md_giveLetters_74 ?_
  refine z_iconst (pc := 77) C d_Md_giveLetters_77 ki_1 ?_
  refine z_iadd (pc := 78) C d_Md_giveLetters_78 ?_
  refine pM_Md_497 (pc := 79) C  d_Md_giveLetters_79 ?_
  exact w_Md_giveLetters_82 hAD C hr _ h9 (si (sa σ 57 s1.toNatClampNeg s2) 87 ((gi σ 87) + (1 : Int32))) x2 x3 hm
set_option maxHeartbeats 4000000 in
set_option maxRecDepth 100000 in
theorem w_Md_giveLetters_9 {D : va_G} {ad : Nat → Nat} {cA : Nat → ClassId} {p : Program} {l : Launch} {e : Env} {s : State} {m : MethodId} {args : Array Value} {below : List Frame} {meth : Method} {c : Code} {F : Nat} (hAD : ∀ σ, va_D (owM ad) (wdM ad cA σ)) (C : CM D ad cA xTr p s m args meth c bc_Md_giveLetters "KindRoundsModel" 4) (hr : meth.sig.returnType = none) {σ' : zS} : ∀ (n : Nat) (σ : zS) (x2 : Int32), Md_giveLetters_9 F n σ x2 = some σ' → ZM D ad cA p l e (rmK 1) s m args below meth c 4 (qvM D ad cA below args s σ') 9 [(0, .ref (ad 0)), (2, .int x2)] [] σ := by
  intro n
  induction n with
  | zero => intro σ x2 hm; cases hm
  | succ n h9 =>
    intro σ x2 hm
    have hm : Md_giveLetters_b9 F (Md_giveLetters_9 F n) σ x2 = some σ' := hm
    unfold Md_giveLetters_b9 at hm
    refine z_iload_n (pc := 9) C d_Md_giveLetters_9 rfl 1 rfl ?_
    refine z_if_le (pc := 10) (tgt := 140) C d_Md_giveLetters_10 (by decide) (fun c1 => ?_) (fun c1 => ?_)
    · rw [if_pos c1] at hm
      exact z_vretE (pc := 140) C hr hm d_Md_giveLetters_140
    · rw [if_neg c1] at hm
      refine z_iinc (pc := 13) (lv' := [(0, .ref (ad 0)), (2, .int (x2 + (-1 : Int32)))]) C d_Md_giveLetters_13 1 rfl (ii ki_m1) (Nat.le_of_ble_eq_true rfl) [1, 0] rfl ?_
      refine z_aload_n (pc := 16) C d_Md_giveLetters_16 rfl 0 rfl ?_
      refine z_aload_n (pc := 17) C d_Md_giveLetters_17 rfl 0 rfl ?_
      refine gM_Md_172 (pc := 18) C  d_Md_giveLetters_18 ?_
      refine z_iload_n (pc := 21) C d_Md_giveLetters_21 rfl 1 rfl ?_
      obtain ⟨g2, hm⟩ := gd_s hm
      refine alM_53 (pc := 22) (v := (ga σ 53 (x2 + (-1 : Int32)).toNatClampNeg)) C  rfl g2 d_Md_giveLetters_22 ?_
      obtain ⟨r4, σ3, e5, hm⟩ := bi_s hm
      refine z_callI (pc := 23) C (k_Md_top hAD e5) kz_Md_top mM_140 rfl rfl oM_0 rfl (kR_of (Nat.le_of_ble_eq_true rfl) (Nat.le_of_ble_eq_true rfl)) rfl (Nat.le_of_ble_eq_true rfl) d_Md_giveLetters_23 ?_
      refine z_istore_n (pc := 26) (lv' := [(0, .ref (ad 0)), (2, .int (x2 + (-1 : Int32))), (3, .int r4)]) C d_Md_giveLetters_26 rfl (Nat.le_of_ble_eq_true rfl) [1, 2, 0] rfl ?_
      refine z_aload_n (pc := 27) C d_Md_giveLetters_27 rfl 0 rfl ?_
      refine gM_Md_175 (pc := 28) C  d_Md_giveLetters_28 ?_
      refine z_iload_n (pc := 31) C d_Md_giveLetters_31 rfl 2 rfl ?_
      obtain ⟨g6, hm⟩ := gd_s hm
      refine alM_54 (pc := 32) (v := (ga σ3 54 r4.toNatClampNeg)) C  rfl g6 d_Md_giveLetters_32 ?_
      refine z_if_ne (pc := 33) (tgt := 82) C d_Md_giveLetters_33 (by decide) (fun c7 => ?_) (fun c7 => ?_)
      · rw [if_neg c7] at hm
        exact w_Md_giveLetters_82 hAD C hr _ h9 σ3 (x2 + (-1 : Int32)) r4 hm
      · rw [if_pos c7] at hm
        refine z_aload_n (pc := 36) C d_Md_giveLetters_36 rfl 0 rfl ?_
        refine gM_Md_91 (pc := 37) C  d_Md_giveLetters_37 ?_
        refine z_iload_n (pc := 40) C d_Md_giveLetters_40 rfl 2 rfl ?_
        refine alM_26 (pc := 41) (v := (ga σ3 26 r4.toNatClampNeg)) C  rfl g6 d_Md_giveLetters_41 ?_
        refine z_if_ne (pc := 42) (tgt := 82) C d_Md_giveLetters_42 (by decide) (fun c8 => ?_) (fun c8 => ?_)
        · rw [if_neg c8] at hm
          exact w_Md_giveLetters_82 hAD C hr _ h9 σ3 (x2 + (-1 : Int32)) r4 hm
        · rw [if_pos c8] at hm
          refine z_aload_n (pc := 45) C d_Md_giveLetters_45 rfl 0 rfl ?_
          refine gM_Md_184 (pc := 46) C  d_Md_giveLetters_46 ?_
          refine z_iload_n (pc := 49) C d_Md_giveLetters_49 rfl 2 rfl ?_
          refine z_aload_n (pc := 50) C d_Md_giveLetters_50 rfl 0 rfl ?_
          refine gM_Md_497 (pc := 51) (v := (gi σ3 87)) C rfl d_Md_giveLetters_51 ?_
          refine z_bipush (pc := 54) C d_Md_giveLetters_54 kb_25 ?_
          refine z_icmp_ge (pc := 56) (tgt := 69) C d_Md_giveLetters_56 (by decide) (fun c9 => ?_) (fun c9 => ?_)
          · rw [if_pos c9] at hm
            refine z_bipush (pc := 69) C d_Md_giveLetters_69 kb_122 ?_
            exact w_Md_giveLetters_71 hAD C hr _ h9 σ3 (x2 + (-1 : Int32)) r4 r4 (122 : Int32) hm
          · rw [if_neg c9] at hm
            refine z_bipush (pc := 59) C d_Md_giveLetters_59 kb_97 ?_
            refine z_aload_n (pc := 61) C d_Md_giveLetters_61 rfl 0 rfl ?_
            refine gM_Md_497 (pc := 62) (v := (gi σ3 87)) C rfl d_Md_giveLetters_62 ?_
            refine z_iadd (pc := 65) C d_Md_giveLetters_65 ?_
            refine z_goto (pc := 66) (tgt := 71) C d_Md_giveLetters_66 (by decide) ?_
            exact w_Md_giveLetters_71 hAD C hr _ h9 σ3 (x2 + (-1 : Int32)) r4 r4 ((97 : Int32) + (gi σ3 87)) hm
set_option maxHeartbeats 4000000 in
set_option maxRecDepth 100000 in
theorem k_Md_giveLetters {l : Launch} {D : va_G} {ad : Nat → Nat} {cA : Nat → ClassId} {F : Nat} (hAD : ∀ σ, va_D (owM ad) (wdM ad cA σ)) {σ : zS} {x1 : Int32} {σ' : zS} (hm : Md_giveLetters F σ x1 = some σ') : kVM l D ad cA xTr y_Md_giveLetters bc_Md_giveLetters 4 1 [.ref (ad 0), .int x1] σ σ' := by
  refine kV_of (by decide) hAD xTr_P (Nat.le_of_ble_eq_true rfl) ?_
  intro p e s m below meth c C hr
  unfold Md_giveLetters at hm
  refine z_lv (lv' := [(0, .ref (ad 0)), (1, .int x1)]) [0, 1] rfl ?_
  refine z_iconst (pc := 0) C d_Md_giveLetters_0 ki_1 ?_
  refine z_istore_n (pc := 1) (lv' := [(0, .ref (ad 0)), (1, .int x1), (2, .int (1 : Int32))]) C d_Md_giveLetters_1 rfl (Nat.le_of_ble_eq_true rfl) [1, 2, 0] rfl ?_
  refine z_aload_n (pc := 2) C d_Md_giveLetters_2 rfl 0 rfl ?_
  refine gM_Md_172 (pc := 3) C  d_Md_giveLetters_3 ?_
  refine z_iconst (pc := 6) C d_Md_giveLetters_6 ki_0 ?_
  refine z_iload_n (pc := 7) C d_Md_giveLetters_7 rfl 1 rfl ?_
  obtain ⟨g1, hm⟩ := gd_s hm
  refine asM_53 (pc := 8) C  g1 d_Md_giveLetters_8 ?_
  refine z_lv (lv' := [(0, .ref (ad 0)), (2, .int (1 : Int32))]) [0, 2] rfl ?_
  exact w_Md_giveLetters_9 hAD C hr F (sa σ 53 (0 : Int32).toNatClampNeg x1) (1 : Int32) hm
set_option maxHeartbeats 4000000 in
set_option maxRecDepth 100000 in
theorem w_Md_layKindOf_119 {D : va_G} {ad : Nat → Nat} {cA : Nat → ClassId} {p : Program} {l : Launch} {e : Env} {s : State} {m : MethodId} {args : Array Value} {below : List Frame} {meth : Method} {c : Code} {F : Nat} (hAD : ∀ σ, va_D (owM ad) (wdM ad cA σ)) (C : CM D ad cA xTr p s m args meth c bc_Md_layKindOf "KindRoundsModel" 5) (hr : meth.sig.returnType = some .int) {r : Int32} {σ' : zS} (σ : zS) (x1 : Int32) (x4 : Int32) (hm : Md_layKindOf_119 F σ x1 x4 = some (r, σ')) : ZM D ad cA p l e (rmK 1) s m args below meth c 5 (qiM D ad cA below args s r σ') 119 [(0, .ref (ad 0)), (1, .int x1), (4, .int x4)] [] σ := by
  unfold Md_layKindOf_119 at hm
  refine z_aload_n (pc := 119) C d_Md_layKindOf_119 rfl 0 rfl ?_
  refine gM_Md_172 (pc := 120) C  d_Md_layKindOf_120 ?_
  refine z_iload (pc := 123) C d_Md_layKindOf_123 2 rfl ?_
  refine z_aload_n (pc := 125) C d_Md_layKindOf_125 rfl 0 rfl ?_
  refine gM_Md_94 (pc := 126) C  d_Md_layKindOf_126 ?_
  refine z_iload_n (pc := 129) C d_Md_layKindOf_129 rfl 1 rfl ?_
  obtain ⟨g1, hm⟩ := gd_s hm
  refine alM_27 (pc := 130) (v := (ga σ 27 x1.toNatClampNeg)) C  rfl g1 d_Md_layKindOf_130 ?_
  obtain ⟨g2, hm⟩ := gd_s hm
  refine asM_53 (pc := 131) C  g2 d_Md_layKindOf_131 ?_
  refine z_iload (pc := 132) C d_Md_layKindOf_132 2 rfl ?_
  refine z_iconst (pc := 134) C d_Md_layKindOf_134 ki_1 ?_
  refine z_iadd (pc := 135) C d_Md_layKindOf_135 ?_
  exact z_iretE (pc := 136) C hr hm d_Md_layKindOf_136
set_option maxHeartbeats 4000000 in
set_option maxRecDepth 100000 in
theorem w_Md_layKindOf_67 {D : va_G} {ad : Nat → Nat} {cA : Nat → ClassId} {p : Program} {l : Launch} {e : Env} {s : State} {m : MethodId} {args : Array Value} {below : List Frame} {meth : Method} {c : Code} {F : Nat} (hAD : ∀ σ, va_D (owM ad) (wdM ad cA σ)) (C : CM D ad cA xTr p s m args meth c bc_Md_layKindOf "KindRoundsModel" 5) (hr : meth.sig.returnType = some .int) {r : Int32} {σ' : zS} (σ : zS) (x1 : Int32) (x2 : Int32) (s0 : Int32) (hm : Md_layKindOf_67 F σ x1 x2 s0 = some (r, σ')) : ZM D ad cA p l e (rmK 1) s m args below meth c 5 (qiM D ad cA below args s r σ') 67 [(0, .ref (ad 0)), (1, .int x1), (2, .int x2)] [.int s0] σ := by
  unfold Md_layKindOf_67 at hm
  refine z_istore_n (pc := 67) (lv' := [(0, .ref (ad 0)), (1, .int x1), (2, .int x2), (3, .int s0)]) C d_Md_layKindOf_67 rfl (Nat.le_of_ble_eq_true rfl) [1, 2, 3, 0] rfl ?_
  refine z_iload_n (pc := 68) C d_Md_layKindOf_68 rfl 2 rfl ?_
  refine z_istore (pc := 69) (lv' := [(0, .ref (ad 0)), (1, .int x1), (2, .int x2), (3, .int s0), (4, .int x2)]) C d_Md_layKindOf_69 (Nat.le_of_ble_eq_true rfl) [1, 2, 3, 4, 0] rfl ?_
  refine z_aload_n (pc := 71) C d_Md_layKindOf_71 rfl 0 rfl ?_
  refine gM_Md_172 (pc := 72) C  d_Md_layKindOf_72 ?_
  refine z_iload (pc := 75) C d_Md_layKindOf_75 4 rfl ?_
  refine z_aload_n (pc := 77) C d_Md_layKindOf_77 rfl 0 rfl ?_
  refine gM_Md_97 (pc := 78) C  d_Md_layKindOf_78 ?_
  refine z_iload_n (pc := 81) C d_Md_layKindOf_81 rfl 1 rfl ?_
  obtain ⟨g1, hm⟩ := gd_s hm
  refine alM_28 (pc := 82) (v := (ga σ 28 x1.toNatClampNeg)) C  rfl g1 d_Md_layKindOf_82 ?_
  obtain ⟨g2, hm⟩ := gd_s hm
  refine asM_53 (pc := 83) C  g2 d_Md_layKindOf_83 ?_
  refine z_aload_n (pc := 84) C d_Md_layKindOf_84 rfl 0 rfl ?_
  refine gM_Md_172 (pc := 85) C  d_Md_layKindOf_85 ?_
  refine z_iload (pc := 88) C d_Md_layKindOf_88 4 rfl ?_
  refine z_iconst (pc := 90) C d_Md_layKindOf_90 ki_1 ?_
  refine z_iadd (pc := 91) C d_Md_layKindOf_91 ?_
  refine z_bipush (pc := 92) C d_Md_layKindOf_92 kb_m2 ?_
  obtain ⟨g3, hm⟩ := gd_s hm
  refine asM_53 (pc := 94) C  g3 d_Md_layKindOf_94 ?_
  refine z_iinc (pc := 95) (lv' := [(0, .ref (ad 0)), (1, .int x1), (2, .int x2), (3, .int s0), (4, .int (x2 + (2 : Int32)))]) C d_Md_layKindOf_95 4 rfl (ii ki_2) (Nat.le_of_ble_eq_true rfl) [1, 2, 3, 4, 0] rfl ?_
  refine z_iload_n (pc := 98) C d_Md_layKindOf_98 rfl 3 rfl ?_
  refine z_if_eq (pc := 99) (tgt := 119) C d_Md_layKindOf_99 (by decide) (fun c4 => ?_) (fun c4 => ?_)
  · rw [if_pos c4] at hm
    refine z_lv (lv' := [(0, .ref (ad 0)), (1, .int x1), (4, .int (x2 + (2 : Int32)))]) [0, 1, 4] rfl ?_
    exact w_Md_layKindOf_119 hAD C hr (sa (sa σ 53 x2.toNatClampNeg (ga σ 28 x1.toNatClampNeg)) 53 (x2 + (1 : Int32)).toNatClampNeg (-2 : Int32)) x1 (x2 + (2 : Int32)) hm
  · rw [if_neg c4] at hm
    refine z_aload_n (pc := 102) C d_Md_layKindOf_102 rfl 0 rfl ?_
    refine z_bipush (pc := 103) C d_Md_layKindOf_103 kb_40 ?_
    obtain ⟨σ5, e6, hm⟩ := bv_s hm
    refine z_callV (pc := 105) C (k_Md_put hAD e6) kz_Md_put mM_151 rfl rfl oM_0 rfl (kR_of (Nat.le_of_ble_eq_true rfl) (Nat.le_of_ble_eq_true rfl)) rfl (Nat.le_of_ble_eq_true rfl) d_Md_layKindOf_105 ?_
    refine z_aload_n (pc := 108) C d_Md_layKindOf_108 rfl 0 rfl ?_
    refine gM_Md_172 (pc := 109) C  d_Md_layKindOf_109 ?_
    refine z_iload (pc := 112) C d_Md_layKindOf_112 4 rfl ?_
    refine z_iconst (pc := 114) C d_Md_layKindOf_114 ki_m1 ?_
    obtain ⟨g7, hm⟩ := gd_s hm
    refine asM_53 (pc := 115) C  g7 d_Md_layKindOf_115 ?_
    refine z_iinc (pc := 116) (lv' := [(0, .ref (ad 0)), (1, .int x1), (2, .int x2), (3, .int s0), (4, .int ((x2 + (2 : Int32)) + (1 : Int32)))]) C d_Md_layKindOf_116 4 rfl (ii ki_1) (Nat.le_of_ble_eq_true rfl) [1, 2, 3, 4, 0] rfl ?_
    refine z_lv (lv' := [(0, .ref (ad 0)), (1, .int x1), (4, .int ((x2 + (2 : Int32)) + (1 : Int32)))]) [0, 1, 4] rfl ?_
    exact w_Md_layKindOf_119 hAD C hr (sa σ5 53 (x2 + (2 : Int32)).toNatClampNeg (-1 : Int32)) x1 ((x2 + (2 : Int32)) + (1 : Int32)) hm
set_option maxHeartbeats 4000000 in
set_option maxRecDepth 100000 in
theorem w_Md_layKindOf_38 {D : va_G} {ad : Nat → Nat} {cA : Nat → ClassId} {p : Program} {l : Launch} {e : Env} {s : State} {m : MethodId} {args : Array Value} {below : List Frame} {meth : Method} {c : Code} {F : Nat} (hAD : ∀ σ, va_D (owM ad) (wdM ad cA σ)) (C : CM D ad cA xTr p s m args meth c bc_Md_layKindOf "KindRoundsModel" 5) (hr : meth.sig.returnType = some .int) {r : Int32} {σ' : zS} (σ : zS) (x2 : Int32) (s1 : Int32) (hm : Md_layKindOf_38 F σ x2 s1 = some (r, σ')) : ZM D ad cA p l e (rmK 1) s m args below meth c 5 (qiM D ad cA below args s r σ') 38 [(2, .int x2)] [.int s1, .ref (ad 0)] σ := by
  unfold Md_layKindOf_38 at hm
  obtain ⟨σ1, e2, hm⟩ := bv_s hm
  refine z_callV (pc := 38) C (k_Md_put hAD e2) kz_Md_put mM_151 rfl rfl oM_0 rfl (kR_of (Nat.le_of_ble_eq_true rfl) (Nat.le_of_ble_eq_true rfl)) rfl (Nat.le_of_ble_eq_true rfl) d_Md_layKindOf_38 ?_
  refine z_iload_n (pc := 41) C d_Md_layKindOf_41 rfl 0 rfl ?_
  exact z_iretE (pc := 42) C hr hm d_Md_layKindOf_42
set_option maxHeartbeats 4000000 in
set_option maxRecDepth 100000 in
theorem w_Md_layKindOf_36 {D : va_G} {ad : Nat → Nat} {cA : Nat → ClassId} {p : Program} {l : Launch} {e : Env} {s : State} {m : MethodId} {args : Array Value} {below : List Frame} {meth : Method} {c : Code} {F : Nat} (hAD : ∀ σ, va_D (owM ad) (wdM ad cA σ)) (C : CM D ad cA xTr p s m args meth c bc_Md_layKindOf "KindRoundsModel" 5) (hr : meth.sig.returnType = some .int) {r : Int32} {σ' : zS} (σ : zS) (x2 : Int32) (hm : Md_layKindOf_36 F σ x2 = some (r, σ')) : ZM D ad cA p l e (rmK 1) s m args below meth c 5 (qiM D ad cA below args s r σ') 36 [(2, .int x2)] [.ref (ad 0)] σ := by
  unfold Md_layKindOf_36 at hm
  refine z_bipush (pc := 36) C d_Md_layKindOf_36 kb_42 ?_
  exact w_Md_layKindOf_38 hAD C hr σ x2 (42 : Int32) hm
set_option maxHeartbeats 4000000 in
set_option maxRecDepth 100000 in
theorem k_Md_layKindOf {l : Launch} {D : va_G} {ad : Nat → Nat} {cA : Nat → ClassId} {F : Nat} (hAD : ∀ σ, va_D (owM ad) (wdM ad cA σ)) {σ : zS} {x1 : Int32} {x2 : Int32} {r : Int32} {σ' : zS} (hm : Md_layKindOf F σ x1 x2 = some (r, σ')) : kIM l D ad cA xTr y_Md_layKindOf bc_Md_layKindOf 5 .int 1 [.ref (ad 0), .int x1, .int x2] σ r σ' := by
  refine kI_of (by decide) hAD xTr_P (Nat.le_of_ble_eq_true rfl) ?_
  intro p e s m below meth c C hr
  unfold Md_layKindOf at hm
  refine z_lv (lv' := [(0, .ref (ad 0)), (1, .int x1), (2, .int x2)]) [0, 1, 2] rfl ?_
  refine z_aload_n (pc := 0) C d_Md_layKindOf_0 rfl 0 rfl ?_
  refine gM_Md_91 (pc := 1) C  d_Md_layKindOf_1 ?_
  refine z_iload_n (pc := 4) C d_Md_layKindOf_4 rfl 1 rfl ?_
  obtain ⟨g1, hm⟩ := gd_s hm
  refine alM_26 (pc := 5) (v := (ga σ 26 x1.toNatClampNeg)) C  rfl g1 d_Md_layKindOf_5 ?_
  refine z_iconst (pc := 6) C d_Md_layKindOf_6 ki_2 ?_
  refine z_icmp_eq (pc := 7) (tgt := 43) C d_Md_layKindOf_7 (by decide) (fun c2 => ?_) (fun c2 => ?_)
  · rw [if_pos c2] at hm
    refine z_aload_n (pc := 43) C d_Md_layKindOf_43 rfl 0 rfl ?_
    refine gM_Md_91 (pc := 44) C  d_Md_layKindOf_44 ?_
    refine z_aload_n (pc := 47) C d_Md_layKindOf_47 rfl 0 rfl ?_
    refine z_aload_n (pc := 48) C d_Md_layKindOf_48 rfl 0 rfl ?_
    refine gM_Md_94 (pc := 49) C  d_Md_layKindOf_49 ?_
    refine z_iload_n (pc := 52) C d_Md_layKindOf_52 rfl 1 rfl ?_
    refine alM_27 (pc := 53) (v := (ga σ 27 x1.toNatClampNeg)) C  rfl g1 d_Md_layKindOf_53 ?_
    obtain ⟨r4, σ3, e5, hm⟩ := bi_s hm
    refine z_callI (pc := 54) C (k_Md_top hAD e5) kz_Md_top mM_140 rfl rfl oM_0 rfl (kR_of (Nat.le_of_ble_eq_true rfl) (Nat.le_of_ble_eq_true rfl)) rfl (Nat.le_of_ble_eq_true rfl) d_Md_layKindOf_54 ?_
    obtain ⟨g6, hm⟩ := gd_s hm
    refine alM_26 (pc := 57) (v := (ga σ3 26 r4.toNatClampNeg)) C  rfl g6 d_Md_layKindOf_57 ?_
    refine z_iconst (pc := 58) C d_Md_layKindOf_58 ki_2 ?_
    refine z_icmp_ne (pc := 59) (tgt := 66) C d_Md_layKindOf_59 (by decide) (fun c7 => ?_) (fun c7 => ?_)
    · rw [if_neg c7] at hm
      refine z_iconst (pc := 66) C d_Md_layKindOf_66 ki_0 ?_
      exact w_Md_layKindOf_67 hAD C hr σ3 x1 x2 (0 : Int32) hm
    · rw [if_pos c7] at hm
      refine z_iconst (pc := 62) C d_Md_layKindOf_62 ki_1 ?_
      refine z_goto (pc := 63) (tgt := 67) C d_Md_layKindOf_63 (by decide) ?_
      exact w_Md_layKindOf_67 hAD C hr σ3 x1 x2 (1 : Int32) hm
  · rw [if_neg c2] at hm
    refine z_aload_n (pc := 10) C d_Md_layKindOf_10 rfl 0 rfl ?_
    refine z_aload_n (pc := 11) C d_Md_layKindOf_11 rfl 0 rfl ?_
    refine gM_Md_91 (pc := 12) C  d_Md_layKindOf_12 ?_
    refine z_iload_n (pc := 15) C d_Md_layKindOf_15 rfl 1 rfl ?_
    refine alM_26 (pc := 16) (v := (ga σ 26 x1.toNatClampNeg)) C  rfl g1 d_Md_layKindOf_16 ?_
    refine z_if_ne (pc := 17) (tgt := 36) C d_Md_layKindOf_17 (by decide) (fun c8 => ?_) (fun c8 => ?_)
    · rw [if_neg c8] at hm
      refine z_lv (lv' := [(2, .int x2)]) [2] rfl ?_
      exact w_Md_layKindOf_36 hAD C hr σ x2 hm
    · rw [if_pos c8] at hm
      refine z_aload_n (pc := 20) C d_Md_layKindOf_20 rfl 0 rfl ?_
      refine gM_Md_506 (pc := 21) (v := (gi σ 85)) C rfl d_Md_layKindOf_21 ?_
      refine z_if_eq (pc := 24) (tgt := 36) C d_Md_layKindOf_24 (by decide) (fun c9 => ?_) (fun c9 => ?_)
      · rw [if_pos c9] at hm
        refine z_lv (lv' := [(2, .int x2)]) [2] rfl ?_
        exact w_Md_layKindOf_36 hAD C hr σ x2 hm
      · rw [if_neg c9] at hm
        refine z_aload_n (pc := 27) C d_Md_layKindOf_27 rfl 0 rfl ?_
        refine gM_Md_184 (pc := 28) C  d_Md_layKindOf_28 ?_
        refine z_iload_n (pc := 31) C d_Md_layKindOf_31 rfl 1 rfl ?_
        refine alM_57 (pc := 32) (v := (ga σ 57 x1.toNatClampNeg)) C  rfl g1 d_Md_layKindOf_32 ?_
        refine z_goto (pc := 33) (tgt := 38) C d_Md_layKindOf_33 (by decide) ?_
        refine z_lv (lv' := [(2, .int x2)]) [2] rfl ?_
        exact w_Md_layKindOf_38 hAD C hr σ x2 (ga σ 57 x1.toNatClampNeg) hm
set_option maxHeartbeats 4000000 in
set_option maxRecDepth 100000 in
theorem w_Md_layKindOut_87 {D : va_G} {ad : Nat → Nat} {cA : Nat → ClassId} {p : Program} {l : Launch} {e : Env} {s : State} {m : MethodId} {args : Array Value} {below : List Frame} {meth : Method} {c : Code} {F : Nat} (hAD : ∀ σ, va_D (owM ad) (wdM ad cA σ)) (C : CM D ad cA xTr p s m args meth c bc_Md_layKindOut "KindRoundsModel" 4) (hr : meth.sig.returnType = none) {σ' : zS} (σ : zS) (hm : Md_layKindOut_87 F σ = some σ') : ZM D ad cA p l e (rmK 2) s m args below meth c 4 (qvM D ad cA below args s σ') 87 [] [] σ := by
  unfold Md_layKindOut_87 at hm
  exact z_vretE (pc := 87) C hr hm d_Md_layKindOut_87
set_option maxHeartbeats 4000000 in
set_option maxRecDepth 100000 in
theorem w_Md_layKindOut_84 {D : va_G} {ad : Nat → Nat} {cA : Nat → ClassId} {p : Program} {l : Launch} {e : Env} {s : State} {m : MethodId} {args : Array Value} {below : List Frame} {meth : Method} {c : Code} {F : Nat} (hAD : ∀ σ, va_D (owM ad) (wdM ad cA σ)) (C : CM D ad cA xTr p s m args meth c bc_Md_layKindOut "KindRoundsModel" 4) (hr : meth.sig.returnType = none) {σ' : zS} (rc14 : zS → Int32 → Option zS) (h14 : ∀ σ x2, rc14 σ x2 = some σ' → ZM D ad cA p l e (rmK 2) s m args below meth c 4 (qvM D ad cA below args s σ') 14 [(0, .ref (ad 0)), (2, .int x2)] [] σ) (σ : zS) (x2 : Int32) (hm : Md_layKindOut_84 F rc14 σ x2 = some σ') : ZM D ad cA p l e (rmK 2) s m args below meth c 4 (qvM D ad cA below args s σ') 84 [(0, .ref (ad 0)), (2, .int x2)] [] σ := by
  unfold Md_layKindOut_84 at hm
  refine z_goto (pc := 84) (tgt := 14) C d_Md_layKindOut_84 (by decide) ?_
  exact h14 σ x2 hm
set_option maxHeartbeats 4000000 in
set_option maxRecDepth 100000 in
theorem w_Md_layKindOut_14 {D : va_G} {ad : Nat → Nat} {cA : Nat → ClassId} {p : Program} {l : Launch} {e : Env} {s : State} {m : MethodId} {args : Array Value} {below : List Frame} {meth : Method} {c : Code} {F : Nat} (hAD : ∀ σ, va_D (owM ad) (wdM ad cA σ)) (C : CM D ad cA xTr p s m args meth c bc_Md_layKindOut "KindRoundsModel" 4) (hr : meth.sig.returnType = none) {σ' : zS} : ∀ (n : Nat) (σ : zS) (x2 : Int32), Md_layKindOut_14 F n σ x2 = some σ' → ZM D ad cA p l e (rmK 2) s m args below meth c 4 (qvM D ad cA below args s σ') 14 [(0, .ref (ad 0)), (2, .int x2)] [] σ := by
  intro n
  induction n with
  | zero => intro σ x2 hm; cases hm
  | succ n h14 =>
    intro σ x2 hm
    have hm : Md_layKindOut_b14 F (Md_layKindOut_14 F n) σ x2 = some σ' := hm
    unfold Md_layKindOut_b14 at hm
    refine z_iload_n (pc := 14) C d_Md_layKindOut_14 rfl 1 rfl ?_
    refine z_if_le (pc := 15) (tgt := 87) C d_Md_layKindOut_15 (by decide) (fun c1 => ?_) (fun c1 => ?_)
    · rw [if_pos c1] at hm
      refine z_lv (lv' := []) [] rfl ?_
      exact w_Md_layKindOut_87 hAD C hr σ hm
    · rw [if_neg c1] at hm
      refine z_aload_n (pc := 18) C d_Md_layKindOut_18 rfl 0 rfl ?_
      refine gM_Md_491 (pc := 19) (v := (gi σ 82)) C rfl d_Md_layKindOut_19 ?_
      refine z_sipush (pc := 22) C d_Md_layKindOut_22 ks_2000 ?_
      refine z_icmp_gt (pc := 25) (tgt := 87) C d_Md_layKindOut_25 (by decide) (fun c2 => ?_) (fun c2 => ?_)
      · rw [if_pos c2] at hm
        refine z_lv (lv' := []) [] rfl ?_
        exact w_Md_layKindOut_87 hAD C hr σ hm
      · rw [if_neg c2] at hm
        refine z_iinc (pc := 28) (lv' := [(0, .ref (ad 0)), (2, .int (x2 + (-1 : Int32)))]) C d_Md_layKindOut_28 1 rfl (ii ki_m1) (Nat.le_of_ble_eq_true rfl) [1, 0] rfl ?_
        refine z_aload_n (pc := 31) C d_Md_layKindOut_31 rfl 0 rfl ?_
        refine gM_Md_172 (pc := 32) C  d_Md_layKindOut_32 ?_
        refine z_iload_n (pc := 35) C d_Md_layKindOut_35 rfl 1 rfl ?_
        obtain ⟨g3, hm⟩ := gd_s hm
        refine alM_53 (pc := 36) (v := (ga σ 53 (x2 + (-1 : Int32)).toNatClampNeg)) C  rfl g3 d_Md_layKindOut_36 ?_
        refine z_istore_n (pc := 37) (lv' := [(0, .ref (ad 0)), (2, .int (x2 + (-1 : Int32))), (3, .int (ga σ 53 (x2 + (-1 : Int32)).toNatClampNeg))]) C d_Md_layKindOut_37 rfl (Nat.le_of_ble_eq_true rfl) [1, 2, 0] rfl ?_
        refine z_iload_n (pc := 38) C d_Md_layKindOut_38 rfl 2 rfl ?_
        refine z_iconst (pc := 39) C d_Md_layKindOut_39 ki_m1 ?_
        refine z_icmp_ne (pc := 40) (tgt := 52) C d_Md_layKindOut_40 (by decide) (fun c4 => ?_) (fun c4 => ?_)
        · rw [if_neg c4] at hm
          refine z_iload_n (pc := 52) C d_Md_layKindOut_52 rfl 2 rfl ?_
          refine z_bipush (pc := 53) C d_Md_layKindOut_53 kb_m2 ?_
          refine z_icmp_ne (pc := 55) (tgt := 73) C d_Md_layKindOut_55 (by decide) (fun c5 => ?_) (fun c5 => ?_)
          · rw [if_neg c5] at hm
            refine z_aload_n (pc := 73) C d_Md_layKindOut_73 rfl 0 rfl ?_
            refine z_aload_n (pc := 74) C d_Md_layKindOut_74 rfl 0 rfl ?_
            refine z_iload_n (pc := 75) C d_Md_layKindOut_75 rfl 2 rfl ?_
            obtain ⟨r7, σ6, e8, hm⟩ := bi_s hm
            refine z_callI (pc := 76) C (k_Md_top hAD e8) kz_Md_top mM_140 rfl rfl oM_0 rfl (kR_of (Nat.le_of_ble_eq_true rfl) (Nat.le_of_ble_eq_true rfl)) rfl (Nat.le_of_ble_eq_true rfl) d_Md_layKindOut_76 ?_
            refine z_iload_n (pc := 79) C d_Md_layKindOut_79 rfl 1 rfl ?_
            obtain ⟨r10, σ9, e11, hm⟩ := bi_s hm
            refine z_callI (pc := 80) C (k_Md_layKindOf hAD e11) kz_Md_layKindOf mM_150 rfl rfl oM_0 rfl (kR_of (Nat.le_of_ble_eq_true rfl) (Nat.le_of_ble_eq_true rfl)) rfl (Nat.le_of_ble_eq_true rfl) d_Md_layKindOut_80 ?_
            refine z_istore_n (pc := 83) (lv' := [(0, .ref (ad 0)), (2, .int r10), (3, .int (ga σ 53 (x2 + (-1 : Int32)).toNatClampNeg))]) C d_Md_layKindOut_83 rfl (Nat.le_of_ble_eq_true rfl) [1, 0, 2] rfl ?_
            refine z_lv (lv' := [(0, .ref (ad 0)), (2, .int r10)]) [0, 1] rfl ?_
            exact w_Md_layKindOut_84 hAD C hr _ h14 σ9 r10 hm
          · rw [if_pos c5] at hm
            refine z_aload_n (pc := 58) C d_Md_layKindOut_58 rfl 0 rfl ?_
            refine z_bipush (pc := 59) C d_Md_layKindOut_59 kb_45 ?_
            obtain ⟨σ12, e13, hm⟩ := bv_s hm
            refine z_callV (pc := 61) C (k_Md_put hAD e13) kz_Md_put mM_151 rfl rfl oM_0 rfl (kR_of (Nat.le_of_ble_eq_true rfl) (Nat.le_of_ble_eq_true rfl)) rfl (Nat.le_of_ble_eq_true rfl) d_Md_layKindOut_61 ?_
            refine z_aload_n (pc := 64) C d_Md_layKindOut_64 rfl 0 rfl ?_
            refine z_bipush (pc := 65) C d_Md_layKindOut_65 kb_62 ?_
            obtain ⟨σ14, e15, hm⟩ := bv_s hm
            refine z_callV (pc := 67) C (k_Md_put hAD e15) kz_Md_put mM_151 rfl rfl oM_0 rfl (kR_of (Nat.le_of_ble_eq_true rfl) (Nat.le_of_ble_eq_true rfl)) rfl (Nat.le_of_ble_eq_true rfl) d_Md_layKindOut_67 ?_
            refine z_goto (pc := 70) (tgt := 84) C d_Md_layKindOut_70 (by decide) ?_
            refine z_lv (lv' := [(0, .ref (ad 0)), (2, .int (x2 + (-1 : Int32)))]) [0, 1] rfl ?_
            exact w_Md_layKindOut_84 hAD C hr _ h14 σ14 (x2 + (-1 : Int32)) hm
        · rw [if_pos c4] at hm
          refine z_aload_n (pc := 43) C d_Md_layKindOut_43 rfl 0 rfl ?_
          refine z_bipush (pc := 44) C d_Md_layKindOut_44 kb_41 ?_
          obtain ⟨σ16, e17, hm⟩ := bv_s hm
          refine z_callV (pc := 46) C (k_Md_put hAD e17) kz_Md_put mM_151 rfl rfl oM_0 rfl (kR_of (Nat.le_of_ble_eq_true rfl) (Nat.le_of_ble_eq_true rfl)) rfl (Nat.le_of_ble_eq_true rfl) d_Md_layKindOut_46 ?_
          refine z_goto (pc := 49) (tgt := 84) C d_Md_layKindOut_49 (by decide) ?_
          refine z_lv (lv' := [(0, .ref (ad 0)), (2, .int (x2 + (-1 : Int32)))]) [0, 1] rfl ?_
          exact w_Md_layKindOut_84 hAD C hr _ h14 σ16 (x2 + (-1 : Int32)) hm
set_option maxHeartbeats 4000000 in
set_option maxRecDepth 100000 in
theorem k_Md_layKindOut {l : Launch} {D : va_G} {ad : Nat → Nat} {cA : Nat → ClassId} {F : Nat} (hAD : ∀ σ, va_D (owM ad) (wdM ad cA σ)) {σ : zS} {x1 : Int32} {σ' : zS} (hm : Md_layKindOut F σ x1 = some σ') : kVM l D ad cA xTr y_Md_layKindOut bc_Md_layKindOut 4 2 [.ref (ad 0), .int x1] σ σ' := by
  refine kV_of (by decide) hAD xTr_P (Nat.le_of_ble_eq_true rfl) ?_
  intro p e s m below meth c C hr
  unfold Md_layKindOut at hm
  refine z_lv (lv' := [(0, .ref (ad 0)), (1, .int x1)]) [0, 1] rfl ?_
  refine z_aload_n (pc := 0) C d_Md_layKindOut_0 rfl 0 rfl ?_
  refine z_iconst (pc := 1) C d_Md_layKindOut_1 ki_0 ?_
  refine pM_Md_491 (pc := 2) C  d_Md_layKindOut_2 ?_
  refine z_iconst (pc := 5) C d_Md_layKindOut_5 ki_1 ?_
  refine z_istore_n (pc := 6) (lv' := [(0, .ref (ad 0)), (1, .int x1), (2, .int (1 : Int32))]) C d_Md_layKindOut_6 rfl (Nat.le_of_ble_eq_true rfl) [1, 2, 0] rfl ?_
  refine z_aload_n (pc := 7) C d_Md_layKindOut_7 rfl 0 rfl ?_
  refine gM_Md_172 (pc := 8) C  d_Md_layKindOut_8 ?_
  refine z_iconst (pc := 11) C d_Md_layKindOut_11 ki_0 ?_
  refine z_iload_n (pc := 12) C d_Md_layKindOut_12 rfl 1 rfl ?_
  obtain ⟨g1, hm⟩ := gd_s hm
  refine asM_53 (pc := 13) C  g1 d_Md_layKindOut_13 ?_
  refine z_lv (lv' := [(0, .ref (ad 0)), (2, .int (1 : Int32))]) [0, 2] rfl ?_
  exact w_Md_layKindOut_14 hAD C hr F (sa (si σ 82 (0 : Int32)) 53 (0 : Int32).toNatClampNeg x1) (1 : Int32) hm
set_option maxHeartbeats 4000000 in
set_option maxRecDepth 100000 in
theorem w_Md_showKind_24 {D : va_G} {ad : Nat → Nat} {cA : Nat → ClassId} {p : Program} {l : Launch} {e : Env} {s : State} {m : MethodId} {args : Array Value} {below : List Frame} {meth : Method} {c : Code} {F : Nat} (hAD : ∀ σ, va_D (owM ad) (wdM ad cA σ)) (C : CM D ad cA xTr p s m args meth c bc_Md_showKind "KindRoundsModel" 2) (hr : meth.sig.returnType = some .int) {r : Int32} {σ' : zS} (σ : zS) (s0 : Int32) (hm : Md_showKind_24 F σ s0 = some (r, σ')) : ZM D ad cA p l e (rmK 3) s m args below meth c 2 (qiM D ad cA below args s r σ') 24 [] [.int s0] σ := by
  unfold Md_showKind_24 at hm
  exact z_iretE (pc := 24) C hr hm d_Md_showKind_24
set_option maxHeartbeats 4000000 in
set_option maxRecDepth 100000 in
theorem k_Md_showKind {l : Launch} {D : va_G} {ad : Nat → Nat} {cA : Nat → ClassId} {F : Nat} (hAD : ∀ σ, va_D (owM ad) (wdM ad cA σ)) {σ : zS} {x1 : Int32} {r : Int32} {σ' : zS} (hm : Md_showKind F σ x1 = some (r, σ')) : kIM l D ad cA xTr y_Md_showKind bc_Md_showKind 2 .int 3 [.ref (ad 0), .int x1] σ r σ' := by
  refine kI_of (by decide) hAD xTr_P (Nat.le_of_ble_eq_true rfl) ?_
  intro p e s m below meth c C hr
  unfold Md_showKind at hm
  refine z_lv (lv' := [(0, .ref (ad 0)), (1, .int x1)]) [0, 1] rfl ?_
  refine z_aload_n (pc := 0) C d_Md_showKind_0 rfl 0 rfl ?_
  refine z_iload_n (pc := 1) C d_Md_showKind_1 rfl 1 rfl ?_
  obtain ⟨σ1, e2, hm⟩ := bv_s hm
  refine z_callV (pc := 2) C (k_Md_layKindOut hAD e2) kz_Md_layKindOut mM_153 rfl rfl oM_0 rfl (kR_of (Nat.le_of_ble_eq_true rfl) (Nat.le_of_ble_eq_true rfl)) rfl (Nat.le_of_ble_eq_true rfl) d_Md_showKind_2 ?_
  refine z_aload_n (pc := 5) C d_Md_showKind_5 rfl 0 rfl ?_
  refine gM_Md_491 (pc := 6) (v := (gi σ1 82)) C rfl d_Md_showKind_6 ?_
  refine z_sipush (pc := 9) C d_Md_showKind_9 ks_2000 ?_
  refine z_icmp_le (pc := 12) (tgt := 20) C d_Md_showKind_12 (by decide) (fun c3 => ?_) (fun c3 => ?_)
  · rw [if_pos c3] at hm
    refine z_aload_n (pc := 20) C d_Md_showKind_20 rfl 0 rfl ?_
    obtain ⟨r5, σ4, e6, hm⟩ := bi_s hm
    refine z_callI (pc := 21) C (k_Md_commit hAD e6) kz_Md_commit mM_154 rfl rfl oM_0 rfl (kR_of (Nat.le_of_ble_eq_true rfl) (Nat.le_of_ble_eq_true rfl)) rfl (Nat.le_of_ble_eq_true rfl) d_Md_showKind_21 ?_
    refine z_lv (lv' := []) [] rfl ?_
    exact w_Md_showKind_24 hAD C hr σ4 r5 hm
  · rw [if_neg c3] at hm
    refine z_bipush (pc := 15) C d_Md_showKind_15 kb_m4 ?_
    refine z_goto (pc := 17) (tgt := 24) C d_Md_showKind_17 (by decide) ?_
    refine z_lv (lv' := []) [] rfl ?_
    exact w_Md_showKind_24 hAD C hr σ1 (-4 : Int32) hm
