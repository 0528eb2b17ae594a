/-! Walks of KindRoundsModel, 2 of 4. Written by program (wip/gen). -/
set_option maxHeartbeats 4000000 in
set_option maxRecDepth 100000 in
theorem k_Md_readOne {l : Launch} {D : va_G} {ad : Nat → Nat} {cA : Nat → ClassId} {F : Nat} (hAD : ∀ σ, va_D (owM ad) (wdM ad cA σ)) {σ : zS} {r : Int32} {σ' : zS} (hm : Md_readOne F σ = some (r, σ')) : kIM l D ad cA xTr y_Md_readOne bc_Md_readOne 1 .int 7 [.ref (ad 0)] σ r σ' := by
  refine kI_of (by decide) hAD xTr_P (Nat.le_of_ble_eq_true rfl) ?_
  intro p e s m below meth c C hr
  unfold Md_readOne at hm
  refine z_lv (lv' := [(0, .ref (ad 0))]) [0] rfl ?_
  refine z_aload_n (pc := 0) C d_Md_readOne_0 rfl 0 rfl ?_
  refine z_iconst (pc := 1) C d_Md_readOne_1 ki_3 ?_
  obtain ⟨r2, σ1, e3, hm⟩ := bi_s hm
  refine z_callI (pc := 2) C (k_Md_readOpen hAD e3) kz_Md_readOpen mM_61 rfl rfl oM_0 rfl (kR_of (Nat.le_of_ble_eq_true rfl) (Nat.le_of_ble_eq_true rfl)) rfl (Nat.le_of_ble_eq_true rfl) d_Md_readOne_2 ?_
  exact z_iretE (pc := 5) C hr hm d_Md_readOne_5
set_option maxHeartbeats 4000000 in
set_option maxRecDepth 100000 in
theorem k_Md_readType {l : Launch} {D : va_G} {ad : Nat → Nat} {cA : Nat → ClassId} {F : Nat} (hAD : ∀ σ, va_D (owM ad) (wdM ad cA σ)) {σ : zS} {r : Int32} {σ' : zS} (hm : Md_readType F σ = some (r, σ')) : kIM l D ad cA xTr y_Md_readType bc_Md_readType 1 .int 7 [.ref (ad 0)] σ r σ' := by
  refine kI_of (by decide) hAD xTr_P (Nat.le_of_ble_eq_true rfl) ?_
  intro p e s m below meth c C hr
  unfold Md_readType at hm
  refine z_lv (lv' := [(0, .ref (ad 0))]) [0] rfl ?_
  refine z_aload_n (pc := 0) C d_Md_readType_0 rfl 0 rfl ?_
  refine z_iconst (pc := 1) C d_Md_readType_1 ki_0 ?_
  obtain ⟨r2, σ1, e3, hm⟩ := bi_s hm
  refine z_callI (pc := 2) C (k_Md_readOpen hAD e3) kz_Md_readOpen mM_61 rfl rfl oM_0 rfl (kR_of (Nat.le_of_ble_eq_true rfl) (Nat.le_of_ble_eq_true rfl)) rfl (Nat.le_of_ble_eq_true rfl) d_Md_readType_2 ?_
  exact z_iretE (pc := 5) C hr hm d_Md_readType_5
set_option maxHeartbeats 4000000 in
set_option maxRecDepth 100000 in
theorem k_Md_newKind {l : Launch} {D : va_G} {ad : Nat → Nat} {cA : Nat → ClassId} {F : Nat} (hAD : ∀ σ, va_D (owM ad) (wdM ad cA σ)) {σ : zS} {x1 : Int32} {x2 : Int32} {x3 : Int32} {r : Int32} {σ' : zS} (hm : Md_newKind F σ x1 x2 x3 = some (r, σ')) : kIM l D ad cA xTr y_Md_newKind bc_Md_newKind 4 .int 0 [.ref (ad 0), .int x1, .int x2, .int x3] σ r σ' := by
  refine kI_of (by decide) hAD xTr_P (Nat.le_of_ble_eq_true rfl) ?_
  intro p e s m below meth c C hr
  unfold Md_newKind at hm
  refine z_lv (lv' := [(0, .ref (ad 0)), (1, .int x1), (2, .int x2), (3, .int x3)]) [0, 1, 2, 3] rfl ?_
  refine z_aload_n (pc := 0) C d_Md_newKind_0 rfl 0 rfl ?_
  refine gM_Md_91 (pc := 1) C  d_Md_newKind_1 ?_
  refine z_aload_n (pc := 4) C d_Md_newKind_4 rfl 0 rfl ?_
  refine gM_Md_209 (pc := 5) (v := (gi σ 48)) C rfl d_Md_newKind_5 ?_
  refine z_iload_n (pc := 8) C d_Md_newKind_8 rfl 1 rfl ?_
  obtain ⟨g1, hm⟩ := gd_s hm
  refine asM_26 (pc := 9) C  g1 d_Md_newKind_9 ?_
  refine z_aload_n (pc := 10) C d_Md_newKind_10 rfl 0 rfl ?_
  refine gM_Md_94 (pc := 11) C  d_Md_newKind_11 ?_
  refine z_aload_n (pc := 14) C d_Md_newKind_14 rfl 0 rfl ?_
  refine gM_Md_209 (pc := 15) (v := (gi σ 48)) C rfl d_Md_newKind_15 ?_
  refine z_iload_n (pc := 18) C d_Md_newKind_18 rfl 2 rfl ?_
  refine asM_27 (pc := 19) C  g1 d_Md_newKind_19 ?_
  refine z_aload_n (pc := 20) C d_Md_newKind_20 rfl 0 rfl ?_
  refine gM_Md_97 (pc := 21) C  d_Md_newKind_21 ?_
  refine z_aload_n (pc := 24) C d_Md_newKind_24 rfl 0 rfl ?_
  refine gM_Md_209 (pc := 25) (v := (gi σ 48)) C rfl d_Md_newKind_25 ?_
  refine z_iload_n (pc := 28) C d_Md_newKind_28 rfl 3 rfl ?_
  refine asM_28 (pc := 29) C  g1 d_Md_newKind_29 ?_
  refine z_aload_n (pc := 30) C d_Md_newKind_30 rfl 0 rfl ?_
  refine gM_Md_100 (pc := 31) C  d_Md_newKind_31 ?_
  refine z_aload_n (pc := 34) C d_Md_newKind_34 rfl 0 rfl ?_
  refine gM_Md_209 (pc := 35) (v := (gi σ 48)) C rfl d_Md_newKind_35 ?_
  refine z_aload_n (pc := 38) C d_Md_newKind_38 rfl 0 rfl ?_
  refine gM_Md_209 (pc := 39) (v := (gi σ 48)) C rfl d_Md_newKind_39 ?_
  refine asM_29 (pc := 42) C  g1 d_Md_newKind_42 ?_
  refine z_aload_n (pc := 43) C d_Md_newKind_43 rfl 0 rfl ?_
  refine z_dup (pc := 44) C d_Md_newKind_44 rfl ?_
  refine gM_Md_209 (pc := 45) (v := (gi σ 48)) C rfl d_Md_newKind_45 ?_
  refine z_iconst (pc := 48) C d_Md_newKind_48 ki_1 ?_
  refine z_iadd (pc := 49) C d_Md_newKind_49 ?_
  refine pM_Md_209 (pc := 50) C  d_Md_newKind_50 ?_
  refine z_aload_n (pc := 53) C d_Md_newKind_53 rfl 0 rfl ?_
  refine gM_Md_209 (pc := 54) (v := ((gi σ 48) + (1 : Int32))) C rfl d_Md_newKind_54 ?_
  refine z_iconst (pc := 57) C d_Md_newKind_57 ki_1 ?_
  refine z_isub (pc := 58) C d_Md_newKind_58 ?_
  exact z_iretE (pc := 59) C hr hm d_Md_newKind_59
set_option maxHeartbeats 4000000 in
set_option maxRecDepth 100000 in
theorem w_Md_top_2 {D : va_G} {ad : Nat → Nat} {cA : Nat → ClassId} {p : Program} {l : Launch} {e : Env} {s : State} {m : MethodId} {args : Array Value} {below : List Frame} {meth : Method} {c : Code} {F : Nat} (hAD : ∀ σ, va_D (owM ad) (wdM ad cA σ)) (C : CM D ad cA xTr p s m args meth c bc_Md_top "KindRoundsModel" 3) (hr : meth.sig.returnType = some .int) {r : Int32} {σ' : zS} : ∀ (n : Nat) (σ : zS) (x2 : Int32), Md_top_2 F n σ x2 = some (r, σ') → ZM D ad cA p l e (rmK 0) s m args below meth c 3 (qiM D ad cA below args s r σ') 2 [(0, .ref (ad 0)), (2, .int x2)] [] σ := by
  intro n
  induction n with
  | zero => intro σ x2 hm; cases hm
  | succ n h2 =>
    intro σ x2 hm
    have hm : Md_top_b2 F (Md_top_2 F n) σ x2 = some (r, σ') := hm
    unfold Md_top_b2 at hm
    refine z_aload_n (pc := 2) C d_Md_top_2 rfl 0 rfl ?_
    refine gM_Md_100 (pc := 3) C  d_Md_top_3 ?_
    refine z_iload_n (pc := 6) C d_Md_top_6 rfl 1 rfl ?_
    obtain ⟨g1, hm⟩ := gd_s hm
    refine alM_29 (pc := 7) (v := (ga σ 29 x2.toNatClampNeg)) C  rfl g1 d_Md_top_7 ?_
    refine z_iload_n (pc := 8) C d_Md_top_8 rfl 1 rfl ?_
    refine z_icmp_eq (pc := 9) (tgt := 22) C d_Md_top_9 (by decide) (fun c2 => ?_) (fun c2 => ?_)
    · rw [if_pos c2] at hm
      refine z_iload_n (pc := 22) C d_Md_top_22 rfl 1 rfl ?_
      exact z_iretE (pc := 23) C hr hm d_Md_top_23
    · rw [if_neg c2] at hm
      refine z_aload_n (pc := 12) C d_Md_top_12 rfl 0 rfl ?_
      refine gM_Md_100 (pc := 13) C  d_Md_top_13 ?_
      refine z_iload_n (pc := 16) C d_Md_top_16 rfl 1 rfl ?_
      refine alM_29 (pc := 17) (v := (ga σ 29 x2.toNatClampNeg)) C  rfl g1 d_Md_top_17 ?_
      refine z_istore_n (pc := 18) (lv' := [(0, .ref (ad 0)), (2, .int (ga σ 29 x2.toNatClampNeg))]) C d_Md_top_18 rfl (Nat.le_of_ble_eq_true rfl) [1, 0] rfl ?_
      refine z_goto (pc := 19) (tgt := 2) C d_Md_top_19 (by decide) ?_
      exact h2 σ (ga σ 29 x2.toNatClampNeg) hm
set_option maxHeartbeats 4000000 in
set_option maxRecDepth 100000 in
theorem k_Md_top {l : Launch} {D : va_G} {ad : Nat → Nat} {cA : Nat → ClassId} {F : Nat} (hAD : ∀ σ, va_D (owM ad) (wdM ad cA σ)) {σ : zS} {x1 : Int32} {r : Int32} {σ' : zS} (hm : Md_top F σ x1 = some (r, σ')) : kIM l D ad cA xTr y_Md_top bc_Md_top 3 .int 0 [.ref (ad 0), .int x1] σ r σ' := by
  refine kI_of (by decide) hAD xTr_P (Nat.le_of_ble_eq_true rfl) ?_
  intro p e s m below meth c C hr
  unfold Md_top at hm
  refine z_lv (lv' := [(0, .ref (ad 0)), (1, .int x1)]) [0, 1] rfl ?_
  refine z_iload_n (pc := 0) C d_Md_top_0 rfl 1 rfl ?_
  refine z_istore_n (pc := 1) (lv' := [(0, .ref (ad 0)), (1, .int x1), (2, .int x1)]) C d_Md_top_1 rfl (Nat.le_of_ble_eq_true rfl) [1, 2, 0] rfl ?_
  refine z_lv (lv' := [(0, .ref (ad 0)), (2, .int x1)]) [0, 2] rfl ?_
  exact w_Md_top_2 hAD C hr F σ x1 hm
set_option maxHeartbeats 4000000 in
set_option maxRecDepth 100000 in
theorem w_Md_addPart_86 {D : va_G} {ad : Nat → Nat} {cA : Nat → ClassId} {p : Program} {l : Launch} {e : Env} {s : State} {m : MethodId} {args : Array Value} {below : List Frame} {meth : Method} {c : Code} {F : Nat} (hAD : ∀ σ, va_D (owM ad) (wdM ad cA σ)) (C : CM D ad cA xTr p s m args meth c bc_Md_addPart "KindRoundsModel" 4) (hr : meth.sig.returnType = none) {σ' : zS} (σ : zS) (x3 : Int32) (hm : Md_addPart_86 F σ x3 = some σ') : ZM D ad cA p l e (rmK 1) s m args below meth c 4 (qvM D ad cA below args s σ') 86 [(0, .ref (ad 0)), (3, .int x3)] [] σ := by
  unfold Md_addPart_86 at hm
  refine z_aload_n (pc := 86) C d_Md_addPart_86 rfl 0 rfl ?_
  refine gM_Md_109 (pc := 87) C  d_Md_addPart_87 ?_
  refine z_aload_n (pc := 90) C d_Md_addPart_90 rfl 0 rfl ?_
  refine gM_Md_297 (pc := 91) (v := (gi σ 42)) C rfl d_Md_addPart_91 ?_
  refine z_iload_n (pc := 94) C d_Md_addPart_94 rfl 1 rfl ?_
  obtain ⟨g1, hm⟩ := gd_s hm
  refine asM_32 (pc := 95) C  g1 d_Md_addPart_95 ?_
  exact z_vretE (pc := 96) C hr hm d_Md_addPart_96
set_option maxHeartbeats 4000000 in
set_option maxRecDepth 100000 in
theorem w_Md_addPart_57 {D : va_G} {ad : Nat → Nat} {cA : Nat → ClassId} {p : Program} {l : Launch} {e : Env} {s : State} {m : MethodId} {args : Array Value} {below : List Frame} {meth : Method} {c : Code} {F : Nat} (hAD : ∀ σ, va_D (owM ad) (wdM ad cA σ)) (C : CM D ad cA xTr p s m args meth c bc_Md_addPart "KindRoundsModel" 4) (hr : meth.sig.returnType = none) {σ' : zS} (σ : zS) (x1 : Int32) (x2 : Int32) (s1 : Int32) (s2 : Int32) (hm : Md_addPart_57 F σ x1 x2 s1 s2 = some σ') : ZM D ad cA p l e (rmK 1) s m args below meth c 4 (qvM D ad cA below args s σ') 57 [(0, .ref (ad 0)), (1, .int x1), (2, .int x2)] [.int s2, .int s1, .ref (ad 0)] σ := by
  unfold Md_addPart_57 at hm
  refine z_iload_n (pc := 57) C d_Md_addPart_57 rfl 1 rfl ?_
  obtain ⟨r2, σ1, e3, hm⟩ := bi_s hm
  refine z_callI (pc := 58) C (k_Md_newKind hAD e3) kz_Md_newKind mM_73 rfl rfl oM_0 rfl (kR_of (Nat.le_of_ble_eq_true rfl) (Nat.le_of_ble_eq_true rfl)) rfl (Nat.le_of_ble_eq_true rfl) d_Md_addPart_58 ?_
  refine z_istore_n (pc := 61) (lv' := [(0, .ref (ad 0)), (1, .int x1), (2, .int x2), (3, .int r2)]) C d_Md_addPart_61 rfl (Nat.le_of_ble_eq_true rfl) [1, 2, 3, 0] rfl ?_
  refine z_iload_n (pc := 62) C d_Md_addPart_62 rfl 2 rfl ?_
  refine z_if_ge (pc := 63) (tgt := 79) C d_Md_addPart_63 (by decide) (fun c4 => ?_) (fun c4 => ?_)
  · rw [if_pos c4] at hm
    refine z_aload_n (pc := 79) C d_Md_addPart_79 rfl 0 rfl ?_
    refine gM_Md_97 (pc := 80) C  d_Md_addPart_80 ?_
    refine z_iload_n (pc := 83) C d_Md_addPart_83 rfl 2 rfl ?_
    refine z_iload_n (pc := 84) C d_Md_addPart_84 rfl 3 rfl ?_
    obtain ⟨g5, hm⟩ := gd_s hm
    refine asM_28 (pc := 85) C  g5 d_Md_addPart_85 ?_
    refine z_lv (lv' := [(0, .ref (ad 0)), (3, .int r2)]) [0, 3] rfl ?_
    exact w_Md_addPart_86 hAD C hr (sa σ1 28 x2.toNatClampNeg r2) r2 hm
  · rw [if_neg c4] at hm
    refine z_aload_n (pc := 66) C d_Md_addPart_66 rfl 0 rfl ?_
    refine gM_Md_106 (pc := 67) C  d_Md_addPart_67 ?_
    refine z_aload_n (pc := 70) C d_Md_addPart_70 rfl 0 rfl ?_
    refine gM_Md_297 (pc := 71) (v := (gi σ1 42)) C rfl d_Md_addPart_71 ?_
    refine z_iload_n (pc := 74) C d_Md_addPart_74 rfl 3 rfl ?_
    obtain ⟨g6, hm⟩ := gd_s hm
    refine asM_31 (pc := 75) C  g6 d_Md_addPart_75 ?_
    refine z_goto (pc := 76) (tgt := 86) C d_Md_addPart_76 (by decide) ?_
    refine z_lv (lv' := [(0, .ref (ad 0)), (3, .int r2)]) [0, 3] rfl ?_
    exact w_Md_addPart_86 hAD C hr (sa σ1 31 (gi σ1 42).toNatClampNeg r2) r2 hm
set_option maxHeartbeats 4000000 in
set_option maxRecDepth 100000 in
theorem k_Md_addPart {l : Launch} {D : va_G} {ad : Nat → Nat} {cA : Nat → ClassId} {F : Nat} (hAD : ∀ σ, va_D (owM ad) (wdM ad cA σ)) {σ : zS} {x1 : Int32} {σ' : zS} (hm : Md_addPart F σ x1 = some σ') : kVM l D ad cA xTr y_Md_addPart bc_Md_addPart 4 1 [.ref (ad 0), .int x1] σ σ' := by
  refine kV_of (by decide) hAD xTr_P (Nat.le_of_ble_eq_true rfl) ?_
  intro p e s m below meth c C hr
  unfold Md_addPart at hm
  refine z_lv (lv' := [(0, .ref (ad 0)), (1, .int x1)]) [0, 1] rfl ?_
  refine z_aload_n (pc := 0) C d_Md_addPart_0 rfl 0 rfl ?_
  refine gM_Md_106 (pc := 1) C  d_Md_addPart_1 ?_
  refine z_aload_n (pc := 4) C d_Md_addPart_4 rfl 0 rfl ?_
  refine gM_Md_297 (pc := 5) (v := (gi σ 42)) C rfl d_Md_addPart_5 ?_
  obtain ⟨g1, hm⟩ := gd_s hm
  refine alM_31 (pc := 8) (v := (ga σ 31 (gi σ 42).toNatClampNeg)) C  rfl g1 d_Md_addPart_8 ?_
  refine z_if_ge (pc := 9) (tgt := 23) C d_Md_addPart_9 (by decide) (fun c2 => ?_) (fun c2 => ?_)
  · rw [if_pos c2] at hm
    refine z_aload_n (pc := 23) C d_Md_addPart_23 rfl 0 rfl ?_
    refine gM_Md_109 (pc := 24) C  d_Md_addPart_24 ?_
    refine z_aload_n (pc := 27) C d_Md_addPart_27 rfl 0 rfl ?_
    refine gM_Md_297 (pc := 28) (v := (gi σ 42)) C rfl d_Md_addPart_28 ?_
    refine alM_32 (pc := 31) (v := (ga σ 32 (gi σ 42).toNatClampNeg)) C  rfl g1 d_Md_addPart_31 ?_
    refine z_istore_n (pc := 32) (lv' := [(0, .ref (ad 0)), (1, .int x1), (2, .int (ga σ 32 (gi σ 42).toNatClampNeg))]) C d_Md_addPart_32 rfl (Nat.le_of_ble_eq_true rfl) [1, 2, 0] rfl ?_
    refine z_aload_n (pc := 33) C d_Md_addPart_33 rfl 0 rfl ?_
    refine z_iconst (pc := 34) C d_Md_addPart_34 ki_2 ?_
    refine z_iload_n (pc := 35) C d_Md_addPart_35 rfl 2 rfl ?_
    refine z_if_ge (pc := 36) (tgt := 51) C d_Md_addPart_36 (by decide) (fun c3 => ?_) (fun c3 => ?_)
    · rw [if_pos c3] at hm
      refine z_aload_n (pc := 51) C d_Md_addPart_51 rfl 0 rfl ?_
      refine gM_Md_97 (pc := 52) C  d_Md_addPart_52 ?_
      refine z_iload_n (pc := 55) C d_Md_addPart_55 rfl 2 rfl ?_
      obtain ⟨g4, hm⟩ := gd_s hm
      refine alM_28 (pc := 56) (v := (ga σ 28 (ga σ 32 (gi σ 42).toNatClampNeg).toNatClampNeg)) C  rfl g4 d_Md_addPart_56 ?_
      exact w_Md_addPart_57 hAD C hr σ x1 (ga σ 32 (gi σ 42).toNatClampNeg) (2 : Int32) (ga σ 28 (ga σ 32 (gi σ 42).toNatClampNeg).toNatClampNeg) hm
    · rw [if_neg c3] at hm
      refine z_aload_n (pc := 39) C d_Md_addPart_39 rfl 0 rfl ?_
      refine gM_Md_106 (pc := 40) C  d_Md_addPart_40 ?_
      refine z_aload_n (pc := 43) C d_Md_addPart_43 rfl 0 rfl ?_
      refine gM_Md_297 (pc := 44) (v := (gi σ 42)) C rfl d_Md_addPart_44 ?_
      refine alM_31 (pc := 47) (v := (ga σ 31 (gi σ 42).toNatClampNeg)) C  rfl g1 d_Md_addPart_47 ?_
      refine z_goto (pc := 48) (tgt := 57) C d_Md_addPart_48 (by decide) ?_
      exact w_Md_addPart_57 hAD C hr σ x1 (ga σ 32 (gi σ 42).toNatClampNeg) (2 : Int32) (ga σ 31 (gi σ 42).toNatClampNeg) hm
  · rw [if_neg c2] at hm
    refine z_aload_n (pc := 12) C d_Md_addPart_12 rfl 0 rfl ?_
    refine gM_Md_106 (pc := 13) C  d_Md_addPart_13 ?_
    refine z_aload_n (pc := 16) C d_Md_addPart_16 rfl 0 rfl ?_
    refine gM_Md_297 (pc := 17) (v := (gi σ 42)) C rfl d_Md_addPart_17 ?_
    refine z_iload_n (pc := 20) C d_Md_addPart_20 rfl 1 rfl ?_
    refine asM_31 (pc := 21) C  g1 d_Md_addPart_21 ?_
    exact z_vretE (pc := 22) C hr hm d_Md_addPart_22
set_option maxHeartbeats 4000000 in
set_option maxRecDepth 100000 in
theorem k_Md_openKind {l : Launch} {D : va_G} {ad : Nat → Nat} {cA : Nat → ClassId} {F : Nat} (hAD : ∀ σ, va_D (owM ad) (wdM ad cA σ)) {σ : zS} {σ' : zS} (hm : Md_openKind F σ = some σ') : kVM l D ad cA xTr y_Md_openKind bc_Md_openKind 1 0 [.ref (ad 0)] σ σ' := by
  refine kV_of (by decide) hAD xTr_P (Nat.le_of_ble_eq_true rfl) ?_
  intro p e s m below meth c C hr
  unfold Md_openKind at hm
  refine z_lv (lv' := [(0, .ref (ad 0))]) [0] rfl ?_
  refine z_aload_n (pc := 0) C d_Md_openKind_0 rfl 0 rfl ?_
  refine z_dup (pc := 1) C d_Md_openKind_1 rfl ?_
  refine gM_Md_297 (pc := 2) (v := (gi σ 42)) C rfl d_Md_openKind_2 ?_
  refine z_iconst (pc := 5) C d_Md_openKind_5 ki_1 ?_
  refine z_iadd (pc := 6) C d_Md_openKind_6 ?_
  refine pM_Md_297 (pc := 7) C  d_Md_openKind_7 ?_
  refine z_aload_n (pc := 10) C d_Md_openKind_10 rfl 0 rfl ?_
  refine gM_Md_106 (pc := 11) C  d_Md_openKind_11 ?_
  refine z_aload_n (pc := 14) C d_Md_openKind_14 rfl 0 rfl ?_
  refine gM_Md_297 (pc := 15) (v := ((gi σ 42) + (1 : Int32))) C rfl d_Md_openKind_15 ?_
  refine z_iconst (pc := 18) C d_Md_openKind_18 ki_m1 ?_
  obtain ⟨g1, hm⟩ := gd_s hm
  refine asM_31 (pc := 19) C  g1 d_Md_openKind_19 ?_
  refine z_aload_n (pc := 20) C d_Md_openKind_20 rfl 0 rfl ?_
  refine gM_Md_109 (pc := 21) C  d_Md_openKind_21 ?_
  refine z_aload_n (pc := 24) C d_Md_openKind_24 rfl 0 rfl ?_
  refine gM_Md_297 (pc := 25) (v := ((gi σ 42) + (1 : Int32))) C rfl d_Md_openKind_25 ?_
  refine z_iconst (pc := 28) C d_Md_openKind_28 ki_m1 ?_
  refine asM_32 (pc := 29) C  g1 d_Md_openKind_29 ?_
  exact z_vretE (pc := 30) C hr hm d_Md_openKind_30
set_option maxHeartbeats 4000000 in
set_option maxRecDepth 100000 in
theorem w_Md_readKind_76 {D : va_G} {ad : Nat → Nat} {cA : Nat → ClassId} {p : Program} {l : Launch} {e : Env} {s : State} {m : MethodId} {args : Array Value} {below : List Frame} {meth : Method} {c : Code} {F : Nat} (hAD : ∀ σ, va_D (owM ad) (wdM ad cA σ)) (C : CM D ad cA xTr p s m args meth c bc_Md_readKind "KindRoundsModel" 2) (hr : meth.sig.returnType = some .int) {r : Int32} {σ' : zS} (rc11 : zS → Int32 → Option (Int32 × zS)) (h11 : ∀ σ x1, rc11 σ x1 = some (r, σ') → ZM D ad cA p l e (rmK 5) s m args below meth c 2 (qiM D ad cA below args s r σ') 11 [(0, .ref (ad 0)), (1, .int x1)] [] σ) (σ : zS) (x1 : Int32) (hm : Md_readKind_76 F rc11 σ x1 = some (r, σ')) : ZM D ad cA p l e (rmK 5) s m args below meth c 2 (qiM D ad cA below args s r σ') 76 [(0, .ref (ad 0)), (1, .int x1)] [] σ := by
  unfold Md_readKind_76 at hm
  refine z_iload_n (pc := 76) C d_Md_readKind_76 rfl 1 rfl ?_
  refine z_if_eq (pc := 77) (tgt := 87) C d_Md_readKind_77 (by decide) (fun c1 => ?_) (fun c1 => ?_)
  · rw [if_pos c1] at hm
    refine z_aload_n (pc := 87) C d_Md_readKind_87 rfl 0 rfl ?_
    refine z_sipush (pc := 88) C d_Md_readKind_88 ks_1000 ?_
    obtain ⟨r3, σ2, e4, hm⟩ := bi_s hm
    refine z_callI (pc := 91) C (k_Md_isSign hAD e4) kz_Md_isSign mM_19 rfl rfl oM_0 rfl (kR_of (Nat.le_of_ble_eq_true rfl) (Nat.le_of_ble_eq_true rfl)) rfl (Nat.le_of_ble_eq_true rfl) d_Md_readKind_91 ?_
    refine z_if_eq (pc := 94) (tgt := 106) C d_Md_readKind_94 (by decide) (fun c5 => ?_) (fun c5 => ?_)
    · rw [if_pos c5] at hm
      refine z_aload_n (pc := 106) C d_Md_readKind_106 rfl 0 rfl ?_
      refine gM_Md_297 (pc := 107) (v := (gi σ2 42)) C rfl d_Md_readKind_107 ?_
      refine z_if_ne (pc := 110) (tgt := 120) C d_Md_readKind_110 (by decide) (fun c6 => ?_) (fun c6 => ?_)
      · rw [if_neg c6] at hm
        refine z_aload_n (pc := 120) C d_Md_readKind_120 rfl 0 rfl ?_
        refine z_bipush (pc := 121) C d_Md_readKind_121 kb_41 ?_
        obtain ⟨σ7, e8, hm⟩ := bv_s hm
        refine z_callV (pc := 123) C (k_Md_want hAD e8) kz_Md_want mM_60 rfl rfl oM_0 rfl (kR_of (Nat.le_of_ble_eq_true rfl) (Nat.le_of_ble_eq_true rfl)) rfl (Nat.le_of_ble_eq_true rfl) d_Md_readKind_123 ?_
        refine z_aload_n (pc := 126) C d_Md_readKind_126 rfl 0 rfl ?_
        refine z_dup (pc := 127) C d_Md_readKind_127 rfl ?_
        refine gM_Md_294 (pc := 128) (v := (gi σ7 18)) C rfl d_Md_readKind_128 ?_
        refine z_iconst (pc := 131) C d_Md_readKind_131 ki_1 ?_
        refine z_isub (pc := 132) C d_Md_readKind_132 ?_
        refine pM_Md_294 (pc := 133) C  d_Md_readKind_133 ?_
        refine z_aload_n (pc := 136) C d_Md_readKind_136 rfl 0 rfl ?_
        refine z_dup (pc := 137) C d_Md_readKind_137 rfl ?_
        refine gM_Md_297 (pc := 138) (v := (gi σ7 42)) C rfl d_Md_readKind_138 ?_
        refine z_iconst (pc := 141) C d_Md_readKind_141 ki_1 ?_
        refine z_isub (pc := 142) C d_Md_readKind_142 ?_
        refine pM_Md_297 (pc := 143) C  d_Md_readKind_143 ?_
        refine z_aload_n (pc := 146) C d_Md_readKind_146 rfl 0 rfl ?_
        refine z_aload_n (pc := 147) C d_Md_readKind_147 rfl 0 rfl ?_
        refine gM_Md_106 (pc := 148) C  d_Md_readKind_148 ?_
        refine z_aload_n (pc := 151) C d_Md_readKind_151 rfl 0 rfl ?_
        refine gM_Md_297 (pc := 152) (v := ((gi σ7 42) - (1 : Int32))) C rfl d_Md_readKind_152 ?_
        refine z_iconst (pc := 155) C d_Md_readKind_155 ki_1 ?_
        refine z_iadd (pc := 156) C d_Md_readKind_156 ?_
        obtain ⟨g9, hm⟩ := gd_s hm
        refine alM_31 (pc := 157) (v := (ga σ7 31 (((gi σ7 42) - (1 : Int32)) + (1 : Int32)).toNatClampNeg)) C  rfl g9 d_Md_readKind_157 ?_
        obtain ⟨σ10, e11, hm⟩ := bv_s hm
        refine z_callV (pc := 158) C (k_Md_addPart hAD e11) kz_Md_addPart mM_75 rfl rfl oM_0 rfl (kR_of (Nat.le_of_ble_eq_true rfl) (Nat.le_of_ble_eq_true rfl)) rfl (Nat.le_of_ble_eq_true rfl) d_Md_readKind_158 ?_
        refine z_goto (pc := 161) (tgt := 11) C d_Md_readKind_161 (by decide) ?_
        exact h11 σ10 x1 hm
      · rw [if_pos c6] at hm
        refine z_aload_n (pc := 113) C d_Md_readKind_113 rfl 0 rfl ?_
        refine gM_Md_106 (pc := 114) C  d_Md_readKind_114 ?_
        refine z_iconst (pc := 117) C d_Md_readKind_117 ki_0 ?_
        obtain ⟨g12, hm⟩ := gd_s hm
        refine alM_31 (pc := 118) (v := (ga σ2 31 (0 : Int32).toNatClampNeg)) C  rfl g12 d_Md_readKind_118 ?_
        exact z_iretE (pc := 119) C hr hm d_Md_readKind_119
    · rw [if_neg c5] at hm
      refine z_aload_n (pc := 97) C d_Md_readKind_97 rfl 0 rfl ?_
      obtain ⟨σ13, e14, hm⟩ := bv_s hm
      refine z_callV (pc := 98) C (k_Md_next hAD e14) kz_Md_next mM_21 rfl rfl oM_0 rfl (kR_of (Nat.le_of_ble_eq_true rfl) (Nat.le_of_ble_eq_true rfl)) rfl (Nat.le_of_ble_eq_true rfl) d_Md_readKind_98 ?_
      refine z_iconst (pc := 101) C d_Md_readKind_101 ki_1 ?_
      refine z_istore_n (pc := 102) (lv' := [(0, .ref (ad 0)), (1, .int (1 : Int32))]) C d_Md_readKind_102 rfl (Nat.le_of_ble_eq_true rfl) [1, 0] rfl ?_
      refine z_goto (pc := 103) (tgt := 11) C d_Md_readKind_103 (by decide) ?_
      exact h11 σ13 (1 : Int32) hm
  · rw [if_neg c1] at hm
    refine z_aload_n (pc := 80) C d_Md_readKind_80 rfl 0 rfl ?_
    obtain ⟨σ15, e16, hm⟩ := bv_s hm
    refine z_callV (pc := 81) C (k_Md_cannot hAD e16) kz_Md_cannot mM_20 rfl rfl oM_0 rfl (kR_of (Nat.le_of_ble_eq_true rfl) (Nat.le_of_ble_eq_true rfl)) rfl (Nat.le_of_ble_eq_true rfl) d_Md_readKind_81 ?_
    refine z_goto (pc := 84) (tgt := 11) C d_Md_readKind_84 (by decide) ?_
    exact h11 σ15 x1 hm
set_option maxHeartbeats 4000000 in
set_option maxRecDepth 100000 in
theorem w_Md_readKind_48 {D : va_G} {ad : Nat → Nat} {cA : Nat → ClassId} {p : Program} {l : Launch} {e : Env} {s : State} {m : MethodId} {args : Array Value} {below : List Frame} {meth : Method} {c : Code} {F : Nat} (hAD : ∀ σ, va_D (owM ad) (wdM ad cA σ)) (C : CM D ad cA xTr p s m args meth c bc_Md_readKind "KindRoundsModel" 2) (hr : meth.sig.returnType = some .int) {r : Int32} {σ' : zS} (rc11 : zS → Int32 → Option (Int32 × zS)) (h11 : ∀ σ x1, rc11 σ x1 = some (r, σ') → ZM D ad cA p l e (rmK 5) s m args below meth c 2 (qiM D ad cA below args s r σ') 11 [(0, .ref (ad 0)), (1, .int x1)] [] σ) (σ : zS) (x1 : Int32) (hm : Md_readKind_48 F rc11 σ x1 = some (r, σ')) : ZM D ad cA p l e (rmK 5) s m args below meth c 2 (qiM D ad cA below args s r σ') 48 [(0, .ref (ad 0)), (1, .int x1)] [] σ := by
  unfold Md_readKind_48 at hm
  refine z_iload_n (pc := 48) C d_Md_readKind_48 rfl 1 rfl ?_
  refine z_if_eq (pc := 49) (tgt := 76) C d_Md_readKind_49 (by decide) (fun c1 => ?_) (fun c1 => ?_)
  · rw [if_pos c1] at hm
    exact w_Md_readKind_76 hAD C hr _ h11 σ x1 hm
  · rw [if_neg c1] at hm
    refine z_aload_n (pc := 52) C d_Md_readKind_52 rfl 0 rfl ?_
    refine z_bipush (pc := 53) C d_Md_readKind_53 kb_40 ?_
    obtain ⟨r3, σ2, e4, hm⟩ := bi_s hm
    refine z_callI (pc := 55) C (k_Md_isSign hAD e4) kz_Md_isSign mM_19 rfl rfl oM_0 rfl (kR_of (Nat.le_of_ble_eq_true rfl) (Nat.le_of_ble_eq_true rfl)) rfl (Nat.le_of_ble_eq_true rfl) d_Md_readKind_55 ?_
    refine z_if_eq (pc := 58) (tgt := 76) C d_Md_readKind_58 (by decide) (fun c5 => ?_) (fun c5 => ?_)
    · rw [if_pos c5] at hm
      exact w_Md_readKind_76 hAD C hr _ h11 σ2 x1 hm
    · rw [if_neg c5] at hm
      refine z_aload_n (pc := 61) C d_Md_readKind_61 rfl 0 rfl ?_
      obtain ⟨σ6, e7, hm⟩ := bv_s hm
      refine z_callV (pc := 62) C (k_Md_deeper hAD e7) kz_Md_deeper mM_59 rfl rfl oM_0 rfl (kR_of (Nat.le_of_ble_eq_true rfl) (Nat.le_of_ble_eq_true rfl)) rfl (Nat.le_of_ble_eq_true rfl) d_Md_readKind_62 ?_
      refine z_aload_n (pc := 65) C d_Md_readKind_65 rfl 0 rfl ?_
      obtain ⟨σ8, e9, hm⟩ := bv_s hm
      refine z_callV (pc := 66) C (k_Md_next hAD e9) kz_Md_next mM_21 rfl rfl oM_0 rfl (kR_of (Nat.le_of_ble_eq_true rfl) (Nat.le_of_ble_eq_true rfl)) rfl (Nat.le_of_ble_eq_true rfl) d_Md_readKind_66 ?_
      refine z_aload_n (pc := 69) C d_Md_readKind_69 rfl 0 rfl ?_
      obtain ⟨σ10, e11, hm⟩ := bv_s hm
      refine z_callV (pc := 70) C (k_Md_openKind hAD e11) kz_Md_openKind mM_76 rfl rfl oM_0 rfl (kR_of (Nat.le_of_ble_eq_true rfl) (Nat.le_of_ble_eq_true rfl)) rfl (Nat.le_of_ble_eq_true rfl) d_Md_readKind_70 ?_
      refine z_goto (pc := 73) (tgt := 11) C d_Md_readKind_73 (by decide) ?_
      exact h11 σ10 x1 hm
set_option maxHeartbeats 4000000 in
set_option maxRecDepth 100000 in
theorem w_Md_readKind_11 {D : va_G} {ad : Nat → Nat} {cA : Nat → ClassId} {p : Program} {l : Launch} {e : Env} {s : State} {m : MethodId} {args : Array Value} {below : List Frame} {meth : Method} {c : Code} {F : Nat} (hAD : ∀ σ, va_D (owM ad) (wdM ad cA σ)) (C : CM D ad cA xTr p s m args meth c bc_Md_readKind "KindRoundsModel" 2) (hr : meth.sig.returnType = some .int) {r : Int32} {σ' : zS} : ∀ (n : Nat) (σ : zS) (x1 : Int32), Md_readKind_11 F n σ x1 = some (r, σ') → ZM D ad cA p l e (rmK 5) s m args below meth c 2 (qiM D ad cA below args s r σ') 11 [(0, .ref (ad 0)), (1, .int x1)] [] σ := by
  intro n
  induction n with
  | zero => intro σ x1 hm; cases hm
  | succ n h11 =>
    intro σ x1 hm
    have hm : Md_readKind_b11 F (Md_readKind_11 F n) σ x1 = some (r, σ') := hm
    unfold Md_readKind_b11 at hm
    refine z_aload_n (pc := 11) C d_Md_readKind_11 rfl 0 rfl ?_
    refine gM_Md_221 (pc := 12) (v := (gi σ 8)) C rfl d_Md_readKind_12 ?_
    refine z_if_ne (pc := 15) (tgt := 164) C d_Md_readKind_15 (by decide) (fun c1 => ?_) (fun c1 => ?_)
    · rw [if_neg c1] at hm
      refine z_aload_n (pc := 164) C d_Md_readKind_164 rfl 0 rfl ?_
      refine gM_Md_206 (pc := 165) (v := (gi σ 49)) C rfl d_Md_readKind_165 ?_
      exact z_iretE (pc := 168) C hr hm d_Md_readKind_168
    · rw [if_pos c1] at hm
      refine z_iload_n (pc := 18) C d_Md_readKind_18 rfl 1 rfl ?_
      refine z_if_eq (pc := 19) (tgt := 48) C d_Md_readKind_19 (by decide) (fun c2 => ?_) (fun c2 => ?_)
      · rw [if_pos c2] at hm
        exact w_Md_readKind_48 hAD C hr _ h11 σ x1 hm
      · rw [if_neg c2] at hm
        refine z_aload_n (pc := 22) C d_Md_readKind_22 rfl 0 rfl ?_
        refine z_bipush (pc := 23) C d_Md_readKind_23 kb_42 ?_
        obtain ⟨r4, σ3, e5, hm⟩ := bi_s hm
        refine z_callI (pc := 25) C (k_Md_isSign hAD e5) kz_Md_isSign mM_19 rfl rfl oM_0 rfl (kR_of (Nat.le_of_ble_eq_true rfl) (Nat.le_of_ble_eq_true rfl)) rfl (Nat.le_of_ble_eq_true rfl) d_Md_readKind_25 ?_
        refine z_if_eq (pc := 28) (tgt := 48) C d_Md_readKind_28 (by decide) (fun c6 => ?_) (fun c6 => ?_)
        · rw [if_pos c6] at hm
          exact w_Md_readKind_48 hAD C hr _ h11 σ3 x1 hm
        · rw [if_neg c6] at hm
          refine z_aload_n (pc := 31) C d_Md_readKind_31 rfl 0 rfl ?_
          refine z_aload_n (pc := 32) C d_Md_readKind_32 rfl 0 rfl ?_
          refine gM_Md_206 (pc := 33) (v := (gi σ3 49)) C rfl d_Md_readKind_33 ?_
          obtain ⟨σ7, e8, hm⟩ := bv_s hm
          refine z_callV (pc := 36) C (k_Md_addPart hAD e8) kz_Md_addPart mM_75 rfl rfl oM_0 rfl (kR_of (Nat.le_of_ble_eq_true rfl) (Nat.le_of_ble_eq_true rfl)) rfl (Nat.le_of_ble_eq_true rfl) d_Md_readKind_36 ?_
          refine z_aload_n (pc := 39) C d_Md_readKind_39 rfl 0 rfl ?_
          obtain ⟨σ9, e10, hm⟩ := bv_s hm
          refine z_callV (pc := 40) C (k_Md_next hAD e10) kz_Md_next mM_21 rfl rfl oM_0 rfl (kR_of (Nat.le_of_ble_eq_true rfl) (Nat.le_of_ble_eq_true rfl)) rfl (Nat.le_of_ble_eq_true rfl) d_Md_readKind_40 ?_
          refine z_iconst (pc := 43) C d_Md_readKind_43 ki_0 ?_
          refine z_istore_n (pc := 44) (lv' := [(0, .ref (ad 0)), (1, .int (0 : Int32))]) C d_Md_readKind_44 rfl (Nat.le_of_ble_eq_true rfl) [1, 0] rfl ?_
          refine z_goto (pc := 45) (tgt := 11) C d_Md_readKind_45 (by decide) ?_
          exact h11 σ9 (0 : Int32) hm
set_option maxHeartbeats 4000000 in
set_option maxRecDepth 100000 in
theorem k_Md_readKind {l : Launch} {D : va_G} {ad : Nat → Nat} {cA : Nat → ClassId} {F : Nat} (hAD : ∀ σ, va_D (owM ad) (wdM ad cA σ)) {σ : zS} {r : Int32} {σ' : zS} (hm : Md_readKind F σ = some (r, σ')) : kIM l D ad cA xTr y_Md_readKind bc_Md_readKind 2 .int 5 [.ref (ad 0)] σ r σ' := by
  refine kI_of (by decide) hAD xTr_P (Nat.le_of_ble_eq_true rfl) ?_
  intro p e s m below meth c C hr
  unfold Md_readKind at hm
  refine z_lv (lv' := [(0, .ref (ad 0))]) [0] rfl ?_
  refine z_aload_n (pc := 0) C d_Md_readKind_0 rfl 0 rfl ?_
  refine z_iconst (pc := 1) C d_Md_readKind_1 ki_m1 ?_
  refine pM_Md_297 (pc := 2) C  d_Md_readKind_2 ?_
  refine z_aload_n (pc := 5) C d_Md_readKind_5 rfl 0 rfl ?_
  obtain ⟨σ1, e2, hm⟩ := bv_s hm
  refine z_callV (pc := 6) C (k_Md_openKind hAD e2) kz_Md_openKind mM_76 rfl rfl oM_0 rfl (kR_of (Nat.le_of_ble_eq_true rfl) (Nat.le_of_ble_eq_true rfl)) rfl (Nat.le_of_ble_eq_true rfl) d_Md_readKind_6 ?_
  refine z_iconst (pc := 9) C d_Md_readKind_9 ki_1 ?_
  refine z_istore_n (pc := 10) (lv' := [(0, .ref (ad 0)), (1, .int (1 : Int32))]) C d_Md_readKind_10 rfl (Nat.le_of_ble_eq_true rfl) [1, 0] rfl ?_
  exact w_Md_readKind_11 hAD C hr F σ1 (1 : Int32) hm
set_option maxHeartbeats 4000000 in
set_option maxRecDepth 100000 in
theorem k_Md_begin {l : Launch} {D : va_G} {ad : Nat → Nat} {cA : Nat → ClassId} {F : Nat} (hAD : ∀ σ, va_D (owM ad) (wdM ad cA σ)) {σ : zS} {σ' : zS} (hm : Md_begin F σ = some σ') : kVM l D ad cA xTr y_Md_begin bc_Md_begin 1 4 [.ref (ad 0)] σ σ' := by
  refine kV_of (by decide) hAD xTr_P (Nat.le_of_ble_eq_true rfl) ?_
  intro p e s m below meth c C hr
  unfold Md_begin at hm
  refine z_lv (lv' := [(0, .ref (ad 0))]) [0] rfl ?_
  refine z_aload_n (pc := 0) C d_Md_begin_0 rfl 0 rfl ?_
  refine z_iconst (pc := 1) C d_Md_begin_1 ki_0 ?_
  refine pM_Md_231 (pc := 2) C  d_Md_begin_2 ?_
  refine z_aload_n (pc := 5) C d_Md_begin_5 rfl 0 rfl ?_
  refine z_iconst (pc := 6) C d_Md_begin_6 ki_0 ?_
  refine pM_Md_221 (pc := 7) C  d_Md_begin_7 ?_
  refine z_aload_n (pc := 10) C d_Md_begin_10 rfl 0 rfl ?_
  refine z_bipush (pc := 11) C d_Md_begin_11 kb_m3 ?_
  refine pM_Md_13 (pc := 13) C  d_Md_begin_13 ?_
  refine z_aload_n (pc := 16) C d_Md_begin_16 rfl 0 rfl ?_
  refine z_iconst (pc := 17) C d_Md_begin_17 ki_0 ?_
  refine pM_Md_354 (pc := 18) C (by decide)  d_Md_begin_18 ?_
  refine z_aload_n (pc := 21) C d_Md_begin_21 rfl 0 rfl ?_
  refine z_iconst (pc := 22) C d_Md_begin_22 ki_0 ?_
  refine pM_Md_294 (pc := 23) C  d_Md_begin_23 ?_
  refine z_aload_n (pc := 26) C d_Md_begin_26 rfl 0 rfl ?_
  refine z_iconst (pc := 27) C d_Md_begin_27 ki_0 ?_
  refine pM_Md_291 (pc := 28) C  d_Md_begin_28 ?_
  refine z_aload_n (pc := 31) C d_Md_begin_31 rfl 0 rfl ?_
  refine z_iconst (pc := 32) C d_Md_begin_32 ki_m1 ?_
  refine pM_Md_282 (pc := 33) C  d_Md_begin_33 ?_
  refine z_aload_n (pc := 36) C d_Md_begin_36 rfl 0 rfl ?_
  refine z_iconst (pc := 37) C d_Md_begin_37 ki_m1 ?_
  refine pM_Md_310 (pc := 38) C  d_Md_begin_38 ?_
  refine z_aload_n (pc := 41) C d_Md_begin_41 rfl 0 rfl ?_
  obtain ⟨σ1, e2, hm⟩ := bv_s hm
  refine z_callV (pc := 42) C (k_Md_next hAD e2) kz_Md_next mM_21 rfl rfl oM_0 rfl (kR_of (Nat.le_of_ble_eq_true rfl) (Nat.le_of_ble_eq_true rfl)) rfl (Nat.le_of_ble_eq_true rfl) d_Md_begin_42 ?_
  exact z_vretE (pc := 45) C hr hm d_Md_begin_45
set_option maxHeartbeats 4000000 in
set_option maxRecDepth 100000 in
theorem w_Md_wantName_15 {D : va_G} {ad : Nat → Nat} {cA : Nat → ClassId} {p : Program} {l : Launch} {e : Env} {s : State} {m : MethodId} {args : Array Value} {below : List Frame} {meth : Method} {c : Code} {F : Nat} (hAD : ∀ σ, va_D (owM ad) (wdM ad cA σ)) (C : CM D ad cA xTr p s m args meth c bc_Md_wantName "KindRoundsModel" 2) (hr : meth.sig.returnType = some .boolean) {r : Int32} {σ' : zS} (σ : zS) (hm : Md_wantName_15 F σ = some (r, σ')) : ZM D ad cA p l e (rmK 2) s m args below meth c 2 (qiM D ad cA below args s r σ') 15 [(0, .ref (ad 0))] [] σ := by
  unfold Md_wantName_15 at hm
  refine z_aload_n (pc := 15) C d_Md_wantName_15 rfl 0 rfl ?_
  obtain ⟨σ1, e2, hm⟩ := bv_s hm
  refine z_callV (pc := 16) C (k_Md_cannot hAD e2) kz_Md_cannot mM_20 rfl rfl oM_0 rfl (kR_of (Nat.le_of_ble_eq_true rfl) (Nat.le_of_ble_eq_true rfl)) rfl (Nat.le_of_ble_eq_true rfl) d_Md_wantName_16 ?_
  refine z_iconst (pc := 19) C d_Md_wantName_19 ki_0 ?_
  exact z_zretE (pc := 20) C hr (by decide) hm d_Md_wantName_20
set_option maxHeartbeats 4000000 in
set_option maxRecDepth 100000 in
theorem k_Md_wantName {l : Launch} {D : va_G} {ad : Nat → Nat} {cA : Nat → ClassId} {F : Nat} (hAD : ∀ σ, va_D (owM ad) (wdM ad cA σ)) {σ : zS} {x1 : Int32} {r : Int32} {σ' : zS} (hm : Md_wantName F σ x1 = some (r, σ')) : kIM l D ad cA xTr y_Md_wantName bc_Md_wantName 2 .boolean 2 [.ref (ad 0), .int x1] σ r σ' := by
  refine kI_of (by decide) hAD xTr_P (Nat.le_of_ble_eq_true rfl) ?_
  intro p e s m below meth c C hr
  unfold Md_wantName at hm
  refine z_lv (lv' := [(0, .ref (ad 0)), (1, .int x1)]) [0, 1] rfl ?_
  refine z_aload_n (pc := 0) C d_Md_wantName_0 rfl 0 rfl ?_
  refine gM_Md_221 (pc := 1) (v := (gi σ 8)) C rfl d_Md_wantName_1 ?_
  refine z_if_gt (pc := 4) (tgt := 15) C d_Md_wantName_4 (by decide) (fun c1 => ?_) (fun c1 => ?_)
  · rw [if_pos c1] at hm
    refine z_lv (lv' := [(0, .ref (ad 0))]) [0] rfl ?_
    exact w_Md_wantName_15 hAD C hr σ hm
  · rw [if_neg c1] at hm
    refine z_aload_n (pc := 7) C d_Md_wantName_7 rfl 0 rfl ?_
    refine gM_Md_241 (pc := 8) (v := (gi σ 4)) C rfl d_Md_wantName_8 ?_
    refine z_iload_n (pc := 11) C d_Md_wantName_11 rfl 1 rfl ?_
    refine z_icmp_eq (pc := 12) (tgt := 21) C d_Md_wantName_12 (by decide) (fun c2 => ?_) (fun c2 => ?_)
    · rw [if_pos c2] at hm
      refine z_iconst (pc := 21) C d_Md_wantName_21 ki_1 ?_
      exact z_zretE (pc := 22) C hr (by decide) hm d_Md_wantName_22
    · rw [if_neg c2] at hm
      refine z_lv (lv' := [(0, .ref (ad 0))]) [0] rfl ?_
      exact w_Md_wantName_15 hAD C hr σ hm
set_option maxHeartbeats 4000000 in
set_option maxRecDepth 100000 in
theorem k_Md_readParam {l : Launch} {D : va_G} {ad : Nat → Nat} {cA : Nat → ClassId} {F : Nat} (hAD : ∀ σ, va_D (owM ad) (wdM ad cA σ)) {σ : zS} {σ' : zS} (hm : Md_readParam F σ = some σ') : kVM l D ad cA xTr y_Md_readParam bc_Md_readParam 1 4 [.ref (ad 0)] σ σ' := by
  refine kV_of (by decide) hAD xTr_P (Nat.le_of_ble_eq_true rfl) ?_
  intro p e s m below meth c C hr
  unfold Md_readParam at hm
  refine z_lv (lv' := [(0, .ref (ad 0))]) [0] rfl ?_
  refine z_aload_n (pc := 0) C d_Md_readParam_0 rfl 0 rfl ?_
  refine gM_Md_121 (pc := 1) C  d_Md_readParam_1 ?_
  refine z_aload_n (pc := 4) C d_Md_readParam_4 rfl 0 rfl ?_
  refine gM_Md_282 (pc := 5) (v := (gi σ 32)) C rfl d_Md_readParam_5 ?_
  obtain ⟨g1, hm⟩ := gd_s hm
  refine alM_36 (pc := 8) (v := (ga σ 36 (gi σ 32).toNatClampNeg)) C  rfl g1 d_Md_readParam_8 ?_
  refine z_iconst (pc := 9) C d_Md_readParam_9 ki_3 ?_
  refine z_icmp_ne (pc := 10) (tgt := 23) C d_Md_readParam_10 (by decide) (fun c2 => ?_) (fun c2 => ?_)
  · rw [if_neg c2] at hm
    refine z_aload_n (pc := 23) C d_Md_readParam_23 rfl 0 rfl ?_
    refine z_iconst (pc := 24) C d_Md_readParam_24 ki_1 ?_
    refine z_iconst (pc := 25) C d_Md_readParam_25 ki_m1 ?_
    obtain ⟨σ3, e4, hm⟩ := bv_s hm
    refine z_callV (pc := 26) C (k_Md_tell hAD e4) kz_Md_tell mM_53 rfl rfl oM_0 rfl (kR_of (Nat.le_of_ble_eq_true rfl) (Nat.le_of_ble_eq_true rfl)) rfl (Nat.le_of_ble_eq_true rfl) d_Md_readParam_26 ?_
    refine z_aload_n (pc := 29) C d_Md_readParam_29 rfl 0 rfl ?_
    refine gM_Md_124 (pc := 30) C  d_Md_readParam_30 ?_
    refine z_iconst (pc := 33) C d_Md_readParam_33 ki_3 ?_
    refine z_aload_n (pc := 34) C d_Md_readParam_34 rfl 0 rfl ?_
    refine gM_Md_282 (pc := 35) (v := (gi σ3 32)) C rfl d_Md_readParam_35 ?_
    refine z_imul (pc := 38) C d_Md_readParam_38 ?_
    refine z_aload_n (pc := 39) C d_Md_readParam_39 rfl 0 rfl ?_
    refine gM_Md_121 (pc := 40) C  d_Md_readParam_40 ?_
    refine z_aload_n (pc := 43) C d_Md_readParam_43 rfl 0 rfl ?_
    refine gM_Md_282 (pc := 44) (v := (gi σ3 32)) C rfl d_Md_readParam_44 ?_
    obtain ⟨g5, hm⟩ := gd_s hm
    refine alM_36 (pc := 47) (v := (ga σ3 36 (gi σ3 32).toNatClampNeg)) C  rfl g5 d_Md_readParam_47 ?_
    refine z_iadd (pc := 48) C d_Md_readParam_48 ?_
    refine z_aload_n (pc := 49) C d_Md_readParam_49 rfl 0 rfl ?_
    refine gM_Md_255 (pc := 50) (v := (gl σ3 6)) C rfl d_Md_readParam_50 ?_
    obtain ⟨g6, hm⟩ := gd_s hm
    refine asM_37 (pc := 53) C  g6 d_Md_readParam_53 ?_
    refine z_aload_n (pc := 54) C d_Md_readParam_54 rfl 0 rfl ?_
    refine gM_Md_121 (pc := 55) C  d_Md_readParam_55 ?_
    refine z_aload_n (pc := 58) C d_Md_readParam_58 rfl 0 rfl ?_
    refine gM_Md_282 (pc := 59) (v := (gi σ3 32)) C rfl d_Md_readParam_59 ?_
    refine z_dup2 (pc := 62) C d_Md_readParam_62 rfl rfl ?_
    refine alM_36 (pc := 63) (v := (ga σ3 36 (gi σ3 32).toNatClampNeg)) C  rfl g5 d_Md_readParam_63 ?_
    refine z_iconst (pc := 64) C d_Md_readParam_64 ki_1 ?_
    refine z_iadd (pc := 65) C d_Md_readParam_65 ?_
    refine asM_36 (pc := 66) C  g5 d_Md_readParam_66 ?_
    refine z_aload_n (pc := 67) C d_Md_readParam_67 rfl 0 rfl ?_
    obtain ⟨σ7, e8, hm⟩ := bv_s hm
    refine z_callV (pc := 68) C (k_Md_next hAD e8) kz_Md_next mM_21 rfl rfl oM_0 rfl (kR_of (Nat.le_of_ble_eq_true rfl) (Nat.le_of_ble_eq_true rfl)) rfl (Nat.le_of_ble_eq_true rfl) d_Md_readParam_68 ?_
    exact z_vretE (pc := 71) C hr hm d_Md_readParam_71
  · rw [if_pos c2] at hm
    refine z_aload_n (pc := 13) C d_Md_readParam_13 rfl 0 rfl ?_
    refine z_iconst (pc := 14) C d_Md_readParam_14 ki_2 ?_
    refine z_aload_n (pc := 15) C d_Md_readParam_15 rfl 0 rfl ?_
    refine gM_Md_238 (pc := 16) (v := (gi σ 5)) C rfl d_Md_readParam_16 ?_
    obtain ⟨σ9, e10, hm⟩ := bv_s hm
    refine z_callV (pc := 19) C (k_Md_wrong hAD e10) kz_Md_wrong mM_11 rfl rfl oM_0 rfl (kR_of (Nat.le_of_ble_eq_true rfl) (Nat.le_of_ble_eq_true rfl)) rfl (Nat.le_of_ble_eq_true rfl) d_Md_readParam_19 ?_
    exact z_vretE (pc := 22) C hr hm d_Md_readParam_22
set_option maxHeartbeats 4000000 in
set_option maxRecDepth 100000 in
theorem w_Md_readClass_142 {D : va_G} {ad : Nat → Nat} {cA : Nat → ClassId} {p : Program} {l : Launch} {e : Env} {s : State} {m : MethodId} {args : Array Value} {below : List Frame} {meth : Method} {c : Code} {F : Nat} (hAD : ∀ σ, va_D (owM ad) (wdM ad cA σ)) (C : CM D ad cA xTr p s m args meth c bc_Md_readClass "KindRoundsModel" 2) (hr : meth.sig.returnType = none) {σ' : zS} (σ : zS) (hm : Md_readClass_142 F σ = some σ') : ZM D ad cA p l e (rmK 8) s m args below meth c 2 (qvM D ad cA below args s σ') 142 [(0, .ref (ad 0))] [] σ := by
  unfold Md_readClass_142 at hm
  refine z_aload_n (pc := 142) C d_Md_readClass_142 rfl 0 rfl ?_
  refine z_bipush (pc := 143) C d_Md_readClass_143 kb_125 ?_
  obtain ⟨σ1, e2, hm⟩ := bv_s hm
  refine z_callV (pc := 145) C (k_Md_want hAD e2) kz_Md_want mM_60 rfl rfl oM_0 rfl (kR_of (Nat.le_of_ble_eq_true rfl) (Nat.le_of_ble_eq_true rfl)) rfl (Nat.le_of_ble_eq_true rfl) d_Md_readClass_145 ?_
  exact z_vretE (pc := 148) C hr hm d_Md_readClass_148
set_option maxHeartbeats 4000000 in
set_option maxRecDepth 100000 in
theorem w_Md_readClass_19 {D : va_G} {ad : Nat → Nat} {cA : Nat → ClassId} {p : Program} {l : Launch} {e : Env} {s : State} {m : MethodId} {args : Array Value} {below : List Frame} {meth : Method} {c : Code} {F : Nat} (hAD : ∀ σ, va_D (owM ad) (wdM ad cA σ)) (C : CM D ad cA xTr p s m args meth c bc_Md_readClass "KindRoundsModel" 2) (hr : meth.sig.returnType = none) {σ' : zS} : ∀ (n : Nat) (σ : zS), Md_readClass_19 F n σ = some σ' → ZM D ad cA p l e (rmK 8) s m args below meth c 2 (qvM D ad cA below args s σ') 19 [(0, .ref (ad 0))] [] σ := by
  intro n
  induction n with
  | zero => intro σ hm; cases hm
  | succ n h19 =>
    intro σ hm
    have hm : Md_readClass_b19 F (Md_readClass_19 F n) σ = some σ' := hm
    unfold Md_readClass_b19 at hm
    refine z_aload_n (pc := 19) C d_Md_readClass_19 rfl 0 rfl ?_
    refine gM_Md_221 (pc := 20) (v := (gi σ 8)) C rfl d_Md_readClass_20 ?_
    refine z_if_ne (pc := 23) (tgt := 142) C d_Md_readClass_23 (by decide) (fun c1 => ?_) (fun c1 => ?_)
    · rw [if_neg c1] at hm
      exact w_Md_readClass_142 hAD C hr σ hm
    · rw [if_pos c1] at hm
      refine z_aload_n (pc := 26) C d_Md_readClass_26 rfl 0 rfl ?_
      refine gM_Md_241 (pc := 27) (v := (gi σ 4)) C rfl d_Md_readClass_27 ?_
      refine z_iconst (pc := 30) C d_Md_readClass_30 ki_2 ?_
      refine z_icmp_ne (pc := 31) (tgt := 142) C d_Md_readClass_31 (by decide) (fun c2 => ?_) (fun c2 => ?_)
      · rw [if_neg c2] at hm
        exact w_Md_readClass_142 hAD C hr σ hm
      · rw [if_pos c2] at hm
        refine z_aload_n (pc := 34) C d_Md_readClass_34 rfl 0 rfl ?_
        refine gM_Md_127 (pc := 35) C  d_Md_readClass_35 ?_
        refine z_aload_n (pc := 38) C d_Md_readClass_38 rfl 0 rfl ?_
        refine gM_Md_282 (pc := 39) (v := (gi σ 32)) C rfl d_Md_readClass_39 ?_
        obtain ⟨g3, hm⟩ := gd_s hm
        refine alM_38 (pc := 42) (v := (ga σ 38 (gi σ 32).toNatClampNeg)) C  rfl g3 d_Md_readClass_42 ?_
        refine z_iconst (pc := 43) C d_Md_readClass_43 ki_4 ?_
        refine z_icmp_ne (pc := 44) (tgt := 57) C d_Md_readClass_44 (by decide) (fun c4 => ?_) (fun c4 => ?_)
        · rw [if_neg c4] at hm
          refine z_aload_n (pc := 57) C d_Md_readClass_57 rfl 0 rfl ?_
          refine gM_Md_127 (pc := 58) C  d_Md_readClass_58 ?_
          refine z_aload_n (pc := 61) C d_Md_readClass_61 rfl 0 rfl ?_
          refine gM_Md_282 (pc := 62) (v := (gi σ 32)) C rfl d_Md_readClass_62 ?_
          refine z_dup2 (pc := 65) C d_Md_readClass_65 rfl rfl ?_
          refine alM_38 (pc := 66) (v := (ga σ 38 (gi σ 32).toNatClampNeg)) C  rfl g3 d_Md_readClass_66 ?_
          refine z_iconst (pc := 67) C d_Md_readClass_67 ki_1 ?_
          refine z_iadd (pc := 68) C d_Md_readClass_68 ?_
          refine asM_38 (pc := 69) C  g3 d_Md_readClass_69 ?_
          refine z_aload_n (pc := 70) C d_Md_readClass_70 rfl 0 rfl ?_
          refine z_iconst (pc := 71) C d_Md_readClass_71 ki_3 ?_
          refine z_iconst (pc := 72) C d_Md_readClass_72 ki_m1 ?_
          obtain ⟨σ5, e6, hm⟩ := bv_s hm
          refine z_callV (pc := 73) C (k_Md_tell hAD e6) kz_Md_tell mM_53 rfl rfl oM_0 rfl (kR_of (Nat.le_of_ble_eq_true rfl) (Nat.le_of_ble_eq_true rfl)) rfl (Nat.le_of_ble_eq_true rfl) d_Md_readClass_73 ?_
          refine z_aload_n (pc := 76) C d_Md_readClass_76 rfl 0 rfl ?_
          refine z_aload_n (pc := 77) C d_Md_readClass_77 rfl 0 rfl ?_
          refine gM_Md_392 (pc := 78) (v := (gi σ5 66)) C rfl d_Md_readClass_78 ?_
          refine pM_Md_310 (pc := 81) C  d_Md_readClass_81 ?_
          refine z_aload_n (pc := 84) C d_Md_readClass_84 rfl 0 rfl ?_
          refine z_dup (pc := 85) C d_Md_readClass_85 rfl ?_
          refine gM_Md_392 (pc := 86) (v := (gi σ5 66)) C rfl d_Md_readClass_86 ?_
          refine z_iconst (pc := 89) C d_Md_readClass_89 ki_1 ?_
          refine z_iadd (pc := 90) C d_Md_readClass_90 ?_
          refine pM_Md_392 (pc := 91) C  d_Md_readClass_91 ?_
          refine z_aload_n (pc := 94) C d_Md_readClass_94 rfl 0 rfl ?_
          obtain ⟨σ7, e8, hm⟩ := bv_s hm
          refine z_callV (pc := 95) C (k_Md_next hAD e8) kz_Md_next mM_21 rfl rfl oM_0 rfl (kR_of (Nat.le_of_ble_eq_true rfl) (Nat.le_of_ble_eq_true rfl)) rfl (Nat.le_of_ble_eq_true rfl) d_Md_readClass_95 ?_
          refine z_aload_n (pc := 98) C d_Md_readClass_98 rfl 0 rfl ?_
          refine z_sipush (pc := 99) C d_Md_readClass_99 ks_1001 ?_
          obtain ⟨σ9, e10, hm⟩ := bv_s hm
          refine z_callV (pc := 102) C (k_Md_want hAD e10) kz_Md_want mM_60 rfl rfl oM_0 rfl (kR_of (Nat.le_of_ble_eq_true rfl) (Nat.le_of_ble_eq_true rfl)) rfl (Nat.le_of_ble_eq_true rfl) d_Md_readClass_102 ?_
          refine z_aload_n (pc := 105) C d_Md_readClass_105 rfl 0 rfl ?_
          refine gM_Md_221 (pc := 106) (v := (gi σ9 8)) C rfl d_Md_readClass_106 ?_
          refine z_if_le (pc := 109) (tgt := 113) C d_Md_readClass_109 (by decide) (fun c11 => ?_) (fun c11 => ?_)
          · rw [if_pos c11] at hm
            refine z_aload_n (pc := 113) C d_Md_readClass_113 rfl 0 rfl ?_
            obtain ⟨r13, σ12, e14, hm⟩ := bi_s hm
            refine z_callI (pc := 114) C (k_Md_readType hAD e14) kz_Md_readType mM_98 rfl rfl oM_0 rfl (kR_of (Nat.le_of_ble_eq_true rfl) (Nat.le_of_ble_eq_true rfl)) rfl (Nat.le_of_ble_eq_true rfl) d_Md_readClass_114 ?_
            refine z_istore_n (pc := 117) (lv' := [(0, .ref (ad 0)), (1, .int r13)]) C d_Md_readClass_117 rfl (Nat.le_of_ble_eq_true rfl) [1, 0] rfl ?_
            refine z_aload_n (pc := 118) C d_Md_readClass_118 rfl 0 rfl ?_
            refine z_iconst (pc := 119) C d_Md_readClass_119 ki_1 ?_
            refine z_iload_n (pc := 120) C d_Md_readClass_120 rfl 1 rfl ?_
            refine z_aload_n (pc := 121) C d_Md_readClass_121 rfl 0 rfl ?_
            refine gM_Md_332 (pc := 122) (v := (gi σ12 19)) C rfl d_Md_readClass_122 ?_
            obtain ⟨σ15, e16, hm⟩ := bv_s hm
            refine z_callV (pc := 125) C (k_Md_act hAD e16) kz_Md_act mM_49 rfl rfl oM_0 rfl (kR_of (Nat.le_of_ble_eq_true rfl) (Nat.le_of_ble_eq_true rfl)) rfl (Nat.le_of_ble_eq_true rfl) d_Md_readClass_125 ?_
            refine z_aload_n (pc := 128) C d_Md_readClass_128 rfl 0 rfl ?_
            refine z_iconst (pc := 129) C d_Md_readClass_129 ki_m1 ?_
            refine pM_Md_310 (pc := 130) C  d_Md_readClass_130 ?_
            refine z_aload_n (pc := 133) C d_Md_readClass_133 rfl 0 rfl ?_
            refine z_bipush (pc := 134) C d_Md_readClass_134 kb_59 ?_
            obtain ⟨σ17, e18, hm⟩ := bv_s hm
            refine z_callV (pc := 136) C (k_Md_want hAD e18) kz_Md_want mM_60 rfl rfl oM_0 rfl (kR_of (Nat.le_of_ble_eq_true rfl) (Nat.le_of_ble_eq_true rfl)) rfl (Nat.le_of_ble_eq_true rfl) d_Md_readClass_136 ?_
            refine z_goto (pc := 139) (tgt := 19) C d_Md_readClass_139 (by decide) ?_
            refine z_lv (lv' := [(0, .ref (ad 0))]) [0] rfl ?_
            exact h19 σ17 hm
          · rw [if_neg c11] at hm
            exact z_vretE (pc := 112) C hr hm d_Md_readClass_112
        · rw [if_pos c4] at hm
          refine z_aload_n (pc := 47) C d_Md_readClass_47 rfl 0 rfl ?_
          refine z_iconst (pc := 48) C d_Md_readClass_48 ki_2 ?_
          refine z_aload_n (pc := 49) C d_Md_readClass_49 rfl 0 rfl ?_
          refine gM_Md_238 (pc := 50) (v := (gi σ 5)) C rfl d_Md_readClass_50 ?_
          obtain ⟨σ19, e20, hm⟩ := bv_s hm
          refine z_callV (pc := 53) C (k_Md_wrong hAD e20) kz_Md_wrong mM_11 rfl rfl oM_0 rfl (kR_of (Nat.le_of_ble_eq_true rfl) (Nat.le_of_ble_eq_true rfl)) rfl (Nat.le_of_ble_eq_true rfl) d_Md_readClass_53 ?_
          exact z_vretE (pc := 56) C hr hm d_Md_readClass_56
set_option maxHeartbeats 4000000 in
set_option maxRecDepth 100000 in
theorem k_Md_readClass {l : Launch} {D : va_G} {ad : Nat → Nat} {cA : Nat → ClassId} {F : Nat} (hAD : ∀ σ, va_D (owM ad) (wdM ad cA σ)) {σ : zS} {σ' : zS} (hm : Md_readClass F σ = some σ') : kVM l D ad cA xTr y_Md_readClass bc_Md_readClass 2 8 [.ref (ad 0)] σ σ' := by
  refine kV_of (by decide) hAD xTr_P (Nat.le_of_ble_eq_true rfl) ?_
  intro p e s m below meth c C hr
  unfold Md_readClass at hm
  refine z_lv (lv' := [(0, .ref (ad 0))]) [0] rfl ?_
  refine z_aload_n (pc := 0) C d_Md_readClass_0 rfl 0 rfl ?_
  refine z_iconst (pc := 1) C d_Md_readClass_1 ki_2 ?_
  obtain ⟨r2, σ1, e3, hm⟩ := bi_s hm
  refine z_callI (pc := 2) C (k_Md_wantName hAD e3) kz_Md_wantName mM_80 rfl rfl oM_0 rfl (kR_of (Nat.le_of_ble_eq_true rfl) (Nat.le_of_ble_eq_true rfl)) rfl (Nat.le_of_ble_eq_true rfl) d_Md_readClass_2 ?_
  refine z_if_ne (pc := 5) (tgt := 9) C d_Md_readClass_5 (by decide) (fun c4 => ?_) (fun c4 => ?_)
  · rw [if_neg c4] at hm
    refine z_aload_n (pc := 9) C d_Md_readClass_9 rfl 0 rfl ?_
    obtain ⟨σ5, e6, hm⟩ := bv_s hm
    refine z_callV (pc := 10) C (k_Md_readParam hAD e6) kz_Md_readParam mM_100 rfl rfl oM_0 rfl (kR_of (Nat.le_of_ble_eq_true rfl) (Nat.le_of_ble_eq_true rfl)) rfl (Nat.le_of_ble_eq_true rfl) d_Md_readClass_10 ?_
    refine z_aload_n (pc := 13) C d_Md_readClass_13 rfl 0 rfl ?_
    refine z_bipush (pc := 14) C d_Md_readClass_14 kb_123 ?_
    obtain ⟨σ7, e8, hm⟩ := bv_s hm
    refine z_callV (pc := 16) C (k_Md_want hAD e8) kz_Md_want mM_60 rfl rfl oM_0 rfl (kR_of (Nat.le_of_ble_eq_true rfl) (Nat.le_of_ble_eq_true rfl)) rfl (Nat.le_of_ble_eq_true rfl) d_Md_readClass_16 ?_
    exact w_Md_readClass_19 hAD C hr F σ7 hm
  · rw [if_pos c4] at hm
    exact z_vretE (pc := 8) C hr hm d_Md_readClass_8
set_option maxHeartbeats 4000000 in
set_option maxRecDepth 100000 in
theorem w_Md_readCon_56 {D : va_G} {ad : Nat → Nat} {cA : Nat → ClassId} {p : Program} {l : Launch} {e : Env} {s : State} {m : MethodId} {args : Array Value} {below : List Frame} {meth : Method} {c : Code} {F : Nat} (hAD : ∀ σ, va_D (owM ad) (wdM ad cA σ)) (C : CM D ad cA xTr p s m args meth c bc_Md_readCon "KindRoundsModel" 2) (hr : meth.sig.returnType = none) {σ' : zS} : ∀ (n : Nat) (σ : zS), Md_readCon_56 F n σ = some σ' → ZM D ad cA p l e (rmK 8) s m args below meth c 2 (qvM D ad cA below args s σ') 56 [(0, .ref (ad 0))] [] σ := by
  intro n
  induction n with
  | zero => intro σ hm; cases hm
  | succ n h56 =>
    intro σ hm
    have hm : Md_readCon_b56 F (Md_readCon_56 F n) σ = some σ' := hm
    unfold Md_readCon_b56 at hm
    refine z_aload_n (pc := 56) C d_Md_readCon_56 rfl 0 rfl ?_
    obtain ⟨r2, σ1, e3, hm⟩ := bi_s hm
    refine z_callI (pc := 57) C (k_Md_canBegin hAD e3) kz_Md_canBegin mM_64 rfl rfl oM_0 rfl (kR_of (Nat.le_of_ble_eq_true rfl) (Nat.le_of_ble_eq_true rfl)) rfl (Nat.le_of_ble_eq_true rfl) d_Md_readCon_57 ?_
    refine z_if_eq (pc := 60) (tgt := 81) C d_Md_readCon_60 (by decide) (fun c4 => ?_) (fun c4 => ?_)
    · rw [if_pos c4] at hm
      exact z_vretE (pc := 81) C hr hm d_Md_readCon_81
    · rw [if_neg c4] at hm
      refine z_aload_n (pc := 63) C d_Md_readCon_63 rfl 0 rfl ?_
      obtain ⟨r6, σ5, e7, hm⟩ := bi_s hm
      refine z_callI (pc := 64) C (k_Md_readOne hAD e7) kz_Md_readOne mM_101 rfl rfl oM_0 rfl (kR_of (Nat.le_of_ble_eq_true rfl) (Nat.le_of_ble_eq_true rfl)) rfl (Nat.le_of_ble_eq_true rfl) d_Md_readCon_64 ?_
      refine z_istore_n (pc := 67) (lv' := [(0, .ref (ad 0)), (1, .int r6)]) C d_Md_readCon_67 rfl (Nat.le_of_ble_eq_true rfl) [1, 0] rfl ?_
      refine z_aload_n (pc := 68) C d_Md_readCon_68 rfl 0 rfl ?_
      refine z_iconst (pc := 69) C d_Md_readCon_69 ki_1 ?_
      refine z_iload_n (pc := 70) C d_Md_readCon_70 rfl 1 rfl ?_
      refine z_aload_n (pc := 71) C d_Md_readCon_71 rfl 0 rfl ?_
      refine gM_Md_332 (pc := 72) (v := (gi σ5 19)) C rfl d_Md_readCon_72 ?_
      obtain ⟨σ8, e9, hm⟩ := bv_s hm
      refine z_callV (pc := 75) C (k_Md_act hAD e9) kz_Md_act mM_49 rfl rfl oM_0 rfl (kR_of (Nat.le_of_ble_eq_true rfl) (Nat.le_of_ble_eq_true rfl)) rfl (Nat.le_of_ble_eq_true rfl) d_Md_readCon_75 ?_
      refine z_goto (pc := 78) (tgt := 56) C d_Md_readCon_78 (by decide) ?_
      refine z_lv (lv' := [(0, .ref (ad 0))]) [0] rfl ?_
      exact h56 σ8 hm
set_option maxHeartbeats 4000000 in
set_option maxRecDepth 100000 in
theorem k_Md_readCon {l : Launch} {D : va_G} {ad : Nat → Nat} {cA : Nat → ClassId} {F : Nat} (hAD : ∀ σ, va_D (owM ad) (wdM ad cA σ)) {σ : zS} {σ' : zS} (hm : Md_readCon F σ = some σ') : kVM l D ad cA xTr y_Md_readCon bc_Md_readCon 2 8 [.ref (ad 0)] σ σ' := by
  refine kV_of (by decide) hAD xTr_P (Nat.le_of_ble_eq_true rfl) ?_
  intro p e s m below meth c C hr
  unfold Md_readCon at hm
  refine z_lv (lv' := [(0, .ref (ad 0))]) [0] rfl ?_
  refine z_aload_n (pc := 0) C d_Md_readCon_0 rfl 0 rfl ?_
  refine z_iconst (pc := 1) C d_Md_readCon_1 ki_1 ?_
  obtain ⟨r2, σ1, e3, hm⟩ := bi_s hm
  refine z_callI (pc := 2) C (k_Md_wantName hAD e3) kz_Md_wantName mM_80 rfl rfl oM_0 rfl (kR_of (Nat.le_of_ble_eq_true rfl) (Nat.le_of_ble_eq_true rfl)) rfl (Nat.le_of_ble_eq_true rfl) d_Md_readCon_2 ?_
  refine z_if_ne (pc := 5) (tgt := 9) C d_Md_readCon_5 (by decide) (fun c4 => ?_) (fun c4 => ?_)
  · rw [if_neg c4] at hm
    refine z_aload_n (pc := 9) C d_Md_readCon_9 rfl 0 rfl ?_
    refine gM_Md_127 (pc := 10) C  d_Md_readCon_10 ?_
    refine z_aload_n (pc := 13) C d_Md_readCon_13 rfl 0 rfl ?_
    refine gM_Md_282 (pc := 14) (v := (gi σ1 32)) C rfl d_Md_readCon_14 ?_
    obtain ⟨g5, hm⟩ := gd_s hm
    refine alM_38 (pc := 17) (v := (ga σ1 38 (gi σ1 32).toNatClampNeg)) C  rfl g5 d_Md_readCon_17 ?_
    refine z_bipush (pc := 18) C d_Md_readCon_18 kb_6 ?_
    refine z_icmp_ne (pc := 20) (tgt := 33) C d_Md_readCon_20 (by decide) (fun c6 => ?_) (fun c6 => ?_)
    · rw [if_neg c6] at hm
      refine z_aload_n (pc := 33) C d_Md_readCon_33 rfl 0 rfl ?_
      refine gM_Md_127 (pc := 34) C  d_Md_readCon_34 ?_
      refine z_aload_n (pc := 37) C d_Md_readCon_37 rfl 0 rfl ?_
      refine gM_Md_282 (pc := 38) (v := (gi σ1 32)) C rfl d_Md_readCon_38 ?_
      refine z_dup2 (pc := 41) C d_Md_readCon_41 rfl rfl ?_
      refine alM_38 (pc := 42) (v := (ga σ1 38 (gi σ1 32).toNatClampNeg)) C  rfl g5 d_Md_readCon_42 ?_
      refine z_iconst (pc := 43) C d_Md_readCon_43 ki_1 ?_
      refine z_iadd (pc := 44) C d_Md_readCon_44 ?_
      refine asM_38 (pc := 45) C  g5 d_Md_readCon_45 ?_
      refine z_aload_n (pc := 46) C d_Md_readCon_46 rfl 0 rfl ?_
      refine z_iconst (pc := 47) C d_Md_readCon_47 ki_2 ?_
      refine z_iconst (pc := 48) C d_Md_readCon_48 ki_m1 ?_
      obtain ⟨σ7, e8, hm⟩ := bv_s hm
      refine z_callV (pc := 49) C (k_Md_tell hAD e8) kz_Md_tell mM_53 rfl rfl oM_0 rfl (kR_of (Nat.le_of_ble_eq_true rfl) (Nat.le_of_ble_eq_true rfl)) rfl (Nat.le_of_ble_eq_true rfl) d_Md_readCon_49 ?_
      refine z_aload_n (pc := 52) C d_Md_readCon_52 rfl 0 rfl ?_
      obtain ⟨σ9, e10, hm⟩ := bv_s hm
      refine z_callV (pc := 53) C (k_Md_next hAD e10) kz_Md_next mM_21 rfl rfl oM_0 rfl (kR_of (Nat.le_of_ble_eq_true rfl) (Nat.le_of_ble_eq_true rfl)) rfl (Nat.le_of_ble_eq_true rfl) d_Md_readCon_53 ?_
      exact w_Md_readCon_56 hAD C hr F σ9 hm
    · rw [if_pos c6] at hm
      refine z_aload_n (pc := 23) C d_Md_readCon_23 rfl 0 rfl ?_
      refine z_iconst (pc := 24) C d_Md_readCon_24 ki_2 ?_
      refine z_aload_n (pc := 25) C d_Md_readCon_25 rfl 0 rfl ?_
      refine gM_Md_238 (pc := 26) (v := (gi σ1 5)) C rfl d_Md_readCon_26 ?_
      obtain ⟨σ11, e12, hm⟩ := bv_s hm
      refine z_callV (pc := 29) C (k_Md_wrong hAD e12) kz_Md_wrong mM_11 rfl rfl oM_0 rfl (kR_of (Nat.le_of_ble_eq_true rfl) (Nat.le_of_ble_eq_true rfl)) rfl (Nat.le_of_ble_eq_true rfl) d_Md_readCon_29 ?_
      exact z_vretE (pc := 32) C hr hm d_Md_readCon_32
  · rw [if_pos c4] at hm
    exact z_vretE (pc := 8) C hr hm d_Md_readCon_8
set_option maxHeartbeats 4000000 in
set_option maxRecDepth 100000 in
theorem w_Md_readSides_71 {D : va_G} {ad : Nat → Nat} {cA : Nat → ClassId} {p : Program} {l : Launch} {e : Env} {s : State} {m : MethodId} {args : Array Value} {below : List Frame} {meth : Method} {c : Code} {F : Nat} (hAD : ∀ σ, va_D (owM ad) (wdM ad cA σ)) (C : CM D ad cA xTr p s m args meth c bc_Md_readSides "KindRoundsModel" 3) (hr : meth.sig.returnType = none) {σ' : zS} : ∀ (n : Nat) (σ : zS), Md_readSides_71 F n σ = some σ' → ZM D ad cA p l e (rmK 9) s m args below meth c 3 (qvM D ad cA below args s σ') 71 [(0, .ref (ad 0))] [] σ := by
  intro n
  induction n with
  | zero => intro σ hm; cases hm
  | succ n h71 =>
    intro σ hm
    have hm : Md_readSides_b71 F (Md_readSides_71 F n) σ = some σ' := hm
    unfold Md_readSides_b71 at hm
    refine z_aload_n (pc := 71) C d_Md_readSides_71 rfl 0 rfl ?_
    refine z_bipush (pc := 72) C d_Md_readSides_72 kb_124 ?_
    obtain ⟨r2, σ1, e3, hm⟩ := bi_s hm
    refine z_callI (pc := 74) C (k_Md_isSign hAD e3) kz_Md_isSign mM_19 rfl rfl oM_0 rfl (kR_of (Nat.le_of_ble_eq_true rfl) (Nat.le_of_ble_eq_true rfl)) rfl (Nat.le_of_ble_eq_true rfl) d_Md_readSides_74 ?_
    refine z_if_eq (pc := 77) (tgt := 91) C d_Md_readSides_77 (by decide) (fun c4 => ?_) (fun c4 => ?_)
    · rw [if_pos c4] at hm
      exact z_vretE (pc := 91) C hr hm d_Md_readSides_91
    · rw [if_neg c4] at hm
      refine z_aload_n (pc := 80) C d_Md_readSides_80 rfl 0 rfl ?_
      obtain ⟨σ5, e6, hm⟩ := bv_s hm
      refine z_callV (pc := 81) C (k_Md_next hAD e6) kz_Md_next mM_21 rfl rfl oM_0 rfl (kR_of (Nat.le_of_ble_eq_true rfl) (Nat.le_of_ble_eq_true rfl)) rfl (Nat.le_of_ble_eq_true rfl) d_Md_readSides_81 ?_
      refine z_aload_n (pc := 84) C d_Md_readSides_84 rfl 0 rfl ?_
      obtain ⟨σ7, e8, hm⟩ := bv_s hm
      refine z_callV (pc := 85) C (k_Md_readCon hAD e8) kz_Md_readCon mM_97 rfl rfl oM_0 rfl (kR_of (Nat.le_of_ble_eq_true rfl) (Nat.le_of_ble_eq_true rfl)) rfl (Nat.le_of_ble_eq_true rfl) d_Md_readSides_85 ?_
      refine z_goto (pc := 88) (tgt := 71) C d_Md_readSides_88 (by decide) ?_
      exact h71 σ7 hm
set_option maxHeartbeats 4000000 in
set_option maxRecDepth 100000 in
theorem w_Md_readSides_22 {D : va_G} {ad : Nat → Nat} {cA : Nat → ClassId} {p : Program} {l : Launch} {e : Env} {s : State} {m : MethodId} {args : Array Value} {below : List Frame} {meth : Method} {c : Code} {F : Nat} (hAD : ∀ σ, va_D (owM ad) (wdM ad cA σ)) (C : CM D ad cA xTr p s m args meth c bc_Md_readSides "KindRoundsModel" 3) (hr : meth.sig.returnType = none) {σ' : zS} (σ : zS) (x1 : Int32) (hm : Md_readSides_22 F σ x1 = some σ') : ZM D ad cA p l e (rmK 9) s m args below meth c 3 (qvM D ad cA below args s σ') 22 [(0, .ref (ad 0)), (1, .int x1)] [] σ := by
  unfold Md_readSides_22 at hm
  refine z_aload_n (pc := 22) C d_Md_readSides_22 rfl 0 rfl ?_
  refine z_bipush (pc := 23) C d_Md_readSides_23 kb_61 ?_
  obtain ⟨σ1, e2, hm⟩ := bv_s hm
  refine z_callV (pc := 25) C (k_Md_want hAD e2) kz_Md_want mM_60 rfl rfl oM_0 rfl (kR_of (Nat.le_of_ble_eq_true rfl) (Nat.le_of_ble_eq_true rfl)) rfl (Nat.le_of_ble_eq_true rfl) d_Md_readSides_25 ?_
  refine z_aload_n (pc := 28) C d_Md_readSides_28 rfl 0 rfl ?_
  refine gM_Md_221 (pc := 29) (v := (gi σ1 8)) C rfl d_Md_readSides_29 ?_
  refine z_if_le (pc := 32) (tgt := 36) C d_Md_readSides_32 (by decide) (fun c3 => ?_) (fun c3 => ?_)
  · rw [if_pos c3] at hm
    refine z_iload_n (pc := 36) C d_Md_readSides_36 rfl 1 rfl ?_
    refine z_iconst (pc := 37) C d_Md_readSides_37 ki_1 ?_
    refine z_icmp_ne (pc := 38) (tgt := 67) C d_Md_readSides_38 (by decide) (fun c4 => ?_) (fun c4 => ?_)
    · rw [if_neg c4] at hm
      refine z_aload_n (pc := 67) C d_Md_readSides_67 rfl 0 rfl ?_
      obtain ⟨σ5, e6, hm⟩ := bv_s hm
      refine z_callV (pc := 68) C (k_Md_readCon hAD e6) kz_Md_readCon mM_97 rfl rfl oM_0 rfl (kR_of (Nat.le_of_ble_eq_true rfl) (Nat.le_of_ble_eq_true rfl)) rfl (Nat.le_of_ble_eq_true rfl) d_Md_readSides_68 ?_
      refine z_lv (lv' := [(0, .ref (ad 0))]) [0] rfl ?_
      exact w_Md_readSides_71 hAD C hr F σ5 hm
    · rw [if_pos c4] at hm
      refine z_aload_n (pc := 41) C d_Md_readSides_41 rfl 0 rfl ?_
      obtain ⟨r8, σ7, e9, hm⟩ := bi_s hm
      refine z_callI (pc := 42) C (k_Md_readType hAD e9) kz_Md_readType mM_98 rfl rfl oM_0 rfl (kR_of (Nat.le_of_ble_eq_true rfl) (Nat.le_of_ble_eq_true rfl)) rfl (Nat.le_of_ble_eq_true rfl) d_Md_readSides_42 ?_
      refine z_istore_n (pc := 45) (lv' := [(0, .ref (ad 0)), (1, .int x1), (2, .int r8)]) C d_Md_readSides_45 rfl (Nat.le_of_ble_eq_true rfl) [1, 2, 0] rfl ?_
      refine z_aload_n (pc := 46) C d_Md_readSides_46 rfl 0 rfl ?_
      refine gM_Md_136 (pc := 47) C  d_Md_readSides_47 ?_
      refine z_aload_n (pc := 50) C d_Md_readSides_50 rfl 0 rfl ?_
      refine gM_Md_282 (pc := 51) (v := (gi σ7 32)) C rfl d_Md_readSides_51 ?_
      refine z_iload_n (pc := 54) C d_Md_readSides_54 rfl 2 rfl ?_
      obtain ⟨g10, hm⟩ := gd_s hm
      refine asM_41 (pc := 55) C  g10 d_Md_readSides_55 ?_
      refine z_aload_n (pc := 56) C d_Md_readSides_56 rfl 0 rfl ?_
      refine z_iconst (pc := 57) C d_Md_readSides_57 ki_2 ?_
      refine z_iload_n (pc := 58) C d_Md_readSides_58 rfl 2 rfl ?_
      refine z_aload_n (pc := 59) C d_Md_readSides_59 rfl 0 rfl ?_
      refine gM_Md_332 (pc := 60) (v := (gi σ7 19)) C rfl d_Md_readSides_60 ?_
      obtain ⟨σ11, e12, hm⟩ := bv_s hm
      refine z_callV (pc := 63) C (k_Md_act hAD e12) kz_Md_act mM_49 rfl rfl oM_0 rfl (kR_of (Nat.le_of_ble_eq_true rfl) (Nat.le_of_ble_eq_true rfl)) rfl (Nat.le_of_ble_eq_true rfl) d_Md_readSides_63 ?_
      exact z_vretE (pc := 66) C hr hm d_Md_readSides_66
  · rw [if_neg c3] at hm
    exact z_vretE (pc := 35) C hr hm d_Md_readSides_35
set_option maxHeartbeats 4000000 in
set_option maxRecDepth 100000 in
theorem w_Md_readSides_0 {D : va_G} {ad : Nat → Nat} {cA : Nat → ClassId} {p : Program} {l : Launch} {e : Env} {s : State} {m : MethodId} {args : Array Value} {below : List Frame} {meth : Method} {c : Code} {F : Nat} (hAD : ∀ σ, va_D (owM ad) (wdM ad cA σ)) (C : CM D ad cA xTr p s m args meth c bc_Md_readSides "KindRoundsModel" 3) (hr : meth.sig.returnType = none) {σ' : zS} : ∀ (n : Nat) (σ : zS) (x1 : Int32), Md_readSides_0 F n σ x1 = some σ' → ZM D ad cA p l e (rmK 9) s m args below meth c 3 (qvM D ad cA below args s σ') 0 [(0, .ref (ad 0)), (1, .int x1)] [] σ := by
  intro n
  induction n with
  | zero => intro σ x1 hm; cases hm
  | succ n h0 =>
    intro σ x1 hm
    have hm : Md_readSides_b0 F (Md_readSides_0 F n) σ x1 = some σ' := hm
    unfold Md_readSides_b0 at hm
    refine z_aload_n (pc := 0) C d_Md_readSides_0 rfl 0 rfl ?_
    refine gM_Md_221 (pc := 1) (v := (gi σ 8)) C rfl d_Md_readSides_1 ?_
    refine z_if_ne (pc := 4) (tgt := 22) C d_Md_readSides_4 (by decide) (fun c1 => ?_) (fun c1 => ?_)
    · rw [if_neg c1] at hm
      exact w_Md_readSides_22 hAD C hr σ x1 hm
    · rw [if_pos c1] at hm
      refine z_aload_n (pc := 7) C d_Md_readSides_7 rfl 0 rfl ?_
      refine gM_Md_241 (pc := 8) (v := (gi σ 4)) C rfl d_Md_readSides_8 ?_
      refine z_iconst (pc := 11) C d_Md_readSides_11 ki_2 ?_
      refine z_icmp_ne (pc := 12) (tgt := 22) C d_Md_readSides_12 (by decide) (fun c2 => ?_) (fun c2 => ?_)
      · rw [if_neg c2] at hm
        exact w_Md_readSides_22 hAD C hr σ x1 hm
      · rw [if_pos c2] at hm
        refine z_aload_n (pc := 15) C d_Md_readSides_15 rfl 0 rfl ?_
        obtain ⟨σ3, e4, hm⟩ := bv_s hm
        refine z_callV (pc := 16) C (k_Md_readParam hAD e4) kz_Md_readParam mM_100 rfl rfl oM_0 rfl (kR_of (Nat.le_of_ble_eq_true rfl) (Nat.le_of_ble_eq_true rfl)) rfl (Nat.le_of_ble_eq_true rfl) d_Md_readSides_16 ?_
        refine z_goto (pc := 19) (tgt := 0) C d_Md_readSides_19 (by decide) ?_
        exact h0 σ3 x1 hm
set_option maxHeartbeats 4000000 in
set_option maxRecDepth 100000 in
theorem k_Md_readSides {l : Launch} {D : va_G} {ad : Nat → Nat} {cA : Nat → ClassId} {F : Nat} (hAD : ∀ σ, va_D (owM ad) (wdM ad cA σ)) {σ : zS} {x1 : Int32} {σ' : zS} (hm : Md_readSides F σ x1 = some σ') : kVM l D ad cA xTr y_Md_readSides bc_Md_readSides 3 9 [.ref (ad 0), .int x1] σ σ' := by
  refine kV_of (by decide) hAD xTr_P (Nat.le_of_ble_eq_true rfl) ?_
  intro p e s m below meth c C hr
  unfold Md_readSides at hm
  refine z_lv (lv' := [(0, .ref (ad 0)), (1, .int x1)]) [0, 1] rfl ?_
  exact w_Md_readSides_0 hAD C hr F σ x1 hm
set_option maxHeartbeats 4000000 in
set_option maxRecDepth 100000 in
theorem w_Md_readWish_68 {D : va_G} {ad : Nat → Nat} {cA : Nat → ClassId} {p : Program} {l : Launch} {e : Env} {s : State} {m : MethodId} {args : Array Value} {below : List Frame} {meth : Method} {c : Code} {F : Nat} (hAD : ∀ σ, va_D (owM ad) (wdM ad cA σ)) (C : CM D ad cA xTr p s m args meth c bc_Md_readWish "KindRoundsModel" 1) (hr : meth.sig.returnType = none) {σ' : zS} (σ : zS) (hm : Md_readWish_68 F σ = some σ') : ZM D ad cA p l e (rmK 6) s m args below meth c 1 (qvM D ad cA below args s σ') 68 [(0, .ref (ad 0))] [] σ := by
  unfold Md_readWish_68 at hm
  refine z_aload_n (pc := 68) C d_Md_readWish_68 rfl 0 rfl ?_
  refine z_dup (pc := 69) C d_Md_readWish_69 rfl ?_
  refine gM_Md_373 (pc := 70) (v := (gi σ 62)) C rfl d_Md_readWish_70 ?_
  refine z_iconst (pc := 73) C d_Md_readWish_73 ki_1 ?_
  refine z_iadd (pc := 74) C d_Md_readWish_74 ?_
  refine pM_Md_373 (pc := 75) C  d_Md_readWish_75 ?_
  exact z_vretE (pc := 78) C hr hm d_Md_readWish_78
set_option maxHeartbeats 4000000 in
set_option maxRecDepth 100000 in
theorem k_Md_readWish {l : Launch} {D : va_G} {ad : Nat → Nat} {cA : Nat → ClassId} {F : Nat} (hAD : ∀ σ, va_D (owM ad) (wdM ad cA σ)) {σ : zS} {σ' : zS} (hm : Md_readWish F σ = some σ') : kVM l D ad cA xTr y_Md_readWish bc_Md_readWish 1 6 [.ref (ad 0)] σ σ' := by
  refine kV_of (by decide) hAD xTr_P (Nat.le_of_ble_eq_true rfl) ?_
  intro p e s m below meth c C hr
  unfold Md_readWish at hm
  refine z_lv (lv' := [(0, .ref (ad 0))]) [0] rfl ?_
  refine z_aload_n (pc := 0) C d_Md_readWish_0 rfl 0 rfl ?_
  refine z_iconst (pc := 1) C d_Md_readWish_1 ki_m1 ?_
  refine pM_Md_282 (pc := 2) C  d_Md_readWish_2 ?_
  refine z_aload_n (pc := 5) C d_Md_readWish_5 rfl 0 rfl ?_
  refine z_iconst (pc := 6) C d_Md_readWish_6 ki_4 ?_
  refine z_iconst (pc := 7) C d_Md_readWish_7 ki_m1 ?_
  obtain ⟨σ1, e2, hm⟩ := bv_s hm
  refine z_callV (pc := 8) C (k_Md_tell hAD e2) kz_Md_tell mM_53 rfl rfl oM_0 rfl (kR_of (Nat.le_of_ble_eq_true rfl) (Nat.le_of_ble_eq_true rfl)) rfl (Nat.le_of_ble_eq_true rfl) d_Md_readWish_8 ?_
  refine z_aload_n (pc := 11) C d_Md_readWish_11 rfl 0 rfl ?_
  refine gM_Md_139 (pc := 12) C  d_Md_readWish_12 ?_
  refine z_aload_n (pc := 15) C d_Md_readWish_15 rfl 0 rfl ?_
  refine gM_Md_373 (pc := 16) (v := (gi σ1 62)) C rfl d_Md_readWish_16 ?_
  refine z_aload_n (pc := 19) C d_Md_readWish_19 rfl 0 rfl ?_
  refine gM_Md_255 (pc := 20) (v := (gl σ1 6)) C rfl d_Md_readWish_20 ?_
  obtain ⟨g3, hm⟩ := gd_s hm
  refine asM_42 (pc := 23) C  g3 d_Md_readWish_23 ?_
  refine z_aload_n (pc := 24) C d_Md_readWish_24 rfl 0 rfl ?_
  refine gM_Md_142 (pc := 25) C  d_Md_readWish_25 ?_
  refine z_aload_n (pc := 28) C d_Md_readWish_28 rfl 0 rfl ?_
  refine gM_Md_373 (pc := 29) (v := (gi σ1 62)) C rfl d_Md_readWish_29 ?_
  refine z_aload_n (pc := 32) C d_Md_readWish_32 rfl 0 rfl ?_
  refine gM_Md_238 (pc := 33) (v := (gi σ1 5)) C rfl d_Md_readWish_33 ?_
  refine asM_43 (pc := 36) C  g3 d_Md_readWish_36 ?_
  refine z_aload_n (pc := 37) C d_Md_readWish_37 rfl 0 rfl ?_
  obtain ⟨σ4, e5, hm⟩ := bv_s hm
  refine z_callV (pc := 38) C (k_Md_next hAD e5) kz_Md_next mM_21 rfl rfl oM_0 rfl (kR_of (Nat.le_of_ble_eq_true rfl) (Nat.le_of_ble_eq_true rfl)) rfl (Nat.le_of_ble_eq_true rfl) d_Md_readWish_38 ?_
  refine z_aload_n (pc := 41) C d_Md_readWish_41 rfl 0 rfl ?_
  refine z_sipush (pc := 42) C d_Md_readWish_42 ks_1001 ?_
  obtain ⟨σ6, e7, hm⟩ := bv_s hm
  refine z_callV (pc := 45) C (k_Md_want hAD e7) kz_Md_want mM_60 rfl rfl oM_0 rfl (kR_of (Nat.le_of_ble_eq_true rfl) (Nat.le_of_ble_eq_true rfl)) rfl (Nat.le_of_ble_eq_true rfl) d_Md_readWish_45 ?_
  refine z_aload_n (pc := 48) C d_Md_readWish_48 rfl 0 rfl ?_
  refine gM_Md_221 (pc := 49) (v := (gi σ6 8)) C rfl d_Md_readWish_49 ?_
  refine z_if_ne (pc := 52) (tgt := 68) C d_Md_readWish_52 (by decide) (fun c8 => ?_) (fun c8 => ?_)
  · rw [if_neg c8] at hm
    exact w_Md_readWish_68 hAD C hr σ6 hm
  · rw [if_pos c8] at hm
    refine z_aload_n (pc := 55) C d_Md_readWish_55 rfl 0 rfl ?_
    refine gM_Md_145 (pc := 56) C  d_Md_readWish_56 ?_
    refine z_aload_n (pc := 59) C d_Md_readWish_59 rfl 0 rfl ?_
    refine gM_Md_373 (pc := 60) (v := (gi σ6 62)) C rfl d_Md_readWish_60 ?_
    refine z_aload_n (pc := 63) C d_Md_readWish_63 rfl 0 rfl ?_
    obtain ⟨r10, σ9, e11, hm⟩ := bi_s hm
    refine z_callI (pc := 64) C (k_Md_readKind hAD e11) kz_Md_readKind mM_95 rfl rfl oM_0 rfl (kR_of (Nat.le_of_ble_eq_true rfl) (Nat.le_of_ble_eq_true rfl)) rfl (Nat.le_of_ble_eq_true rfl) d_Md_readWish_64 ?_
    obtain ⟨g12, hm⟩ := gd_s hm
    refine asM_44 (pc := 67) C  g12 d_Md_readWish_67 ?_
    exact w_Md_readWish_68 hAD C hr (sa σ9 44 (gi σ6 62).toNatClampNeg r10) hm
set_option maxHeartbeats 4000000 in
set_option maxRecDepth 100000 in
theorem w_Md_readDecl_216 {D : va_G} {ad : Nat → Nat} {cA : Nat → ClassId} {p : Program} {l : Launch} {e : Env} {s : State} {m : MethodId} {args : Array Value} {below : List Frame} {meth : Method} {c : Code} {F : Nat} (hAD : ∀ σ, va_D (owM ad) (wdM ad cA σ)) (C : CM D ad cA xTr p s m args meth c bc_Md_readDecl "KindRoundsModel" 2) (hr : meth.sig.returnType = none) {σ' : zS} (σ : zS) (hm : Md_readDecl_216 F σ = some σ') : ZM D ad cA p l e (rmK 10) s m args below meth c 2 (qvM D ad cA below args s σ') 216 [(0, .ref (ad 0))] [] σ := by
  unfold Md_readDecl_216 at hm
  refine z_aload_n (pc := 216) C d_Md_readDecl_216 rfl 0 rfl ?_
  refine gM_Md_133 (pc := 217) C  d_Md_readDecl_217 ?_
  refine z_aload_n (pc := 220) C d_Md_readDecl_220 rfl 0 rfl ?_
  refine gM_Md_282 (pc := 221) (v := (gi σ 32)) C rfl d_Md_readDecl_221 ?_
  refine z_aload_n (pc := 224) C d_Md_readDecl_224 rfl 0 rfl ?_
  refine gM_Md_285 (pc := 225) (v := (gi σ 23)) C rfl d_Md_readDecl_225 ?_
  obtain ⟨g1, hm⟩ := gd_s hm
  refine asM_40 (pc := 228) C  g1 d_Md_readDecl_228 ?_
  exact z_vretE (pc := 229) C hr hm d_Md_readDecl_229
set_option maxHeartbeats 4000000 in
set_option maxRecDepth 100000 in
theorem w_Md_readDecl_46 {D : va_G} {ad : Nat → Nat} {cA : Nat → ClassId} {p : Program} {l : Launch} {e : Env} {s : State} {m : MethodId} {args : Array Value} {below : List Frame} {meth : Method} {c : Code} {F : Nat} (hAD : ∀ σ, va_D (owM ad) (wdM ad cA σ)) (C : CM D ad cA xTr p s m args meth c bc_Md_readDecl "KindRoundsModel" 2) (hr : meth.sig.returnType = none) {σ' : zS} (σ : zS) (s0 : Int32) (hm : Md_readDecl_46 F σ s0 = some σ') : ZM D ad cA p l e (rmK 10) s m args below meth c 2 (qvM D ad cA below args s σ') 46 [(0, .ref (ad 0))] [.int s0] σ := by
  unfold Md_readDecl_46 at hm
  refine z_istore_n (pc := 46) (lv' := [(0, .ref (ad 0)), (1, .int s0)]) C d_Md_readDecl_46 rfl (Nat.le_of_ble_eq_true rfl) [1, 0] rfl ?_
  refine z_aload_n (pc := 47) C d_Md_readDecl_47 rfl 0 rfl ?_
  refine gM_Md_241 (pc := 48) (v := (gi σ 4)) C rfl d_Md_readDecl_48 ?_
  refine z_iconst (pc := 51) C d_Md_readDecl_51 ki_3 ?_
  refine z_icmp_eq (pc := 52) (tgt := 60) C d_Md_readDecl_52 (by decide) (fun c1 => ?_) (fun c1 => ?_)
  · rw [if_pos c1] at hm
    refine z_aload_n (pc := 60) C d_Md_readDecl_60 rfl 0 rfl ?_
    obtain ⟨σ2, e3, hm⟩ := bv_s hm
    refine z_callV (pc := 61) C (k_Md_next hAD e3) kz_Md_next mM_21 rfl rfl oM_0 rfl (kR_of (Nat.le_of_ble_eq_true rfl) (Nat.le_of_ble_eq_true rfl)) rfl (Nat.le_of_ble_eq_true rfl) d_Md_readDecl_61 ?_
    refine z_aload_n (pc := 64) C d_Md_readDecl_64 rfl 0 rfl ?_
    refine z_iconst (pc := 65) C d_Md_readDecl_65 ki_1 ?_
    obtain ⟨r5, σ4, e6, hm⟩ := bi_s hm
    refine z_callI (pc := 66) C (k_Md_wantName hAD e6) kz_Md_wantName mM_80 rfl rfl oM_0 rfl (kR_of (Nat.le_of_ble_eq_true rfl) (Nat.le_of_ble_eq_true rfl)) rfl (Nat.le_of_ble_eq_true rfl) d_Md_readDecl_66 ?_
    refine z_if_ne (pc := 69) (tgt := 73) C d_Md_readDecl_69 (by decide) (fun c7 => ?_) (fun c7 => ?_)
    · rw [if_neg c7] at hm
      refine z_iload_n (pc := 73) C d_Md_readDecl_73 rfl 1 rfl ?_
      refine z_iconst (pc := 74) C d_Md_readDecl_74 ki_3 ?_
      refine z_icmp_ne (pc := 75) (tgt := 83) C d_Md_readDecl_75 (by decide) (fun c8 => ?_) (fun c8 => ?_)
      · rw [if_neg c8] at hm
        refine z_aload_n (pc := 83) C d_Md_readDecl_83 rfl 0 rfl ?_
        refine gM_Md_364 (pc := 84) (v := (gi σ4 52)) C rfl d_Md_readDecl_84 ?_
        refine z_bipush (pc := 87) C d_Md_readDecl_87 kb_16 ?_
        refine z_icmp_ne (pc := 89) (tgt := 102) C d_Md_readDecl_89 (by decide) (fun c9 => ?_) (fun c9 => ?_)
        · rw [if_neg c9] at hm
          refine z_aload_n (pc := 102) C d_Md_readDecl_102 rfl 0 rfl ?_
          refine z_aload_n (pc := 103) C d_Md_readDecl_103 rfl 0 rfl ?_
          refine gM_Md_364 (pc := 104) (v := (gi σ4 52)) C rfl d_Md_readDecl_104 ?_
          refine pM_Md_282 (pc := 107) C  d_Md_readDecl_107 ?_
          refine z_aload_n (pc := 110) C d_Md_readDecl_110 rfl 0 rfl ?_
          refine z_dup (pc := 111) C d_Md_readDecl_111 rfl ?_
          refine gM_Md_364 (pc := 112) (v := (gi σ4 52)) C rfl d_Md_readDecl_112 ?_
          refine z_iconst (pc := 115) C d_Md_readDecl_115 ki_1 ?_
          refine z_iadd (pc := 116) C d_Md_readDecl_116 ?_
          refine pM_Md_364 (pc := 117) C  d_Md_readDecl_117 ?_
          refine z_aload_n (pc := 120) C d_Md_readDecl_120 rfl 0 rfl ?_
          refine gM_Md_112 (pc := 121) C  d_Md_readDecl_121 ?_
          refine z_aload_n (pc := 124) C d_Md_readDecl_124 rfl 0 rfl ?_
          refine gM_Md_282 (pc := 125) (v := (gi σ4 52)) C rfl d_Md_readDecl_125 ?_
          refine z_iload_n (pc := 128) C d_Md_readDecl_128 rfl 1 rfl ?_
          obtain ⟨g10, hm⟩ := gd_s hm
          refine asM_33 (pc := 129) C  g10 d_Md_readDecl_129 ?_
          refine z_aload_n (pc := 130) C d_Md_readDecl_130 rfl 0 rfl ?_
          refine gM_Md_115 (pc := 131) C  d_Md_readDecl_131 ?_
          refine z_aload_n (pc := 134) C d_Md_readDecl_134 rfl 0 rfl ?_
          refine gM_Md_282 (pc := 135) (v := (gi σ4 52)) C rfl d_Md_readDecl_135 ?_
          refine z_aload_n (pc := 138) C d_Md_readDecl_138 rfl 0 rfl ?_
          refine gM_Md_255 (pc := 139) (v := (gl σ4 6)) C rfl d_Md_readDecl_139 ?_
          refine asM_34 (pc := 142) C  g10 d_Md_readDecl_142 ?_
          refine z_aload_n (pc := 143) C d_Md_readDecl_143 rfl 0 rfl ?_
          refine gM_Md_118 (pc := 144) C  d_Md_readDecl_144 ?_
          refine z_aload_n (pc := 147) C d_Md_readDecl_147 rfl 0 rfl ?_
          refine gM_Md_282 (pc := 148) (v := (gi σ4 52)) C rfl d_Md_readDecl_148 ?_
          refine z_aload_n (pc := 151) C d_Md_readDecl_151 rfl 0 rfl ?_
          refine gM_Md_238 (pc := 152) (v := (gi σ4 5)) C rfl d_Md_readDecl_152 ?_
          refine asM_35 (pc := 155) C  g10 d_Md_readDecl_155 ?_
          refine z_aload_n (pc := 156) C d_Md_readDecl_156 rfl 0 rfl ?_
          refine gM_Md_121 (pc := 157) C  d_Md_readDecl_157 ?_
          refine z_aload_n (pc := 160) C d_Md_readDecl_160 rfl 0 rfl ?_
          refine gM_Md_282 (pc := 161) (v := (gi σ4 52)) C rfl d_Md_readDecl_161 ?_
          refine z_iconst (pc := 164) C d_Md_readDecl_164 ki_0 ?_
          refine asM_36 (pc := 165) C  g10 d_Md_readDecl_165 ?_
          refine z_aload_n (pc := 166) C d_Md_readDecl_166 rfl 0 rfl ?_
          refine gM_Md_127 (pc := 167) C  d_Md_readDecl_167 ?_
          refine z_aload_n (pc := 170) C d_Md_readDecl_170 rfl 0 rfl ?_
          refine gM_Md_282 (pc := 171) (v := (gi σ4 52)) C rfl d_Md_readDecl_171 ?_
          refine z_iconst (pc := 174) C d_Md_readDecl_174 ki_0 ?_
          refine asM_38 (pc := 175) C  g10 d_Md_readDecl_175 ?_
          refine z_aload_n (pc := 176) C d_Md_readDecl_176 rfl 0 rfl ?_
          refine gM_Md_130 (pc := 177) C  d_Md_readDecl_177 ?_
          refine z_aload_n (pc := 180) C d_Md_readDecl_180 rfl 0 rfl ?_
          refine gM_Md_282 (pc := 181) (v := (gi σ4 52)) C rfl d_Md_readDecl_181 ?_
          refine z_aload_n (pc := 184) C d_Md_readDecl_184 rfl 0 rfl ?_
          refine gM_Md_285 (pc := 185) (v := (gi σ4 23)) C rfl d_Md_readDecl_185 ?_
          refine asM_39 (pc := 188) C  g10 d_Md_readDecl_188 ?_
          refine z_aload_n (pc := 189) C d_Md_readDecl_189 rfl 0 rfl ?_
          refine z_iconst (pc := 190) C d_Md_readDecl_190 ki_0 ?_
          refine z_iconst (pc := 191) C d_Md_readDecl_191 ki_m1 ?_
          obtain ⟨σ11, e12, hm⟩ := bv_s hm
          refine z_callV (pc := 192) C (k_Md_tell hAD e12) kz_Md_tell mM_53 rfl rfl oM_0 rfl (kR_of (Nat.le_of_ble_eq_true rfl) (Nat.le_of_ble_eq_true rfl)) rfl (Nat.le_of_ble_eq_true rfl) d_Md_readDecl_192 ?_
          refine z_aload_n (pc := 195) C d_Md_readDecl_195 rfl 0 rfl ?_
          obtain ⟨σ13, e14, hm⟩ := bv_s hm
          refine z_callV (pc := 196) C (k_Md_next hAD e14) kz_Md_next mM_21 rfl rfl oM_0 rfl (kR_of (Nat.le_of_ble_eq_true rfl) (Nat.le_of_ble_eq_true rfl)) rfl (Nat.le_of_ble_eq_true rfl) d_Md_readDecl_196 ?_
          refine z_iload_n (pc := 199) C d_Md_readDecl_199 rfl 1 rfl ?_
          refine z_iconst (pc := 200) C d_Md_readDecl_200 ki_2 ?_
          refine z_icmp_ne (pc := 201) (tgt := 211) C d_Md_readDecl_201 (by decide) (fun c15 => ?_) (fun c15 => ?_)
          · rw [if_neg c15] at hm
            refine z_aload_n (pc := 211) C d_Md_readDecl_211 rfl 0 rfl ?_
            refine z_iload_n (pc := 212) C d_Md_readDecl_212 rfl 1 rfl ?_
            obtain ⟨σ16, e17, hm⟩ := bv_s hm
            refine z_callV (pc := 213) C (k_Md_readSides hAD e17) kz_Md_readSides mM_88 rfl rfl oM_0 rfl (kR_of (Nat.le_of_ble_eq_true rfl) (Nat.le_of_ble_eq_true rfl)) rfl (Nat.le_of_ble_eq_true rfl) d_Md_readDecl_213 ?_
            refine z_lv (lv' := [(0, .ref (ad 0))]) [0] rfl ?_
            exact w_Md_readDecl_216 hAD C hr σ16 hm
          · rw [if_pos c15] at hm
            refine z_aload_n (pc := 204) C d_Md_readDecl_204 rfl 0 rfl ?_
            obtain ⟨σ18, e19, hm⟩ := bv_s hm
            refine z_callV (pc := 205) C (k_Md_readClass hAD e19) kz_Md_readClass mM_89 rfl rfl oM_0 rfl (kR_of (Nat.le_of_ble_eq_true rfl) (Nat.le_of_ble_eq_true rfl)) rfl (Nat.le_of_ble_eq_true rfl) d_Md_readDecl_205 ?_
            refine z_goto (pc := 208) (tgt := 216) C d_Md_readDecl_208 (by decide) ?_
            refine z_lv (lv' := [(0, .ref (ad 0))]) [0] rfl ?_
            exact w_Md_readDecl_216 hAD C hr σ18 hm
        · rw [if_pos c9] at hm
          refine z_aload_n (pc := 92) C d_Md_readDecl_92 rfl 0 rfl ?_
          refine z_iconst (pc := 93) C d_Md_readDecl_93 ki_2 ?_
          refine z_aload_n (pc := 94) C d_Md_readDecl_94 rfl 0 rfl ?_
          refine gM_Md_238 (pc := 95) (v := (gi σ4 5)) C rfl d_Md_readDecl_95 ?_
          obtain ⟨σ20, e21, hm⟩ := bv_s hm
          refine z_callV (pc := 98) C (k_Md_wrong hAD e21) kz_Md_wrong mM_11 rfl rfl oM_0 rfl (kR_of (Nat.le_of_ble_eq_true rfl) (Nat.le_of_ble_eq_true rfl)) rfl (Nat.le_of_ble_eq_true rfl) d_Md_readDecl_98 ?_
          exact z_vretE (pc := 101) C hr hm d_Md_readDecl_101
      · rw [if_pos c8] at hm
        refine z_aload_n (pc := 78) C d_Md_readDecl_78 rfl 0 rfl ?_
        obtain ⟨σ22, e23, hm⟩ := bv_s hm
        refine z_callV (pc := 79) C (k_Md_readWish hAD e23) kz_Md_readWish mM_90 rfl rfl oM_0 rfl (kR_of (Nat.le_of_ble_eq_true rfl) (Nat.le_of_ble_eq_true rfl)) rfl (Nat.le_of_ble_eq_true rfl) d_Md_readDecl_79 ?_
        exact z_vretE (pc := 82) C hr hm d_Md_readDecl_82
    · rw [if_pos c7] at hm
      exact z_vretE (pc := 72) C hr hm d_Md_readDecl_72
  · rw [if_neg c1] at hm
    refine z_aload_n (pc := 55) C d_Md_readDecl_55 rfl 0 rfl ?_
    obtain ⟨σ24, e25, hm⟩ := bv_s hm
    refine z_callV (pc := 56) C (k_Md_cannot hAD e25) kz_Md_cannot mM_20 rfl rfl oM_0 rfl (kR_of (Nat.le_of_ble_eq_true rfl) (Nat.le_of_ble_eq_true rfl)) rfl (Nat.le_of_ble_eq_true rfl) d_Md_readDecl_56 ?_
    exact z_vretE (pc := 59) C hr hm d_Md_readDecl_59
set_option maxHeartbeats 4000000 in
set_option maxRecDepth 100000 in
theorem k_Md_readDecl {l : Launch} {D : va_G} {ad : Nat → Nat} {cA : Nat → ClassId} {F : Nat} (hAD : ∀ σ, va_D (owM ad) (wdM ad cA σ)) {σ : zS} {σ' : zS} (hm : Md_readDecl F σ = some σ') : kVM l D ad cA xTr y_Md_readDecl bc_Md_readDecl 2 10 [.ref (ad 0)] σ σ' := by
  refine kV_of (by decide) hAD xTr_P (Nat.le_of_ble_eq_true rfl) ?_
  intro p e s m below meth c C hr
  unfold Md_readDecl at hm
  refine z_lv (lv' := [(0, .ref (ad 0))]) [0] rfl ?_
  refine z_aload_n (pc := 0) C d_Md_readDecl_0 rfl 0 rfl ?_
  refine gM_Md_255 (pc := 1) (v := (gl σ 6)) C rfl d_Md_readDecl_1 ?_
  refine z_ldc2 (pc := 4) C mM_18 d_Md_readDecl_4 ?_
  refine z_lcmp (pc := 7) C d_Md_readDecl_7 ?_
  refine z_if_ne (pc := 8) (tgt := 15) C d_Md_readDecl_8 (by decide) (fun c1 => ?_) (fun c1 => ?_)
  · rw [if_neg c1] at hm
    refine z_aload_n (pc := 15) C d_Md_readDecl_15 rfl 0 rfl ?_
    refine gM_Md_255 (pc := 16) (v := (gl σ 6)) C rfl d_Md_readDecl_16 ?_
    refine z_ldc2 (pc := 19) C mM_16 d_Md_readDecl_19 ?_
    refine z_lcmp (pc := 22) C d_Md_readDecl_22 ?_
    refine z_if_ne (pc := 23) (tgt := 30) C d_Md_readDecl_23 (by decide) (fun c2 => ?_) (fun c2 => ?_)
    · rw [if_neg c2] at hm
      refine z_aload_n (pc := 30) C d_Md_readDecl_30 rfl 0 rfl ?_
      refine gM_Md_255 (pc := 31) (v := (gl σ 6)) C rfl d_Md_readDecl_31 ?_
      refine z_ldc2 (pc := 34) C mM_15 d_Md_readDecl_34 ?_
      refine z_lcmp (pc := 37) C d_Md_readDecl_37 ?_
      refine z_if_ne (pc := 38) (tgt := 45) C d_Md_readDecl_38 (by decide) (fun c3 => ?_) (fun c3 => ?_)
      · rw [if_neg c3] at hm
        refine z_iconst (pc := 45) C d_Md_readDecl_45 ki_3 ?_
        exact w_Md_readDecl_46 hAD C hr σ (3 : Int32) hm
      · rw [if_pos c3] at hm
        refine z_iconst (pc := 41) C d_Md_readDecl_41 ki_2 ?_
        refine z_goto (pc := 42) (tgt := 46) C d_Md_readDecl_42 (by decide) ?_
        exact w_Md_readDecl_46 hAD C hr σ (2 : Int32) hm
    · rw [if_pos c2] at hm
      refine z_iconst (pc := 26) C d_Md_readDecl_26 ki_1 ?_
      refine z_goto (pc := 27) (tgt := 46) C d_Md_readDecl_27 (by decide) ?_
      exact w_Md_readDecl_46 hAD C hr σ (1 : Int32) hm
  · rw [if_pos c1] at hm
    refine z_iconst (pc := 11) C d_Md_readDecl_11 ki_0 ?_
    refine z_goto (pc := 12) (tgt := 46) C d_Md_readDecl_12 (by decide) ?_
    exact w_Md_readDecl_46 hAD C hr σ (0 : Int32) hm
set_option maxHeartbeats 4000000 in
set_option maxRecDepth 100000 in
theorem w_Md_readText_78 {D : va_G} {ad : Nat → Nat} {cA : Nat → ClassId} {p : Program} {l : Launch} {e : Env} {s : State} {m : MethodId} {args : Array Value} {below : List Frame} {meth : Method} {c : Code} {F : Nat} (hAD : ∀ σ, va_D (owM ad) (wdM ad cA σ)) (C : CM D ad cA xTr p s m args meth c bc_Md_readText "KindRoundsModel" 1) (hr : meth.sig.returnType = none) {σ' : zS} (σ : zS) (hm : Md_readText_78 F σ = some σ') : ZM D ad cA p l e (rmK 11) s m args below meth c 1 (qvM D ad cA below args s σ') 78 [] [] σ := by
  unfold Md_readText_78 at hm
  exact z_vretE (pc := 78) C hr hm d_Md_readText_78
set_option maxHeartbeats 4000000 in
set_option maxRecDepth 100000 in
theorem w_Md_readText_50 {D : va_G} {ad : Nat → Nat} {cA : Nat → ClassId} {p : Program} {l : Launch} {e : Env} {s : State} {m : MethodId} {args : Array Value} {below : List Frame} {meth : Method} {c : Code} {F : Nat} (hAD : ∀ σ, va_D (owM ad) (wdM ad cA σ)) (C : CM D ad cA xTr p s m args meth c bc_Md_readText "KindRoundsModel" 1) (hr : meth.sig.returnType = none) {σ' : zS} : ∀ (n : Nat) (σ : zS), Md_readText_50 F n σ = some σ' → ZM D ad cA p l e (rmK 11) s m args below meth c 1 (qvM D ad cA below args s σ') 50 [(0, .ref (ad 0))] [] σ := by
  intro n
  induction n with
  | zero => intro σ hm; cases hm
  | succ n h50 =>
    intro σ hm
    have hm : Md_readText_b50 F (Md_readText_50 F n) σ = some σ' := hm
    unfold Md_readText_b50 at hm
    refine z_aload_n (pc := 50) C d_Md_readText_50 rfl 0 rfl ?_
    refine gM_Md_221 (pc := 51) (v := (gi σ 8)) C rfl d_Md_readText_51 ?_
    refine z_if_ne (pc := 54) (tgt := 78) C d_Md_readText_54 (by decide) (fun c1 => ?_) (fun c1 => ?_)
    · rw [if_neg c1] at hm
      refine z_lv (lv' := []) [] rfl ?_
      exact w_Md_readText_78 hAD C hr σ hm
    · rw [if_pos c1] at hm
      refine z_aload_n (pc := 57) C d_Md_readText_57 rfl 0 rfl ?_
      refine gM_Md_241 (pc := 58) (v := (gi σ 4)) C rfl d_Md_readText_58 ?_
      refine z_iconst (pc := 61) C d_Md_readText_61 ki_5 ?_
      refine z_icmp_eq (pc := 62) (tgt := 78) C d_Md_readText_62 (by decide) (fun c2 => ?_) (fun c2 => ?_)
      · rw [if_pos c2] at hm
        refine z_lv (lv' := []) [] rfl ?_
        exact w_Md_readText_78 hAD C hr σ hm
      · rw [if_neg c2] at hm
        refine z_aload_n (pc := 65) C d_Md_readText_65 rfl 0 rfl ?_
        obtain ⟨σ3, e4, hm⟩ := bv_s hm
        refine z_callV (pc := 66) C (k_Md_readDecl hAD e4) kz_Md_readDecl mM_103 rfl rfl oM_0 rfl (kR_of (Nat.le_of_ble_eq_true rfl) (Nat.le_of_ble_eq_true rfl)) rfl (Nat.le_of_ble_eq_true rfl) d_Md_readText_66 ?_
        refine z_aload_n (pc := 69) C d_Md_readText_69 rfl 0 rfl ?_
        refine z_bipush (pc := 70) C d_Md_readText_70 kb_59 ?_
        obtain ⟨σ5, e6, hm⟩ := bv_s hm
        refine z_callV (pc := 72) C (k_Md_want hAD e6) kz_Md_want mM_60 rfl rfl oM_0 rfl (kR_of (Nat.le_of_ble_eq_true rfl) (Nat.le_of_ble_eq_true rfl)) rfl (Nat.le_of_ble_eq_true rfl) d_Md_readText_72 ?_
        refine z_goto (pc := 75) (tgt := 50) C d_Md_readText_75 (by decide) ?_
        exact h50 σ5 hm
set_option maxHeartbeats 4000000 in
set_option maxRecDepth 100000 in
theorem k_Md_readText {l : Launch} {D : va_G} {ad : Nat → Nat} {cA : Nat → ClassId} {F : Nat} (hAD : ∀ σ, va_D (owM ad) (wdM ad cA σ)) {σ : zS} {σ' : zS} (hm : Md_readText F σ = some σ') : kVM l D ad cA xTr y_Md_readText bc_Md_readText 1 11 [.ref (ad 0)] σ σ' := by
  refine kV_of (by decide) hAD xTr_P (Nat.le_of_ble_eq_true rfl) ?_
  intro p e s m below meth c C hr
  unfold Md_readText at hm
  refine z_lv (lv' := [(0, .ref (ad 0))]) [0] rfl ?_
  refine z_aload_n (pc := 0) C d_Md_readText_0 rfl 0 rfl ?_
  refine z_iconst (pc := 1) C d_Md_readText_1 ki_0 ?_
  refine pM_Md_364 (pc := 2) C  d_Md_readText_2 ?_
  refine z_aload_n (pc := 5) C d_Md_readText_5 rfl 0 rfl ?_
  refine z_iconst (pc := 6) C d_Md_readText_6 ki_0 ?_
  refine pM_Md_373 (pc := 7) C  d_Md_readText_7 ?_
  refine z_aload_n (pc := 10) C d_Md_readText_10 rfl 0 rfl ?_
  refine z_iconst (pc := 11) C d_Md_readText_11 ki_0 ?_
  refine pM_Md_392 (pc := 12) C  d_Md_readText_12 ?_
  refine z_aload_n (pc := 15) C d_Md_readText_15 rfl 0 rfl ?_
  refine z_iconst (pc := 16) C d_Md_readText_16 ki_0 ?_
  refine pM_Md_279 (pc := 17) C  d_Md_readText_17 ?_
  refine z_aload_n (pc := 20) C d_Md_readText_20 rfl 0 rfl ?_
  refine z_iconst (pc := 21) C d_Md_readText_21 ki_0 ?_
  refine pM_Md_285 (pc := 22) C  d_Md_readText_22 ?_
  refine z_aload_n (pc := 25) C d_Md_readText_25 rfl 0 rfl ?_
  refine z_iconst (pc := 26) C d_Md_readText_26 ki_0 ?_
  refine pM_Md_288 (pc := 27) C  d_Md_readText_27 ?_
  refine z_aload_n (pc := 30) C d_Md_readText_30 rfl 0 rfl ?_
  refine z_iconst (pc := 31) C d_Md_readText_31 ki_0 ?_
  refine pM_Md_209 (pc := 32) C  d_Md_readText_32 ?_
  refine z_aload_n (pc := 35) C d_Md_readText_35 rfl 0 rfl ?_
  refine z_aload_n (pc := 36) C d_Md_readText_36 rfl 0 rfl ?_
  refine z_iconst (pc := 37) C d_Md_readText_37 ki_1 ?_
  refine z_iconst (pc := 38) C d_Md_readText_38 ki_0 ?_
  refine z_iconst (pc := 39) C d_Md_readText_39 ki_0 ?_
  obtain ⟨r2, σ1, e3, hm⟩ := bi_s hm
  refine z_callI (pc := 40) C (k_Md_newKind hAD e3) kz_Md_newKind mM_73 rfl rfl oM_0 rfl (kR_of (Nat.le_of_ble_eq_true rfl) (Nat.le_of_ble_eq_true rfl)) rfl (Nat.le_of_ble_eq_true rfl) d_Md_readText_40 ?_
  refine pM_Md_206 (pc := 43) C  d_Md_readText_43 ?_
  refine z_aload_n (pc := 46) C d_Md_readText_46 rfl 0 rfl ?_
  obtain ⟨σ4, e5, hm⟩ := bv_s hm
  refine z_callV (pc := 47) C (k_Md_begin hAD e5) kz_Md_begin mM_104 rfl rfl oM_0 rfl (kR_of (Nat.le_of_ble_eq_true rfl) (Nat.le_of_ble_eq_true rfl)) rfl (Nat.le_of_ble_eq_true rfl) d_Md_readText_47 ?_
  exact w_Md_readText_50 hAD C hr F σ4 hm
set_option maxHeartbeats 4000000 in
set_option maxRecDepth 100000 in
theorem w_Md_declOf_2 {D : va_G} {ad : Nat → Nat} {cA : Nat → ClassId} {p : Program} {l : Launch} {e : Env} {s : State} {m : MethodId} {args : Array Value} {below : List Frame} {meth : Method} {c : Code} {F : Nat} (hAD : ∀ σ, va_D (owM ad) (wdM ad cA σ)) (C : CM D ad cA xTr p s m args meth c bc_Md_declOf "KindRoundsModel" 4) (hr : meth.sig.returnType = some .int) {r : Int32} {σ' : zS} : ∀ (n : Nat) (σ : zS) (x1 : Int64) (x3 : Int32), Md_declOf_2 F n σ x1 x3 = some (r, σ') → ZM D ad cA p l e (rmK 0) s m args below meth c 4 (qiM D ad cA below args s r σ') 2 [(0, .ref (ad 0)), (1, .long x1), (3, .int x3)] [] σ := by
  intro n
  induction n with
  | zero => intro σ x1 x3 hm; cases hm
  | succ n h2 =>
    intro σ x1 x3 hm
    have hm : Md_declOf_b2 F (Md_declOf_2 F n) σ x1 x3 = some (r, σ') := hm
    unfold Md_declOf_b2 at hm
    refine z_iload_n (pc := 2) C d_Md_declOf_2 rfl 2 rfl ?_
    refine z_aload_n (pc := 3) C d_Md_declOf_3 rfl 0 rfl ?_
    refine gM_Md_364 (pc := 4) (v := (gi σ 52)) C rfl d_Md_declOf_4 ?_
    refine z_icmp_ge (pc := 7) (tgt := 29) C d_Md_declOf_7 (by decide) (fun c1 => ?_) (fun c1 => ?_)
    · rw [if_pos c1] at hm
      refine z_iconst (pc := 29) C d_Md_declOf_29 ki_m1 ?_
      exact z_iretE (pc := 30) C hr hm d_Md_declOf_30
    · rw [if_neg c1] at hm
      refine z_aload_n (pc := 10) C d_Md_declOf_10 rfl 0 rfl ?_
      refine gM_Md_115 (pc := 11) C  d_Md_declOf_11 ?_
      refine z_iload_n (pc := 14) C d_Md_declOf_14 rfl 2 rfl ?_
      obtain ⟨g2, hm⟩ := gd_s hm
      refine alM_34 (pc := 15) (v := (gb σ 34 x3.toNatClampNeg)) C  rfl g2 d_Md_declOf_15 ?_
      refine z_lload_n (pc := 16) C d_Md_declOf_16 rfl 1 rfl ?_
      refine z_lcmp (pc := 17) C d_Md_declOf_17 ?_
      refine z_if_ne (pc := 18) (tgt := 23) C d_Md_declOf_18 (by decide) (fun c3 => ?_) (fun c3 => ?_)
      · rw [if_neg c3] at hm
        refine z_iinc (pc := 23) (lv' := [(0, .ref (ad 0)), (1, .long x1), (3, .int (x3 + (1 : Int32)))]) C d_Md_declOf_23 2 rfl (ii ki_1) (Nat.le_of_ble_eq_true rfl) [1, 2, 0] rfl ?_
        refine z_goto (pc := 26) (tgt := 2) C d_Md_declOf_26 (by decide) ?_
        exact h2 σ x1 (x3 + (1 : Int32)) hm
      · rw [if_pos c3] at hm
        refine z_iload_n (pc := 21) C d_Md_declOf_21 rfl 2 rfl ?_
        exact z_iretE (pc := 22) C hr hm d_Md_declOf_22
set_option maxHeartbeats 4000000 in
set_option maxRecDepth 100000 in
theorem k_Md_declOf {l : Launch} {D : va_G} {ad : Nat → Nat} {cA : Nat → ClassId} {F : Nat} (hAD : ∀ σ, va_D (owM ad) (wdM ad cA σ)) {σ : zS} {x1 : Int64} {r : Int32} {σ' : zS} (hm : Md_declOf F σ x1 = some (r, σ')) : kIM l D ad cA xTr y_Md_declOf bc_Md_declOf 4 .int 0 [.ref (ad 0), .long x1] σ r σ' := by
  refine kI_of (by decide) hAD xTr_P (Nat.le_of_ble_eq_true rfl) ?_
  intro p e s m below meth c C hr
  unfold Md_declOf at hm
  refine z_lv (lv' := [(0, .ref (ad 0)), (1, .long x1)]) [0, 1] rfl ?_
  refine z_iconst (pc := 0) C d_Md_declOf_0 ki_0 ?_
  refine z_istore_n (pc := 1) (lv' := [(0, .ref (ad 0)), (1, .long x1), (3, .int (0 : Int32))]) C d_Md_declOf_1 rfl (Nat.le_of_ble_eq_true rfl) [1, 2, 0] rfl ?_
  exact w_Md_declOf_2 hAD C hr F σ x1 (0 : Int32) hm
set_option maxHeartbeats 4000000 in
set_option maxRecDepth 100000 in
theorem w_Md_typeOf_33 {D : va_G} {ad : Nat → Nat} {cA : Nat → ClassId} {p : Program} {l : Launch} {e : Env} {s : State} {m : MethodId} {args : Array Value} {below : List Frame} {meth : Method} {c : Code} {F : Nat} (hAD : ∀ σ, va_D (owM ad) (wdM ad cA σ)) (C : CM D ad cA xTr p s m args meth c bc_Md_typeOf "KindRoundsModel" 4) (hr : meth.sig.returnType = some .int) {r : Int32} {σ' : zS} (rc2 : zS → Int64 → Int32 → Option (Int32 × zS)) (h2 : ∀ σ x1 x3, rc2 σ x1 x3 = some (r, σ') → ZM D ad cA p l e (rmK 0) s m args below meth c 4 (qiM D ad cA below args s r σ') 2 [(0, .ref (ad 0)), (1, .long x1), (3, .int x3)] [] σ) (σ : zS) (x1 : Int64) (x3 : Int32) (hm : Md_typeOf_33 F rc2 σ x1 x3 = some (r, σ')) : ZM D ad cA p l e (rmK 0) s m args below meth c 4 (qiM D ad cA below args s r σ') 33 [(0, .ref (ad 0)), (1, .long x1), (3, .int x3)] [] σ := by
  unfold Md_typeOf_33 at hm
  refine z_iinc (pc := 33) (lv' := [(0, .ref (ad 0)), (1, .long x1), (3, .int (x3 + (1 : Int32)))]) C d_Md_typeOf_33 2 rfl (ii ki_1) (Nat.le_of_ble_eq_true rfl) [1, 2, 0] rfl ?_
  refine z_goto (pc := 36) (tgt := 2) C d_Md_typeOf_36 (by decide) ?_
  exact h2 σ x1 (x3 + (1 : Int32)) hm
set_option maxHeartbeats 4000000 in
set_option maxRecDepth 100000 in
theorem w_Md_typeOf_2 {D : va_G} {ad : Nat → Nat} {cA : Nat → ClassId} {p : Program} {l : Launch} {e : Env} {s : State} {m : MethodId} {args : Array Value} {below : List Frame} {meth : Method} {c : Code} {F : Nat} (hAD : ∀ σ, va_D (owM ad) (wdM ad cA σ)) (C : CM D ad cA xTr p s m args meth c bc_Md_typeOf "KindRoundsModel" 4) (hr : meth.sig.returnType = some .int) {r : Int32} {σ' : zS} : ∀ (n : Nat) (σ : zS) (x1 : Int64) (x3 : Int32), Md_typeOf_2 F n σ x1 x3 = some (r, σ') → ZM D ad cA p l e (rmK 0) s m args below meth c 4 (qiM D ad cA below args s r σ') 2 [(0, .ref (ad 0)), (1, .long x1), (3, .int x3)] [] σ := by
  intro n
  induction n with
  | zero => intro σ x1 x3 hm; cases hm
  | succ n h2 =>
    intro σ x1 x3 hm
    have hm : Md_typeOf_b2 F (Md_typeOf_2 F n) σ x1 x3 = some (r, σ') := hm
    unfold Md_typeOf_b2 at hm
    refine z_iload_n (pc := 2) C d_Md_typeOf_2 rfl 2 rfl ?_
    refine z_aload_n (pc := 3) C d_Md_typeOf_3 rfl 0 rfl ?_
    refine gM_Md_364 (pc := 4) (v := (gi σ 52)) C rfl d_Md_typeOf_4 ?_
    refine z_icmp_ge (pc := 7) (tgt := 39) C d_Md_typeOf_7 (by decide) (fun c1 => ?_) (fun c1 => ?_)
    · rw [if_pos c1] at hm
      refine z_iconst (pc := 39) C d_Md_typeOf_39 ki_m1 ?_
      exact z_iretE (pc := 40) C hr hm d_Md_typeOf_40
    · rw [if_neg c1] at hm
      refine z_aload_n (pc := 10) C d_Md_typeOf_10 rfl 0 rfl ?_
      refine gM_Md_115 (pc := 11) C  d_Md_typeOf_11 ?_
      refine z_iload_n (pc := 14) C d_Md_typeOf_14 rfl 2 rfl ?_
      obtain ⟨g2, hm⟩ := gd_s hm
      refine alM_34 (pc := 15) (v := (gb σ 34 x3.toNatClampNeg)) C  rfl g2 d_Md_typeOf_15 ?_
      refine z_lload_n (pc := 16) C d_Md_typeOf_16 rfl 1 rfl ?_
      refine z_lcmp (pc := 17) C d_Md_typeOf_17 ?_
      refine z_if_ne (pc := 18) (tgt := 33) C d_Md_typeOf_18 (by decide) (fun c3 => ?_) (fun c3 => ?_)
      · rw [if_neg c3] at hm
        exact w_Md_typeOf_33 hAD C hr _ h2 σ x1 x3 hm
      · rw [if_pos c3] at hm
        refine z_aload_n (pc := 21) C d_Md_typeOf_21 rfl 0 rfl ?_
        refine gM_Md_112 (pc := 22) C  d_Md_typeOf_22 ?_
        refine z_iload_n (pc := 25) C d_Md_typeOf_25 rfl 2 rfl ?_
        refine alM_33 (pc := 26) (v := (ga σ 33 x3.toNatClampNeg)) C  rfl g2 d_Md_typeOf_26 ?_
        refine z_iconst (pc := 27) C d_Md_typeOf_27 ki_2 ?_
        refine z_icmp_ge (pc := 28) (tgt := 33) C d_Md_typeOf_28 (by decide) (fun c4 => ?_) (fun c4 => ?_)
        · rw [if_pos c4] at hm
          exact w_Md_typeOf_33 hAD C hr _ h2 σ x1 x3 hm
        · rw [if_neg c4] at hm
          refine z_iload_n (pc := 31) C d_Md_typeOf_31 rfl 2 rfl ?_
          exact z_iretE (pc := 32) C hr hm d_Md_typeOf_32
set_option maxHeartbeats 4000000 in
set_option maxRecDepth 100000 in
theorem k_Md_typeOf {l : Launch} {D : va_G} {ad : Nat → Nat} {cA : Nat → ClassId} {F : Nat} (hAD : ∀ σ, va_D (owM ad) (wdM ad cA σ)) {σ : zS} {x1 : Int64} {r : Int32} {σ' : zS} (hm : Md_typeOf F σ x1 = some (r, σ')) : kIM l D ad cA xTr y_Md_typeOf bc_Md_typeOf 4 .int 0 [.ref (ad 0), .long x1] σ r σ' := by
  refine kI_of (by decide) hAD xTr_P (Nat.le_of_ble_eq_true rfl) ?_
  intro p e s m below meth c C hr
  unfold Md_typeOf at hm
  refine z_lv (lv' := [(0, .ref (ad 0)), (1, .long x1)]) [0, 1] rfl ?_
  refine z_iconst (pc := 0) C d_Md_typeOf_0 ki_0 ?_
  refine z_istore_n (pc := 1) (lv' := [(0, .ref (ad 0)), (1, .long x1), (3, .int (0 : Int32))]) C d_Md_typeOf_1 rfl (Nat.le_of_ble_eq_true rfl) [1, 2, 0] rfl ?_
  exact w_Md_typeOf_2 hAD C hr F σ x1 (0 : Int32) hm
set_option maxHeartbeats 4000000 in
set_option maxRecDepth 100000 in
theorem w_Md_isParam_3 {D : va_G} {ad : Nat → Nat} {cA : Nat → ClassId} {p : Program} {l : Launch} {e : Env} {s : State} {m : MethodId} {args : Array Value} {below : List Frame} {meth : Method} {c : Code} {F : Nat} (hAD : ∀ σ, va_D (owM ad) (wdM ad cA σ)) (C : CM D ad cA xTr p s m args meth c bc_Md_isParam "KindRoundsModel" 5) (hr : meth.sig.returnType = some .boolean) {r : Int32} {σ' : zS} : ∀ (n : Nat) (σ : zS) (x1 : Int32) (x2 : Int64) (x4 : Int32), Md_isParam_3 F n σ x1 x2 x4 = some (r, σ') → ZM D ad cA p l e (rmK 0) s m args below meth c 5 (qiM D ad cA below args s r σ') 3 [(0, .ref (ad 0)), (1, .int x1), (2, .long x2), (4, .int x4)] [] σ := by
  intro n
  induction n with
  | zero => intro σ x1 x2 x4 hm; cases hm
  | succ n h3 =>
    intro σ x1 x2 x4 hm
    have hm : Md_isParam_b3 F (Md_isParam_3 F n) σ x1 x2 x4 = some (r, σ') := hm
    unfold Md_isParam_b3 at hm
    refine z_iload (pc := 3) C d_Md_isParam_3 3 rfl ?_
    refine z_aload_n (pc := 5) C d_Md_isParam_5 rfl 0 rfl ?_
    refine gM_Md_121 (pc := 6) C  d_Md_isParam_6 ?_
    refine z_iload_n (pc := 9) C d_Md_isParam_9 rfl 1 rfl ?_
    obtain ⟨g1, hm⟩ := gd_s hm
    refine alM_36 (pc := 10) (v := (ga σ 36 x1.toNatClampNeg)) C  rfl g1 d_Md_isParam_10 ?_
    refine z_icmp_ge (pc := 11) (tgt := 38) C d_Md_isParam_11 (by decide) (fun c2 => ?_) (fun c2 => ?_)
    · rw [if_pos c2] at hm
      refine z_iconst (pc := 38) C d_Md_isParam_38 ki_0 ?_
      exact z_zretE (pc := 39) C hr (by decide) hm d_Md_isParam_39
    · rw [if_neg c2] at hm
      refine z_aload_n (pc := 14) C d_Md_isParam_14 rfl 0 rfl ?_
      refine gM_Md_124 (pc := 15) C  d_Md_isParam_15 ?_
      refine z_iconst (pc := 18) C d_Md_isParam_18 ki_3 ?_
      refine z_iload_n (pc := 19) C d_Md_isParam_19 rfl 1 rfl ?_
      refine z_imul (pc := 20) C d_Md_isParam_20 ?_
      refine z_iload (pc := 21) C d_Md_isParam_21 3 rfl ?_
      refine z_iadd (pc := 23) C d_Md_isParam_23 ?_
      obtain ⟨g3, hm⟩ := gd_s hm
      refine alM_37 (pc := 24) (v := (gb σ 37 (((3 : Int32) * x1) + x4).toNatClampNeg)) C  rfl g3 d_Md_isParam_24 ?_
      refine z_lload_n (pc := 25) C d_Md_isParam_25 rfl 2 rfl ?_
      refine z_lcmp (pc := 26) C d_Md_isParam_26 ?_
      refine z_if_ne (pc := 27) (tgt := 32) C d_Md_isParam_27 (by decide) (fun c4 => ?_) (fun c4 => ?_)
      · rw [if_neg c4] at hm
        refine z_iinc (pc := 32) (lv' := [(0, .ref (ad 0)), (1, .int x1), (2, .long x2), (4, .int (x4 + (1 : Int32)))]) C d_Md_isParam_32 3 rfl (ii ki_1) (Nat.le_of_ble_eq_true rfl) [1, 2, 3, 0] rfl ?_
        refine z_goto (pc := 35) (tgt := 3) C d_Md_isParam_35 (by decide) ?_
        exact h3 σ x1 x2 (x4 + (1 : Int32)) hm
      · rw [if_pos c4] at hm
        refine z_iconst (pc := 30) C d_Md_isParam_30 ki_1 ?_
        exact z_zretE (pc := 31) C hr (by decide) hm d_Md_isParam_31
set_option maxHeartbeats 4000000 in
set_option maxRecDepth 100000 in
theorem k_Md_isParam {l : Launch} {D : va_G} {ad : Nat → Nat} {cA : Nat → ClassId} {F : Nat} (hAD : ∀ σ, va_D (owM ad) (wdM ad cA σ)) {σ : zS} {x1 : Int32} {x2 : Int64} {r : Int32} {σ' : zS} (hm : Md_isParam F σ x1 x2 = some (r, σ')) : kIM l D ad cA xTr y_Md_isParam bc_Md_isParam 5 .boolean 0 [.ref (ad 0), .int x1, .long x2] σ r σ' := by
  refine kI_of (by decide) hAD xTr_P (Nat.le_of_ble_eq_true rfl) ?_
  intro p e s m below meth c C hr
  unfold Md_isParam at hm
  refine z_lv (lv' := [(0, .ref (ad 0)), (1, .int x1), (2, .long x2)]) [0, 1, 2] rfl ?_
  refine z_iconst (pc := 0) C d_Md_isParam_0 ki_0 ?_
  refine z_istore (pc := 1) (lv' := [(0, .ref (ad 0)), (1, .int x1), (2, .long x2), (4, .int (0 : Int32))]) C d_Md_isParam_1 (Nat.le_of_ble_eq_true rfl) [1, 2, 3, 0] rfl ?_
  exact w_Md_isParam_3 hAD C hr F σ x1 x2 (0 : Int32) hm
set_option maxHeartbeats 4000000 in
set_option maxRecDepth 100000 in
theorem w_Md_wasTold_65 {D : va_G} {ad : Nat → Nat} {cA : Nat → ClassId} {p : Program} {l : Launch} {e : Env} {s : State} {m : MethodId} {args : Array Value} {below : List Frame} {meth : Method} {c : Code} {F : Nat} (hAD : ∀ σ, va_D (owM ad) (wdM ad cA σ)) (C : CM D ad cA xTr p s m args meth c bc_Md_wasTold "KindRoundsModel" 3) (hr : meth.sig.returnType = some .boolean) {r : Int32} {σ' : zS} (rc2 : zS → Int32 → Int32 → Option (Int32 × zS)) (h2 : ∀ σ x1 x2, rc2 σ x1 x2 = some (r, σ') → ZM D ad cA p l e (rmK 0) s m args below meth c 3 (qiM D ad cA below args s r σ') 2 [(0, .ref (ad 0)), (1, .int x1), (2, .int x2)] [] σ) (σ : zS) (x1 : Int32) (x2 : Int32) (hm : Md_wasTold_65 F rc2 σ x1 x2 = some (r, σ')) : ZM D ad cA p l e (rmK 0) s m args below meth c 3 (qiM D ad cA below args s r σ') 65 [(0, .ref (ad 0)), (1, .int x1), (2, .int x2)] [] σ := by
  unfold Md_wasTold_65 at hm
  refine z_iinc (pc := 65) (lv' := [(0, .ref (ad 0)), (1, .int x1), (2, .int (x2 + (1 : Int32)))]) C d_Md_wasTold_65 2 rfl (ii ki_1) (Nat.le_of_ble_eq_true rfl) [1, 2, 0] rfl ?_
  refine z_goto (pc := 68) (tgt := 2) C d_Md_wasTold_68 (by decide) ?_
  exact h2 σ x1 (x2 + (1 : Int32)) hm
set_option maxHeartbeats 4000000 in
set_option maxRecDepth 100000 in
theorem w_Md_wasTold_63 {D : va_G} {ad : Nat → Nat} {cA : Nat → ClassId} {p : Program} {l : Launch} {e : Env} {s : State} {m : MethodId} {args : Array Value} {below : List Frame} {meth : Method} {c : Code} {F : Nat} (hAD : ∀ σ, va_D (owM ad) (wdM ad cA σ)) (C : CM D ad cA xTr p s m args meth c bc_Md_wasTold "KindRoundsModel" 3) (hr : meth.sig.returnType = some .boolean) {r : Int32} {σ' : zS} (σ : zS) (hm : Md_wasTold_63 F σ = some (r, σ')) : ZM D ad cA p l e (rmK 0) s m args below meth c 3 (qiM D ad cA below args s r σ') 63 [] [] σ := by
  unfold Md_wasTold_63 at hm
  refine z_iconst (pc := 63) C d_Md_wasTold_63 ki_1 ?_
  exact z_zretE (pc := 64) C hr (by decide) hm d_Md_wasTold_64
set_option maxHeartbeats 4000000 in
set_option maxRecDepth 100000 in
theorem w_Md_wasTold_2 {D : va_G} {ad : Nat → Nat} {cA : Nat → ClassId} {p : Program} {l : Launch} {e : Env} {s : State} {m : MethodId} {args : Array Value} {below : List Frame} {meth : Method} {c : Code} {F : Nat} (hAD : ∀ σ, va_D (owM ad) (wdM ad cA σ)) (C : CM D ad cA xTr p s m args meth c bc_Md_wasTold "KindRoundsModel" 3) (hr : meth.sig.returnType = some .boolean) {r : Int32} {σ' : zS} : ∀ (n : Nat) (σ : zS) (x1 : Int32) (x2 : Int32), Md_wasTold_2 F n σ x1 x2 = some (r, σ') → ZM D ad cA p l e (rmK 0) s m args below meth c 3 (qiM D ad cA below args s r σ') 2 [(0, .ref (ad 0)), (1, .int x1), (2, .int x2)] [] σ := by
  intro n
  induction n with
  | zero => intro σ x1 x2 hm; cases hm
  | succ n h2 =>
    intro σ x1 x2 hm
    have hm : Md_wasTold_b2 F (Md_wasTold_2 F n) σ x1 x2 = some (r, σ') := hm
    unfold Md_wasTold_b2 at hm
    refine z_iload_n (pc := 2) C d_Md_wasTold_2 rfl 2 rfl ?_
    refine z_iload_n (pc := 3) C d_Md_wasTold_3 rfl 1 rfl ?_
    refine z_icmp_ge (pc := 4) (tgt := 71) C d_Md_wasTold_4 (by decide) (fun c1 => ?_) (fun c1 => ?_)
    · rw [if_pos c1] at hm
      refine z_iconst (pc := 71) C d_Md_wasTold_71 ki_0 ?_
      exact z_zretE (pc := 72) C hr (by decide) hm d_Md_wasTold_72
    · rw [if_neg c1] at hm
      refine z_aload_n (pc := 7) C d_Md_wasTold_7 rfl 0 rfl ?_
      refine gM_Md_42 (pc := 8) C  d_Md_wasTold_8 ?_
      refine z_iload_n (pc := 11) C d_Md_wasTold_11 rfl 2 rfl ?_
      obtain ⟨g2, hm⟩ := gd_s hm
      refine alM_10 (pc := 12) (v := (ga σ 10 x2.toNatClampNeg)) C  rfl g2 d_Md_wasTold_12 ?_
      refine z_aload_n (pc := 13) C d_Md_wasTold_13 rfl 0 rfl ?_
      refine gM_Md_42 (pc := 14) C  d_Md_wasTold_14 ?_
      refine z_iload_n (pc := 17) C d_Md_wasTold_17 rfl 1 rfl ?_
      obtain ⟨g3, hm⟩ := gd_s hm
      refine alM_10 (pc := 18) (v := (ga σ 10 x1.toNatClampNeg)) C  rfl g3 d_Md_wasTold_18 ?_
      refine z_icmp_ne (pc := 19) (tgt := 65) C d_Md_wasTold_19 (by decide) (fun c4 => ?_) (fun c4 => ?_)
      · rw [if_neg c4] at hm
        exact w_Md_wasTold_65 hAD C hr _ h2 σ x1 x2 hm
      · rw [if_pos c4] at hm
        refine z_aload_n (pc := 22) C d_Md_wasTold_22 rfl 0 rfl ?_
        refine gM_Md_45 (pc := 23) C  d_Md_wasTold_23 ?_
        refine z_iload_n (pc := 26) C d_Md_wasTold_26 rfl 2 rfl ?_
        refine alM_11 (pc := 27) (v := (gb σ 11 x2.toNatClampNeg)) C  rfl g2 d_Md_wasTold_27 ?_
        refine z_aload_n (pc := 28) C d_Md_wasTold_28 rfl 0 rfl ?_
        refine gM_Md_45 (pc := 29) C  d_Md_wasTold_29 ?_
        refine z_iload_n (pc := 32) C d_Md_wasTold_32 rfl 1 rfl ?_
        refine alM_11 (pc := 33) (v := (gb σ 11 x1.toNatClampNeg)) C  rfl g3 d_Md_wasTold_33 ?_
        refine z_lcmp (pc := 34) C d_Md_wasTold_34 ?_
        refine z_if_ne (pc := 35) (tgt := 65) C d_Md_wasTold_35 (by decide) (fun c5 => ?_) (fun c5 => ?_)
        · rw [if_neg c5] at hm
          exact w_Md_wasTold_65 hAD C hr _ h2 σ x1 x2 hm
        · rw [if_pos c5] at hm
          refine z_aload_n (pc := 38) C d_Md_wasTold_38 rfl 0 rfl ?_
          refine gM_Md_42 (pc := 39) C  d_Md_wasTold_39 ?_
          refine z_iload_n (pc := 42) C d_Md_wasTold_42 rfl 1 rfl ?_
          refine alM_10 (pc := 43) (v := (ga σ 10 x1.toNatClampNeg)) C  rfl g3 d_Md_wasTold_43 ?_
          refine z_iconst (pc := 44) C d_Md_wasTold_44 ki_1 ?_
          refine z_icmp_ne (pc := 45) (tgt := 63) C d_Md_wasTold_45 (by decide) (fun c6 => ?_) (fun c6 => ?_)
          · rw [if_neg c6] at hm
            refine z_lv (lv' := []) [] rfl ?_
            exact w_Md_wasTold_63 hAD C hr σ hm
          · rw [if_pos c6] at hm
            refine z_aload_n (pc := 48) C d_Md_wasTold_48 rfl 0 rfl ?_
            refine gM_Md_51 (pc := 49) C  d_Md_wasTold_49 ?_
            refine z_iload_n (pc := 52) C d_Md_wasTold_52 rfl 2 rfl ?_
            refine alM_13 (pc := 53) (v := (ga σ 13 x2.toNatClampNeg)) C  rfl g2 d_Md_wasTold_53 ?_
            refine z_aload_n (pc := 54) C d_Md_wasTold_54 rfl 0 rfl ?_
            refine gM_Md_51 (pc := 55) C  d_Md_wasTold_55 ?_
            refine z_iload_n (pc := 58) C d_Md_wasTold_58 rfl 1 rfl ?_
            refine alM_13 (pc := 59) (v := (ga σ 13 x1.toNatClampNeg)) C  rfl g3 d_Md_wasTold_59 ?_
            refine z_icmp_ne (pc := 60) (tgt := 65) C d_Md_wasTold_60 (by decide) (fun c7 => ?_) (fun c7 => ?_)
            · rw [if_neg c7] at hm
              exact w_Md_wasTold_65 hAD C hr _ h2 σ x1 x2 hm
            · rw [if_pos c7] at hm
              refine z_lv (lv' := []) [] rfl ?_
              exact w_Md_wasTold_63 hAD C hr σ hm
set_option maxHeartbeats 4000000 in
set_option maxRecDepth 100000 in
theorem k_Md_wasTold {l : Launch} {D : va_G} {ad : Nat → Nat} {cA : Nat → ClassId} {F : Nat} (hAD : ∀ σ, va_D (owM ad) (wdM ad cA σ)) {σ : zS} {x1 : Int32} {r : Int32} {σ' : zS} (hm : Md_wasTold F σ x1 = some (r, σ')) : kIM l D ad cA xTr y_Md_wasTold bc_Md_wasTold 3 .boolean 0 [.ref (ad 0), .int x1] σ r σ' := by
  refine kI_of (by decide) hAD xTr_P (Nat.le_of_ble_eq_true rfl) ?_
  intro p e s m below meth c C hr
  unfold Md_wasTold at hm
  refine z_lv (lv' := [(0, .ref (ad 0)), (1, .int x1)]) [0, 1] rfl ?_
  refine z_iconst (pc := 0) C d_Md_wasTold_0 ki_0 ?_
  refine z_istore_n (pc := 1) (lv' := [(0, .ref (ad 0)), (1, .int x1), (2, .int (0 : Int32))]) C d_Md_wasTold_1 rfl (Nat.le_of_ble_eq_true rfl) [1, 2, 0] rfl ?_
  exact w_Md_wasTold_2 hAD C hr F σ x1 (0 : Int32) hm
set_option maxHeartbeats 4000000 in
set_option maxRecDepth 100000 in
theorem w_Md_isWrongName_130 {D : va_G} {ad : Nat → Nat} {cA : Nat → ClassId} {p : Program} {l : Launch} {e : Env} {s : State} {m : MethodId} {args : Array Value} {below : List Frame} {meth : Method} {c : Code} {F : Nat} (hAD : ∀ σ, va_D (owM ad) (wdM ad cA σ)) (C : CM D ad cA xTr p s m args meth c bc_Md_isWrongName "KindRoundsModel" 6) (hr : meth.sig.returnType = some .boolean) {r : Int32} {σ' : zS} (σ : zS) (s0 : Int32) (hm : Md_isWrongName_130 F σ s0 = some (r, σ')) : ZM D ad cA p l e (rmK 1) s m args below meth c 6 (qiM D ad cA below args s r σ') 130 [] [.int s0] σ := by
  unfold Md_isWrongName_130 at hm
  obtain ⟨g1, hm⟩ := gd_s hm
  exact z_zretE (pc := 130) C hr g1 hm d_Md_isWrongName_130
set_option maxHeartbeats 4000000 in
set_option maxRecDepth 100000 in
theorem w_Md_isWrongName_125 {D : va_G} {ad : Nat → Nat} {cA : Nat → ClassId} {p : Program} {l : Launch} {e : Env} {s : State} {m : MethodId} {args : Array Value} {below : List Frame} {meth : Method} {c : Code} {F : Nat} (hAD : ∀ σ, va_D (owM ad) (wdM ad cA σ)) (C : CM D ad cA xTr p s m args meth c bc_Md_isWrongName "KindRoundsModel" 6) (hr : meth.sig.returnType = some .boolean) {r : Int32} {σ' : zS} (σ : zS) (hm : Md_isWrongName_125 F σ = some (r, σ')) : ZM D ad cA p l e (rmK 1) s m args below meth c 6 (qiM D ad cA below args s r σ') 125 [] [] σ := by
  unfold Md_isWrongName_125 at hm
  refine z_iconst (pc := 125) C d_Md_isWrongName_125 ki_1 ?_
  refine z_goto (pc := 126) (tgt := 130) C d_Md_isWrongName_126 (by decide) ?_
  exact w_Md_isWrongName_130 hAD C hr σ (1 : Int32) hm
set_option maxHeartbeats 4000000 in
set_option maxRecDepth 100000 in
theorem w_Md_isWrongName_129 {D : va_G} {ad : Nat → Nat} {cA : Nat → ClassId} {p : Program} {l : Launch} {e : Env} {s : State} {m : MethodId} {args : Array Value} {below : List Frame} {meth : Method} {c : Code} {F : Nat} (hAD : ∀ σ, va_D (owM ad) (wdM ad cA σ)) (C : CM D ad cA xTr p s m args meth c bc_Md_isWrongName "KindRoundsModel" 6) (hr : meth.sig.returnType = some .boolean) {r : Int32} {σ' : zS} (σ : zS) (hm : Md_isWrongName_129 F σ = some (r, σ')) : ZM D ad cA p l e (rmK 1) s m args below meth c 6 (qiM D ad cA below args s r σ') 129 [] [] σ := by
  unfold Md_isWrongName_129 at hm
  refine z_iconst (pc := 129) C d_Md_isWrongName_129 ki_0 ?_
  exact w_Md_isWrongName_130 hAD C hr σ (0 : Int32) hm
set_option maxHeartbeats 4000000 in
set_option maxRecDepth 100000 in
theorem w_Md_isWrongName_111 {D : va_G} {ad : Nat → Nat} {cA : Nat → ClassId} {p : Program} {l : Launch} {e : Env} {s : State} {m : MethodId} {args : Array Value} {below : List Frame} {meth : Method} {c : Code} {F : Nat} (hAD : ∀ σ, va_D (owM ad) (wdM ad cA σ)) (C : CM D ad cA xTr p s m args meth c bc_Md_isWrongName "KindRoundsModel" 6) (hr : meth.sig.returnType = some .boolean) {r : Int32} {σ' : zS} (σ : zS) (x3 : Int32) (x4 : Int64) (hm : Md_isWrongName_111 F σ x3 x4 = some (r, σ')) : ZM D ad cA p l e (rmK 1) s m args below meth c 6 (qiM D ad cA below args s r σ') 111 [(0, .ref (ad 0)), (3, .int x3), (4, .long x4)] [] σ := by
  unfold Md_isWrongName_111 at hm
  refine z_iload_n (pc := 111) C d_Md_isWrongName_111 rfl 1 rfl ?_
  refine z_iconst (pc := 112) C d_Md_isWrongName_112 ki_4 ?_
  refine z_icmp_ne (pc := 113) (tgt := 129) C d_Md_isWrongName_113 (by decide) (fun c1 => ?_) (fun c1 => ?_)
  · rw [if_neg c1] at hm
    refine z_lv (lv' := []) [] rfl ?_
    exact w_Md_isWrongName_129 hAD C hr σ hm
  · rw [if_pos c1] at hm
    refine z_aload_n (pc := 116) C d_Md_isWrongName_116 rfl 0 rfl ?_
    refine z_lload (pc := 117) C d_Md_isWrongName_117 2 rfl ?_
    obtain ⟨r3, σ2, e4, hm⟩ := bi_s hm
    refine z_callI (pc := 119) C (k_Md_declOf hAD e4) kz_Md_declOf mM_105 rfl rfl oM_0 rfl (kR_of (Nat.le_of_ble_eq_true rfl) (Nat.le_of_ble_eq_true rfl)) rfl (Nat.le_of_ble_eq_true rfl) d_Md_isWrongName_119 ?_
    refine z_if_ge (pc := 122) (tgt := 129) C d_Md_isWrongName_122 (by decide) (fun c5 => ?_) (fun c5 => ?_)
    · rw [if_pos c5] at hm
      refine z_lv (lv' := []) [] rfl ?_
      exact w_Md_isWrongName_129 hAD C hr σ2 hm
    · rw [if_neg c5] at hm
      refine z_lv (lv' := []) [] rfl ?_
      exact w_Md_isWrongName_125 hAD C hr σ2 hm
set_option maxHeartbeats 4000000 in
set_option maxRecDepth 100000 in
theorem w_Md_isWrongName_89 {D : va_G} {ad : Nat → Nat} {cA : Nat → ClassId} {p : Program} {l : Launch} {e : Env} {s : State} {m : MethodId} {args : Array Value} {below : List Frame} {meth : Method} {c : Code} {F : Nat} (hAD : ∀ σ, va_D (owM ad) (wdM ad cA σ)) (C : CM D ad cA xTr p s m args meth c bc_Md_isWrongName "KindRoundsModel" 6) (hr : meth.sig.returnType = some .boolean) {r : Int32} {σ' : zS} (σ : zS) (s0 : Int32) (hm : Md_isWrongName_89 F σ s0 = some (r, σ')) : ZM D ad cA p l e (rmK 1) s m args below meth c 6 (qiM D ad cA below args s r σ') 89 [] [.int s0] σ := by
  unfold Md_isWrongName_89 at hm
  obtain ⟨g1, hm⟩ := gd_s hm
  exact z_zretE (pc := 89) C hr g1 hm d_Md_isWrongName_89
set_option maxHeartbeats 4000000 in
set_option maxRecDepth 100000 in
theorem w_Md_isWrongName_88 {D : va_G} {ad : Nat → Nat} {cA : Nat → ClassId} {p : Program} {l : Launch} {e : Env} {s : State} {m : MethodId} {args : Array Value} {below : List Frame} {meth : Method} {c : Code} {F : Nat} (hAD : ∀ σ, va_D (owM ad) (wdM ad cA σ)) (C : CM D ad cA xTr p s m args meth c bc_Md_isWrongName "KindRoundsModel" 6) (hr : meth.sig.returnType = some .boolean) {r : Int32} {σ' : zS} (σ : zS) (hm : Md_isWrongName_88 F σ = some (r, σ')) : ZM D ad cA p l e (rmK 1) s m args below meth c 6 (qiM D ad cA below args s r σ') 88 [] [] σ := by
  unfold Md_isWrongName_88 at hm
  refine z_iconst (pc := 88) C d_Md_isWrongName_88 ki_0 ?_
  exact w_Md_isWrongName_89 hAD C hr σ (0 : Int32) hm
set_option maxHeartbeats 4000000 in
set_option maxRecDepth 100000 in
theorem w_Md_isWrongName_43 {D : va_G} {ad : Nat → Nat} {cA : Nat → ClassId} {p : Program} {l : Launch} {e : Env} {s : State} {m : MethodId} {args : Array Value} {below : List Frame} {meth : Method} {c : Code} {F : Nat} (hAD : ∀ σ, va_D (owM ad) (wdM ad cA σ)) (C : CM D ad cA xTr p s m args meth c bc_Md_isWrongName "KindRoundsModel" 6) (hr : meth.sig.returnType = some .boolean) {r : Int32} {σ' : zS} (σ : zS) (s0 : Int32) (hm : Md_isWrongName_43 F σ s0 = some (r, σ')) : ZM D ad cA p l e (rmK 1) s m args below meth c 6 (qiM D ad cA below args s r σ') 43 [] [.int s0] σ := by
  unfold Md_isWrongName_43 at hm
  obtain ⟨g1, hm⟩ := gd_s hm
  exact z_zretE (pc := 43) C hr g1 hm d_Md_isWrongName_43
set_option maxHeartbeats 4000000 in
set_option maxRecDepth 100000 in
theorem w_Md_isWrongName_42 {D : va_G} {ad : Nat → Nat} {cA : Nat → ClassId} {p : Program} {l : Launch} {e : Env} {s : State} {m : MethodId} {args : Array Value} {below : List Frame} {meth : Method} {c : Code} {F : Nat} (hAD : ∀ σ, va_D (owM ad) (wdM ad cA σ)) (C : CM D ad cA xTr p s m args meth c bc_Md_isWrongName "KindRoundsModel" 6) (hr : meth.sig.returnType = some .boolean) {r : Int32} {σ' : zS} (σ : zS) (hm : Md_isWrongName_42 F σ = some (r, σ')) : ZM D ad cA p l e (rmK 1) s m args below meth c 6 (qiM D ad cA below args s r σ') 42 [] [] σ := by
  unfold Md_isWrongName_42 at hm
  refine z_iconst (pc := 42) C d_Md_isWrongName_42 ki_0 ?_
  exact w_Md_isWrongName_43 hAD C hr σ (0 : Int32) hm
set_option maxHeartbeats 4000000 in
set_option maxRecDepth 100000 in
theorem k_Md_isWrongName {l : Launch} {D : va_G} {ad : Nat → Nat} {cA : Nat → ClassId} {F : Nat} (hAD : ∀ σ, va_D (owM ad) (wdM ad cA σ)) {σ : zS} {x1 : Int32} {x2 : Int32} {r : Int32} {σ' : zS} (hm : Md_isWrongName F σ x1 x2 = some (r, σ')) : kIM l D ad cA xTr y_Md_isWrongName bc_Md_isWrongName 6 .boolean 1 [.ref (ad 0), .int x1, .int x2] σ r σ' := by
  refine kI_of (by decide) hAD xTr_P (Nat.le_of_ble_eq_true rfl) ?_
  intro p e s m below meth c C hr
  unfold Md_isWrongName at hm
  refine z_lv (lv' := [(0, .ref (ad 0)), (1, .int x1), (2, .int x2)]) [0, 1, 2] rfl ?_
  refine z_aload_n (pc := 0) C d_Md_isWrongName_0 rfl 0 rfl ?_
  refine gM_Md_42 (pc := 1) C  d_Md_isWrongName_1 ?_
  refine z_iload_n (pc := 4) C d_Md_isWrongName_4 rfl 1 rfl ?_
  obtain ⟨g1, hm⟩ := gd_s hm
  refine alM_10 (pc := 5) (v := (ga σ 10 x1.toNatClampNeg)) C  rfl g1 d_Md_isWrongName_5 ?_
  refine z_istore_n (pc := 6) (lv' := [(0, .ref (ad 0)), (1, .int x1), (2, .int x2), (3, .int (ga σ 10 x1.toNatClampNeg))]) C d_Md_isWrongName_6 rfl (Nat.le_of_ble_eq_true rfl) [1, 2, 3, 0] rfl ?_
  refine z_aload_n (pc := 7) C d_Md_isWrongName_7 rfl 0 rfl ?_
  refine gM_Md_45 (pc := 8) C  d_Md_isWrongName_8 ?_
  refine z_iload_n (pc := 11) C d_Md_isWrongName_11 rfl 1 rfl ?_
  refine alM_11 (pc := 12) (v := (gb σ 11 x1.toNatClampNeg)) C  rfl g1 d_Md_isWrongName_12 ?_
  refine z_lstore (pc := 13) (lv' := [(0, .ref (ad 0)), (1, .int x1), (2, .int x2), (3, .int (ga σ 10 x1.toNatClampNeg)), (4, .long (gb σ 11 x1.toNatClampNeg))]) C d_Md_isWrongName_13 (Nat.le_of_ble_eq_true rfl) [1, 2, 3, 4, 0] rfl ?_
  refine z_iload_n (pc := 15) C d_Md_isWrongName_15 rfl 3 rfl ?_
  refine z_iconst (pc := 16) C d_Md_isWrongName_16 ki_5 ?_
  refine z_icmp_ne (pc := 17) (tgt := 44) C d_Md_isWrongName_17 (by decide) (fun c2 => ?_) (fun c2 => ?_)
  · rw [if_neg c2] at hm
    refine z_iload_n (pc := 44) C d_Md_isWrongName_44 rfl 3 rfl ?_
    refine z_bipush (pc := 45) C d_Md_isWrongName_45 kb_6 ?_
    refine z_icmp_ne (pc := 47) (tgt := 90) C d_Md_isWrongName_47 (by decide) (fun c3 => ?_) (fun c3 => ?_)
    · rw [if_neg c3] at hm
      refine z_aload_n (pc := 90) C d_Md_isWrongName_90 rfl 0 rfl ?_
      refine z_iload_n (pc := 91) C d_Md_isWrongName_91 rfl 1 rfl ?_
      obtain ⟨r5, σ4, e6, hm⟩ := bi_s hm
      refine z_callI (pc := 92) C (k_Md_wasTold hAD e6) kz_Md_wasTold mM_106 rfl rfl oM_0 rfl (kR_of (Nat.le_of_ble_eq_true rfl) (Nat.le_of_ble_eq_true rfl)) rfl (Nat.le_of_ble_eq_true rfl) d_Md_isWrongName_92 ?_
      refine z_if_ne (pc := 95) (tgt := 125) C d_Md_isWrongName_95 (by decide) (fun c7 => ?_) (fun c7 => ?_)
      · rw [if_neg c7] at hm
        refine z_lv (lv' := []) [] rfl ?_
        exact w_Md_isWrongName_125 hAD C hr σ4 hm
      · rw [if_pos c7] at hm
        refine z_iload_n (pc := 98) C d_Md_isWrongName_98 rfl 3 rfl ?_
        refine z_if_ne (pc := 99) (tgt := 111) C d_Md_isWrongName_99 (by decide) (fun c8 => ?_) (fun c8 => ?_)
        · rw [if_neg c8] at hm
          refine z_lv (lv' := [(0, .ref (ad 0)), (3, .int (ga σ 10 x1.toNatClampNeg)), (4, .long (gb σ 11 x1.toNatClampNeg))]) [0, 3, 4] rfl ?_
          exact w_Md_isWrongName_111 hAD C hr σ4 (ga σ 10 x1.toNatClampNeg) (gb σ 11 x1.toNatClampNeg) hm
        · rw [if_pos c8] at hm
          refine z_lload (pc := 102) C d_Md_isWrongName_102 4 rfl ?_
          refine z_ldc2 (pc := 104) C mM_107 d_Md_isWrongName_104 ?_
          refine z_lcmp (pc := 107) C d_Md_isWrongName_107 ?_
          refine z_if_eq (pc := 108) (tgt := 125) C d_Md_isWrongName_108 (by decide) (fun c9 => ?_) (fun c9 => ?_)
          · rw [if_pos c9] at hm
            refine z_lv (lv' := []) [] rfl ?_
            exact w_Md_isWrongName_125 hAD C hr σ4 hm
          · rw [if_neg c9] at hm
            refine z_lv (lv' := [(0, .ref (ad 0)), (3, .int (ga σ 10 x1.toNatClampNeg)), (4, .long (gb σ 11 x1.toNatClampNeg))]) [0, 3, 4] rfl ?_
            exact w_Md_isWrongName_111 hAD C hr σ4 (ga σ 10 x1.toNatClampNeg) (gb σ 11 x1.toNatClampNeg) hm
    · rw [if_pos c3] at hm
      refine z_iload_n (pc := 50) C d_Md_isWrongName_50 rfl 2 rfl ?_
      refine z_if_eq (pc := 51) (tgt := 88) C d_Md_isWrongName_51 (by decide) (fun c10 => ?_) (fun c10 => ?_)
      · rw [if_pos c10] at hm
        refine z_lv (lv' := []) [] rfl ?_
        exact w_Md_isWrongName_88 hAD C hr σ hm
      · rw [if_neg c10] at hm
        refine z_aload_n (pc := 54) C d_Md_isWrongName_54 rfl 0 rfl ?_
        refine gM_Md_112 (pc := 55) C  d_Md_isWrongName_55 ?_
        refine z_aload_n (pc := 58) C d_Md_isWrongName_58 rfl 0 rfl ?_
        refine gM_Md_51 (pc := 59) C  d_Md_isWrongName_59 ?_
        refine z_iload_n (pc := 62) C d_Md_isWrongName_62 rfl 1 rfl ?_
        refine alM_13 (pc := 63) (v := (ga σ 13 x1.toNatClampNeg)) C  rfl g1 d_Md_isWrongName_63 ?_
        obtain ⟨g11, hm⟩ := gd_s hm
        refine alM_33 (pc := 64) (v := (ga σ 33 (ga σ 13 x1.toNatClampNeg).toNatClampNeg)) C  rfl g11 d_Md_isWrongName_64 ?_
        refine z_iconst (pc := 65) C d_Md_isWrongName_65 ki_2 ?_
        refine z_icmp_ge (pc := 66) (tgt := 88) C d_Md_isWrongName_66 (by decide) (fun c12 => ?_) (fun c12 => ?_)
        · rw [if_pos c12] at hm
          refine z_lv (lv' := []) [] rfl ?_
          exact w_Md_isWrongName_88 hAD C hr σ hm
        · rw [if_neg c12] at hm
          refine z_aload_n (pc := 69) C d_Md_isWrongName_69 rfl 0 rfl ?_
          refine z_aload_n (pc := 70) C d_Md_isWrongName_70 rfl 0 rfl ?_
          refine gM_Md_51 (pc := 71) C  d_Md_isWrongName_71 ?_
          refine z_iload_n (pc := 74) C d_Md_isWrongName_74 rfl 1 rfl ?_
          refine alM_13 (pc := 75) (v := (ga σ 13 x1.toNatClampNeg)) C  rfl g1 d_Md_isWrongName_75 ?_
          refine z_lload (pc := 76) C d_Md_isWrongName_76 4 rfl ?_
          obtain ⟨r14, σ13, e15, hm⟩ := bi_s hm
          refine z_callI (pc := 78) C (k_Md_isParam hAD e15) kz_Md_isParam mM_108 rfl rfl oM_0 rfl (kR_of (Nat.le_of_ble_eq_true rfl) (Nat.le_of_ble_eq_true rfl)) rfl (Nat.le_of_ble_eq_true rfl) d_Md_isWrongName_78 ?_
          refine z_if_ne (pc := 81) (tgt := 88) C d_Md_isWrongName_81 (by decide) (fun c16 => ?_) (fun c16 => ?_)
          · rw [if_neg c16] at hm
            refine z_lv (lv' := []) [] rfl ?_
            exact w_Md_isWrongName_88 hAD C hr σ13 hm
          · rw [if_pos c16] at hm
            refine z_iconst (pc := 84) C d_Md_isWrongName_84 ki_1 ?_
            refine z_goto (pc := 85) (tgt := 89) C d_Md_isWrongName_85 (by decide) ?_
            refine z_lv (lv' := []) [] rfl ?_
            exact w_Md_isWrongName_89 hAD C hr σ13 (1 : Int32) hm
  · rw [if_pos c2] at hm
    refine z_lload (pc := 20) C d_Md_isWrongName_20 4 rfl ?_
    refine z_ldc2 (pc := 22) C mM_107 d_Md_isWrongName_22 ?_
    refine z_lcmp (pc := 25) C d_Md_isWrongName_25 ?_
    refine z_if_eq (pc := 26) (tgt := 42) C d_Md_isWrongName_26 (by decide) (fun c17 => ?_) (fun c17 => ?_)
    · rw [if_pos c17] at hm
      refine z_lv (lv' := []) [] rfl ?_
      exact w_Md_isWrongName_42 hAD C hr σ hm
    · rw [if_neg c17] at hm
      refine z_aload_n (pc := 29) C d_Md_isWrongName_29 rfl 0 rfl ?_
      refine z_lload (pc := 30) C d_Md_isWrongName_30 4 rfl ?_
      obtain ⟨r19, σ18, e20, hm⟩ := bi_s hm
      refine z_callI (pc := 32) C (k_Md_typeOf hAD e20) kz_Md_typeOf mM_109 rfl rfl oM_0 rfl (kR_of (Nat.le_of_ble_eq_true rfl) (Nat.le_of_ble_eq_true rfl)) rfl (Nat.le_of_ble_eq_true rfl) d_Md_isWrongName_32 ?_
      refine z_if_ge (pc := 35) (tgt := 42) C d_Md_isWrongName_35 (by decide) (fun c21 => ?_) (fun c21 => ?_)
      · rw [if_pos c21] at hm
        refine z_lv (lv' := []) [] rfl ?_
        exact w_Md_isWrongName_42 hAD C hr σ18 hm
      · rw [if_neg c21] at hm
        refine z_iconst (pc := 38) C d_Md_isWrongName_38 ki_1 ?_
        refine z_goto (pc := 39) (tgt := 43) C d_Md_isWrongName_39 (by decide) ?_
        refine z_lv (lv' := []) [] rfl ?_
        exact w_Md_isWrongName_43 hAD C hr σ18 (1 : Int32) hm
set_option maxHeartbeats 4000000 in
set_option maxRecDepth 100000 in
theorem w_Md_lookNames_43 {D : va_G} {ad : Nat → Nat} {cA : Nat → ClassId} {p : Program} {l : Launch} {e : Env} {s : State} {m : MethodId} {args : Array Value} {below : List Frame} {meth : Method} {c : Code} {F : Nat} (hAD : ∀ σ, va_D (owM ad) (wdM ad cA σ)) (C : CM D ad cA xTr p s m args meth c bc_Md_lookNames "KindRoundsModel" 3) (hr : meth.sig.returnType = none) {σ' : zS} (σ : zS) (hm : Md_lookNames_43 F σ = some σ') : ZM D ad cA p l e (rmK 2) s m args below meth c 3 (qvM D ad cA below args s σ') 43 [] [] σ := by
  unfold Md_lookNames_43 at hm
  exact z_vretE (pc := 43) C hr hm d_Md_lookNames_43
set_option maxHeartbeats 4000000 in
set_option maxRecDepth 100000 in
theorem w_Md_lookNames_37 {D : va_G} {ad : Nat → Nat} {cA : Nat → ClassId} {p : Program} {l : Launch} {e : Env} {s : State} {m : MethodId} {args : Array Value} {below : List Frame} {meth : Method} {c : Code} {F : Nat} (hAD : ∀ σ, va_D (owM ad) (wdM ad cA σ)) (C : CM D ad cA xTr p s m args meth c bc_Md_lookNames "KindRoundsModel" 3) (hr : meth.sig.returnType = none) {σ' : zS} (rc2 : zS → Int32 → Int32 → Option zS) (h2 : ∀ σ x1 x2, rc2 σ x1 x2 = some σ' → ZM D ad cA p l e (rmK 2) s m args below meth c 3 (qvM D ad cA below args s σ') 2 [(0, .ref (ad 0)), (1, .int x1), (2, .int x2)] [] σ) (σ : zS) (x1 : Int32) (x2 : Int32) (hm : Md_lookNames_37 F rc2 σ x1 x2 = some σ') : ZM D ad cA p l e (rmK 2) s m args below meth c 3 (qvM D ad cA below args s σ') 37 [(0, .ref (ad 0)), (1, .int x1), (2, .int x2)] [] σ := by
  unfold Md_lookNames_37 at hm
  refine z_iinc (pc := 37) (lv' := [(0, .ref (ad 0)), (1, .int x1), (2, .int (x2 + (1 : Int32)))]) C d_Md_lookNames_37 2 rfl (ii ki_1) (Nat.le_of_ble_eq_true rfl) [1, 2, 0] rfl ?_
  refine z_goto (pc := 40) (tgt := 2) C d_Md_lookNames_40 (by decide) ?_
  exact h2 σ x1 (x2 + (1 : Int32)) hm
set_option maxHeartbeats 4000000 in
set_option maxRecDepth 100000 in
theorem w_Md_lookNames_2 {D : va_G} {ad : Nat → Nat} {cA : Nat → ClassId} {p : Program} {l : Launch} {e : Env} {s : State} {m : MethodId} {args : Array Value} {below : List Frame} {meth : Method} {c : Code} {F : Nat} (hAD : ∀ σ, va_D (owM ad) (wdM ad cA σ)) (C : CM D ad cA xTr p s m args meth c bc_Md_lookNames "KindRoundsModel" 3) (hr : meth.sig.returnType = none) {σ' : zS} : ∀ (n : Nat) (σ : zS) (x1 : Int32) (x2 : Int32), Md_lookNames_2 F n σ x1 x2 = some σ' → ZM D ad cA p l e (rmK 2) s m args below meth c 3 (qvM D ad cA below args s σ') 2 [(0, .ref (ad 0)), (1, .int x1), (2, .int x2)] [] σ := by
  intro n
  induction n with
  | zero => intro σ x1 x2 hm; cases hm
  | succ n h2 =>
    intro σ x1 x2 hm
    have hm : Md_lookNames_b2 F (Md_lookNames_2 F n) σ x1 x2 = some σ' := hm
    unfold Md_lookNames_b2 at hm
    refine z_iload_n (pc := 2) C d_Md_lookNames_2 rfl 2 rfl ?_
    refine z_aload_n (pc := 3) C d_Md_lookNames_3 rfl 0 rfl ?_
    refine gM_Md_279 (pc := 4) (v := (gi σ 31)) C rfl d_Md_lookNames_4 ?_
    refine z_icmp_ge (pc := 7) (tgt := 43) C d_Md_lookNames_7 (by decide) (fun c1 => ?_) (fun c1 => ?_)
    · rw [if_pos c1] at hm
      refine z_lv (lv' := []) [] rfl ?_
      exact w_Md_lookNames_43 hAD C hr σ hm
    · rw [if_neg c1] at hm
      refine z_aload_n (pc := 10) C d_Md_lookNames_10 rfl 0 rfl ?_
      refine gM_Md_221 (pc := 11) (v := (gi σ 8)) C rfl d_Md_lookNames_11 ?_
      refine z_if_ne (pc := 14) (tgt := 43) C d_Md_lookNames_14 (by decide) (fun c2 => ?_) (fun c2 => ?_)
      · rw [if_neg c2] at hm
        refine z_lv (lv' := []) [] rfl ?_
        exact w_Md_lookNames_43 hAD C hr σ hm
      · rw [if_pos c2] at hm
        refine z_aload_n (pc := 17) C d_Md_lookNames_17 rfl 0 rfl ?_
        refine z_iload_n (pc := 18) C d_Md_lookNames_18 rfl 2 rfl ?_
        refine z_iload_n (pc := 19) C d_Md_lookNames_19 rfl 1 rfl ?_
        obtain ⟨r4, σ3, e5, hm⟩ := bi_s hm
        refine z_callI (pc := 20) C (k_Md_isWrongName hAD e5) kz_Md_isWrongName mM_110 rfl rfl oM_0 rfl (kR_of (Nat.le_of_ble_eq_true rfl) (Nat.le_of_ble_eq_true rfl)) rfl (Nat.le_of_ble_eq_true rfl) d_Md_lookNames_20 ?_
        refine z_if_eq (pc := 23) (tgt := 37) C d_Md_lookNames_23 (by decide) (fun c6 => ?_) (fun c6 => ?_)
        · rw [if_pos c6] at hm
          exact w_Md_lookNames_37 hAD C hr _ h2 σ3 x1 x2 hm
        · rw [if_neg c6] at hm
          refine z_aload_n (pc := 26) C d_Md_lookNames_26 rfl 0 rfl ?_
          refine z_iconst (pc := 27) C d_Md_lookNames_27 ki_3 ?_
          refine z_aload_n (pc := 28) C d_Md_lookNames_28 rfl 0 rfl ?_
          refine gM_Md_48 (pc := 29) C  d_Md_lookNames_29 ?_
          refine z_iload_n (pc := 32) C d_Md_lookNames_32 rfl 2 rfl ?_
          obtain ⟨g7, hm⟩ := gd_s hm
          refine alM_12 (pc := 33) (v := (ga σ3 12 x2.toNatClampNeg)) C  rfl g7 d_Md_lookNames_33 ?_
          obtain ⟨σ8, e9, hm⟩ := bv_s hm
          refine z_callV (pc := 34) C (k_Md_wrong hAD e9) kz_Md_wrong mM_11 rfl rfl oM_0 rfl (kR_of (Nat.le_of_ble_eq_true rfl) (Nat.le_of_ble_eq_true rfl)) rfl (Nat.le_of_ble_eq_true rfl) d_Md_lookNames_34 ?_
          exact w_Md_lookNames_37 hAD C hr _ h2 σ8 x1 x2 hm
set_option maxHeartbeats 4000000 in
set_option maxRecDepth 100000 in
theorem k_Md_lookNames {l : Launch} {D : va_G} {ad : Nat → Nat} {cA : Nat → ClassId} {F : Nat} (hAD : ∀ σ, va_D (owM ad) (wdM ad cA σ)) {σ : zS} {x1 : Int32} {σ' : zS} (hm : Md_lookNames F σ x1 = some σ') : kVM l D ad cA xTr y_Md_lookNames bc_Md_lookNames 3 2 [.ref (ad 0), .int x1] σ σ' := by
  refine kV_of (by decide) hAD xTr_P (Nat.le_of_ble_eq_true rfl) ?_
  intro p e s m below meth c C hr
  unfold Md_lookNames at hm
  refine z_lv (lv' := [(0, .ref (ad 0)), (1, .int x1)]) [0, 1] rfl ?_
  refine z_iconst (pc := 0) C d_Md_lookNames_0 ki_0 ?_
  refine z_istore_n (pc := 1) (lv' := [(0, .ref (ad 0)), (1, .int x1), (2, .int (0 : Int32))]) C d_Md_lookNames_1 rfl (Nat.le_of_ble_eq_true rfl) [1, 2, 0] rfl ?_
  exact w_Md_lookNames_2 hAD C hr F σ x1 (0 : Int32) hm
set_option maxHeartbeats 4000000 in
set_option maxRecDepth 100000 in
theorem w_Md_close_69 {D : va_G} {ad : Nat → Nat} {cA : Nat → ClassId} {p : Program} {l : Launch} {e : Env} {s : State} {m : MethodId} {args : Array Value} {below : List Frame} {meth : Method} {c : Code} {F : Nat} (hAD : ∀ σ, va_D (owM ad) (wdM ad cA σ)) (C : CM D ad cA xTr p s m args meth c bc_Md_close "KindRoundsModel" 4) (hr : meth.sig.returnType = none) {σ' : zS} (rc2 : zS → Nat → Int32 → Option zS) (rc10 : zS → Nat → Int32 → Int32 → Option zS) (rc18 : zS → Nat → Int32 → Int32 → Int32 → Option zS) (h2 : ∀ σ x0 x1, rc2 σ x0 x1 = some σ' → ZM D ad cA p l e (rmK 0) s m args below meth c 4 (qvM D ad cA below args s σ') 2 [(0, .ref (ad x0)), (1, .int x1)] [] σ) (h10 : ∀ σ x0 x1 x2, rc10 σ x0 x1 x2 = some σ' → ZM D ad cA p l e (rmK 0) s m args below meth c 4 (qvM D ad cA below args s σ') 10 [(0, .ref (ad x0)), (1, .int x1), (2, .int x2)] [] σ) (h18 : ∀ σ x0 x1 x2 x3, rc18 σ x0 x1 x2 x3 = some σ' → ZM D ad cA p l e (rmK 0) s m args below meth c 4 (qvM D ad cA below args s σ') 18 [(0, .ref (ad x0)), (1, .int x1), (2, .int x2), (3, .int x3)] [] σ) (σ : zS) (x0 : Nat) (x1 : Int32) (x2 : Int32) (x3 : Int32) (s0 : Nat) (s1 : Int32) (s2 : Int32) (hm : Md_close_69 F rc2 rc10 rc18 σ x0 x1 x2 x3 s0 s1 s2 = some σ') : ZM D ad cA p l e (rmK 0) s m args below meth c 4 (qvM D ad cA below args s σ') 69 [(0, .ref (ad x0)), (1, .int x1), (2, .int x2), (3, .int x3)] [.int s2, .int s1, .ref (ad s0)] σ := by
  unfold Md_close_69 at hm
  obtain ⟨g1, hm⟩ := gd_s hm
  obtain ⟨g2, hm⟩ := gd_s hm
  refine asM_isNd (pc := 69) C (x := s0) g1 g2 d_Md_close_69 ?_
  refine z_iinc (pc := 70) (lv' := [(0, .ref (ad x0)), (1, .int x1), (2, .int x2), (3, .int (x3 + (1 : Int32)))]) C d_Md_close_70 3 rfl (ii ki_1) (Nat.le_of_ble_eq_true rfl) [1, 2, 3, 0] rfl ?_
  refine z_goto (pc := 73) (tgt := 18) C d_Md_close_73 (by decide) ?_
  exact h18 (sa σ s0 s1.toNatClampNeg (vp_nar .boolean s2)) x0 x1 x2 (x3 + (1 : Int32)) hm
set_option maxHeartbeats 4000000 in
set_option maxRecDepth 100000 in
theorem w_Md_close_64 {D : va_G} {ad : Nat → Nat} {cA : Nat → ClassId} {p : Program} {l : Launch} {e : Env} {s : State} {m : MethodId} {args : Array Value} {below : List Frame} {meth : Method} {c : Code} {F : Nat} (hAD : ∀ σ, va_D (owM ad) (wdM ad cA σ)) (C : CM D ad cA xTr p s m args meth c bc_Md_close "KindRoundsModel" 4) (hr : meth.sig.returnType = none) {σ' : zS} (rc2 : zS → Nat → Int32 → Option zS) (rc10 : zS → Nat → Int32 → Int32 → Option zS) (rc18 : zS → Nat → Int32 → Int32 → Int32 → Option zS) (h2 : ∀ σ x0 x1, rc2 σ x0 x1 = some σ' → ZM D ad cA p l e (rmK 0) s m args below meth c 4 (qvM D ad cA below args s σ') 2 [(0, .ref (ad x0)), (1, .int x1)] [] σ) (h10 : ∀ σ x0 x1 x2, rc10 σ x0 x1 x2 = some σ' → ZM D ad cA p l e (rmK 0) s m args below meth c 4 (qvM D ad cA below args s σ') 10 [(0, .ref (ad x0)), (1, .int x1), (2, .int x2)] [] σ) (h18 : ∀ σ x0 x1 x2 x3, rc18 σ x0 x1 x2 x3 = some σ' → ZM D ad cA p l e (rmK 0) s m args below meth c 4 (qvM D ad cA below args s σ') 18 [(0, .ref (ad x0)), (1, .int x1), (2, .int x2), (3, .int x3)] [] σ) (σ : zS) (x0 : Nat) (x1 : Int32) (x2 : Int32) (x3 : Int32) (s0 : Nat) (s1 : Int32) (hm : Md_close_64 F rc2 rc10 rc18 σ x0 x1 x2 x3 s0 s1 = some σ') : ZM D ad cA p l e (rmK 0) s m args below meth c 4 (qvM D ad cA below args s σ') 64 [(0, .ref (ad x0)), (1, .int x1), (2, .int x2), (3, .int x3)] [.int s1, .ref (ad s0)] σ := by
  unfold Md_close_64 at hm
  refine z_iconst (pc := 64) C d_Md_close_64 ki_1 ?_
  refine z_goto (pc := 65) (tgt := 69) C d_Md_close_65 (by decide) ?_
  exact w_Md_close_69 hAD C hr _ _ _ h2 h10 h18 σ x0 x1 x2 x3 s0 s1 (1 : Int32) hm
set_option maxHeartbeats 4000000 in
set_option maxRecDepth 100000 in
theorem w_Md_close_68 {D : va_G} {ad : Nat → Nat} {cA : Nat → ClassId} {p : Program} {l : Launch} {e : Env} {s : State} {m : MethodId} {args : Array Value} {below : List Frame} {meth : Method} {c : Code} {F : Nat} (hAD : ∀ σ, va_D (owM ad) (wdM ad cA σ)) (C : CM D ad cA xTr p s m args meth c bc_Md_close "KindRoundsModel" 4) (hr : meth.sig.returnType = none) {σ' : zS} (rc2 : zS → Nat → Int32 → Option zS) (rc10 : zS → Nat → Int32 → Int32 → Option zS) (rc18 : zS → Nat → Int32 → Int32 → Int32 → Option zS) (h2 : ∀ σ x0 x1, rc2 σ x0 x1 = some σ' → ZM D ad cA p l e (rmK 0) s m args below meth c 4 (qvM D ad cA below args s σ') 2 [(0, .ref (ad x0)), (1, .int x1)] [] σ) (h10 : ∀ σ x0 x1 x2, rc10 σ x0 x1 x2 = some σ' → ZM D ad cA p l e (rmK 0) s m args below meth c 4 (qvM D ad cA below args s σ') 10 [(0, .ref (ad x0)), (1, .int x1), (2, .int x2)] [] σ) (h18 : ∀ σ x0 x1 x2 x3, rc18 σ x0 x1 x2 x3 = some σ' → ZM D ad cA p l e (rmK 0) s m args below meth c 4 (qvM D ad cA below args s σ') 18 [(0, .ref (ad x0)), (1, .int x1), (2, .int x2), (3, .int x3)] [] σ) (σ : zS) (x0 : Nat) (x1 : Int32) (x2 : Int32) (x3 : Int32) (s0 : Nat) (s1 : Int32) (hm : Md_close_68 F rc2 rc10 rc18 σ x0 x1 x2 x3 s0 s1 = some σ') : ZM D ad cA p l e (rmK 0) s m args below meth c 4 (qvM D ad cA below args s σ') 68 [(0, .ref (ad x0)), (1, .int x1), (2, .int x2), (3, .int x3)] [.int s1, .ref (ad s0)] σ := by
  unfold Md_close_68 at hm
  refine z_iconst (pc := 68) C d_Md_close_68 ki_0 ?_
  exact w_Md_close_69 hAD C hr _ _ _ h2 h10 h18 σ x0 x1 x2 x3 s0 s1 (0 : Int32) hm
set_option maxHeartbeats 4000000 in
set_option maxRecDepth 100000 in
theorem w_Md_close_18 {D : va_G} {ad : Nat → Nat} {cA : Nat → ClassId} {p : Program} {l : Launch} {e : Env} {s : State} {m : MethodId} {args : Array Value} {below : List Frame} {meth : Method} {c : Code} {F : Nat} (hAD : ∀ σ, va_D (owM ad) (wdM ad cA σ)) (C : CM D ad cA xTr p s m args meth c bc_Md_close "KindRoundsModel" 4) (hr : meth.sig.returnType = none) {σ' : zS} (rc2 : zS → Nat → Int32 → Option zS) (rc10 : zS → Nat → Int32 → Int32 → Option zS) (h2 : ∀ σ x0 x1, rc2 σ x0 x1 = some σ' → ZM D ad cA p l e (rmK 0) s m args below meth c 4 (qvM D ad cA below args s σ') 2 [(0, .ref (ad x0)), (1, .int x1)] [] σ) (h10 : ∀ σ x0 x1 x2, rc10 σ x0 x1 x2 = some σ' → ZM D ad cA p l e (rmK 0) s m args below meth c 4 (qvM D ad cA below args s σ') 10 [(0, .ref (ad x0)), (1, .int x1), (2, .int x2)] [] σ) : ∀ (n : Nat) (σ : zS) (x0 : Nat) (x1 : Int32) (x2 : Int32) (x3 : Int32), Md_close_18 F rc2 rc10 n σ x0 x1 x2 x3 = some σ' → ZM D ad cA p l e (rmK 0) s m args below meth c 4 (qvM D ad cA below args s σ') 18 [(0, .ref (ad x0)), (1, .int x1), (2, .int x2), (3, .int x3)] [] σ := by
  intro n
  induction n with
  | zero => intro σ x0 x1 x2 x3 hm; cases hm
  | succ n h18 =>
    intro σ x0 x1 x2 x3 hm
    have hm : Md_close_b18 F rc2 rc10 (Md_close_18 F rc2 rc10 n) σ x0 x1 x2 x3 = some σ' := hm
    unfold Md_close_b18 at hm
    refine z_iload_n (pc := 18) C d_Md_close_18 rfl 3 rfl ?_
    refine z_bipush (pc := 19) C d_Md_close_19 kb_16 ?_
    refine z_icmp_ge (pc := 21) (tgt := 76) C d_Md_close_21 (by decide) (fun c1 => ?_) (fun c1 => ?_)
    · rw [if_pos c1] at hm
      refine z_iinc (pc := 76) (lv' := [(0, .ref (ad x0)), (1, .int x1), (2, .int (x2 + (1 : Int32))), (3, .int x3)]) C d_Md_close_76 2 rfl (ii ki_1) (Nat.le_of_ble_eq_true rfl) [1, 2, 0, 3] rfl ?_
      refine z_goto (pc := 79) (tgt := 10) C d_Md_close_79 (by decide) ?_
      refine z_lv (lv' := [(0, .ref (ad x0)), (1, .int x1), (2, .int (x2 + (1 : Int32)))]) [0, 1, 2] rfl ?_
      exact h10 σ x0 x1 (x2 + (1 : Int32)) hm
    · rw [if_neg c1] at hm
      refine z_aload_n (pc := 24) C d_Md_close_24 rfl 0 rfl ?_
      refine z_bipush (pc := 25) C d_Md_close_25 kb_16 ?_
      refine z_iload_n (pc := 27) C d_Md_close_27 rfl 2 rfl ?_
      refine z_imul (pc := 28) C d_Md_close_28 ?_
      refine z_iload_n (pc := 29) C d_Md_close_29 rfl 3 rfl ?_
      refine z_iadd (pc := 30) C d_Md_close_30 ?_
      refine z_aload_n (pc := 31) C d_Md_close_31 rfl 0 rfl ?_
      refine z_bipush (pc := 32) C d_Md_close_32 kb_16 ?_
      refine z_iload_n (pc := 34) C d_Md_close_34 rfl 2 rfl ?_
      refine z_imul (pc := 35) C d_Md_close_35 ?_
      refine z_iload_n (pc := 36) C d_Md_close_36 rfl 3 rfl ?_
      refine z_iadd (pc := 37) C d_Md_close_37 ?_
      obtain ⟨g2, hm⟩ := gd_s hm
      obtain ⟨g3, hm⟩ := gd_s hm
      refine alM_isNd (pc := 38) (v := (ga σ x0 (((16 : Int32) * x2) + x3).toNatClampNeg)) C (x := x0) g2 rfl g3 d_Md_close_38 ?_
      refine z_if_ne (pc := 39) (tgt := 64) C d_Md_close_39 (by decide) (fun c4 => ?_) (fun c4 => ?_)
      · rw [if_neg c4] at hm
        exact w_Md_close_64 hAD C hr _ _ _ h2 h10 h18 σ x0 x1 x2 x3 x0 (((16 : Int32) * x2) + x3) hm
      · rw [if_pos c4] at hm
        refine z_aload_n (pc := 42) C d_Md_close_42 rfl 0 rfl ?_
        refine z_bipush (pc := 43) C d_Md_close_43 kb_16 ?_
        refine z_iload_n (pc := 45) C d_Md_close_45 rfl 2 rfl ?_
        refine z_imul (pc := 46) C d_Md_close_46 ?_
        refine z_iload_n (pc := 47) C d_Md_close_47 rfl 1 rfl ?_
        refine z_iadd (pc := 48) C d_Md_close_48 ?_
        obtain ⟨g5, hm⟩ := gd_s hm
        refine alM_isNd (pc := 49) (v := (ga σ x0 (((16 : Int32) * x2) + x1).toNatClampNeg)) C (x := x0) g2 rfl g5 d_Md_close_49 ?_
        refine z_if_eq (pc := 50) (tgt := 68) C d_Md_close_50 (by decide) (fun c6 => ?_) (fun c6 => ?_)
        · rw [if_pos c6] at hm
          exact w_Md_close_68 hAD C hr _ _ _ h2 h10 h18 σ x0 x1 x2 x3 x0 (((16 : Int32) * x2) + x3) hm
        · rw [if_neg c6] at hm
          refine z_aload_n (pc := 53) C d_Md_close_53 rfl 0 rfl ?_
          refine z_bipush (pc := 54) C d_Md_close_54 kb_16 ?_
          refine z_iload_n (pc := 56) C d_Md_close_56 rfl 1 rfl ?_
          refine z_imul (pc := 57) C d_Md_close_57 ?_
          refine z_iload_n (pc := 58) C d_Md_close_58 rfl 3 rfl ?_
          refine z_iadd (pc := 59) C d_Md_close_59 ?_
          obtain ⟨g7, hm⟩ := gd_s hm
          refine alM_isNd (pc := 60) (v := (ga σ x0 (((16 : Int32) * x1) + x3).toNatClampNeg)) C (x := x0) g2 rfl g7 d_Md_close_60 ?_
          refine z_if_eq (pc := 61) (tgt := 68) C d_Md_close_61 (by decide) (fun c8 => ?_) (fun c8 => ?_)
          · rw [if_pos c8] at hm
            exact w_Md_close_68 hAD C hr _ _ _ h2 h10 h18 σ x0 x1 x2 x3 x0 (((16 : Int32) * x2) + x3) hm
          · rw [if_neg c8] at hm
            exact w_Md_close_64 hAD C hr _ _ _ h2 h10 h18 σ x0 x1 x2 x3 x0 (((16 : Int32) * x2) + x3) hm
set_option maxHeartbeats 4000000 in
set_option maxRecDepth 100000 in
theorem w_Md_close_10 {D : va_G} {ad : Nat → Nat} {cA : Nat → ClassId} {p : Program} {l : Launch} {e : Env} {s : State} {m : MethodId} {args : Array Value} {below : List Frame} {meth : Method} {c : Code} {F : Nat} (hAD : ∀ σ, va_D (owM ad) (wdM ad cA σ)) (C : CM D ad cA xTr p s m args meth c bc_Md_close "KindRoundsModel" 4) (hr : meth.sig.returnType = none) {σ' : zS} (rc2 : zS → Nat → Int32 → Option zS) (h2 : ∀ σ x0 x1, rc2 σ x0 x1 = some σ' → ZM D ad cA p l e (rmK 0) s m args below meth c 4 (qvM D ad cA below args s σ') 2 [(0, .ref (ad x0)), (1, .int x1)] [] σ) : ∀ (n : Nat) (σ : zS) (x0 : Nat) (x1 : Int32) (x2 : Int32), Md_close_10 F rc2 n σ x0 x1 x2 = some σ' → ZM D ad cA p l e (rmK 0) s m args below meth c 4 (qvM D ad cA below args s σ') 10 [(0, .ref (ad x0)), (1, .int x1), (2, .int x2)] [] σ := by
  intro n
  induction n with
  | zero => intro σ x0 x1 x2 hm; cases hm
  | succ n h10 =>
    intro σ x0 x1 x2 hm
    have hm : Md_close_b10 F rc2 (Md_close_10 F rc2 n) σ x0 x1 x2 = some σ' := hm
    unfold Md_close_b10 at hm
    refine z_iload_n (pc := 10) C d_Md_close_10 rfl 2 rfl ?_
    refine z_bipush (pc := 11) C d_Md_close_11 kb_16 ?_
    refine z_icmp_ge (pc := 13) (tgt := 82) C d_Md_close_13 (by decide) (fun c1 => ?_) (fun c1 => ?_)
    · rw [if_pos c1] at hm
      refine z_iinc (pc := 82) (lv' := [(0, .ref (ad x0)), (1, .int (x1 + (1 : Int32))), (2, .int x2)]) C d_Md_close_82 1 rfl (ii ki_1) (Nat.le_of_ble_eq_true rfl) [1, 0, 2] rfl ?_
      refine z_goto (pc := 85) (tgt := 2) C d_Md_close_85 (by decide) ?_
      refine z_lv (lv' := [(0, .ref (ad x0)), (1, .int (x1 + (1 : Int32)))]) [0, 1] rfl ?_
      exact h2 σ x0 (x1 + (1 : Int32)) hm
    · rw [if_neg c1] at hm
      refine z_iconst (pc := 16) C d_Md_close_16 ki_0 ?_
      refine z_istore_n (pc := 17) (lv' := [(0, .ref (ad x0)), (1, .int x1), (2, .int x2), (3, .int (0 : Int32))]) C d_Md_close_17 rfl (Nat.le_of_ble_eq_true rfl) [1, 2, 3, 0] rfl ?_
      exact w_Md_close_18 hAD C hr _ _ h2 h10 F σ x0 x1 x2 (0 : Int32) hm
set_option maxHeartbeats 4000000 in
set_option maxRecDepth 100000 in
theorem w_Md_close_2 {D : va_G} {ad : Nat → Nat} {cA : Nat → ClassId} {p : Program} {l : Launch} {e : Env} {s : State} {m : MethodId} {args : Array Value} {below : List Frame} {meth : Method} {c : Code} {F : Nat} (hAD : ∀ σ, va_D (owM ad) (wdM ad cA σ)) (C : CM D ad cA xTr p s m args meth c bc_Md_close "KindRoundsModel" 4) (hr : meth.sig.returnType = none) {σ' : zS} : ∀ (n : Nat) (σ : zS) (x0 : Nat) (x1 : Int32), Md_close_2 F n σ x0 x1 = some σ' → ZM D ad cA p l e (rmK 0) s m args below meth c 4 (qvM D ad cA below args s σ') 2 [(0, .ref (ad x0)), (1, .int x1)] [] σ := by
  intro n
  induction n with
  | zero => intro σ x0 x1 hm; cases hm
  | succ n h2 =>
    intro σ x0 x1 hm
    have hm : Md_close_b2 F (Md_close_2 F n) σ x0 x1 = some σ' := hm
    unfold Md_close_b2 at hm
    refine z_iload_n (pc := 2) C d_Md_close_2 rfl 1 rfl ?_
    refine z_bipush (pc := 3) C d_Md_close_3 kb_16 ?_
    refine z_icmp_ge (pc := 5) (tgt := 88) C d_Md_close_5 (by decide) (fun c1 => ?_) (fun c1 => ?_)
    · rw [if_pos c1] at hm
      exact z_vretE (pc := 88) C hr hm d_Md_close_88
    · rw [if_neg c1] at hm
      refine z_iconst (pc := 8) C d_Md_close_8 ki_0 ?_
      refine z_istore_n (pc := 9) (lv' := [(0, .ref (ad x0)), (1, .int x1), (2, .int (0 : Int32))]) C d_Md_close_9 rfl (Nat.le_of_ble_eq_true rfl) [1, 2, 0] rfl ?_
      exact w_Md_close_10 hAD C hr _ h2 F σ x0 x1 (0 : Int32) hm
set_option maxHeartbeats 4000000 in
set_option maxRecDepth 100000 in
theorem k_Md_close {l : Launch} {D : va_G} {ad : Nat → Nat} {cA : Nat → ClassId} {F : Nat} (hAD : ∀ σ, va_D (owM ad) (wdM ad cA σ)) {σ : zS} {x0 : Nat} {σ' : zS} (hm : Md_close F σ x0 = some σ') : kVM l D ad cA xTr y_Md_close bc_Md_close 4 0 [.ref (ad x0)] σ σ' := by
  refine kV_of (by decide) hAD xTr_P (Nat.le_of_ble_eq_true rfl) ?_
  intro p e s m below meth c C hr
  unfold Md_close at hm
  refine z_lv (lv' := [(0, .ref (ad x0))]) [0] rfl ?_
  refine z_iconst (pc := 0) C d_Md_close_0 ki_0 ?_
  refine z_istore_n (pc := 1) (lv' := [(0, .ref (ad x0)), (1, .int (0 : Int32))]) C d_Md_close_1 rfl (Nat.le_of_ble_eq_true rfl) [1, 0] rfl ?_
  exact w_Md_close_2 hAD C hr F σ x0 (0 : Int32) hm
set_option maxHeartbeats 4000000 in
set_option maxRecDepth 100000 in
theorem w_Md_findNeeds_123 {D : va_G} {ad : Nat → Nat} {cA : Nat → ClassId} {p : Program} {l : Launch} {e : Env} {s : State} {m : MethodId} {args : Array Value} {below : List Frame} {meth : Method} {c : Code} {F : Nat} (hAD : ∀ σ, va_D (owM ad) (wdM ad cA σ)) (C : CM D ad cA xTr p s m args meth c bc_Md_findNeeds "KindRoundsModel" 4) (hr : meth.sig.returnType = none) {σ' : zS} (rc31 : zS → Int32 → Option zS) (h31 : ∀ σ x1, rc31 σ x1 = some σ' → ZM D ad cA p l e (rmK 1) s m args below meth c 4 (qvM D ad cA below args s σ') 31 [(0, .ref (ad 0)), (1, .int x1)] [] σ) (σ : zS) (x1 : Int32) (hm : Md_findNeeds_123 F rc31 σ x1 = some σ') : ZM D ad cA p l e (rmK 1) s m args below meth c 4 (qvM D ad cA below args s σ') 123 [(0, .ref (ad 0)), (1, .int x1)] [] σ := by
  unfold Md_findNeeds_123 at hm
  refine z_iinc (pc := 123) (lv' := [(0, .ref (ad 0)), (1, .int (x1 + (1 : Int32)))]) C d_Md_findNeeds_123 1 rfl (ii ki_1) (Nat.le_of_ble_eq_true rfl) [1, 0] rfl ?_
  refine z_goto (pc := 126) (tgt := 31) C d_Md_findNeeds_126 (by decide) ?_
  exact h31 σ (x1 + (1 : Int32)) hm
set_option maxHeartbeats 4000000 in
set_option maxRecDepth 100000 in
theorem w_Md_findNeeds_122 {D : va_G} {ad : Nat → Nat} {cA : Nat → ClassId} {p : Program} {l : Launch} {e : Env} {s : State} {m : MethodId} {args : Array Value} {below : List Frame} {meth : Method} {c : Code} {F : Nat} (hAD : ∀ σ, va_D (owM ad) (wdM ad cA σ)) (C : CM D ad cA xTr p s m args meth c bc_Md_findNeeds "KindRoundsModel" 4) (hr : meth.sig.returnType = none) {σ' : zS} (rc31 : zS → Int32 → Option zS) (h31 : ∀ σ x1, rc31 σ x1 = some σ' → ZM D ad cA p l e (rmK 1) s m args below meth c 4 (qvM D ad cA below args s σ') 31 [(0, .ref (ad 0)), (1, .int x1)] [] σ) (σ : zS) (x1 : Int32) (s1 : Int32) (s2 : Int32) (hm : Md_findNeeds_122 F rc31 σ x1 s1 s2 = some σ') : ZM D ad cA p l e (rmK 1) s m args below meth c 4 (qvM D ad cA below args s σ') 122 [(0, .ref (ad 0)), (1, .int x1)] [.int s2, .int s1, .ref (ad 47)] σ := by
  unfold Md_findNeeds_122 at hm
  obtain ⟨g1, hm⟩ := gd_s hm
  refine asM_47 (pc := 122) C  g1 d_Md_findNeeds_122 ?_
  exact w_Md_findNeeds_123 hAD C hr _ h31 (sa σ 47 s1.toNatClampNeg (vp_nar .boolean s2)) x1 hm
set_option maxHeartbeats 4000000 in
set_option maxRecDepth 100000 in
theorem w_Md_findNeeds_121 {D : va_G} {ad : Nat → Nat} {cA : Nat → ClassId} {p : Program} {l : Launch} {e : Env} {s : State} {m : MethodId} {args : Array Value} {below : List Frame} {meth : Method} {c : Code} {F : Nat} (hAD : ∀ σ, va_D (owM ad) (wdM ad cA σ)) (C : CM D ad cA xTr p s m args meth c bc_Md_findNeeds "KindRoundsModel" 4) (hr : meth.sig.returnType = none) {σ' : zS} (rc31 : zS → Int32 → Option zS) (h31 : ∀ σ x1, rc31 σ x1 = some σ' → ZM D ad cA p l e (rmK 1) s m args below meth c 4 (qvM D ad cA below args s σ') 31 [(0, .ref (ad 0)), (1, .int x1)] [] σ) (σ : zS) (x1 : Int32) (s1 : Int32) (hm : Md_findNeeds_121 F rc31 σ x1 s1 = some σ') : ZM D ad cA p l e (rmK 1) s m args below meth c 4 (qvM D ad cA below args s σ') 121 [(0, .ref (ad 0)), (1, .int x1)] [.int s1, .ref (ad 47)] σ := by
  unfold Md_findNeeds_121 at hm
  refine z_iconst (pc := 121) C d_Md_findNeeds_121 ki_0 ?_
  exact w_Md_findNeeds_122 hAD C hr _ h31 σ x1 s1 (0 : Int32) hm
set_option maxHeartbeats 4000000 in
set_option maxRecDepth 100000 in
theorem w_Md_findNeeds_63 {D : va_G} {ad : Nat → Nat} {cA : Nat → ClassId} {p : Program} {l : Launch} {e : Env} {s : State} {m : MethodId} {args : Array Value} {below : List Frame} {meth : Method} {c : Code} {F : Nat} (hAD : ∀ σ, va_D (owM ad) (wdM ad cA σ)) (C : CM D ad cA xTr p s m args meth c bc_Md_findNeeds "KindRoundsModel" 4) (hr : meth.sig.returnType = none) {σ' : zS} (rc31 : zS → Int32 → Option zS) (h31 : ∀ σ x1, rc31 σ x1 = some σ' → ZM D ad cA p l e (rmK 1) s m args below meth c 4 (qvM D ad cA below args s σ') 31 [(0, .ref (ad 0)), (1, .int x1)] [] σ) (σ : zS) (x1 : Int32) (s0 : Int32) (hm : Md_findNeeds_63 F rc31 σ x1 s0 = some σ') : ZM D ad cA p l e (rmK 1) s m args below meth c 4 (qvM D ad cA below args s σ') 63 [(0, .ref (ad 0)), (1, .int x1)] [.int s0] σ := by
  unfold Md_findNeeds_63 at hm
  refine z_istore_n (pc := 63) (lv' := [(0, .ref (ad 0)), (1, .int x1), (2, .int s0)]) C d_Md_findNeeds_63 rfl (Nat.le_of_ble_eq_true rfl) [1, 2, 0] rfl ?_
  refine z_iload_n (pc := 64) C d_Md_findNeeds_64 rfl 2 rfl ?_
  refine z_if_lt (pc := 65) (tgt := 123) C d_Md_findNeeds_65 (by decide) (fun c1 => ?_) (fun c1 => ?_)
  · rw [if_pos c1] at hm
    refine z_lv (lv' := [(0, .ref (ad 0)), (1, .int x1)]) [0, 1] rfl ?_
    exact w_Md_findNeeds_123 hAD C hr _ h31 σ x1 hm
  · rw [if_neg c1] at hm
    refine z_aload_n (pc := 68) C d_Md_findNeeds_68 rfl 0 rfl ?_
    refine gM_Md_51 (pc := 69) C  d_Md_findNeeds_69 ?_
    refine z_iload_n (pc := 72) C d_Md_findNeeds_72 rfl 1 rfl ?_
    obtain ⟨g2, hm⟩ := gd_s hm
    refine alM_13 (pc := 73) (v := (ga σ 13 x1.toNatClampNeg)) C  rfl g2 d_Md_findNeeds_73 ?_
    refine z_istore_n (pc := 74) (lv' := [(0, .ref (ad 0)), (1, .int x1), (2, .int s0), (3, .int (ga σ 13 x1.toNatClampNeg))]) C d_Md_findNeeds_74 rfl (Nat.le_of_ble_eq_true rfl) [1, 2, 3, 0] rfl ?_
    refine z_aload_n (pc := 75) C d_Md_findNeeds_75 rfl 0 rfl ?_
    refine gM_Md_151 (pc := 76) C  d_Md_findNeeds_76 ?_
    refine z_bipush (pc := 79) C d_Md_findNeeds_79 kb_16 ?_
    refine z_iload_n (pc := 81) C d_Md_findNeeds_81 rfl 3 rfl ?_
    refine z_imul (pc := 82) C d_Md_findNeeds_82 ?_
    refine z_iload_n (pc := 83) C d_Md_findNeeds_83 rfl 2 rfl ?_
    refine z_iadd (pc := 84) C d_Md_findNeeds_84 ?_
    refine z_iconst (pc := 85) C d_Md_findNeeds_85 ki_1 ?_
    obtain ⟨g3, hm⟩ := gd_s hm
    refine asM_46 (pc := 86) C  g3 d_Md_findNeeds_86 ?_
    refine z_aload_n (pc := 87) C d_Md_findNeeds_87 rfl 0 rfl ?_
    refine gM_Md_154 (pc := 88) C  d_Md_findNeeds_88 ?_
    refine z_bipush (pc := 91) C d_Md_findNeeds_91 kb_16 ?_
    refine z_iload_n (pc := 93) C d_Md_findNeeds_93 rfl 3 rfl ?_
    refine z_imul (pc := 94) C d_Md_findNeeds_94 ?_
    refine z_iload_n (pc := 95) C d_Md_findNeeds_95 rfl 2 rfl ?_
    refine z_iadd (pc := 96) C d_Md_findNeeds_96 ?_
    refine z_aload_n (pc := 97) C d_Md_findNeeds_97 rfl 0 rfl ?_
    refine gM_Md_112 (pc := 98) C  d_Md_findNeeds_98 ?_
    refine z_iload_n (pc := 101) C d_Md_findNeeds_101 rfl 3 rfl ?_
    obtain ⟨g4, hm⟩ := gd_s hm
    refine alM_33 (pc := 102) (v := (ga σ 33 (ga σ 13 x1.toNatClampNeg).toNatClampNeg)) C  rfl g4 d_Md_findNeeds_102 ?_
    refine z_iconst (pc := 103) C d_Md_findNeeds_103 ki_1 ?_
    refine z_icmp_ne (pc := 104) (tgt := 121) C d_Md_findNeeds_104 (by decide) (fun c5 => ?_) (fun c5 => ?_)
    · rw [if_neg c5] at hm
      refine z_lv (lv' := [(0, .ref (ad 0)), (1, .int x1)]) [0, 1] rfl ?_
      exact w_Md_findNeeds_121 hAD C hr _ h31 (sa σ 46 (((16 : Int32) * (ga σ 13 x1.toNatClampNeg)) + s0).toNatClampNeg (vp_nar .boolean (1 : Int32))) x1 (((16 : Int32) * (ga σ 13 x1.toNatClampNeg)) + s0) hm
    · rw [if_pos c5] at hm
      refine z_aload_n (pc := 107) C d_Md_findNeeds_107 rfl 0 rfl ?_
      refine gM_Md_112 (pc := 108) C  d_Md_findNeeds_108 ?_
      refine z_iload_n (pc := 111) C d_Md_findNeeds_111 rfl 2 rfl ?_
      obtain ⟨g6, hm⟩ := gd_s hm
      refine alM_33 (pc := 112) (v := (ga σ 33 s0.toNatClampNeg)) C  rfl g6 d_Md_findNeeds_112 ?_
      refine z_iconst (pc := 113) C d_Md_findNeeds_113 ki_1 ?_
      refine z_icmp_ne (pc := 114) (tgt := 121) C d_Md_findNeeds_114 (by decide) (fun c7 => ?_) (fun c7 => ?_)
      · rw [if_neg c7] at hm
        refine z_lv (lv' := [(0, .ref (ad 0)), (1, .int x1)]) [0, 1] rfl ?_
        exact w_Md_findNeeds_121 hAD C hr _ h31 (sa σ 46 (((16 : Int32) * (ga σ 13 x1.toNatClampNeg)) + s0).toNatClampNeg (vp_nar .boolean (1 : Int32))) x1 (((16 : Int32) * (ga σ 13 x1.toNatClampNeg)) + s0) hm
      · rw [if_pos c7] at hm
        refine z_iconst (pc := 117) C d_Md_findNeeds_117 ki_1 ?_
        refine z_goto (pc := 118) (tgt := 122) C d_Md_findNeeds_118 (by decide) ?_
        refine z_lv (lv' := [(0, .ref (ad 0)), (1, .int x1)]) [0, 1] rfl ?_
        exact w_Md_findNeeds_122 hAD C hr _ h31 (sa σ 46 (((16 : Int32) * (ga σ 13 x1.toNatClampNeg)) + s0).toNatClampNeg (vp_nar .boolean (1 : Int32))) x1 (((16 : Int32) * (ga σ 13 x1.toNatClampNeg)) + s0) (1 : Int32) hm
set_option maxHeartbeats 4000000 in
set_option maxRecDepth 100000 in
theorem w_Md_findNeeds_31 {D : va_G} {ad : Nat → Nat} {cA : Nat → ClassId} {p : Program} {l : Launch} {e : Env} {s : State} {m : MethodId} {args : Array Value} {below : List Frame} {meth : Method} {c : Code} {F : Nat} (hAD : ∀ σ, va_D (owM ad) (wdM ad cA σ)) (C : CM D ad cA xTr p s m args meth c bc_Md_findNeeds "KindRoundsModel" 4) (hr : meth.sig.returnType = none) {σ' : zS} : ∀ (n : Nat) (σ : zS) (x1 : Int32), Md_findNeeds_31 F n σ x1 = some σ' → ZM D ad cA p l e (rmK 1) s m args below meth c 4 (qvM D ad cA below args s σ') 31 [(0, .ref (ad 0)), (1, .int x1)] [] σ := by
  intro n
  induction n with
  | zero => intro σ x1 hm; cases hm
  | succ n h31 =>
    intro σ x1 hm
    have hm : Md_findNeeds_b31 F (Md_findNeeds_31 F n) σ x1 = some σ' := hm
    unfold Md_findNeeds_b31 at hm
    refine z_iload_n (pc := 31) C d_Md_findNeeds_31 rfl 1 rfl ?_
    refine z_aload_n (pc := 32) C d_Md_findNeeds_32 rfl 0 rfl ?_
    refine gM_Md_279 (pc := 33) (v := (gi σ 31)) C rfl d_Md_findNeeds_33 ?_
    refine z_icmp_ge (pc := 36) (tgt := 129) C d_Md_findNeeds_36 (by decide) (fun c1 => ?_) (fun c1 => ?_)
    · rw [if_pos c1] at hm
      refine z_aload_n (pc := 129) C d_Md_findNeeds_129 rfl 0 rfl ?_
      refine gM_Md_151 (pc := 130) C  d_Md_findNeeds_130 ?_
      obtain ⟨σ2, e3, hm⟩ := bv_s hm
      refine z_callSV (pc := 133) C (k_Md_close hAD e3) kz_Md_close mM_113 rfl (kR_of (Nat.le_of_ble_eq_true rfl) (Nat.le_of_ble_eq_true rfl)) rfl (Nat.le_of_ble_eq_true rfl) d_Md_findNeeds_133 ?_
      refine z_aload_n (pc := 136) C d_Md_findNeeds_136 rfl 0 rfl ?_
      refine gM_Md_154 (pc := 137) C  d_Md_findNeeds_137 ?_
      obtain ⟨σ4, e5, hm⟩ := bv_s hm
      refine z_callSV (pc := 140) C (k_Md_close hAD e5) kz_Md_close mM_113 rfl (kR_of (Nat.le_of_ble_eq_true rfl) (Nat.le_of_ble_eq_true rfl)) rfl (Nat.le_of_ble_eq_true rfl) d_Md_findNeeds_140 ?_
      exact z_vretE (pc := 143) C hr hm d_Md_findNeeds_143
    · rw [if_neg c1] at hm
      refine z_aload_n (pc := 39) C d_Md_findNeeds_39 rfl 0 rfl ?_
      refine gM_Md_42 (pc := 40) C  d_Md_findNeeds_40 ?_
      refine z_iload_n (pc := 43) C d_Md_findNeeds_43 rfl 1 rfl ?_
      obtain ⟨g6, hm⟩ := gd_s hm
      refine alM_10 (pc := 44) (v := (ga σ 10 x1.toNatClampNeg)) C  rfl g6 d_Md_findNeeds_44 ?_
      refine z_iconst (pc := 45) C d_Md_findNeeds_45 ki_5 ?_
      refine z_icmp_ne (pc := 46) (tgt := 62) C d_Md_findNeeds_46 (by decide) (fun c7 => ?_) (fun c7 => ?_)
      · rw [if_neg c7] at hm
        refine z_iconst (pc := 62) C d_Md_findNeeds_62 ki_m1 ?_
        exact w_Md_findNeeds_63 hAD C hr _ h31 σ x1 (-1 : Int32) hm
      · rw [if_pos c7] at hm
        refine z_aload_n (pc := 49) C d_Md_findNeeds_49 rfl 0 rfl ?_
        refine z_aload_n (pc := 50) C d_Md_findNeeds_50 rfl 0 rfl ?_
        refine gM_Md_45 (pc := 51) C  d_Md_findNeeds_51 ?_
        refine z_iload_n (pc := 54) C d_Md_findNeeds_54 rfl 1 rfl ?_
        refine alM_11 (pc := 55) (v := (gb σ 11 x1.toNatClampNeg)) C  rfl g6 d_Md_findNeeds_55 ?_
        obtain ⟨r9, σ8, e10, hm⟩ := bi_s hm
        refine z_callI (pc := 56) C (k_Md_typeOf hAD e10) kz_Md_typeOf mM_109 rfl rfl oM_0 rfl (kR_of (Nat.le_of_ble_eq_true rfl) (Nat.le_of_ble_eq_true rfl)) rfl (Nat.le_of_ble_eq_true rfl) d_Md_findNeeds_56 ?_
        refine z_goto (pc := 59) (tgt := 63) C d_Md_findNeeds_59 (by decide) ?_
        exact w_Md_findNeeds_63 hAD C hr _ h31 σ8 x1 r9 hm
set_option maxHeartbeats 4000000 in
set_option maxRecDepth 100000 in
theorem w_Md_findNeeds_2 {D : va_G} {ad : Nat → Nat} {cA : Nat → ClassId} {p : Program} {l : Launch} {e : Env} {s : State} {m : MethodId} {args : Array Value} {below : List Frame} {meth : Method} {c : Code} {F : Nat} (hAD : ∀ σ, va_D (owM ad) (wdM ad cA σ)) (C : CM D ad cA xTr p s m args meth c bc_Md_findNeeds "KindRoundsModel" 4) (hr : meth.sig.returnType = none) {σ' : zS} : ∀ (n : Nat) (σ : zS) (x1 : Int32), Md_findNeeds_2 F n σ x1 = some σ' → ZM D ad cA p l e (rmK 1) s m args below meth c 4 (qvM D ad cA below args s σ') 2 [(0, .ref (ad 0)), (1, .int x1)] [] σ := by
  intro n
  induction n with
  | zero => intro σ x1 hm; cases hm
  | succ n h2 =>
    intro σ x1 hm
    have hm : Md_findNeeds_b2 F (Md_findNeeds_2 F n) σ x1 = some σ' := hm
    unfold Md_findNeeds_b2 at hm
    refine z_iload_n (pc := 2) C d_Md_findNeeds_2 rfl 1 rfl ?_
    refine z_sipush (pc := 3) C d_Md_findNeeds_3 ks_256 ?_
    refine z_icmp_ge (pc := 6) (tgt := 29) C d_Md_findNeeds_6 (by decide) (fun c1 => ?_) (fun c1 => ?_)
    · rw [if_pos c1] at hm
      refine z_iconst (pc := 29) C d_Md_findNeeds_29 ki_0 ?_
      refine z_istore_n (pc := 30) (lv' := [(0, .ref (ad 0)), (1, .int (0 : Int32))]) C d_Md_findNeeds_30 rfl (Nat.le_of_ble_eq_true rfl) [1, 0] rfl ?_
      exact w_Md_findNeeds_31 hAD C hr F σ (0 : Int32) hm
    · rw [if_neg c1] at hm
      refine z_aload_n (pc := 9) C d_Md_findNeeds_9 rfl 0 rfl ?_
      refine gM_Md_151 (pc := 10) C  d_Md_findNeeds_10 ?_
      refine z_iload_n (pc := 13) C d_Md_findNeeds_13 rfl 1 rfl ?_
      refine z_iconst (pc := 14) C d_Md_findNeeds_14 ki_0 ?_
      obtain ⟨g2, hm⟩ := gd_s hm
      refine asM_46 (pc := 15) C  g2 d_Md_findNeeds_15 ?_
      refine z_aload_n (pc := 16) C d_Md_findNeeds_16 rfl 0 rfl ?_
      refine gM_Md_154 (pc := 17) C  d_Md_findNeeds_17 ?_
      refine z_iload_n (pc := 20) C d_Md_findNeeds_20 rfl 1 rfl ?_
      refine z_iconst (pc := 21) C d_Md_findNeeds_21 ki_0 ?_
      refine asM_47 (pc := 22) C  g2 d_Md_findNeeds_22 ?_
      refine z_iinc (pc := 23) (lv' := [(0, .ref (ad 0)), (1, .int (x1 + (1 : Int32)))]) C d_Md_findNeeds_23 1 rfl (ii ki_1) (Nat.le_of_ble_eq_true rfl) [1, 0] rfl ?_
      refine z_goto (pc := 26) (tgt := 2) C d_Md_findNeeds_26 (by decide) ?_
      exact h2 (sa (sa σ 46 x1.toNatClampNeg (vp_nar .boolean (0 : Int32))) 47 x1.toNatClampNeg (vp_nar .boolean (0 : Int32))) (x1 + (1 : Int32)) hm
set_option maxHeartbeats 4000000 in
set_option maxRecDepth 100000 in
theorem k_Md_findNeeds {l : Launch} {D : va_G} {ad : Nat → Nat} {cA : Nat → ClassId} {F : Nat} (hAD : ∀ σ, va_D (owM ad) (wdM ad cA σ)) {σ : zS} {σ' : zS} (hm : Md_findNeeds F σ = some σ') : kVM l D ad cA xTr y_Md_findNeeds bc_Md_findNeeds 4 1 [.ref (ad 0)] σ σ' := by
  refine kV_of (by decide) hAD xTr_P (Nat.le_of_ble_eq_true rfl) ?_
  intro p e s m below meth c C hr
  unfold Md_findNeeds at hm
  refine z_lv (lv' := [(0, .ref (ad 0))]) [0] rfl ?_
  refine z_iconst (pc := 0) C d_Md_findNeeds_0 ki_0 ?_
  refine z_istore_n (pc := 1) (lv' := [(0, .ref (ad 0)), (1, .int (0 : Int32))]) C d_Md_findNeeds_1 rfl (Nat.le_of_ble_eq_true rfl) [1, 0] rfl ?_
  exact w_Md_findNeeds_2 hAD C hr F σ (0 : Int32) hm
set_option maxHeartbeats 4000000 in
set_option maxRecDepth 100000 in
theorem w_Md_lookRings_60 {D : va_G} {ad : Nat → Nat} {cA : Nat → ClassId} {p : Program} {l : Launch} {e : Env} {s : State} {m : MethodId} {args : Array Value} {below : List Frame} {meth : Method} {c : Code} {F : Nat} (hAD : ∀ σ, va_D (owM ad) (wdM ad cA σ)) (C : CM D ad cA xTr p s m args meth c bc_Md_lookRings "KindRoundsModel" 2) (hr : meth.sig.returnType = none) {σ' : zS} (σ : zS) (hm : Md_lookRings_60 F σ = some σ') : ZM D ad cA p l e (rmK 2) s m args below meth c 2 (qvM D ad cA below args s σ') 60 [] [] σ := by
  unfold Md_lookRings_60 at hm
  exact z_vretE (pc := 60) C hr hm d_Md_lookRings_60
set_option maxHeartbeats 4000000 in
set_option maxRecDepth 100000 in
theorem w_Md_lookRings_54 {D : va_G} {ad : Nat → Nat} {cA : Nat → ClassId} {p : Program} {l : Launch} {e : Env} {s : State} {m : MethodId} {args : Array Value} {below : List Frame} {meth : Method} {c : Code} {F : Nat} (hAD : ∀ σ, va_D (owM ad) (wdM ad cA σ)) (C : CM D ad cA xTr p s m args meth c bc_Md_lookRings "KindRoundsModel" 2) (hr : meth.sig.returnType = none) {σ' : zS} (rc6 : zS → Int32 → Option zS) (h6 : ∀ σ x1, rc6 σ x1 = some σ' → ZM D ad cA p l e (rmK 2) s m args below meth c 2 (qvM D ad cA below args s σ') 6 [(0, .ref (ad 0)), (1, .int x1)] [] σ) (σ : zS) (x1 : Int32) (hm : Md_lookRings_54 F rc6 σ x1 = some σ') : ZM D ad cA p l e (rmK 2) s m args below meth c 2 (qvM D ad cA below args s σ') 54 [(0, .ref (ad 0)), (1, .int x1)] [] σ := by
  unfold Md_lookRings_54 at hm
  refine z_iinc (pc := 54) (lv' := [(0, .ref (ad 0)), (1, .int (x1 + (1 : Int32)))]) C d_Md_lookRings_54 1 rfl (ii ki_1) (Nat.le_of_ble_eq_true rfl) [1, 0] rfl ?_
  refine z_goto (pc := 57) (tgt := 6) C d_Md_lookRings_57 (by decide) ?_
  exact h6 σ (x1 + (1 : Int32)) hm
set_option maxHeartbeats 4000000 in
set_option maxRecDepth 100000 in
theorem w_Md_lookRings_6 {D : va_G} {ad : Nat → Nat} {cA : Nat → ClassId} {p : Program} {l : Launch} {e : Env} {s : State} {m : MethodId} {args : Array Value} {below : List Frame} {meth : Method} {c : Code} {F : Nat} (hAD : ∀ σ, va_D (owM ad) (wdM ad cA σ)) (C : CM D ad cA xTr p s m args meth c bc_Md_lookRings "KindRoundsModel" 2) (hr : meth.sig.returnType = none) {σ' : zS} : ∀ (n : Nat) (σ : zS) (x1 : Int32), Md_lookRings_6 F n σ x1 = some σ' → ZM D ad cA p l e (rmK 2) s m args below meth c 2 (qvM D ad cA below args s σ') 6 [(0, .ref (ad 0)), (1, .int x1)] [] σ := by
  intro n
  induction n with
  | zero => intro σ x1 hm; cases hm
  | succ n h6 =>
    intro σ x1 hm
    have hm : Md_lookRings_b6 F (Md_lookRings_6 F n) σ x1 = some σ' := hm
    unfold Md_lookRings_b6 at hm
    refine z_iload_n (pc := 6) C d_Md_lookRings_6 rfl 1 rfl ?_
    refine z_aload_n (pc := 7) C d_Md_lookRings_7 rfl 0 rfl ?_
    refine gM_Md_364 (pc := 8) (v := (gi σ 52)) C rfl d_Md_lookRings_8 ?_
    refine z_icmp_ge (pc := 11) (tgt := 60) C d_Md_lookRings_11 (by decide) (fun c1 => ?_) (fun c1 => ?_)
    · rw [if_pos c1] at hm
      refine z_lv (lv' := []) [] rfl ?_
      exact w_Md_lookRings_60 hAD C hr σ hm
    · rw [if_neg c1] at hm
      refine z_aload_n (pc := 14) C d_Md_lookRings_14 rfl 0 rfl ?_
      refine gM_Md_221 (pc := 15) (v := (gi σ 8)) C rfl d_Md_lookRings_15 ?_
      refine z_if_ne (pc := 18) (tgt := 60) C d_Md_lookRings_18 (by decide) (fun c2 => ?_) (fun c2 => ?_)
      · rw [if_neg c2] at hm
        refine z_lv (lv' := []) [] rfl ?_
        exact w_Md_lookRings_60 hAD C hr σ hm
      · rw [if_pos c2] at hm
        refine z_aload_n (pc := 21) C d_Md_lookRings_21 rfl 0 rfl ?_
        refine gM_Md_112 (pc := 22) C  d_Md_lookRings_22 ?_
        refine z_iload_n (pc := 25) C d_Md_lookRings_25 rfl 1 rfl ?_
        obtain ⟨g3, hm⟩ := gd_s hm
        refine alM_33 (pc := 26) (v := (ga σ 33 x1.toNatClampNeg)) C  rfl g3 d_Md_lookRings_26 ?_
        refine z_iconst (pc := 27) C d_Md_lookRings_27 ki_1 ?_
        refine z_icmp_ne (pc := 28) (tgt := 54) C d_Md_lookRings_28 (by decide) (fun c4 => ?_) (fun c4 => ?_)
        · rw [if_neg c4] at hm
          exact w_Md_lookRings_54 hAD C hr _ h6 σ x1 hm
        · rw [if_pos c4] at hm
          refine z_aload_n (pc := 31) C d_Md_lookRings_31 rfl 0 rfl ?_
          refine gM_Md_154 (pc := 32) C  d_Md_lookRings_32 ?_
          refine z_bipush (pc := 35) C d_Md_lookRings_35 kb_17 ?_
          refine z_iload_n (pc := 37) C d_Md_lookRings_37 rfl 1 rfl ?_
          refine z_imul (pc := 38) C d_Md_lookRings_38 ?_
          obtain ⟨g5, hm⟩ := gd_s hm
          refine alM_47 (pc := 39) (v := (ga σ 47 ((17 : Int32) * x1).toNatClampNeg)) C  rfl g5 d_Md_lookRings_39 ?_
          refine z_if_eq (pc := 40) (tgt := 54) C d_Md_lookRings_40 (by decide) (fun c6 => ?_) (fun c6 => ?_)
          · rw [if_pos c6] at hm
            exact w_Md_lookRings_54 hAD C hr _ h6 σ x1 hm
          · rw [if_neg c6] at hm
            refine z_aload_n (pc := 43) C d_Md_lookRings_43 rfl 0 rfl ?_
            refine z_iconst (pc := 44) C d_Md_lookRings_44 ki_4 ?_
            refine z_aload_n (pc := 45) C d_Md_lookRings_45 rfl 0 rfl ?_
            refine gM_Md_118 (pc := 46) C  d_Md_lookRings_46 ?_
            refine z_iload_n (pc := 49) C d_Md_lookRings_49 rfl 1 rfl ?_
            refine alM_35 (pc := 50) (v := (ga σ 35 x1.toNatClampNeg)) C  rfl g3 d_Md_lookRings_50 ?_
            obtain ⟨σ7, e8, hm⟩ := bv_s hm
            refine z_callV (pc := 51) C (k_Md_wrong hAD e8) kz_Md_wrong mM_11 rfl rfl oM_0 rfl (kR_of (Nat.le_of_ble_eq_true rfl) (Nat.le_of_ble_eq_true rfl)) rfl (Nat.le_of_ble_eq_true rfl) d_Md_lookRings_51 ?_
            exact w_Md_lookRings_54 hAD C hr _ h6 σ7 x1 hm
set_option maxHeartbeats 4000000 in
set_option maxRecDepth 100000 in
theorem k_Md_lookRings {l : Launch} {D : va_G} {ad : Nat → Nat} {cA : Nat → ClassId} {F : Nat} (hAD : ∀ σ, va_D (owM ad) (wdM ad cA σ)) {σ : zS} {σ' : zS} (hm : Md_lookRings F σ = some σ') : kVM l D ad cA xTr y_Md_lookRings bc_Md_lookRings 2 2 [.ref (ad 0)] σ σ' := by
  refine kV_of (by decide) hAD xTr_P (Nat.le_of_ble_eq_true rfl) ?_
  intro p e s m below meth c C hr
  unfold Md_lookRings at hm
  refine z_lv (lv' := [(0, .ref (ad 0))]) [0] rfl ?_
  refine z_aload_n (pc := 0) C d_Md_lookRings_0 rfl 0 rfl ?_
  obtain ⟨σ1, e2, hm⟩ := bv_s hm
  refine z_callV (pc := 1) C (k_Md_findNeeds hAD e2) kz_Md_findNeeds mM_114 rfl rfl oM_0 rfl (kR_of (Nat.le_of_ble_eq_true rfl) (Nat.le_of_ble_eq_true rfl)) rfl (Nat.le_of_ble_eq_true rfl) d_Md_lookRings_1 ?_
  refine z_iconst (pc := 4) C d_Md_lookRings_4 ki_0 ?_
  refine z_istore_n (pc := 5) (lv' := [(0, .ref (ad 0)), (1, .int (0 : Int32))]) C d_Md_lookRings_5 rfl (Nat.le_of_ble_eq_true rfl) [1, 0] rfl ?_
  exact w_Md_lookRings_6 hAD C hr F σ1 (0 : Int32) hm
