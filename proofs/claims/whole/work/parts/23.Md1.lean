/-! Walks of KindRoundsModel, 1 of 4. Written by program (wip/gen). -/
set_option maxHeartbeats 4000000 in
set_option maxRecDepth 100000 in
theorem w_Md_feed_72 {D : va_G} {ad : Nat → Nat} {cA : Nat → ClassId} {p : Program} {l : Launch} {e : Env} {s : State} {m : MethodId} {args : Array Value} {below : List Frame} {meth : Method} {c : Code} {F : Nat} (hAD : ∀ σ, va_D (owM ad) (wdM ad cA σ)) (C : CM D ad cA xTr p s m args meth c bc_Md_feed "KindRoundsModel" 8) (hr : meth.sig.returnType = some .int) {r : Int32} {σ' : zS} (rc19 : zS → Int32 → Int32 → Int32 → Int32 → Int32 → Int32 → Option (Int32 × zS)) (h19 : ∀ σ x1 x2 x3 x4 x5 x6, rc19 σ x1 x2 x3 x4 x5 x6 = some (r, σ') → ZM D ad cA p l e (rmK 0) s m args below meth c 8 (qiM D ad cA below args s r σ') 19 [(0, .ref (ad 0)), (1, .int x1), (2, .int x2), (3, .int x3), (4, .int x4), (5, .int x5), (6, .int x6)] [] σ) (σ : zS) (x1 : Int32) (x2 : Int32) (x3 : Int32) (x4 : Int32) (x5 : Int32) (x6 : Int32) (s0 : Int32) (hm : Md_feed_72 F rc19 σ x1 x2 x3 x4 x5 x6 s0 = some (r, σ')) : ZM D ad cA p l e (rmK 0) s m args below meth c 8 (qiM D ad cA below args s r σ') 72 [(0, .ref (ad 0)), (1, .int x1), (2, .int x2), (3, .int x3), (4, .int x4), (5, .int x5), (6, .int x6)] [.int s0] σ := by
  unfold Md_feed_72 at hm
  refine z_istore (pc := 72) (lv' := [(0, .ref (ad 0)), (1, .int x1), (2, .int x2), (3, .int x3), (4, .int x4), (5, .int x5), (6, .int x6), (7, .int s0)]) C d_Md_feed_72 (Nat.le_of_ble_eq_true rfl) [1, 2, 3, 4, 5, 6, 7, 0] rfl ?_
  refine z_aload_n (pc := 74) C d_Md_feed_74 rfl 0 rfl ?_
  refine gM_Md_7 (pc := 75) C  d_Md_feed_75 ?_
  refine z_aload_n (pc := 78) C d_Md_feed_78 rfl 0 rfl ?_
  refine gM_Md_218 (pc := 79) (v := (gi σ 2)) C rfl d_Md_feed_79 ?_
  refine z_iload (pc := 82) C d_Md_feed_82 7 rfl ?_
  refine z_bipush (pc := 84) C d_Md_feed_84 kb_24 ?_
  refine z_bipush (pc := 86) C d_Md_feed_86 kb_8 ?_
  refine z_iload (pc := 88) C d_Md_feed_88 6 rfl ?_
  refine z_iconst (pc := 90) C d_Md_feed_90 ki_4 ?_
  refine z_irem (pc := 91) C d_Md_feed_91 (by decide) ?_
  refine z_imul (pc := 92) C d_Md_feed_92 ?_
  refine z_isub (pc := 93) C d_Md_feed_93 ?_
  refine z_iushr (pc := 94) C d_Md_feed_94 ?_
  refine z_sipush (pc := 95) C d_Md_feed_95 ks_255 ?_
  refine z_iand (pc := 98) C d_Md_feed_98 ?_
  obtain ⟨g1, hm⟩ := gd_s hm
  refine asM_1 (pc := 99) C  g1 d_Md_feed_99 ?_
  refine z_aload_n (pc := 100) C d_Md_feed_100 rfl 0 rfl ?_
  refine z_dup (pc := 101) C d_Md_feed_101 rfl ?_
  refine gM_Md_218 (pc := 102) (v := (gi σ 2)) C rfl d_Md_feed_102 ?_
  refine z_iconst (pc := 105) C d_Md_feed_105 ki_1 ?_
  refine z_iadd (pc := 106) C d_Md_feed_106 ?_
  refine pM_Md_218 (pc := 107) C  d_Md_feed_107 ?_
  refine z_iinc (pc := 110) (lv' := [(0, .ref (ad 0)), (1, .int x1), (2, .int x2), (3, .int x3), (4, .int x4), (5, .int x5), (6, .int (x6 + (1 : Int32))), (7, .int s0)]) C d_Md_feed_110 6 rfl (ii ki_1) (Nat.le_of_ble_eq_true rfl) [1, 2, 3, 4, 5, 6, 0, 7] rfl ?_
  refine z_goto (pc := 113) (tgt := 19) C d_Md_feed_113 (by decide) ?_
  refine z_lv (lv' := [(0, .ref (ad 0)), (1, .int x1), (2, .int x2), (3, .int x3), (4, .int x4), (5, .int x5), (6, .int (x6 + (1 : Int32)))]) [0, 1, 2, 3, 4, 5, 6] rfl ?_
  exact h19 (si (sa σ 1 (gi σ 2).toNatClampNeg ((s0.toUInt32 >>> (Int32.toUInt32 ((24 : Int32) - ((8 : Int32) * (x6 - x6 / (4 : Int32) * (4 : Int32)))) &&& Int32.toUInt32 31)).toInt32 &&& (255 : Int32))) 2 ((gi σ 2) + (1 : Int32))) x1 x2 x3 x4 x5 (x6 + (1 : Int32)) hm
set_option maxHeartbeats 4000000 in
set_option maxRecDepth 100000 in
theorem w_Md_feed_19 {D : va_G} {ad : Nat → Nat} {cA : Nat → ClassId} {p : Program} {l : Launch} {e : Env} {s : State} {m : MethodId} {args : Array Value} {below : List Frame} {meth : Method} {c : Code} {F : Nat} (hAD : ∀ σ, va_D (owM ad) (wdM ad cA σ)) (C : CM D ad cA xTr p s m args meth c bc_Md_feed "KindRoundsModel" 8) (hr : meth.sig.returnType = some .int) {r : Int32} {σ' : zS} : ∀ (n : Nat) (σ : zS) (x1 : Int32) (x2 : Int32) (x3 : Int32) (x4 : Int32) (x5 : Int32) (x6 : Int32), Md_feed_19 F n σ x1 x2 x3 x4 x5 x6 = some (r, σ') → ZM D ad cA p l e (rmK 0) s m args below meth c 8 (qiM D ad cA below args s r σ') 19 [(0, .ref (ad 0)), (1, .int x1), (2, .int x2), (3, .int x3), (4, .int x4), (5, .int x5), (6, .int x6)] [] σ := by
  intro n
  induction n with
  | zero => intro σ x1 x2 x3 x4 x5 x6 hm; cases hm
  | succ n h19 =>
    intro σ x1 x2 x3 x4 x5 x6 hm
    have hm : Md_feed_b19 F (Md_feed_19 F n) σ x1 x2 x3 x4 x5 x6 = some (r, σ') := hm
    unfold Md_feed_b19 at hm
    refine z_iload (pc := 19) C d_Md_feed_19 6 rfl ?_
    refine z_bipush (pc := 21) C d_Md_feed_21 kb_20 ?_
    refine z_icmp_ge (pc := 23) (tgt := 116) C d_Md_feed_23 (by decide) (fun c1 => ?_) (fun c1 => ?_)
    · rw [if_pos c1] at hm
      refine z_aload_n (pc := 116) C d_Md_feed_116 rfl 0 rfl ?_
      refine gM_Md_218 (pc := 117) (v := (gi σ 2)) C rfl d_Md_feed_117 ?_
      exact z_iretE (pc := 120) C hr hm d_Md_feed_120
    · rw [if_neg c1] at hm
      refine z_iload (pc := 26) C d_Md_feed_26 6 rfl ?_
      refine z_iconst (pc := 28) C d_Md_feed_28 ki_4 ?_
      refine z_icmp_ge (pc := 29) (tgt := 36) C d_Md_feed_29 (by decide) (fun c2 => ?_) (fun c2 => ?_)
      · rw [if_pos c2] at hm
        refine z_iload (pc := 36) C d_Md_feed_36 6 rfl ?_
        refine z_bipush (pc := 38) C d_Md_feed_38 kb_8 ?_
        refine z_icmp_ge (pc := 40) (tgt := 47) C d_Md_feed_40 (by decide) (fun c3 => ?_) (fun c3 => ?_)
        · rw [if_pos c3] at hm
          refine z_iload (pc := 47) C d_Md_feed_47 6 rfl ?_
          refine z_bipush (pc := 49) C d_Md_feed_49 kb_12 ?_
          refine z_icmp_ge (pc := 51) (tgt := 58) C d_Md_feed_51 (by decide) (fun c4 => ?_) (fun c4 => ?_)
          · rw [if_pos c4] at hm
            refine z_iload (pc := 58) C d_Md_feed_58 6 rfl ?_
            refine z_bipush (pc := 60) C d_Md_feed_60 kb_16 ?_
            refine z_icmp_ge (pc := 62) (tgt := 70) C d_Md_feed_62 (by decide) (fun c5 => ?_) (fun c5 => ?_)
            · rw [if_pos c5] at hm
              refine z_iload (pc := 70) C d_Md_feed_70 5 rfl ?_
              exact w_Md_feed_72 hAD C hr _ h19 σ x1 x2 x3 x4 x5 x6 x5 hm
            · rw [if_neg c5] at hm
              refine z_iload (pc := 65) C d_Md_feed_65 4 rfl ?_
              refine z_goto (pc := 67) (tgt := 72) C d_Md_feed_67 (by decide) ?_
              exact w_Md_feed_72 hAD C hr _ h19 σ x1 x2 x3 x4 x5 x6 x4 hm
          · rw [if_neg c4] at hm
            refine z_iload_n (pc := 54) C d_Md_feed_54 rfl 3 rfl ?_
            refine z_goto (pc := 55) (tgt := 72) C d_Md_feed_55 (by decide) ?_
            exact w_Md_feed_72 hAD C hr _ h19 σ x1 x2 x3 x4 x5 x6 x3 hm
        · rw [if_neg c3] at hm
          refine z_iload_n (pc := 43) C d_Md_feed_43 rfl 2 rfl ?_
          refine z_goto (pc := 44) (tgt := 72) C d_Md_feed_44 (by decide) ?_
          exact w_Md_feed_72 hAD C hr _ h19 σ x1 x2 x3 x4 x5 x6 x2 hm
      · rw [if_neg c2] at hm
        refine z_iload_n (pc := 32) C d_Md_feed_32 rfl 1 rfl ?_
        refine z_goto (pc := 33) (tgt := 72) C d_Md_feed_33 (by decide) ?_
        exact w_Md_feed_72 hAD C hr _ h19 σ x1 x2 x3 x4 x5 x6 x1 hm
set_option maxHeartbeats 4000000 in
set_option maxRecDepth 100000 in
theorem k_Md_feed {l : Launch} {D : va_G} {ad : Nat → Nat} {cA : Nat → ClassId} {F : Nat} (hAD : ∀ σ, va_D (owM ad) (wdM ad cA σ)) {σ : zS} {x1 : Int32} {x2 : Int32} {x3 : Int32} {x4 : Int32} {x5 : Int32} {r : Int32} {σ' : zS} (hm : Md_feed F σ x1 x2 x3 x4 x5 = some (r, σ')) : kIM l D ad cA xTr y_Md_feed bc_Md_feed 8 .int 0 [.ref (ad 0), .int x1, .int x2, .int x3, .int x4, .int x5] σ r σ' := by
  refine kI_of (by decide) hAD xTr_P (Nat.le_of_ble_eq_true rfl) ?_
  intro p e s m below meth c C hr
  unfold Md_feed at hm
  refine z_lv (lv' := [(0, .ref (ad 0)), (1, .int x1), (2, .int x2), (3, .int x3), (4, .int x4), (5, .int x5)]) [0, 1, 2, 3, 4, 5] rfl ?_
  refine z_aload_n (pc := 0) C d_Md_feed_0 rfl 0 rfl ?_
  refine gM_Md_218 (pc := 1) (v := (gi σ 2)) C rfl d_Md_feed_1 ?_
  refine z_bipush (pc := 4) C d_Md_feed_4 kb_20 ?_
  refine z_iadd (pc := 6) C d_Md_feed_6 ?_
  refine z_sipush (pc := 7) C d_Md_feed_7 ks_1200 ?_
  refine z_icmp_le (pc := 10) (tgt := 16) C d_Md_feed_10 (by decide) (fun c1 => ?_) (fun c1 => ?_)
  · rw [if_pos c1] at hm
    refine z_iconst (pc := 16) C d_Md_feed_16 ki_0 ?_
    refine z_istore (pc := 17) (lv' := [(0, .ref (ad 0)), (1, .int x1), (2, .int x2), (3, .int x3), (4, .int x4), (5, .int x5), (6, .int (0 : Int32))]) C d_Md_feed_17 (Nat.le_of_ble_eq_true rfl) [1, 2, 3, 4, 5, 6, 0] rfl ?_
    exact w_Md_feed_19 hAD C hr F σ x1 x2 x3 x4 x5 (0 : Int32) hm
  · rw [if_neg c1] at hm
    refine z_bipush (pc := 13) C d_Md_feed_13 kb_m4 ?_
    exact z_iretE (pc := 15) C hr hm d_Md_feed_15
set_option maxHeartbeats 4000000 in
set_option maxRecDepth 100000 in
theorem w_Md_cut_12 {D : va_G} {ad : Nat → Nat} {cA : Nat → ClassId} {p : Program} {l : Launch} {e : Env} {s : State} {m : MethodId} {args : Array Value} {below : List Frame} {meth : Method} {c : Code} {F : Nat} (hAD : ∀ σ, va_D (owM ad) (wdM ad cA σ)) (C : CM D ad cA xTr p s m args meth c bc_Md_cut "KindRoundsModel" 3) (hr : meth.sig.returnType = some .int) {r : Int32} {σ' : zS} (σ : zS) (hm : Md_cut_12 F σ = some (r, σ')) : ZM D ad cA p l e (rmK 0) s m args below meth c 3 (qiM D ad cA below args s r σ') 12 [] [] σ := by
  unfold Md_cut_12 at hm
  refine z_bipush (pc := 12) C d_Md_cut_12 kb_m2 ?_
  exact z_iretE (pc := 14) C hr hm d_Md_cut_14
set_option maxHeartbeats 4000000 in
set_option maxRecDepth 100000 in
theorem k_Md_cut {l : Launch} {D : va_G} {ad : Nat → Nat} {cA : Nat → ClassId} {F : Nat} (hAD : ∀ σ, va_D (owM ad) (wdM ad cA σ)) {σ : zS} {x1 : Int32} {r : Int32} {σ' : zS} (hm : Md_cut F σ x1 = some (r, σ')) : kIM l D ad cA xTr y_Md_cut bc_Md_cut 3 .int 0 [.ref (ad 0), .int x1] σ r σ' := by
  refine kI_of (by decide) hAD xTr_P (Nat.le_of_ble_eq_true rfl) ?_
  intro p e s m below meth c C hr
  unfold Md_cut at hm
  refine z_lv (lv' := [(0, .ref (ad 0)), (1, .int x1)]) [0, 1] rfl ?_
  refine z_iload_n (pc := 0) C d_Md_cut_0 rfl 1 rfl ?_
  refine z_if_lt (pc := 1) (tgt := 12) C d_Md_cut_1 (by decide) (fun c1 => ?_) (fun c1 => ?_)
  · rw [if_pos c1] at hm
    refine z_lv (lv' := []) [] rfl ?_
    exact w_Md_cut_12 hAD C hr σ hm
  · rw [if_neg c1] at hm
    refine z_iload_n (pc := 4) C d_Md_cut_4 rfl 1 rfl ?_
    refine z_aload_n (pc := 5) C d_Md_cut_5 rfl 0 rfl ?_
    refine gM_Md_218 (pc := 6) (v := (gi σ 2)) C rfl d_Md_cut_6 ?_
    refine z_icmp_le (pc := 9) (tgt := 15) C d_Md_cut_9 (by decide) (fun c2 => ?_) (fun c2 => ?_)
    · rw [if_pos c2] at hm
      refine z_aload_n (pc := 15) C d_Md_cut_15 rfl 0 rfl ?_
      refine gM_Md_218 (pc := 16) (v := (gi σ 2)) C rfl d_Md_cut_16 ?_
      refine z_iload_n (pc := 19) C d_Md_cut_19 rfl 1 rfl ?_
      refine z_isub (pc := 20) C d_Md_cut_20 ?_
      refine z_istore_n (pc := 21) (lv' := [(0, .ref (ad 0)), (1, .int x1), (2, .int ((gi σ 2) - x1))]) C d_Md_cut_21 rfl (Nat.le_of_ble_eq_true rfl) [1, 2, 0] rfl ?_
      refine z_aload_n (pc := 22) C d_Md_cut_22 rfl 0 rfl ?_
      refine z_iload_n (pc := 23) C d_Md_cut_23 rfl 1 rfl ?_
      refine pM_Md_218 (pc := 24) C  d_Md_cut_24 ?_
      refine z_iload_n (pc := 27) C d_Md_cut_27 rfl 2 rfl ?_
      exact z_iretE (pc := 28) C hr hm d_Md_cut_28
    · rw [if_neg c2] at hm
      refine z_lv (lv' := []) [] rfl ?_
      exact w_Md_cut_12 hAD C hr σ hm
set_option maxHeartbeats 4000000 in
set_option maxRecDepth 100000 in
theorem w_Md_wrong_17 {D : va_G} {ad : Nat → Nat} {cA : Nat → ClassId} {p : Program} {l : Launch} {e : Env} {s : State} {m : MethodId} {args : Array Value} {below : List Frame} {meth : Method} {c : Code} {F : Nat} (hAD : ∀ σ, va_D (owM ad) (wdM ad cA σ)) (C : CM D ad cA xTr p s m args meth c bc_Md_wrong "KindRoundsModel" 3) (hr : meth.sig.returnType = none) {σ' : zS} (σ : zS) (hm : Md_wrong_17 F σ = some σ') : ZM D ad cA p l e (rmK 0) s m args below meth c 3 (qvM D ad cA below args s σ') 17 [] [] σ := by
  unfold Md_wrong_17 at hm
  exact z_vretE (pc := 17) C hr hm d_Md_wrong_17
set_option maxHeartbeats 4000000 in
set_option maxRecDepth 100000 in
theorem k_Md_wrong {l : Launch} {D : va_G} {ad : Nat → Nat} {cA : Nat → ClassId} {F : Nat} (hAD : ∀ σ, va_D (owM ad) (wdM ad cA σ)) {σ : zS} {x1 : Int32} {x2 : Int32} {σ' : zS} (hm : Md_wrong F σ x1 x2 = some σ') : kVM l D ad cA xTr y_Md_wrong bc_Md_wrong 3 0 [.ref (ad 0), .int x1, .int x2] σ σ' := by
  refine kV_of (by decide) hAD xTr_P (Nat.le_of_ble_eq_true rfl) ?_
  intro p e s m below meth c C hr
  unfold Md_wrong at hm
  refine z_lv (lv' := [(0, .ref (ad 0)), (1, .int x1), (2, .int x2)]) [0, 1, 2] rfl ?_
  refine z_aload_n (pc := 0) C d_Md_wrong_0 rfl 0 rfl ?_
  refine gM_Md_221 (pc := 1) (v := (gi σ 8)) C rfl d_Md_wrong_1 ?_
  refine z_if_ne (pc := 4) (tgt := 17) C d_Md_wrong_4 (by decide) (fun c1 => ?_) (fun c1 => ?_)
  · rw [if_neg c1] at hm
    refine z_lv (lv' := []) [] rfl ?_
    exact w_Md_wrong_17 hAD C hr σ hm
  · rw [if_pos c1] at hm
    refine z_aload_n (pc := 7) C d_Md_wrong_7 rfl 0 rfl ?_
    refine z_iload_n (pc := 8) C d_Md_wrong_8 rfl 1 rfl ?_
    refine pM_Md_221 (pc := 9) C  d_Md_wrong_9 ?_
    refine z_aload_n (pc := 12) C d_Md_wrong_12 rfl 0 rfl ?_
    refine z_iload_n (pc := 13) C d_Md_wrong_13 rfl 2 rfl ?_
    refine pM_Md_13 (pc := 14) C  d_Md_wrong_14 ?_
    refine z_lv (lv' := []) [] rfl ?_
    exact w_Md_wrong_17 hAD C hr (si (si σ 8 x1) 9 x2) hm
set_option maxHeartbeats 4000000 in
set_option maxRecDepth 100000 in
theorem w_Md_byteAt_18 {D : va_G} {ad : Nat → Nat} {cA : Nat → ClassId} {p : Program} {l : Launch} {e : Env} {s : State} {m : MethodId} {args : Array Value} {below : List Frame} {meth : Method} {c : Code} {F : Nat} (hAD : ∀ σ, va_D (owM ad) (wdM ad cA σ)) (C : CM D ad cA xTr p s m args meth c bc_Md_byteAt "KindRoundsModel" 2) (hr : meth.sig.returnType = some .int) {r : Int32} {σ' : zS} (σ : zS) (s0 : Int32) (hm : Md_byteAt_18 F σ s0 = some (r, σ')) : ZM D ad cA p l e (rmK 0) s m args below meth c 2 (qiM D ad cA below args s r σ') 18 [] [.int s0] σ := by
  unfold Md_byteAt_18 at hm
  exact z_iretE (pc := 18) C hr hm d_Md_byteAt_18
set_option maxHeartbeats 4000000 in
set_option maxRecDepth 100000 in
theorem k_Md_byteAt {l : Launch} {D : va_G} {ad : Nat → Nat} {cA : Nat → ClassId} {F : Nat} (hAD : ∀ σ, va_D (owM ad) (wdM ad cA σ)) {σ : zS} {x1 : Int32} {r : Int32} {σ' : zS} (hm : Md_byteAt F σ x1 = some (r, σ')) : kIM l D ad cA xTr y_Md_byteAt bc_Md_byteAt 2 .int 0 [.ref (ad 0), .int x1] σ r σ' := by
  refine kI_of (by decide) hAD xTr_P (Nat.le_of_ble_eq_true rfl) ?_
  intro p e s m below meth c C hr
  unfold Md_byteAt at hm
  refine z_lv (lv' := [(0, .ref (ad 0)), (1, .int x1)]) [0, 1] rfl ?_
  refine z_iload_n (pc := 0) C d_Md_byteAt_0 rfl 1 rfl ?_
  refine z_aload_n (pc := 1) C d_Md_byteAt_1 rfl 0 rfl ?_
  refine gM_Md_218 (pc := 2) (v := (gi σ 2)) C rfl d_Md_byteAt_2 ?_
  refine z_icmp_ge (pc := 5) (tgt := 17) C d_Md_byteAt_5 (by decide) (fun c1 => ?_) (fun c1 => ?_)
  · rw [if_pos c1] at hm
    refine z_iconst (pc := 17) C d_Md_byteAt_17 ki_m1 ?_
    refine z_lv (lv' := []) [] rfl ?_
    exact w_Md_byteAt_18 hAD C hr σ (-1 : Int32) hm
  · rw [if_neg c1] at hm
    refine z_aload_n (pc := 8) C d_Md_byteAt_8 rfl 0 rfl ?_
    refine gM_Md_7 (pc := 9) C  d_Md_byteAt_9 ?_
    refine z_iload_n (pc := 12) C d_Md_byteAt_12 rfl 1 rfl ?_
    obtain ⟨g2, hm⟩ := gd_s hm
    refine alM_1 (pc := 13) (v := (ga σ 1 x1.toNatClampNeg)) C  rfl g2 d_Md_byteAt_13 ?_
    refine z_goto (pc := 14) (tgt := 18) C d_Md_byteAt_14 (by decide) ?_
    refine z_lv (lv' := []) [] rfl ?_
    exact w_Md_byteAt_18 hAD C hr σ (ga σ 1 x1.toNatClampNeg) hm
set_option maxHeartbeats 4000000 in
set_option maxRecDepth 100000 in
theorem w_Md_isUpper_17 {D : va_G} {ad : Nat → Nat} {cA : Nat → ClassId} {p : Program} {l : Launch} {e : Env} {s : State} {m : MethodId} {args : Array Value} {below : List Frame} {meth : Method} {c : Code} {F : Nat} (hAD : ∀ σ, va_D (owM ad) (wdM ad cA σ)) (C : CM D ad cA xTr p s m args meth c bc_Md_isUpper "KindRoundsModel" 1) (hr : meth.sig.returnType = some .boolean) {r : Int32} {σ' : zS} (σ : zS) (s0 : Int32) (hm : Md_isUpper_17 F σ s0 = some (r, σ')) : ZM D ad cA p l e (rmK 0) s m args below meth c 1 (qiM D ad cA below args s r σ') 17 [] [.int s0] σ := by
  unfold Md_isUpper_17 at hm
  obtain ⟨g1, hm⟩ := gd_s hm
  exact z_zretE (pc := 17) C hr g1 hm d_Md_isUpper_17
set_option maxHeartbeats 4000000 in
set_option maxRecDepth 100000 in
theorem w_Md_isUpper_16 {D : va_G} {ad : Nat → Nat} {cA : Nat → ClassId} {p : Program} {l : Launch} {e : Env} {s : State} {m : MethodId} {args : Array Value} {below : List Frame} {meth : Method} {c : Code} {F : Nat} (hAD : ∀ σ, va_D (owM ad) (wdM ad cA σ)) (C : CM D ad cA xTr p s m args meth c bc_Md_isUpper "KindRoundsModel" 1) (hr : meth.sig.returnType = some .boolean) {r : Int32} {σ' : zS} (σ : zS) (hm : Md_isUpper_16 F σ = some (r, σ')) : ZM D ad cA p l e (rmK 0) s m args below meth c 1 (qiM D ad cA below args s r σ') 16 [] [] σ := by
  unfold Md_isUpper_16 at hm
  refine z_iconst (pc := 16) C d_Md_isUpper_16 ki_0 ?_
  exact w_Md_isUpper_17 hAD C hr σ (0 : Int32) hm
set_option maxHeartbeats 4000000 in
set_option maxRecDepth 100000 in
theorem k_Md_isUpper {l : Launch} {D : va_G} {ad : Nat → Nat} {cA : Nat → ClassId} {F : Nat} (hAD : ∀ σ, va_D (owM ad) (wdM ad cA σ)) {σ : zS} {x0 : Int32} {r : Int32} {σ' : zS} (hm : Md_isUpper F σ x0 = some (r, σ')) : kIM l D ad cA xTr y_Md_isUpper bc_Md_isUpper 1 .boolean 0 [.int x0] σ r σ' := by
  refine kI_of (by decide) hAD xTr_P (Nat.le_of_ble_eq_true rfl) ?_
  intro p e s m below meth c C hr
  unfold Md_isUpper at hm
  refine z_lv (lv' := [(0, .int x0)]) [0] rfl ?_
  refine z_iload_n (pc := 0) C d_Md_isUpper_0 rfl 0 rfl ?_
  refine z_bipush (pc := 1) C d_Md_isUpper_1 kb_65 ?_
  refine z_icmp_lt (pc := 3) (tgt := 16) C d_Md_isUpper_3 (by decide) (fun c1 => ?_) (fun c1 => ?_)
  · rw [if_pos c1] at hm
    refine z_lv (lv' := []) [] rfl ?_
    exact w_Md_isUpper_16 hAD C hr σ hm
  · rw [if_neg c1] at hm
    refine z_iload_n (pc := 6) C d_Md_isUpper_6 rfl 0 rfl ?_
    refine z_bipush (pc := 7) C d_Md_isUpper_7 kb_90 ?_
    refine z_icmp_gt (pc := 9) (tgt := 16) C d_Md_isUpper_9 (by decide) (fun c2 => ?_) (fun c2 => ?_)
    · rw [if_pos c2] at hm
      refine z_lv (lv' := []) [] rfl ?_
      exact w_Md_isUpper_16 hAD C hr σ hm
    · rw [if_neg c2] at hm
      refine z_iconst (pc := 12) C d_Md_isUpper_12 ki_1 ?_
      refine z_goto (pc := 13) (tgt := 17) C d_Md_isUpper_13 (by decide) ?_
      refine z_lv (lv' := []) [] rfl ?_
      exact w_Md_isUpper_17 hAD C hr σ (1 : Int32) hm
set_option maxHeartbeats 4000000 in
set_option maxRecDepth 100000 in
theorem w_Md_isLower_17 {D : va_G} {ad : Nat → Nat} {cA : Nat → ClassId} {p : Program} {l : Launch} {e : Env} {s : State} {m : MethodId} {args : Array Value} {below : List Frame} {meth : Method} {c : Code} {F : Nat} (hAD : ∀ σ, va_D (owM ad) (wdM ad cA σ)) (C : CM D ad cA xTr p s m args meth c bc_Md_isLower "KindRoundsModel" 1) (hr : meth.sig.returnType = some .boolean) {r : Int32} {σ' : zS} (σ : zS) (s0 : Int32) (hm : Md_isLower_17 F σ s0 = some (r, σ')) : ZM D ad cA p l e (rmK 0) s m args below meth c 1 (qiM D ad cA below args s r σ') 17 [] [.int s0] σ := by
  unfold Md_isLower_17 at hm
  obtain ⟨g1, hm⟩ := gd_s hm
  exact z_zretE (pc := 17) C hr g1 hm d_Md_isLower_17
set_option maxHeartbeats 4000000 in
set_option maxRecDepth 100000 in
theorem w_Md_isLower_16 {D : va_G} {ad : Nat → Nat} {cA : Nat → ClassId} {p : Program} {l : Launch} {e : Env} {s : State} {m : MethodId} {args : Array Value} {below : List Frame} {meth : Method} {c : Code} {F : Nat} (hAD : ∀ σ, va_D (owM ad) (wdM ad cA σ)) (C : CM D ad cA xTr p s m args meth c bc_Md_isLower "KindRoundsModel" 1) (hr : meth.sig.returnType = some .boolean) {r : Int32} {σ' : zS} (σ : zS) (hm : Md_isLower_16 F σ = some (r, σ')) : ZM D ad cA p l e (rmK 0) s m args below meth c 1 (qiM D ad cA below args s r σ') 16 [] [] σ := by
  unfold Md_isLower_16 at hm
  refine z_iconst (pc := 16) C d_Md_isLower_16 ki_0 ?_
  exact w_Md_isLower_17 hAD C hr σ (0 : Int32) hm
set_option maxHeartbeats 4000000 in
set_option maxRecDepth 100000 in
theorem k_Md_isLower {l : Launch} {D : va_G} {ad : Nat → Nat} {cA : Nat → ClassId} {F : Nat} (hAD : ∀ σ, va_D (owM ad) (wdM ad cA σ)) {σ : zS} {x0 : Int32} {r : Int32} {σ' : zS} (hm : Md_isLower F σ x0 = some (r, σ')) : kIM l D ad cA xTr y_Md_isLower bc_Md_isLower 1 .boolean 0 [.int x0] σ r σ' := by
  refine kI_of (by decide) hAD xTr_P (Nat.le_of_ble_eq_true rfl) ?_
  intro p e s m below meth c C hr
  unfold Md_isLower at hm
  refine z_lv (lv' := [(0, .int x0)]) [0] rfl ?_
  refine z_iload_n (pc := 0) C d_Md_isLower_0 rfl 0 rfl ?_
  refine z_bipush (pc := 1) C d_Md_isLower_1 kb_97 ?_
  refine z_icmp_lt (pc := 3) (tgt := 16) C d_Md_isLower_3 (by decide) (fun c1 => ?_) (fun c1 => ?_)
  · rw [if_pos c1] at hm
    refine z_lv (lv' := []) [] rfl ?_
    exact w_Md_isLower_16 hAD C hr σ hm
  · rw [if_neg c1] at hm
    refine z_iload_n (pc := 6) C d_Md_isLower_6 rfl 0 rfl ?_
    refine z_bipush (pc := 7) C d_Md_isLower_7 kb_122 ?_
    refine z_icmp_gt (pc := 9) (tgt := 16) C d_Md_isLower_9 (by decide) (fun c2 => ?_) (fun c2 => ?_)
    · rw [if_pos c2] at hm
      refine z_lv (lv' := []) [] rfl ?_
      exact w_Md_isLower_16 hAD C hr σ hm
    · rw [if_neg c2] at hm
      refine z_iconst (pc := 12) C d_Md_isLower_12 ki_1 ?_
      refine z_goto (pc := 13) (tgt := 17) C d_Md_isLower_13 (by decide) ?_
      refine z_lv (lv' := []) [] rfl ?_
      exact w_Md_isLower_17 hAD C hr σ (1 : Int32) hm
set_option maxHeartbeats 4000000 in
set_option maxRecDepth 100000 in
theorem w_Md_isOf_31 {D : va_G} {ad : Nat → Nat} {cA : Nat → ClassId} {p : Program} {l : Launch} {e : Env} {s : State} {m : MethodId} {args : Array Value} {below : List Frame} {meth : Method} {c : Code} {F : Nat} (hAD : ∀ σ, va_D (owM ad) (wdM ad cA σ)) (C : CM D ad cA xTr p s m args meth c bc_Md_isOf "KindRoundsModel" 1) (hr : meth.sig.returnType = some .boolean) {r : Int32} {σ' : zS} (σ : zS) (s0 : Int32) (hm : Md_isOf_31 F σ s0 = some (r, σ')) : ZM D ad cA p l e (rmK 1) s m args below meth c 1 (qiM D ad cA below args s r σ') 31 [] [.int s0] σ := by
  unfold Md_isOf_31 at hm
  obtain ⟨g1, hm⟩ := gd_s hm
  exact z_zretE (pc := 31) C hr g1 hm d_Md_isOf_31
set_option maxHeartbeats 4000000 in
set_option maxRecDepth 100000 in
theorem w_Md_isOf_26 {D : va_G} {ad : Nat → Nat} {cA : Nat → ClassId} {p : Program} {l : Launch} {e : Env} {s : State} {m : MethodId} {args : Array Value} {below : List Frame} {meth : Method} {c : Code} {F : Nat} (hAD : ∀ σ, va_D (owM ad) (wdM ad cA σ)) (C : CM D ad cA xTr p s m args meth c bc_Md_isOf "KindRoundsModel" 1) (hr : meth.sig.returnType = some .boolean) {r : Int32} {σ' : zS} (σ : zS) (hm : Md_isOf_26 F σ = some (r, σ')) : ZM D ad cA p l e (rmK 1) s m args below meth c 1 (qiM D ad cA below args s r σ') 26 [] [] σ := by
  unfold Md_isOf_26 at hm
  refine z_iconst (pc := 26) C d_Md_isOf_26 ki_1 ?_
  refine z_goto (pc := 27) (tgt := 31) C d_Md_isOf_27 (by decide) ?_
  exact w_Md_isOf_31 hAD C hr σ (1 : Int32) hm
set_option maxHeartbeats 4000000 in
set_option maxRecDepth 100000 in
theorem w_Md_isOf_30 {D : va_G} {ad : Nat → Nat} {cA : Nat → ClassId} {p : Program} {l : Launch} {e : Env} {s : State} {m : MethodId} {args : Array Value} {below : List Frame} {meth : Method} {c : Code} {F : Nat} (hAD : ∀ σ, va_D (owM ad) (wdM ad cA σ)) (C : CM D ad cA xTr p s m args meth c bc_Md_isOf "KindRoundsModel" 1) (hr : meth.sig.returnType = some .boolean) {r : Int32} {σ' : zS} (σ : zS) (hm : Md_isOf_30 F σ = some (r, σ')) : ZM D ad cA p l e (rmK 1) s m args below meth c 1 (qiM D ad cA below args s r σ') 30 [] [] σ := by
  unfold Md_isOf_30 at hm
  refine z_iconst (pc := 30) C d_Md_isOf_30 ki_0 ?_
  exact w_Md_isOf_31 hAD C hr σ (0 : Int32) hm
set_option maxHeartbeats 4000000 in
set_option maxRecDepth 100000 in
theorem k_Md_isOf {l : Launch} {D : va_G} {ad : Nat → Nat} {cA : Nat → ClassId} {F : Nat} (hAD : ∀ σ, va_D (owM ad) (wdM ad cA σ)) {σ : zS} {x0 : Int32} {r : Int32} {σ' : zS} (hm : Md_isOf F σ x0 = some (r, σ')) : kIM l D ad cA xTr y_Md_isOf bc_Md_isOf 1 .boolean 1 [.int x0] σ r σ' := by
  refine kI_of (by decide) hAD xTr_P (Nat.le_of_ble_eq_true rfl) ?_
  intro p e s m below meth c C hr
  unfold Md_isOf at hm
  refine z_lv (lv' := [(0, .int x0)]) [0] rfl ?_
  refine z_iload_n (pc := 0) C d_Md_isOf_0 rfl 0 rfl ?_
  obtain ⟨r2, σ1, e3, hm⟩ := bi_s hm
  refine z_callSI (pc := 1) C (k_Md_isUpper hAD e3) kz_Md_isUpper mM_4 rfl (kR_of (Nat.le_of_ble_eq_true rfl) (Nat.le_of_ble_eq_true rfl)) rfl (Nat.le_of_ble_eq_true rfl) d_Md_isOf_1 ?_
  refine z_if_ne (pc := 4) (tgt := 26) C d_Md_isOf_4 (by decide) (fun c4 => ?_) (fun c4 => ?_)
  · rw [if_neg c4] at hm
    refine z_lv (lv' := []) [] rfl ?_
    exact w_Md_isOf_26 hAD C hr σ1 hm
  · rw [if_pos c4] at hm
    refine z_iload_n (pc := 7) C d_Md_isOf_7 rfl 0 rfl ?_
    obtain ⟨r6, σ5, e7, hm⟩ := bi_s hm
    refine z_callSI (pc := 8) C (k_Md_isLower hAD e7) kz_Md_isLower mM_5 rfl (kR_of (Nat.le_of_ble_eq_true rfl) (Nat.le_of_ble_eq_true rfl)) rfl (Nat.le_of_ble_eq_true rfl) d_Md_isOf_8 ?_
    refine z_if_ne (pc := 11) (tgt := 26) C d_Md_isOf_11 (by decide) (fun c8 => ?_) (fun c8 => ?_)
    · rw [if_neg c8] at hm
      refine z_lv (lv' := []) [] rfl ?_
      exact w_Md_isOf_26 hAD C hr σ5 hm
    · rw [if_pos c8] at hm
      refine z_iload_n (pc := 14) C d_Md_isOf_14 rfl 0 rfl ?_
      refine z_bipush (pc := 15) C d_Md_isOf_15 kb_48 ?_
      refine z_icmp_lt (pc := 17) (tgt := 30) C d_Md_isOf_17 (by decide) (fun c9 => ?_) (fun c9 => ?_)
      · rw [if_pos c9] at hm
        refine z_lv (lv' := []) [] rfl ?_
        exact w_Md_isOf_30 hAD C hr σ5 hm
      · rw [if_neg c9] at hm
        refine z_iload_n (pc := 20) C d_Md_isOf_20 rfl 0 rfl ?_
        refine z_bipush (pc := 21) C d_Md_isOf_21 kb_57 ?_
        refine z_icmp_gt (pc := 23) (tgt := 30) C d_Md_isOf_23 (by decide) (fun c10 => ?_) (fun c10 => ?_)
        · rw [if_pos c10] at hm
          refine z_lv (lv' := []) [] rfl ?_
          exact w_Md_isOf_30 hAD C hr σ5 hm
        · rw [if_neg c10] at hm
          refine z_lv (lv' := []) [] rfl ?_
          exact w_Md_isOf_26 hAD C hr σ5 hm
set_option maxHeartbeats 4000000 in
set_option maxRecDepth 100000 in
theorem w_Md_name_172 {D : va_G} {ad : Nat → Nat} {cA : Nat → ClassId} {p : Program} {l : Launch} {e : Env} {s : State} {m : MethodId} {args : Array Value} {below : List Frame} {meth : Method} {c : Code} {F : Nat} (hAD : ∀ σ, va_D (owM ad) (wdM ad cA σ)) (C : CM D ad cA xTr p s m args meth c bc_Md_name "KindRoundsModel" 3) (hr : meth.sig.returnType = none) {σ' : zS} (σ : zS) (hm : Md_name_172 F σ = some σ') : ZM D ad cA p l e (rmK 2) s m args below meth c 3 (qvM D ad cA below args s σ') 172 [] [] σ := by
  unfold Md_name_172 at hm
  exact z_vretE (pc := 172) C hr hm d_Md_name_172
set_option maxHeartbeats 4000000 in
set_option maxRecDepth 100000 in
theorem w_Md_name_149 {D : va_G} {ad : Nat → Nat} {cA : Nat → ClassId} {p : Program} {l : Launch} {e : Env} {s : State} {m : MethodId} {args : Array Value} {below : List Frame} {meth : Method} {c : Code} {F : Nat} (hAD : ∀ σ, va_D (owM ad) (wdM ad cA σ)) (C : CM D ad cA xTr p s m args meth c bc_Md_name "KindRoundsModel" 3) (hr : meth.sig.returnType = none) {σ' : zS} (σ : zS) (x2 : Int32) (s1 : Int32) (hm : Md_name_149 F σ x2 s1 = some σ') : ZM D ad cA p l e (rmK 2) s m args below meth c 3 (qvM D ad cA below args s σ') 149 [(0, .ref (ad 0)), (2, .int x2)] [.int s1, .ref (ad 0)] σ := by
  unfold Md_name_149 at hm
  refine pM_Md_241 (pc := 149) C  d_Md_name_149 ?_
  refine z_iload_n (pc := 152) C d_Md_name_152 rfl 1 rfl ?_
  refine z_bipush (pc := 153) C d_Md_name_153 kb_8 ?_
  refine z_icmp_le (pc := 155) (tgt := 172) C d_Md_name_155 (by decide) (fun c1 => ?_) (fun c1 => ?_)
  · rw [if_pos c1] at hm
    refine z_lv (lv' := []) [] rfl ?_
    exact w_Md_name_172 hAD C hr (si σ 4 s1) hm
  · rw [if_neg c1] at hm
    refine z_aload_n (pc := 158) C d_Md_name_158 rfl 0 rfl ?_
    refine z_iconst (pc := 159) C d_Md_name_159 ki_1 ?_
    refine z_aload_n (pc := 160) C d_Md_name_160 rfl 0 rfl ?_
    refine gM_Md_238 (pc := 161) (v := (gi σ 5)) C rfl d_Md_name_161 ?_
    obtain ⟨σ2, e3, hm⟩ := bv_s hm
    refine z_callV (pc := 164) C (k_Md_wrong hAD e3) kz_Md_wrong mM_11 rfl rfl oM_0 rfl (kR_of (Nat.le_of_ble_eq_true rfl) (Nat.le_of_ble_eq_true rfl)) rfl (Nat.le_of_ble_eq_true rfl) d_Md_name_164 ?_
    refine z_aload_n (pc := 167) C d_Md_name_167 rfl 0 rfl ?_
    refine z_iconst (pc := 168) C d_Md_name_168 ki_5 ?_
    refine pM_Md_241 (pc := 169) C  d_Md_name_169 ?_
    refine z_lv (lv' := []) [] rfl ?_
    exact w_Md_name_172 hAD C hr (si σ2 4 (5 : Int32)) hm
set_option maxHeartbeats 4000000 in
set_option maxRecDepth 100000 in
theorem w_Md_name_148 {D : va_G} {ad : Nat → Nat} {cA : Nat → ClassId} {p : Program} {l : Launch} {e : Env} {s : State} {m : MethodId} {args : Array Value} {below : List Frame} {meth : Method} {c : Code} {F : Nat} (hAD : ∀ σ, va_D (owM ad) (wdM ad cA σ)) (C : CM D ad cA xTr p s m args meth c bc_Md_name "KindRoundsModel" 3) (hr : meth.sig.returnType = none) {σ' : zS} (σ : zS) (x2 : Int32) (hm : Md_name_148 F σ x2 = some σ') : ZM D ad cA p l e (rmK 2) s m args below meth c 3 (qvM D ad cA below args s σ') 148 [(0, .ref (ad 0)), (2, .int x2)] [.ref (ad 0)] σ := by
  unfold Md_name_148 at hm
  refine z_iconst (pc := 148) C d_Md_name_148 ki_2 ?_
  exact w_Md_name_149 hAD C hr σ x2 (2 : Int32) hm
set_option maxHeartbeats 4000000 in
set_option maxRecDepth 100000 in
theorem w_Md_name_144 {D : va_G} {ad : Nat → Nat} {cA : Nat → ClassId} {p : Program} {l : Launch} {e : Env} {s : State} {m : MethodId} {args : Array Value} {below : List Frame} {meth : Method} {c : Code} {F : Nat} (hAD : ∀ σ, va_D (owM ad) (wdM ad cA σ)) (C : CM D ad cA xTr p s m args meth c bc_Md_name "KindRoundsModel" 3) (hr : meth.sig.returnType = none) {σ' : zS} (σ : zS) (x2 : Int32) (hm : Md_name_144 F σ x2 = some σ') : ZM D ad cA p l e (rmK 2) s m args below meth c 3 (qvM D ad cA below args s σ') 144 [(0, .ref (ad 0)), (2, .int x2)] [.ref (ad 0)] σ := by
  unfold Md_name_144 at hm
  refine z_iconst (pc := 144) C d_Md_name_144 ki_3 ?_
  refine z_goto (pc := 145) (tgt := 149) C d_Md_name_145 (by decide) ?_
  exact w_Md_name_149 hAD C hr σ x2 (3 : Int32) hm
set_option maxHeartbeats 4000000 in
set_option maxRecDepth 100000 in
theorem w_Md_name_128 {D : va_G} {ad : Nat → Nat} {cA : Nat → ClassId} {p : Program} {l : Launch} {e : Env} {s : State} {m : MethodId} {args : Array Value} {below : List Frame} {meth : Method} {c : Code} {F : Nat} (hAD : ∀ σ, va_D (owM ad) (wdM ad cA σ)) (C : CM D ad cA xTr p s m args meth c bc_Md_name "KindRoundsModel" 3) (hr : meth.sig.returnType = none) {σ' : zS} (σ : zS) (x2 : Int32) (hm : Md_name_128 F σ x2 = some σ') : ZM D ad cA p l e (rmK 2) s m args below meth c 3 (qvM D ad cA below args s σ') 128 [(0, .ref (ad 0)), (2, .int x2)] [.ref (ad 0)] σ := by
  unfold Md_name_128 at hm
  refine z_aload_n (pc := 128) C d_Md_name_128 rfl 0 rfl ?_
  refine gM_Md_255 (pc := 129) (v := (gl σ 6)) C rfl d_Md_name_129 ?_
  refine z_ldc2 (pc := 132) C mM_14 d_Md_name_132 ?_
  refine z_lcmp (pc := 135) C d_Md_name_135 ?_
  refine z_if_ne (pc := 136) (tgt := 148) C d_Md_name_136 (by decide) (fun c1 => ?_) (fun c1 => ?_)
  · rw [if_neg c1] at hm
    exact w_Md_name_148 hAD C hr σ x2 hm
  · rw [if_pos c1] at hm
    refine z_iload_n (pc := 139) C d_Md_name_139 rfl 1 rfl ?_
    refine z_iconst (pc := 140) C d_Md_name_140 ki_4 ?_
    refine z_icmp_ne (pc := 141) (tgt := 148) C d_Md_name_141 (by decide) (fun c2 => ?_) (fun c2 => ?_)
    · rw [if_neg c2] at hm
      exact w_Md_name_148 hAD C hr σ x2 hm
    · rw [if_pos c2] at hm
      exact w_Md_name_144 hAD C hr σ x2 hm
set_option maxHeartbeats 4000000 in
set_option maxRecDepth 100000 in
theorem w_Md_name_112 {D : va_G} {ad : Nat → Nat} {cA : Nat → ClassId} {p : Program} {l : Launch} {e : Env} {s : State} {m : MethodId} {args : Array Value} {below : List Frame} {meth : Method} {c : Code} {F : Nat} (hAD : ∀ σ, va_D (owM ad) (wdM ad cA σ)) (C : CM D ad cA xTr p s m args meth c bc_Md_name "KindRoundsModel" 3) (hr : meth.sig.returnType = none) {σ' : zS} (σ : zS) (x2 : Int32) (hm : Md_name_112 F σ x2 = some σ') : ZM D ad cA p l e (rmK 2) s m args below meth c 3 (qvM D ad cA below args s σ') 112 [(0, .ref (ad 0)), (2, .int x2)] [.ref (ad 0)] σ := by
  unfold Md_name_112 at hm
  refine z_aload_n (pc := 112) C d_Md_name_112 rfl 0 rfl ?_
  refine gM_Md_255 (pc := 113) (v := (gl σ 6)) C rfl d_Md_name_113 ?_
  refine z_ldc2 (pc := 116) C mM_15 d_Md_name_116 ?_
  refine z_lcmp (pc := 119) C d_Md_name_119 ?_
  refine z_if_ne (pc := 120) (tgt := 128) C d_Md_name_120 (by decide) (fun c1 => ?_) (fun c1 => ?_)
  · rw [if_neg c1] at hm
    exact w_Md_name_128 hAD C hr σ x2 hm
  · rw [if_pos c1] at hm
    refine z_iload_n (pc := 123) C d_Md_name_123 rfl 1 rfl ?_
    refine z_iconst (pc := 124) C d_Md_name_124 ki_5 ?_
    refine z_icmp_eq (pc := 125) (tgt := 144) C d_Md_name_125 (by decide) (fun c2 => ?_) (fun c2 => ?_)
    · rw [if_pos c2] at hm
      exact w_Md_name_144 hAD C hr σ x2 hm
    · rw [if_neg c2] at hm
      exact w_Md_name_128 hAD C hr σ x2 hm
set_option maxHeartbeats 4000000 in
set_option maxRecDepth 100000 in
theorem w_Md_name_96 {D : va_G} {ad : Nat → Nat} {cA : Nat → ClassId} {p : Program} {l : Launch} {e : Env} {s : State} {m : MethodId} {args : Array Value} {below : List Frame} {meth : Method} {c : Code} {F : Nat} (hAD : ∀ σ, va_D (owM ad) (wdM ad cA σ)) (C : CM D ad cA xTr p s m args meth c bc_Md_name "KindRoundsModel" 3) (hr : meth.sig.returnType = none) {σ' : zS} (σ : zS) (x2 : Int32) (hm : Md_name_96 F σ x2 = some σ') : ZM D ad cA p l e (rmK 2) s m args below meth c 3 (qvM D ad cA below args s σ') 96 [(0, .ref (ad 0)), (2, .int x2)] [.ref (ad 0)] σ := by
  unfold Md_name_96 at hm
  refine z_aload_n (pc := 96) C d_Md_name_96 rfl 0 rfl ?_
  refine gM_Md_255 (pc := 97) (v := (gl σ 6)) C rfl d_Md_name_97 ?_
  refine z_ldc2 (pc := 100) C mM_16 d_Md_name_100 ?_
  refine z_lcmp (pc := 103) C d_Md_name_103 ?_
  refine z_if_ne (pc := 104) (tgt := 112) C d_Md_name_104 (by decide) (fun c1 => ?_) (fun c1 => ?_)
  · rw [if_neg c1] at hm
    exact w_Md_name_112 hAD C hr σ x2 hm
  · rw [if_pos c1] at hm
    refine z_iload_n (pc := 107) C d_Md_name_107 rfl 1 rfl ?_
    refine z_iconst (pc := 108) C d_Md_name_108 ki_4 ?_
    refine z_icmp_eq (pc := 109) (tgt := 144) C d_Md_name_109 (by decide) (fun c2 => ?_) (fun c2 => ?_)
    · rw [if_pos c2] at hm
      exact w_Md_name_144 hAD C hr σ x2 hm
    · rw [if_neg c2] at hm
      exact w_Md_name_112 hAD C hr σ x2 hm
set_option maxHeartbeats 4000000 in
set_option maxRecDepth 100000 in
theorem w_Md_name_52 {D : va_G} {ad : Nat → Nat} {cA : Nat → ClassId} {p : Program} {l : Launch} {e : Env} {s : State} {m : MethodId} {args : Array Value} {below : List Frame} {meth : Method} {c : Code} {F : Nat} (hAD : ∀ σ, va_D (owM ad) (wdM ad cA σ)) (C : CM D ad cA xTr p s m args meth c bc_Md_name "KindRoundsModel" 3) (hr : meth.sig.returnType = none) {σ' : zS} (rc7 : zS → Int32 → Int32 → Option zS) (h7 : ∀ σ x1 x2, rc7 σ x1 x2 = some σ' → ZM D ad cA p l e (rmK 2) s m args below meth c 3 (qvM D ad cA below args s σ') 7 [(0, .ref (ad 0)), (1, .int x1), (2, .int x2)] [] σ) (σ : zS) (x1 : Int32) (x2 : Int32) (s1 : Int64) (hm : Md_name_52 F rc7 σ x1 x2 s1 = some σ') : ZM D ad cA p l e (rmK 2) s m args below meth c 3 (qvM D ad cA below args s σ') 52 [(0, .ref (ad 0)), (1, .int x1), (2, .int x2)] [.long s1, .ref (ad 0)] σ := by
  unfold Md_name_52 at hm
  refine pM_Md_255 (pc := 52) C  d_Md_name_52 ?_
  refine z_iinc (pc := 55) (lv' := [(0, .ref (ad 0)), (1, .int x1), (2, .int (x2 + (1 : Int32)))]) C d_Md_name_55 2 rfl (ii ki_1) (Nat.le_of_ble_eq_true rfl) [1, 2, 0] rfl ?_
  refine z_aload_n (pc := 58) C d_Md_name_58 rfl 0 rfl ?_
  refine z_dup (pc := 59) C d_Md_name_59 rfl ?_
  refine gM_Md_231 (pc := 60) (v := (gi σ 3)) C rfl d_Md_name_60 ?_
  refine z_iconst (pc := 63) C d_Md_name_63 ki_1 ?_
  refine z_iadd (pc := 64) C d_Md_name_64 ?_
  refine pM_Md_231 (pc := 65) C  d_Md_name_65 ?_
  refine z_goto (pc := 68) (tgt := 7) C d_Md_name_68 (by decide) ?_
  exact h7 (si (sl σ 6 s1) 3 ((gi σ 3) + (1 : Int32))) x1 (x2 + (1 : Int32)) hm
set_option maxHeartbeats 4000000 in
set_option maxRecDepth 100000 in
theorem w_Md_name_7 {D : va_G} {ad : Nat → Nat} {cA : Nat → ClassId} {p : Program} {l : Launch} {e : Env} {s : State} {m : MethodId} {args : Array Value} {below : List Frame} {meth : Method} {c : Code} {F : Nat} (hAD : ∀ σ, va_D (owM ad) (wdM ad cA σ)) (C : CM D ad cA xTr p s m args meth c bc_Md_name "KindRoundsModel" 3) (hr : meth.sig.returnType = none) {σ' : zS} : ∀ (n : Nat) (σ : zS) (x1 : Int32) (x2 : Int32), Md_name_7 F n σ x1 x2 = some σ' → ZM D ad cA p l e (rmK 2) s m args below meth c 3 (qvM D ad cA below args s σ') 7 [(0, .ref (ad 0)), (1, .int x1), (2, .int x2)] [] σ := by
  intro n
  induction n with
  | zero => intro σ x1 x2 hm; cases hm
  | succ n h7 =>
    intro σ x1 x2 hm
    have hm : Md_name_b7 F (Md_name_7 F n) σ x1 x2 = some σ' := hm
    unfold Md_name_b7 at hm
    refine z_aload_n (pc := 7) C d_Md_name_7 rfl 0 rfl ?_
    refine z_aload_n (pc := 8) C d_Md_name_8 rfl 0 rfl ?_
    refine gM_Md_231 (pc := 9) (v := (gi σ 3)) C rfl d_Md_name_9 ?_
    obtain ⟨r2, σ1, e3, hm⟩ := bi_s hm
    refine z_callI (pc := 12) C (k_Md_byteAt hAD e3) kz_Md_byteAt mM_12 rfl rfl oM_0 rfl (kR_of (Nat.le_of_ble_eq_true rfl) (Nat.le_of_ble_eq_true rfl)) rfl (Nat.le_of_ble_eq_true rfl) d_Md_name_12 ?_
    obtain ⟨r5, σ4, e6, hm⟩ := bi_s hm
    refine z_callSI (pc := 15) C (k_Md_isOf hAD e6) kz_Md_isOf mM_17 rfl (kR_of (Nat.le_of_ble_eq_true rfl) (Nat.le_of_ble_eq_true rfl)) rfl (Nat.le_of_ble_eq_true rfl) d_Md_name_15 ?_
    refine z_if_eq (pc := 18) (tgt := 71) C d_Md_name_18 (by decide) (fun c7 => ?_) (fun c7 => ?_)
    · rw [if_pos c7] at hm
      refine z_aload_n (pc := 71) C d_Md_name_71 rfl 0 rfl ?_
      refine z_iload_n (pc := 72) C d_Md_name_72 rfl 1 rfl ?_
      refine z_if_eq (pc := 73) (tgt := 80) C d_Md_name_73 (by decide) (fun c8 => ?_) (fun c8 => ?_)
      · rw [if_pos c8] at hm
        refine z_aload_n (pc := 80) C d_Md_name_80 rfl 0 rfl ?_
        refine gM_Md_255 (pc := 81) (v := (gl σ4 6)) C rfl d_Md_name_81 ?_
        refine z_ldc2 (pc := 84) C mM_18 d_Md_name_84 ?_
        refine z_lcmp (pc := 87) C d_Md_name_87 ?_
        refine z_if_ne (pc := 88) (tgt := 96) C d_Md_name_88 (by decide) (fun c9 => ?_) (fun c9 => ?_)
        · rw [if_neg c9] at hm
          refine z_lv (lv' := [(0, .ref (ad 0)), (2, .int x2)]) [0, 2] rfl ?_
          exact w_Md_name_96 hAD C hr σ4 x2 hm
        · rw [if_pos c9] at hm
          refine z_iload_n (pc := 91) C d_Md_name_91 rfl 2 rfl ?_
          refine z_iconst (pc := 92) C d_Md_name_92 ki_4 ?_
          refine z_icmp_eq (pc := 93) (tgt := 144) C d_Md_name_93 (by decide) (fun c10 => ?_) (fun c10 => ?_)
          · rw [if_pos c10] at hm
            refine z_lv (lv' := [(0, .ref (ad 0)), (2, .int x2)]) [0, 2] rfl ?_
            exact w_Md_name_144 hAD C hr σ4 x2 hm
          · rw [if_neg c10] at hm
            refine z_lv (lv' := [(0, .ref (ad 0)), (2, .int x2)]) [0, 2] rfl ?_
            exact w_Md_name_96 hAD C hr σ4 x2 hm
      · rw [if_neg c8] at hm
        refine z_iconst (pc := 76) C d_Md_name_76 ki_1 ?_
        refine z_goto (pc := 77) (tgt := 149) C d_Md_name_77 (by decide) ?_
        refine z_lv (lv' := [(0, .ref (ad 0)), (2, .int x2)]) [0, 2] rfl ?_
        exact w_Md_name_149 hAD C hr σ4 x2 (1 : Int32) hm
    · rw [if_neg c7] at hm
      refine z_aload_n (pc := 21) C d_Md_name_21 rfl 0 rfl ?_
      refine z_iload_n (pc := 22) C d_Md_name_22 rfl 2 rfl ?_
      refine z_bipush (pc := 23) C d_Md_name_23 kb_8 ?_
      refine z_icmp_ge (pc := 25) (tgt := 48) C d_Md_name_25 (by decide) (fun c11 => ?_) (fun c11 => ?_)
      · rw [if_pos c11] at hm
        refine z_aload_n (pc := 48) C d_Md_name_48 rfl 0 rfl ?_
        refine gM_Md_255 (pc := 49) (v := (gl σ4 6)) C rfl d_Md_name_49 ?_
        exact w_Md_name_52 hAD C hr _ h7 σ4 x1 x2 (gl σ4 6) hm
      · rw [if_neg c11] at hm
        refine z_aload_n (pc := 28) C d_Md_name_28 rfl 0 rfl ?_
        refine gM_Md_255 (pc := 29) (v := (gl σ4 6)) C rfl d_Md_name_29 ?_
        refine z_bipush (pc := 32) C d_Md_name_32 kb_8 ?_
        refine z_lshl (pc := 34) C d_Md_name_34 ?_
        refine z_aload_n (pc := 35) C d_Md_name_35 rfl 0 rfl ?_
        refine z_aload_n (pc := 36) C d_Md_name_36 rfl 0 rfl ?_
        refine gM_Md_231 (pc := 37) (v := (gi σ4 3)) C rfl d_Md_name_37 ?_
        obtain ⟨r13, σ12, e14, hm⟩ := bi_s hm
        refine z_callI (pc := 40) C (k_Md_byteAt hAD e14) kz_Md_byteAt mM_12 rfl rfl oM_0 rfl (kR_of (Nat.le_of_ble_eq_true rfl) (Nat.le_of_ble_eq_true rfl)) rfl (Nat.le_of_ble_eq_true rfl) d_Md_name_40 ?_
        refine z_i2l (pc := 43) C d_Md_name_43 ?_
        refine z_lor (pc := 44) C d_Md_name_44 ?_
        refine z_goto (pc := 45) (tgt := 52) C d_Md_name_45 (by decide) ?_
        exact w_Md_name_52 hAD C hr _ h7 σ12 x1 x2 (((gl σ4 6) <<< (Int32.toInt64 (8 : Int32) &&& 63)) ||| (Int32.toInt64 r13)) hm
set_option maxHeartbeats 4000000 in
set_option maxRecDepth 100000 in
theorem k_Md_name {l : Launch} {D : va_G} {ad : Nat → Nat} {cA : Nat → ClassId} {F : Nat} (hAD : ∀ σ, va_D (owM ad) (wdM ad cA σ)) {σ : zS} {x1 : Int32} {σ' : zS} (hm : Md_name F σ x1 = some σ') : kVM l D ad cA xTr y_Md_name bc_Md_name 3 2 [.ref (ad 0), .int x1] σ σ' := by
  refine kV_of (by decide) hAD xTr_P (Nat.le_of_ble_eq_true rfl) ?_
  intro p e s m below meth c C hr
  unfold Md_name at hm
  refine z_lv (lv' := [(0, .ref (ad 0)), (1, .int x1)]) [0, 1] rfl ?_
  refine z_aload_n (pc := 0) C d_Md_name_0 rfl 0 rfl ?_
  refine z_lconst (pc := 1) C d_Md_name_1 rfl ?_
  refine pM_Md_255 (pc := 2) C  d_Md_name_2 ?_
  refine z_iconst (pc := 5) C d_Md_name_5 ki_0 ?_
  refine z_istore_n (pc := 6) (lv' := [(0, .ref (ad 0)), (1, .int x1), (2, .int (0 : Int32))]) C d_Md_name_6 rfl (Nat.le_of_ble_eq_true rfl) [1, 2, 0] rfl ?_
  exact w_Md_name_7 hAD C hr F (sl σ 6 (0 : Int64)) x1 (0 : Int32) hm
set_option maxHeartbeats 4000000 in
set_option maxRecDepth 100000 in
theorem w_Md_next_26 {D : va_G} {ad : Nat → Nat} {cA : Nat → ClassId} {p : Program} {l : Launch} {e : Env} {s : State} {m : MethodId} {args : Array Value} {below : List Frame} {meth : Method} {c : Code} {F : Nat} (hAD : ∀ σ, va_D (owM ad) (wdM ad cA σ)) (C : CM D ad cA xTr p s m args meth c bc_Md_next "KindRoundsModel" 4) (hr : meth.sig.returnType = none) {σ' : zS} (rc0 : zS → Option zS) (h0 : ∀ σ, rc0 σ = some σ' → ZM D ad cA p l e (rmK 3) s m args below meth c 4 (qvM D ad cA below args s σ') 0 [(0, .ref (ad 0))] [] σ) (σ : zS) (hm : Md_next_26 F rc0 σ = some σ') : ZM D ad cA p l e (rmK 3) s m args below meth c 4 (qvM D ad cA below args s σ') 26 [(0, .ref (ad 0))] [] σ := by
  unfold Md_next_26 at hm
  refine z_aload_n (pc := 26) C d_Md_next_26 rfl 0 rfl ?_
  refine z_dup (pc := 27) C d_Md_next_27 rfl ?_
  refine gM_Md_231 (pc := 28) (v := (gi σ 3)) C rfl d_Md_next_28 ?_
  refine z_iconst (pc := 31) C d_Md_next_31 ki_1 ?_
  refine z_iadd (pc := 32) C d_Md_next_32 ?_
  refine pM_Md_231 (pc := 33) C  d_Md_next_33 ?_
  refine z_goto (pc := 36) (tgt := 0) C d_Md_next_36 (by decide) ?_
  exact h0 (si σ 3 ((gi σ 3) + (1 : Int32))) hm
set_option maxHeartbeats 4000000 in
set_option maxRecDepth 100000 in
theorem w_Md_next_67 {D : va_G} {ad : Nat → Nat} {cA : Nat → ClassId} {p : Program} {l : Launch} {e : Env} {s : State} {m : MethodId} {args : Array Value} {below : List Frame} {meth : Method} {c : Code} {F : Nat} (hAD : ∀ σ, va_D (owM ad) (wdM ad cA σ)) (C : CM D ad cA xTr p s m args meth c bc_Md_next "KindRoundsModel" 4) (hr : meth.sig.returnType = none) {σ' : zS} (σ : zS) (hm : Md_next_67 F σ = some σ') : ZM D ad cA p l e (rmK 3) s m args below meth c 4 (qvM D ad cA below args s σ') 67 [(0, .ref (ad 0))] [] σ := by
  unfold Md_next_67 at hm
  refine z_aload_n (pc := 67) C d_Md_next_67 rfl 0 rfl ?_
  refine z_iconst (pc := 68) C d_Md_next_68 ki_5 ?_
  refine pM_Md_241 (pc := 69) C  d_Md_next_69 ?_
  exact z_vretE (pc := 72) C hr hm d_Md_next_72
set_option maxHeartbeats 4000000 in
set_option maxRecDepth 100000 in
theorem w_Md_next_87 {D : va_G} {ad : Nat → Nat} {cA : Nat → ClassId} {p : Program} {l : Launch} {e : Env} {s : State} {m : MethodId} {args : Array Value} {below : List Frame} {meth : Method} {c : Code} {F : Nat} (hAD : ∀ σ, va_D (owM ad) (wdM ad cA σ)) (C : CM D ad cA xTr p s m args meth c bc_Md_next "KindRoundsModel" 4) (hr : meth.sig.returnType = none) {σ' : zS} (σ : zS) (x1 : Int32) (hm : Md_next_87 F σ x1 = some σ') : ZM D ad cA p l e (rmK 3) s m args below meth c 4 (qvM D ad cA below args s σ') 87 [(0, .ref (ad 0)), (1, .int x1)] [] σ := by
  unfold Md_next_87 at hm
  refine z_aload_n (pc := 87) C d_Md_next_87 rfl 0 rfl ?_
  refine z_iload_n (pc := 88) C d_Md_next_88 rfl 1 rfl ?_
  obtain ⟨r2, σ1, e3, hm⟩ := bi_s hm
  refine z_callSI (pc := 89) C (k_Md_isUpper hAD e3) kz_Md_isUpper mM_4 rfl (kR_of (Nat.le_of_ble_eq_true rfl) (Nat.le_of_ble_eq_true rfl)) rfl (Nat.le_of_ble_eq_true rfl) d_Md_next_89 ?_
  obtain ⟨σ4, e5, hm⟩ := bv_s hm
  refine z_callV (pc := 92) C (k_Md_name hAD e5) kz_Md_name mM_8 rfl rfl oM_0 rfl (kR_of (Nat.le_of_ble_eq_true rfl) (Nat.le_of_ble_eq_true rfl)) rfl (Nat.le_of_ble_eq_true rfl) d_Md_next_92 ?_
  exact z_vretE (pc := 95) C hr hm d_Md_next_95
set_option maxHeartbeats 4000000 in
set_option maxRecDepth 100000 in
theorem w_Md_next_271 {D : va_G} {ad : Nat → Nat} {cA : Nat → ClassId} {p : Program} {l : Launch} {e : Env} {s : State} {m : MethodId} {args : Array Value} {below : List Frame} {meth : Method} {c : Code} {F : Nat} (hAD : ∀ σ, va_D (owM ad) (wdM ad cA σ)) (C : CM D ad cA xTr p s m args meth c bc_Md_next "KindRoundsModel" 4) (hr : meth.sig.returnType = none) {σ' : zS} (σ : zS) (hm : Md_next_271 F σ = some σ') : ZM D ad cA p l e (rmK 3) s m args below meth c 4 (qvM D ad cA below args s σ') 271 [] [] σ := by
  unfold Md_next_271 at hm
  exact z_vretE (pc := 271) C hr hm d_Md_next_271
set_option maxHeartbeats 4000000 in
set_option maxRecDepth 100000 in
theorem w_Md_next_237 {D : va_G} {ad : Nat → Nat} {cA : Nat → ClassId} {p : Program} {l : Launch} {e : Env} {s : State} {m : MethodId} {args : Array Value} {below : List Frame} {meth : Method} {c : Code} {F : Nat} (hAD : ∀ σ, va_D (owM ad) (wdM ad cA σ)) (C : CM D ad cA xTr p s m args meth c bc_Md_next "KindRoundsModel" 4) (hr : meth.sig.returnType = none) {σ' : zS} (σ : zS) (x1 : Int32) (s0 : Int32) (hm : Md_next_237 F σ x1 s0 = some σ') : ZM D ad cA p l e (rmK 3) s m args below meth c 4 (qvM D ad cA below args s σ') 237 [(0, .ref (ad 0)), (1, .int x1)] [.int s0] σ := by
  unfold Md_next_237 at hm
  refine z_istore_n (pc := 237) (lv' := [(0, .ref (ad 0)), (1, .int x1), (3, .int s0)]) C d_Md_next_237 rfl (Nat.le_of_ble_eq_true rfl) [1, 2, 0] rfl ?_
  refine z_aload_n (pc := 238) C d_Md_next_238 rfl 0 rfl ?_
  refine z_iload_n (pc := 239) C d_Md_next_239 rfl 1 rfl ?_
  refine pM_Md_248 (pc := 240) C  d_Md_next_240 ?_
  refine z_aload_n (pc := 243) C d_Md_next_243 rfl 0 rfl ?_
  refine z_dup (pc := 244) C d_Md_next_244 rfl ?_
  refine gM_Md_231 (pc := 245) (v := (gi σ 3)) C rfl d_Md_next_245 ?_
  refine z_iconst (pc := 248) C d_Md_next_248 ki_1 ?_
  refine z_iadd (pc := 249) C d_Md_next_249 ?_
  refine pM_Md_231 (pc := 250) C  d_Md_next_250 ?_
  refine z_iload_n (pc := 253) C d_Md_next_253 rfl 2 rfl ?_
  refine z_if_ne (pc := 254) (tgt := 271) C d_Md_next_254 (by decide) (fun c1 => ?_) (fun c1 => ?_)
  · rw [if_neg c1] at hm
    refine z_lv (lv' := []) [] rfl ?_
    exact w_Md_next_271 hAD C hr (si (si σ 7 x1) 3 ((gi σ 3) + (1 : Int32))) hm
  · rw [if_pos c1] at hm
    refine z_aload_n (pc := 257) C d_Md_next_257 rfl 0 rfl ?_
    refine z_iconst (pc := 258) C d_Md_next_258 ki_1 ?_
    refine z_aload_n (pc := 259) C d_Md_next_259 rfl 0 rfl ?_
    refine gM_Md_238 (pc := 260) (v := (gi σ 5)) C rfl d_Md_next_260 ?_
    obtain ⟨σ2, e3, hm⟩ := bv_s hm
    refine z_callV (pc := 263) C (k_Md_wrong hAD e3) kz_Md_wrong mM_11 rfl rfl oM_0 rfl (kR_of (Nat.le_of_ble_eq_true rfl) (Nat.le_of_ble_eq_true rfl)) rfl (Nat.le_of_ble_eq_true rfl) d_Md_next_263 ?_
    refine z_aload_n (pc := 266) C d_Md_next_266 rfl 0 rfl ?_
    refine z_iconst (pc := 267) C d_Md_next_267 ki_5 ?_
    refine pM_Md_241 (pc := 268) C  d_Md_next_268 ?_
    refine z_lv (lv' := []) [] rfl ?_
    exact w_Md_next_271 hAD C hr (si σ2 4 (5 : Int32)) hm
set_option maxHeartbeats 4000000 in
set_option maxRecDepth 100000 in
theorem w_Md_next_232 {D : va_G} {ad : Nat → Nat} {cA : Nat → ClassId} {p : Program} {l : Launch} {e : Env} {s : State} {m : MethodId} {args : Array Value} {below : List Frame} {meth : Method} {c : Code} {F : Nat} (hAD : ∀ σ, va_D (owM ad) (wdM ad cA σ)) (C : CM D ad cA xTr p s m args meth c bc_Md_next "KindRoundsModel" 4) (hr : meth.sig.returnType = none) {σ' : zS} (σ : zS) (x1 : Int32) (hm : Md_next_232 F σ x1 = some σ') : ZM D ad cA p l e (rmK 3) s m args below meth c 4 (qvM D ad cA below args s σ') 232 [(0, .ref (ad 0)), (1, .int x1)] [] σ := by
  unfold Md_next_232 at hm
  refine z_iconst (pc := 232) C d_Md_next_232 ki_1 ?_
  refine z_goto (pc := 233) (tgt := 237) C d_Md_next_233 (by decide) ?_
  exact w_Md_next_237 hAD C hr σ x1 (1 : Int32) hm
set_option maxHeartbeats 4000000 in
set_option maxRecDepth 100000 in
theorem w_Md_next_166 {D : va_G} {ad : Nat → Nat} {cA : Nat → ClassId} {p : Program} {l : Launch} {e : Env} {s : State} {m : MethodId} {args : Array Value} {below : List Frame} {meth : Method} {c : Code} {F : Nat} (hAD : ∀ σ, va_D (owM ad) (wdM ad cA σ)) (C : CM D ad cA xTr p s m args meth c bc_Md_next "KindRoundsModel" 4) (hr : meth.sig.returnType = none) {σ' : zS} (σ : zS) (x1 : Int32) (hm : Md_next_166 F σ x1 = some σ') : ZM D ad cA p l e (rmK 3) s m args below meth c 4 (qvM D ad cA below args s σ') 166 [(0, .ref (ad 0)), (1, .int x1)] [] σ := by
  unfold Md_next_166 at hm
  refine z_iload_n (pc := 166) C d_Md_next_166 rfl 1 rfl ?_
  refine z_bipush (pc := 167) C d_Md_next_167 kb_61 ?_
  refine z_icmp_eq (pc := 169) (tgt := 232) C d_Md_next_169 (by decide) (fun c1 => ?_) (fun c1 => ?_)
  · rw [if_pos c1] at hm
    exact w_Md_next_232 hAD C hr σ x1 hm
  · rw [if_neg c1] at hm
    refine z_iload_n (pc := 172) C d_Md_next_172 rfl 1 rfl ?_
    refine z_bipush (pc := 173) C d_Md_next_173 kb_124 ?_
    refine z_icmp_eq (pc := 175) (tgt := 232) C d_Md_next_175 (by decide) (fun c2 => ?_) (fun c2 => ?_)
    · rw [if_pos c2] at hm
      exact w_Md_next_232 hAD C hr σ x1 hm
    · rw [if_neg c2] at hm
      refine z_iload_n (pc := 178) C d_Md_next_178 rfl 1 rfl ?_
      refine z_bipush (pc := 179) C d_Md_next_179 kb_40 ?_
      refine z_icmp_eq (pc := 181) (tgt := 232) C d_Md_next_181 (by decide) (fun c3 => ?_) (fun c3 => ?_)
      · rw [if_pos c3] at hm
        exact w_Md_next_232 hAD C hr σ x1 hm
      · rw [if_neg c3] at hm
        refine z_iload_n (pc := 184) C d_Md_next_184 rfl 1 rfl ?_
        refine z_bipush (pc := 185) C d_Md_next_185 kb_41 ?_
        refine z_icmp_eq (pc := 187) (tgt := 232) C d_Md_next_187 (by decide) (fun c4 => ?_) (fun c4 => ?_)
        · rw [if_pos c4] at hm
          exact w_Md_next_232 hAD C hr σ x1 hm
        · rw [if_neg c4] at hm
          refine z_iload_n (pc := 190) C d_Md_next_190 rfl 1 rfl ?_
          refine z_bipush (pc := 191) C d_Md_next_191 kb_91 ?_
          refine z_icmp_eq (pc := 193) (tgt := 232) C d_Md_next_193 (by decide) (fun c5 => ?_) (fun c5 => ?_)
          · rw [if_pos c5] at hm
            exact w_Md_next_232 hAD C hr σ x1 hm
          · rw [if_neg c5] at hm
            refine z_iload_n (pc := 196) C d_Md_next_196 rfl 1 rfl ?_
            refine z_bipush (pc := 197) C d_Md_next_197 kb_93 ?_
            refine z_icmp_eq (pc := 199) (tgt := 232) C d_Md_next_199 (by decide) (fun c6 => ?_) (fun c6 => ?_)
            · rw [if_pos c6] at hm
              exact w_Md_next_232 hAD C hr σ x1 hm
            · rw [if_neg c6] at hm
              refine z_iload_n (pc := 202) C d_Md_next_202 rfl 1 rfl ?_
              refine z_bipush (pc := 203) C d_Md_next_203 kb_123 ?_
              refine z_icmp_eq (pc := 205) (tgt := 232) C d_Md_next_205 (by decide) (fun c7 => ?_) (fun c7 => ?_)
              · rw [if_pos c7] at hm
                exact w_Md_next_232 hAD C hr σ x1 hm
              · rw [if_neg c7] at hm
                refine z_iload_n (pc := 208) C d_Md_next_208 rfl 1 rfl ?_
                refine z_bipush (pc := 209) C d_Md_next_209 kb_125 ?_
                refine z_icmp_eq (pc := 211) (tgt := 232) C d_Md_next_211 (by decide) (fun c8 => ?_) (fun c8 => ?_)
                · rw [if_pos c8] at hm
                  exact w_Md_next_232 hAD C hr σ x1 hm
                · rw [if_neg c8] at hm
                  refine z_iload_n (pc := 214) C d_Md_next_214 rfl 1 rfl ?_
                  refine z_bipush (pc := 215) C d_Md_next_215 kb_59 ?_
                  refine z_icmp_eq (pc := 217) (tgt := 232) C d_Md_next_217 (by decide) (fun c9 => ?_) (fun c9 => ?_)
                  · rw [if_pos c9] at hm
                    exact w_Md_next_232 hAD C hr σ x1 hm
                  · rw [if_neg c9] at hm
                    refine z_iload_n (pc := 220) C d_Md_next_220 rfl 1 rfl ?_
                    refine z_bipush (pc := 221) C d_Md_next_221 kb_44 ?_
                    refine z_icmp_eq (pc := 223) (tgt := 232) C d_Md_next_223 (by decide) (fun c10 => ?_) (fun c10 => ?_)
                    · rw [if_pos c10] at hm
                      exact w_Md_next_232 hAD C hr σ x1 hm
                    · rw [if_neg c10] at hm
                      refine z_iload_n (pc := 226) C d_Md_next_226 rfl 1 rfl ?_
                      refine z_bipush (pc := 227) C d_Md_next_227 kb_42 ?_
                      refine z_icmp_ne (pc := 229) (tgt := 236) C d_Md_next_229 (by decide) (fun c11 => ?_) (fun c11 => ?_)
                      · rw [if_neg c11] at hm
                        refine z_iconst (pc := 236) C d_Md_next_236 ki_0 ?_
                        exact w_Md_next_237 hAD C hr σ x1 (0 : Int32) hm
                      · rw [if_pos c11] at hm
                        exact w_Md_next_232 hAD C hr σ x1 hm
set_option maxHeartbeats 4000000 in
set_option maxRecDepth 100000 in
theorem w_Md_next_152 {D : va_G} {ad : Nat → Nat} {cA : Nat → ClassId} {p : Program} {l : Launch} {e : Env} {s : State} {m : MethodId} {args : Array Value} {below : List Frame} {meth : Method} {c : Code} {F : Nat} (hAD : ∀ σ, va_D (owM ad) (wdM ad cA σ)) (C : CM D ad cA xTr p s m args meth c bc_Md_next "KindRoundsModel" 4) (hr : meth.sig.returnType = none) {σ' : zS} (σ : zS) (s1 : Int32) (hm : Md_next_152 F σ s1 = some σ') : ZM D ad cA p l e (rmK 3) s m args below meth c 4 (qvM D ad cA below args s σ') 152 [(0, .ref (ad 0))] [.int s1, .ref (ad 0)] σ := by
  unfold Md_next_152 at hm
  refine pM_Md_248 (pc := 152) C  d_Md_next_152 ?_
  refine z_aload_n (pc := 155) C d_Md_next_155 rfl 0 rfl ?_
  refine z_dup (pc := 156) C d_Md_next_156 rfl ?_
  refine gM_Md_231 (pc := 157) (v := (gi σ 3)) C rfl d_Md_next_157 ?_
  refine z_iconst (pc := 160) C d_Md_next_160 ki_2 ?_
  refine z_iadd (pc := 161) C d_Md_next_161 ?_
  refine pM_Md_231 (pc := 162) C  d_Md_next_162 ?_
  exact z_vretE (pc := 165) C hr hm d_Md_next_165
set_option maxHeartbeats 4000000 in
set_option maxRecDepth 100000 in
theorem w_Md_next_136 {D : va_G} {ad : Nat → Nat} {cA : Nat → ClassId} {p : Program} {l : Launch} {e : Env} {s : State} {m : MethodId} {args : Array Value} {below : List Frame} {meth : Method} {c : Code} {F : Nat} (hAD : ∀ σ, va_D (owM ad) (wdM ad cA σ)) (C : CM D ad cA xTr p s m args meth c bc_Md_next "KindRoundsModel" 4) (hr : meth.sig.returnType = none) {σ' : zS} (σ : zS) (x1 : Int32) (hm : Md_next_136 F σ x1 = some σ') : ZM D ad cA p l e (rmK 3) s m args below meth c 4 (qvM D ad cA below args s σ') 136 [(0, .ref (ad 0)), (1, .int x1)] [] σ := by
  unfold Md_next_136 at hm
  refine z_aload_n (pc := 136) C d_Md_next_136 rfl 0 rfl ?_
  refine z_iload_n (pc := 137) C d_Md_next_137 rfl 1 rfl ?_
  refine z_bipush (pc := 138) C d_Md_next_138 kb_58 ?_
  refine z_icmp_ne (pc := 140) (tgt := 149) C d_Md_next_140 (by decide) (fun c1 => ?_) (fun c1 => ?_)
  · rw [if_neg c1] at hm
    refine z_sipush (pc := 149) C d_Md_next_149 ks_1000 ?_
    refine z_lv (lv' := [(0, .ref (ad 0))]) [0] rfl ?_
    exact w_Md_next_152 hAD C hr σ (1000 : Int32) hm
  · rw [if_pos c1] at hm
    refine z_sipush (pc := 143) C d_Md_next_143 ks_1001 ?_
    refine z_goto (pc := 146) (tgt := 152) C d_Md_next_146 (by decide) ?_
    refine z_lv (lv' := [(0, .ref (ad 0))]) [0] rfl ?_
    exact w_Md_next_152 hAD C hr σ (1001 : Int32) hm
set_option maxHeartbeats 4000000 in
set_option maxRecDepth 100000 in
theorem w_Md_next_124 {D : va_G} {ad : Nat → Nat} {cA : Nat → ClassId} {p : Program} {l : Launch} {e : Env} {s : State} {m : MethodId} {args : Array Value} {below : List Frame} {meth : Method} {c : Code} {F : Nat} (hAD : ∀ σ, va_D (owM ad) (wdM ad cA σ)) (C : CM D ad cA xTr p s m args meth c bc_Md_next "KindRoundsModel" 4) (hr : meth.sig.returnType = none) {σ' : zS} (σ : zS) (x1 : Int32) (x2 : Int32) (hm : Md_next_124 F σ x1 x2 = some σ') : ZM D ad cA p l e (rmK 3) s m args below meth c 4 (qvM D ad cA below args s σ') 124 [(0, .ref (ad 0)), (1, .int x1), (2, .int x2)] [] σ := by
  unfold Md_next_124 at hm
  refine z_iload_n (pc := 124) C d_Md_next_124 rfl 1 rfl ?_
  refine z_bipush (pc := 125) C d_Md_next_125 kb_45 ?_
  refine z_icmp_ne (pc := 127) (tgt := 166) C d_Md_next_127 (by decide) (fun c1 => ?_) (fun c1 => ?_)
  · rw [if_neg c1] at hm
    refine z_lv (lv' := [(0, .ref (ad 0)), (1, .int x1)]) [0, 1] rfl ?_
    exact w_Md_next_166 hAD C hr σ x1 hm
  · rw [if_pos c1] at hm
    refine z_iload_n (pc := 130) C d_Md_next_130 rfl 2 rfl ?_
    refine z_bipush (pc := 131) C d_Md_next_131 kb_62 ?_
    refine z_icmp_ne (pc := 133) (tgt := 166) C d_Md_next_133 (by decide) (fun c2 => ?_) (fun c2 => ?_)
    · rw [if_neg c2] at hm
      refine z_lv (lv' := [(0, .ref (ad 0)), (1, .int x1)]) [0, 1] rfl ?_
      exact w_Md_next_166 hAD C hr σ x1 hm
    · rw [if_pos c2] at hm
      refine z_lv (lv' := [(0, .ref (ad 0)), (1, .int x1)]) [0, 1] rfl ?_
      exact w_Md_next_136 hAD C hr σ x1 hm
set_option maxHeartbeats 4000000 in
set_option maxRecDepth 100000 in
theorem w_Md_next_0 {D : va_G} {ad : Nat → Nat} {cA : Nat → ClassId} {p : Program} {l : Launch} {e : Env} {s : State} {m : MethodId} {args : Array Value} {below : List Frame} {meth : Method} {c : Code} {F : Nat} (hAD : ∀ σ, va_D (owM ad) (wdM ad cA σ)) (C : CM D ad cA xTr p s m args meth c bc_Md_next "KindRoundsModel" 4) (hr : meth.sig.returnType = none) {σ' : zS} : ∀ (n : Nat) (σ : zS), Md_next_0 F n σ = some σ' → ZM D ad cA p l e (rmK 3) s m args below meth c 4 (qvM D ad cA below args s σ') 0 [(0, .ref (ad 0))] [] σ := by
  intro n
  induction n with
  | zero => intro σ hm; cases hm
  | succ n h0 =>
    intro σ hm
    have hm : Md_next_b0 F (Md_next_0 F n) σ = some σ' := hm
    unfold Md_next_b0 at hm
    refine z_aload_n (pc := 0) C d_Md_next_0 rfl 0 rfl ?_
    refine z_aload_n (pc := 1) C d_Md_next_1 rfl 0 rfl ?_
    refine gM_Md_231 (pc := 2) (v := (gi σ 3)) C rfl d_Md_next_2 ?_
    obtain ⟨r2, σ1, e3, hm⟩ := bi_s hm
    refine z_callI (pc := 5) C (k_Md_byteAt hAD e3) kz_Md_byteAt mM_12 rfl rfl oM_0 rfl (kR_of (Nat.le_of_ble_eq_true rfl) (Nat.le_of_ble_eq_true rfl)) rfl (Nat.le_of_ble_eq_true rfl) d_Md_next_5 ?_
    refine z_bipush (pc := 8) C d_Md_next_8 kb_32 ?_
    refine z_icmp_eq (pc := 10) (tgt := 26) C d_Md_next_10 (by decide) (fun c4 => ?_) (fun c4 => ?_)
    · rw [if_pos c4] at hm
      exact w_Md_next_26 hAD C hr _ h0 σ1 hm
    · rw [if_neg c4] at hm
      refine z_aload_n (pc := 13) C d_Md_next_13 rfl 0 rfl ?_
      refine z_aload_n (pc := 14) C d_Md_next_14 rfl 0 rfl ?_
      refine gM_Md_231 (pc := 15) (v := (gi σ1 3)) C rfl d_Md_next_15 ?_
      obtain ⟨r6, σ5, e7, hm⟩ := bi_s hm
      refine z_callI (pc := 18) C (k_Md_byteAt hAD e7) kz_Md_byteAt mM_12 rfl rfl oM_0 rfl (kR_of (Nat.le_of_ble_eq_true rfl) (Nat.le_of_ble_eq_true rfl)) rfl (Nat.le_of_ble_eq_true rfl) d_Md_next_18 ?_
      refine z_bipush (pc := 21) C d_Md_next_21 kb_10 ?_
      refine z_icmp_ne (pc := 23) (tgt := 39) C d_Md_next_23 (by decide) (fun c8 => ?_) (fun c8 => ?_)
      · rw [if_neg c8] at hm
        refine z_aload_n (pc := 39) C d_Md_next_39 rfl 0 rfl ?_
        refine z_aload_n (pc := 40) C d_Md_next_40 rfl 0 rfl ?_
        refine gM_Md_231 (pc := 41) (v := (gi σ5 3)) C rfl d_Md_next_41 ?_
        refine pM_Md_238 (pc := 44) C  d_Md_next_44 ?_
        refine z_aload_n (pc := 47) C d_Md_next_47 rfl 0 rfl ?_
        refine z_aload_n (pc := 48) C d_Md_next_48 rfl 0 rfl ?_
        refine gM_Md_231 (pc := 49) (v := (gi σ5 3)) C rfl d_Md_next_49 ?_
        obtain ⟨r10, σ9, e11, hm⟩ := bi_s hm
        refine z_callI (pc := 52) C (k_Md_byteAt hAD e11) kz_Md_byteAt mM_12 rfl rfl oM_0 rfl (kR_of (Nat.le_of_ble_eq_true rfl) (Nat.le_of_ble_eq_true rfl)) rfl (Nat.le_of_ble_eq_true rfl) d_Md_next_52 ?_
        refine z_istore_n (pc := 55) (lv' := [(0, .ref (ad 0)), (1, .int r10)]) C d_Md_next_55 rfl (Nat.le_of_ble_eq_true rfl) [1, 0] rfl ?_
        refine z_aload_n (pc := 56) C d_Md_next_56 rfl 0 rfl ?_
        refine gM_Md_221 (pc := 57) (v := (gi σ9 8)) C rfl d_Md_next_57 ?_
        refine z_if_gt (pc := 60) (tgt := 67) C d_Md_next_60 (by decide) (fun c12 => ?_) (fun c12 => ?_)
        · rw [if_pos c12] at hm
          refine z_lv (lv' := [(0, .ref (ad 0))]) [0] rfl ?_
          exact w_Md_next_67 hAD C hr σ9 hm
        · rw [if_neg c12] at hm
          refine z_iload_n (pc := 63) C d_Md_next_63 rfl 1 rfl ?_
          refine z_if_ge (pc := 64) (tgt := 73) C d_Md_next_64 (by decide) (fun c13 => ?_) (fun c13 => ?_)
          · rw [if_pos c13] at hm
            refine z_iload_n (pc := 73) C d_Md_next_73 rfl 1 rfl ?_
            obtain ⟨r15, σ14, e16, hm⟩ := bi_s hm
            refine z_callSI (pc := 74) C (k_Md_isUpper hAD e16) kz_Md_isUpper mM_4 rfl (kR_of (Nat.le_of_ble_eq_true rfl) (Nat.le_of_ble_eq_true rfl)) rfl (Nat.le_of_ble_eq_true rfl) d_Md_next_74 ?_
            refine z_if_ne (pc := 77) (tgt := 87) C d_Md_next_77 (by decide) (fun c17 => ?_) (fun c17 => ?_)
            · rw [if_neg c17] at hm
              exact w_Md_next_87 hAD C hr σ14 r10 hm
            · rw [if_pos c17] at hm
              refine z_iload_n (pc := 80) C d_Md_next_80 rfl 1 rfl ?_
              obtain ⟨r19, σ18, e20, hm⟩ := bi_s hm
              refine z_callSI (pc := 81) C (k_Md_isLower hAD e20) kz_Md_isLower mM_5 rfl (kR_of (Nat.le_of_ble_eq_true rfl) (Nat.le_of_ble_eq_true rfl)) rfl (Nat.le_of_ble_eq_true rfl) d_Md_next_81 ?_
              refine z_if_eq (pc := 84) (tgt := 96) C d_Md_next_84 (by decide) (fun c21 => ?_) (fun c21 => ?_)
              · rw [if_pos c21] at hm
                refine z_aload_n (pc := 96) C d_Md_next_96 rfl 0 rfl ?_
                refine z_iconst (pc := 97) C d_Md_next_97 ki_4 ?_
                refine pM_Md_241 (pc := 98) C  d_Md_next_98 ?_
                refine z_aload_n (pc := 101) C d_Md_next_101 rfl 0 rfl ?_
                refine z_aload_n (pc := 102) C d_Md_next_102 rfl 0 rfl ?_
                refine gM_Md_231 (pc := 103) (v := (gi σ18 3)) C rfl d_Md_next_103 ?_
                refine z_iconst (pc := 106) C d_Md_next_106 ki_1 ?_
                refine z_iadd (pc := 107) C d_Md_next_107 ?_
                obtain ⟨r23, σ22, e24, hm⟩ := bi_s hm
                refine z_callI (pc := 108) C (k_Md_byteAt hAD e24) kz_Md_byteAt mM_12 rfl rfl oM_0 rfl (kR_of (Nat.le_of_ble_eq_true rfl) (Nat.le_of_ble_eq_true rfl)) rfl (Nat.le_of_ble_eq_true rfl) d_Md_next_108 ?_
                refine z_istore_n (pc := 111) (lv' := [(0, .ref (ad 0)), (1, .int r10), (2, .int r23)]) C d_Md_next_111 rfl (Nat.le_of_ble_eq_true rfl) [1, 2, 0] rfl ?_
                refine z_iload_n (pc := 112) C d_Md_next_112 rfl 1 rfl ?_
                refine z_bipush (pc := 113) C d_Md_next_113 kb_58 ?_
                refine z_icmp_ne (pc := 115) (tgt := 124) C d_Md_next_115 (by decide) (fun c25 => ?_) (fun c25 => ?_)
                · rw [if_neg c25] at hm
                  exact w_Md_next_124 hAD C hr σ22 r10 r23 hm
                · rw [if_pos c25] at hm
                  refine z_iload_n (pc := 118) C d_Md_next_118 rfl 2 rfl ?_
                  refine z_bipush (pc := 119) C d_Md_next_119 kb_58 ?_
                  refine z_icmp_eq (pc := 121) (tgt := 136) C d_Md_next_121 (by decide) (fun c26 => ?_) (fun c26 => ?_)
                  · rw [if_pos c26] at hm
                    refine z_lv (lv' := [(0, .ref (ad 0)), (1, .int r10)]) [0, 1] rfl ?_
                    exact w_Md_next_136 hAD C hr σ22 r10 hm
                  · rw [if_neg c26] at hm
                    exact w_Md_next_124 hAD C hr σ22 r10 r23 hm
              · rw [if_neg c21] at hm
                exact w_Md_next_87 hAD C hr σ18 r10 hm
          · rw [if_neg c13] at hm
            refine z_lv (lv' := [(0, .ref (ad 0))]) [0] rfl ?_
            exact w_Md_next_67 hAD C hr σ9 hm
      · rw [if_pos c8] at hm
        exact w_Md_next_26 hAD C hr _ h0 σ5 hm
set_option maxHeartbeats 4000000 in
set_option maxRecDepth 100000 in
theorem k_Md_next {l : Launch} {D : va_G} {ad : Nat → Nat} {cA : Nat → ClassId} {F : Nat} (hAD : ∀ σ, va_D (owM ad) (wdM ad cA σ)) {σ : zS} {σ' : zS} (hm : Md_next F σ = some σ') : kVM l D ad cA xTr y_Md_next bc_Md_next 4 3 [.ref (ad 0)] σ σ' := by
  refine kV_of (by decide) hAD xTr_P (Nat.le_of_ble_eq_true rfl) ?_
  intro p e s m below meth c C hr
  unfold Md_next at hm
  refine z_lv (lv' := [(0, .ref (ad 0))]) [0] rfl ?_
  exact w_Md_next_0 hAD C hr F σ hm
set_option maxHeartbeats 4000000 in
set_option maxRecDepth 100000 in
theorem w_Md_isSign_28 {D : va_G} {ad : Nat → Nat} {cA : Nat → ClassId} {p : Program} {l : Launch} {e : Env} {s : State} {m : MethodId} {args : Array Value} {below : List Frame} {meth : Method} {c : Code} {F : Nat} (hAD : ∀ σ, va_D (owM ad) (wdM ad cA σ)) (C : CM D ad cA xTr p s m args meth c bc_Md_isSign "KindRoundsModel" 2) (hr : meth.sig.returnType = some .boolean) {r : Int32} {σ' : zS} (σ : zS) (s0 : Int32) (hm : Md_isSign_28 F σ s0 = some (r, σ')) : ZM D ad cA p l e (rmK 0) s m args below meth c 2 (qiM D ad cA below args s r σ') 28 [] [.int s0] σ := by
  unfold Md_isSign_28 at hm
  obtain ⟨g1, hm⟩ := gd_s hm
  exact z_zretE (pc := 28) C hr g1 hm d_Md_isSign_28
set_option maxHeartbeats 4000000 in
set_option maxRecDepth 100000 in
theorem w_Md_isSign_27 {D : va_G} {ad : Nat → Nat} {cA : Nat → ClassId} {p : Program} {l : Launch} {e : Env} {s : State} {m : MethodId} {args : Array Value} {below : List Frame} {meth : Method} {c : Code} {F : Nat} (hAD : ∀ σ, va_D (owM ad) (wdM ad cA σ)) (C : CM D ad cA xTr p s m args meth c bc_Md_isSign "KindRoundsModel" 2) (hr : meth.sig.returnType = some .boolean) {r : Int32} {σ' : zS} (σ : zS) (hm : Md_isSign_27 F σ = some (r, σ')) : ZM D ad cA p l e (rmK 0) s m args below meth c 2 (qiM D ad cA below args s r σ') 27 [] [] σ := by
  unfold Md_isSign_27 at hm
  refine z_iconst (pc := 27) C d_Md_isSign_27 ki_0 ?_
  exact w_Md_isSign_28 hAD C hr σ (0 : Int32) hm
set_option maxHeartbeats 4000000 in
set_option maxRecDepth 100000 in
theorem k_Md_isSign {l : Launch} {D : va_G} {ad : Nat → Nat} {cA : Nat → ClassId} {F : Nat} (hAD : ∀ σ, va_D (owM ad) (wdM ad cA σ)) {σ : zS} {x1 : Int32} {r : Int32} {σ' : zS} (hm : Md_isSign F σ x1 = some (r, σ')) : kIM l D ad cA xTr y_Md_isSign bc_Md_isSign 2 .boolean 0 [.ref (ad 0), .int x1] σ r σ' := by
  refine kI_of (by decide) hAD xTr_P (Nat.le_of_ble_eq_true rfl) ?_
  intro p e s m below meth c C hr
  unfold Md_isSign at hm
  refine z_lv (lv' := [(0, .ref (ad 0)), (1, .int x1)]) [0, 1] rfl ?_
  refine z_aload_n (pc := 0) C d_Md_isSign_0 rfl 0 rfl ?_
  refine gM_Md_221 (pc := 1) (v := (gi σ 8)) C rfl d_Md_isSign_1 ?_
  refine z_if_ne (pc := 4) (tgt := 27) C d_Md_isSign_4 (by decide) (fun c1 => ?_) (fun c1 => ?_)
  · rw [if_neg c1] at hm
    refine z_lv (lv' := []) [] rfl ?_
    exact w_Md_isSign_27 hAD C hr σ hm
  · rw [if_pos c1] at hm
    refine z_aload_n (pc := 7) C d_Md_isSign_7 rfl 0 rfl ?_
    refine gM_Md_241 (pc := 8) (v := (gi σ 4)) C rfl d_Md_isSign_8 ?_
    refine z_iconst (pc := 11) C d_Md_isSign_11 ki_4 ?_
    refine z_icmp_ne (pc := 12) (tgt := 27) C d_Md_isSign_12 (by decide) (fun c2 => ?_) (fun c2 => ?_)
    · rw [if_neg c2] at hm
      refine z_lv (lv' := []) [] rfl ?_
      exact w_Md_isSign_27 hAD C hr σ hm
    · rw [if_pos c2] at hm
      refine z_aload_n (pc := 15) C d_Md_isSign_15 rfl 0 rfl ?_
      refine gM_Md_248 (pc := 16) (v := (gi σ 7)) C rfl d_Md_isSign_16 ?_
      refine z_iload_n (pc := 19) C d_Md_isSign_19 rfl 1 rfl ?_
      refine z_icmp_ne (pc := 20) (tgt := 27) C d_Md_isSign_20 (by decide) (fun c3 => ?_) (fun c3 => ?_)
      · rw [if_neg c3] at hm
        refine z_lv (lv' := []) [] rfl ?_
        exact w_Md_isSign_27 hAD C hr σ hm
      · rw [if_pos c3] at hm
        refine z_iconst (pc := 23) C d_Md_isSign_23 ki_1 ?_
        refine z_goto (pc := 24) (tgt := 28) C d_Md_isSign_24 (by decide) ?_
        refine z_lv (lv' := []) [] rfl ?_
        exact w_Md_isSign_28 hAD C hr σ (1 : Int32) hm
set_option maxHeartbeats 4000000 in
set_option maxRecDepth 100000 in
theorem k_Md_cannot {l : Launch} {D : va_G} {ad : Nat → Nat} {cA : Nat → ClassId} {F : Nat} (hAD : ∀ σ, va_D (owM ad) (wdM ad cA σ)) {σ : zS} {σ' : zS} (hm : Md_cannot F σ = some σ') : kVM l D ad cA xTr y_Md_cannot bc_Md_cannot 1 1 [.ref (ad 0)] σ σ' := by
  refine kV_of (by decide) hAD xTr_P (Nat.le_of_ble_eq_true rfl) ?_
  intro p e s m below meth c C hr
  unfold Md_cannot at hm
  refine z_lv (lv' := [(0, .ref (ad 0))]) [0] rfl ?_
  refine z_aload_n (pc := 0) C d_Md_cannot_0 rfl 0 rfl ?_
  refine z_iconst (pc := 1) C d_Md_cannot_1 ki_1 ?_
  refine z_aload_n (pc := 2) C d_Md_cannot_2 rfl 0 rfl ?_
  refine gM_Md_238 (pc := 3) (v := (gi σ 5)) C rfl d_Md_cannot_3 ?_
  obtain ⟨σ1, e2, hm⟩ := bv_s hm
  refine z_callV (pc := 6) C (k_Md_wrong hAD e2) kz_Md_wrong mM_11 rfl rfl oM_0 rfl (kR_of (Nat.le_of_ble_eq_true rfl) (Nat.le_of_ble_eq_true rfl)) rfl (Nat.le_of_ble_eq_true rfl) d_Md_cannot_6 ?_
  exact z_vretE (pc := 9) C hr hm d_Md_cannot_9
set_option maxHeartbeats 4000000 in
set_option maxRecDepth 100000 in
theorem w_Md_want_19 {D : va_G} {ad : Nat → Nat} {cA : Nat → ClassId} {p : Program} {l : Launch} {e : Env} {s : State} {m : MethodId} {args : Array Value} {below : List Frame} {meth : Method} {c : Code} {F : Nat} (hAD : ∀ σ, va_D (owM ad) (wdM ad cA σ)) (C : CM D ad cA xTr p s m args meth c bc_Md_want "KindRoundsModel" 2) (hr : meth.sig.returnType = none) {σ' : zS} (σ : zS) (hm : Md_want_19 F σ = some σ') : ZM D ad cA p l e (rmK 4) s m args below meth c 2 (qvM D ad cA below args s σ') 19 [] [] σ := by
  unfold Md_want_19 at hm
  exact z_vretE (pc := 19) C hr hm d_Md_want_19
set_option maxHeartbeats 4000000 in
set_option maxRecDepth 100000 in
theorem k_Md_want {l : Launch} {D : va_G} {ad : Nat → Nat} {cA : Nat → ClassId} {F : Nat} (hAD : ∀ σ, va_D (owM ad) (wdM ad cA σ)) {σ : zS} {x1 : Int32} {σ' : zS} (hm : Md_want F σ x1 = some σ') : kVM l D ad cA xTr y_Md_want bc_Md_want 2 4 [.ref (ad 0), .int x1] σ σ' := by
  refine kV_of (by decide) hAD xTr_P (Nat.le_of_ble_eq_true rfl) ?_
  intro p e s m below meth c C hr
  unfold Md_want at hm
  refine z_lv (lv' := [(0, .ref (ad 0)), (1, .int x1)]) [0, 1] rfl ?_
  refine z_aload_n (pc := 0) C d_Md_want_0 rfl 0 rfl ?_
  refine z_iload_n (pc := 1) C d_Md_want_1 rfl 1 rfl ?_
  obtain ⟨r2, σ1, e3, hm⟩ := bi_s hm
  refine z_callI (pc := 2) C (k_Md_isSign hAD e3) kz_Md_isSign mM_19 rfl rfl oM_0 rfl (kR_of (Nat.le_of_ble_eq_true rfl) (Nat.le_of_ble_eq_true rfl)) rfl (Nat.le_of_ble_eq_true rfl) d_Md_want_2 ?_
  refine z_if_eq (pc := 5) (tgt := 15) C d_Md_want_5 (by decide) (fun c4 => ?_) (fun c4 => ?_)
  · rw [if_pos c4] at hm
    refine z_aload_n (pc := 15) C d_Md_want_15 rfl 0 rfl ?_
    obtain ⟨σ5, e6, hm⟩ := bv_s hm
    refine z_callV (pc := 16) C (k_Md_cannot hAD e6) kz_Md_cannot mM_20 rfl rfl oM_0 rfl (kR_of (Nat.le_of_ble_eq_true rfl) (Nat.le_of_ble_eq_true rfl)) rfl (Nat.le_of_ble_eq_true rfl) d_Md_want_16 ?_
    refine z_lv (lv' := []) [] rfl ?_
    exact w_Md_want_19 hAD C hr σ5 hm
  · rw [if_neg c4] at hm
    refine z_aload_n (pc := 8) C d_Md_want_8 rfl 0 rfl ?_
    obtain ⟨σ7, e8, hm⟩ := bv_s hm
    refine z_callV (pc := 9) C (k_Md_next hAD e8) kz_Md_next mM_21 rfl rfl oM_0 rfl (kR_of (Nat.le_of_ble_eq_true rfl) (Nat.le_of_ble_eq_true rfl)) rfl (Nat.le_of_ble_eq_true rfl) d_Md_want_9 ?_
    refine z_goto (pc := 12) (tgt := 19) C d_Md_want_12 (by decide) ?_
    refine z_lv (lv' := []) [] rfl ?_
    exact w_Md_want_19 hAD C hr σ7 hm
set_option maxHeartbeats 4000000 in
set_option maxRecDepth 100000 in
theorem k_Md_tell {l : Launch} {D : va_G} {ad : Nat → Nat} {cA : Nat → ClassId} {F : Nat} (hAD : ∀ σ, va_D (owM ad) (wdM ad cA σ)) {σ : zS} {x1 : Int32} {x2 : Int32} {σ' : zS} (hm : Md_tell F σ x1 x2 = some σ') : kVM l D ad cA xTr y_Md_tell bc_Md_tell 3 0 [.ref (ad 0), .int x1, .int x2] σ σ' := by
  refine kV_of (by decide) hAD xTr_P (Nat.le_of_ble_eq_true rfl) ?_
  intro p e s m below meth c C hr
  unfold Md_tell at hm
  refine z_lv (lv' := [(0, .ref (ad 0)), (1, .int x1), (2, .int x2)]) [0, 1, 2] rfl ?_
  refine z_aload_n (pc := 0) C d_Md_tell_0 rfl 0 rfl ?_
  refine gM_Md_42 (pc := 1) C  d_Md_tell_1 ?_
  refine z_aload_n (pc := 4) C d_Md_tell_4 rfl 0 rfl ?_
  refine gM_Md_279 (pc := 5) (v := (gi σ 31)) C rfl d_Md_tell_5 ?_
  refine z_iload_n (pc := 8) C d_Md_tell_8 rfl 1 rfl ?_
  obtain ⟨g1, hm⟩ := gd_s hm
  refine asM_10 (pc := 9) C  g1 d_Md_tell_9 ?_
  refine z_aload_n (pc := 10) C d_Md_tell_10 rfl 0 rfl ?_
  refine gM_Md_45 (pc := 11) C  d_Md_tell_11 ?_
  refine z_aload_n (pc := 14) C d_Md_tell_14 rfl 0 rfl ?_
  refine gM_Md_279 (pc := 15) (v := (gi σ 31)) C rfl d_Md_tell_15 ?_
  refine z_aload_n (pc := 18) C d_Md_tell_18 rfl 0 rfl ?_
  refine gM_Md_255 (pc := 19) (v := (gl σ 6)) C rfl d_Md_tell_19 ?_
  refine asM_11 (pc := 22) C  g1 d_Md_tell_22 ?_
  refine z_aload_n (pc := 23) C d_Md_tell_23 rfl 0 rfl ?_
  refine gM_Md_48 (pc := 24) C  d_Md_tell_24 ?_
  refine z_aload_n (pc := 27) C d_Md_tell_27 rfl 0 rfl ?_
  refine gM_Md_279 (pc := 28) (v := (gi σ 31)) C rfl d_Md_tell_28 ?_
  refine z_aload_n (pc := 31) C d_Md_tell_31 rfl 0 rfl ?_
  refine gM_Md_238 (pc := 32) (v := (gi σ 5)) C rfl d_Md_tell_32 ?_
  refine asM_12 (pc := 35) C  g1 d_Md_tell_35 ?_
  refine z_aload_n (pc := 36) C d_Md_tell_36 rfl 0 rfl ?_
  refine gM_Md_51 (pc := 37) C  d_Md_tell_37 ?_
  refine z_aload_n (pc := 40) C d_Md_tell_40 rfl 0 rfl ?_
  refine gM_Md_279 (pc := 41) (v := (gi σ 31)) C rfl d_Md_tell_41 ?_
  refine z_aload_n (pc := 44) C d_Md_tell_44 rfl 0 rfl ?_
  refine gM_Md_282 (pc := 45) (v := (gi σ 32)) C rfl d_Md_tell_45 ?_
  refine asM_13 (pc := 48) C  g1 d_Md_tell_48 ?_
  refine z_aload_n (pc := 49) C d_Md_tell_49 rfl 0 rfl ?_
  refine gM_Md_54 (pc := 50) C  d_Md_tell_50 ?_
  refine z_aload_n (pc := 53) C d_Md_tell_53 rfl 0 rfl ?_
  refine gM_Md_279 (pc := 54) (v := (gi σ 31)) C rfl d_Md_tell_54 ?_
  refine z_iload_n (pc := 57) C d_Md_tell_57 rfl 2 rfl ?_
  refine asM_14 (pc := 58) C  g1 d_Md_tell_58 ?_
  refine z_aload_n (pc := 59) C d_Md_tell_59 rfl 0 rfl ?_
  refine gM_Md_57 (pc := 60) C  d_Md_tell_60 ?_
  refine z_aload_n (pc := 63) C d_Md_tell_63 rfl 0 rfl ?_
  refine gM_Md_279 (pc := 64) (v := (gi σ 31)) C rfl d_Md_tell_64 ?_
  refine z_iconst (pc := 67) C d_Md_tell_67 ki_1 ?_
  refine asM_15 (pc := 68) C  g1 d_Md_tell_68 ?_
  refine z_aload_n (pc := 69) C d_Md_tell_69 rfl 0 rfl ?_
  refine gM_Md_61 (pc := 70) C  d_Md_tell_70 ?_
  refine z_aload_n (pc := 73) C d_Md_tell_73 rfl 0 rfl ?_
  refine gM_Md_279 (pc := 74) (v := (gi σ 31)) C rfl d_Md_tell_74 ?_
  refine z_iconst (pc := 77) C d_Md_tell_77 ki_0 ?_
  refine asM_16 (pc := 78) C  g1 d_Md_tell_78 ?_
  refine z_aload_n (pc := 79) C d_Md_tell_79 rfl 0 rfl ?_
  refine z_dup (pc := 80) C d_Md_tell_80 rfl ?_
  refine gM_Md_279 (pc := 81) (v := (gi σ 31)) C rfl d_Md_tell_81 ?_
  refine z_iconst (pc := 84) C d_Md_tell_84 ki_1 ?_
  refine z_iadd (pc := 85) C d_Md_tell_85 ?_
  refine pM_Md_279 (pc := 86) C  d_Md_tell_86 ?_
  exact z_vretE (pc := 89) C hr hm d_Md_tell_89
set_option maxHeartbeats 4000000 in
set_option maxRecDepth 100000 in
theorem k_Md_act {l : Launch} {D : va_G} {ad : Nat → Nat} {cA : Nat → ClassId} {F : Nat} (hAD : ∀ σ, va_D (owM ad) (wdM ad cA σ)) {σ : zS} {x1 : Int32} {x2 : Int32} {x3 : Int32} {σ' : zS} (hm : Md_act F σ x1 x2 x3 = some σ') : kVM l D ad cA xTr y_Md_act bc_Md_act 4 0 [.ref (ad 0), .int x1, .int x2, .int x3] σ σ' := by
  refine kV_of (by decide) hAD xTr_P (Nat.le_of_ble_eq_true rfl) ?_
  intro p e s m below meth c C hr
  unfold Md_act at hm
  refine z_lv (lv' := [(0, .ref (ad 0)), (1, .int x1), (2, .int x2), (3, .int x3)]) [0, 1, 2, 3] rfl ?_
  refine z_aload_n (pc := 0) C d_Md_act_0 rfl 0 rfl ?_
  refine gM_Md_33 (pc := 1) C  d_Md_act_1 ?_
  refine z_aload_n (pc := 4) C d_Md_act_4 rfl 0 rfl ?_
  refine gM_Md_285 (pc := 5) (v := (gi σ 23)) C rfl d_Md_act_5 ?_
  refine z_iload_n (pc := 8) C d_Md_act_8 rfl 1 rfl ?_
  obtain ⟨g1, hm⟩ := gd_s hm
  refine asM_7 (pc := 9) C  g1 d_Md_act_9 ?_
  refine z_aload_n (pc := 10) C d_Md_act_10 rfl 0 rfl ?_
  refine gM_Md_36 (pc := 11) C  d_Md_act_11 ?_
  refine z_aload_n (pc := 14) C d_Md_act_14 rfl 0 rfl ?_
  refine gM_Md_285 (pc := 15) (v := (gi σ 23)) C rfl d_Md_act_15 ?_
  refine z_iload_n (pc := 18) C d_Md_act_18 rfl 2 rfl ?_
  refine asM_8 (pc := 19) C  g1 d_Md_act_19 ?_
  refine z_aload_n (pc := 20) C d_Md_act_20 rfl 0 rfl ?_
  refine gM_Md_39 (pc := 21) C  d_Md_act_21 ?_
  refine z_aload_n (pc := 24) C d_Md_act_24 rfl 0 rfl ?_
  refine gM_Md_285 (pc := 25) (v := (gi σ 23)) C rfl d_Md_act_25 ?_
  refine z_iload_n (pc := 28) C d_Md_act_28 rfl 3 rfl ?_
  refine asM_9 (pc := 29) C  g1 d_Md_act_29 ?_
  refine z_aload_n (pc := 30) C d_Md_act_30 rfl 0 rfl ?_
  refine z_dup (pc := 31) C d_Md_act_31 rfl ?_
  refine gM_Md_285 (pc := 32) (v := (gi σ 23)) C rfl d_Md_act_32 ?_
  refine z_iconst (pc := 35) C d_Md_act_35 ki_1 ?_
  refine z_iadd (pc := 36) C d_Md_act_36 ?_
  refine pM_Md_285 (pc := 37) C  d_Md_act_37 ?_
  exact z_vretE (pc := 40) C hr hm d_Md_act_40
set_option maxHeartbeats 4000000 in
set_option maxRecDepth 100000 in
theorem k_Md_node {l : Launch} {D : va_G} {ad : Nat → Nat} {cA : Nat → ClassId} {F : Nat} (hAD : ∀ σ, va_D (owM ad) (wdM ad cA σ)) {σ : zS} {x1 : Int32} {x2 : Int32} {x3 : Int32} {r : Int32} {σ' : zS} (hm : Md_node F σ x1 x2 x3 = some (r, σ')) : kIM l D ad cA xTr y_Md_node bc_Md_node 4 .int 0 [.ref (ad 0), .int x1, .int x2, .int x3] σ r σ' := by
  refine kI_of (by decide) hAD xTr_P (Nat.le_of_ble_eq_true rfl) ?_
  intro p e s m below meth c C hr
  unfold Md_node at hm
  refine z_lv (lv' := [(0, .ref (ad 0)), (1, .int x1), (2, .int x2), (3, .int x3)]) [0, 1, 2, 3] rfl ?_
  refine z_aload_n (pc := 0) C d_Md_node_0 rfl 0 rfl ?_
  refine gM_Md_17 (pc := 1) C  d_Md_node_1 ?_
  refine z_aload_n (pc := 4) C d_Md_node_4 rfl 0 rfl ?_
  refine gM_Md_288 (pc := 5) (v := (gi σ 16)) C rfl d_Md_node_5 ?_
  refine z_iload_n (pc := 8) C d_Md_node_8 rfl 1 rfl ?_
  obtain ⟨g1, hm⟩ := gd_s hm
  refine asM_2 (pc := 9) C  g1 d_Md_node_9 ?_
  refine z_aload_n (pc := 10) C d_Md_node_10 rfl 0 rfl ?_
  refine gM_Md_24 (pc := 11) C  d_Md_node_11 ?_
  refine z_aload_n (pc := 14) C d_Md_node_14 rfl 0 rfl ?_
  refine gM_Md_288 (pc := 15) (v := (gi σ 16)) C rfl d_Md_node_15 ?_
  refine z_iload_n (pc := 18) C d_Md_node_18 rfl 2 rfl ?_
  refine asM_4 (pc := 19) C  g1 d_Md_node_19 ?_
  refine z_aload_n (pc := 20) C d_Md_node_20 rfl 0 rfl ?_
  refine gM_Md_27 (pc := 21) C  d_Md_node_21 ?_
  refine z_aload_n (pc := 24) C d_Md_node_24 rfl 0 rfl ?_
  refine gM_Md_288 (pc := 25) (v := (gi σ 16)) C rfl d_Md_node_25 ?_
  refine z_iload_n (pc := 28) C d_Md_node_28 rfl 3 rfl ?_
  refine asM_5 (pc := 29) C  g1 d_Md_node_29 ?_
  refine z_aload_n (pc := 30) C d_Md_node_30 rfl 0 rfl ?_
  refine z_dup (pc := 31) C d_Md_node_31 rfl ?_
  refine gM_Md_288 (pc := 32) (v := (gi σ 16)) C rfl d_Md_node_32 ?_
  refine z_iconst (pc := 35) C d_Md_node_35 ki_1 ?_
  refine z_iadd (pc := 36) C d_Md_node_36 ?_
  refine pM_Md_288 (pc := 37) C  d_Md_node_37 ?_
  refine z_aload_n (pc := 40) C d_Md_node_40 rfl 0 rfl ?_
  refine gM_Md_288 (pc := 41) (v := ((gi σ 16) + (1 : Int32))) C rfl d_Md_node_41 ?_
  refine z_iconst (pc := 44) C d_Md_node_44 ki_1 ?_
  refine z_isub (pc := 45) C d_Md_node_45 ?_
  exact z_iretE (pc := 46) C hr hm d_Md_node_46
set_option maxHeartbeats 4000000 in
set_option maxRecDepth 100000 in
theorem w_Md_count_29 {D : va_G} {ad : Nat → Nat} {cA : Nat → ClassId} {p : Program} {l : Launch} {e : Env} {s : State} {m : MethodId} {args : Array Value} {below : List Frame} {meth : Method} {c : Code} {F : Nat} (hAD : ∀ σ, va_D (owM ad) (wdM ad cA σ)) (C : CM D ad cA xTr p s m args meth c bc_Md_count "KindRoundsModel" 1) (hr : meth.sig.returnType = none) {σ' : zS} (σ : zS) (hm : Md_count_29 F σ = some σ') : ZM D ad cA p l e (rmK 1) s m args below meth c 1 (qvM D ad cA below args s σ') 29 [] [] σ := by
  unfold Md_count_29 at hm
  exact z_vretE (pc := 29) C hr hm d_Md_count_29
set_option maxHeartbeats 4000000 in
set_option maxRecDepth 100000 in
theorem k_Md_count {l : Launch} {D : va_G} {ad : Nat → Nat} {cA : Nat → ClassId} {F : Nat} (hAD : ∀ σ, va_D (owM ad) (wdM ad cA σ)) {σ : zS} {σ' : zS} (hm : Md_count F σ = some σ') : kVM l D ad cA xTr y_Md_count bc_Md_count 1 1 [.ref (ad 0)] σ σ' := by
  refine kV_of (by decide) hAD xTr_P (Nat.le_of_ble_eq_true rfl) ?_
  intro p e s m below meth c C hr
  unfold Md_count at hm
  refine z_lv (lv' := [(0, .ref (ad 0))]) [0] rfl ?_
  refine z_aload_n (pc := 0) C d_Md_count_0 rfl 0 rfl ?_
  refine z_dup (pc := 1) C d_Md_count_1 rfl ?_
  refine gM_Md_291 (pc := 2) (v := (gi σ 17)) C rfl d_Md_count_2 ?_
  refine z_iconst (pc := 5) C d_Md_count_5 ki_1 ?_
  refine z_iadd (pc := 6) C d_Md_count_6 ?_
  refine pM_Md_291 (pc := 7) C  d_Md_count_7 ?_
  refine z_aload_n (pc := 10) C d_Md_count_10 rfl 0 rfl ?_
  refine gM_Md_291 (pc := 11) (v := ((gi σ 17) + (1 : Int32))) C rfl d_Md_count_11 ?_
  refine z_sipush (pc := 14) C d_Md_count_14 ks_200 ?_
  refine z_icmp_le (pc := 17) (tgt := 29) C d_Md_count_17 (by decide) (fun c1 => ?_) (fun c1 => ?_)
  · rw [if_pos c1] at hm
    refine z_lv (lv' := []) [] rfl ?_
    exact w_Md_count_29 hAD C hr (si σ 17 ((gi σ 17) + (1 : Int32))) hm
  · rw [if_neg c1] at hm
    refine z_aload_n (pc := 20) C d_Md_count_20 rfl 0 rfl ?_
    refine z_iconst (pc := 21) C d_Md_count_21 ki_2 ?_
    refine z_aload_n (pc := 22) C d_Md_count_22 rfl 0 rfl ?_
    refine gM_Md_238 (pc := 23) (v := (gi σ 5)) C rfl d_Md_count_23 ?_
    obtain ⟨σ2, e3, hm⟩ := bv_s hm
    refine z_callV (pc := 26) C (k_Md_wrong hAD e3) kz_Md_wrong mM_11 rfl rfl oM_0 rfl (kR_of (Nat.le_of_ble_eq_true rfl) (Nat.le_of_ble_eq_true rfl)) rfl (Nat.le_of_ble_eq_true rfl) d_Md_count_26 ?_
    refine z_lv (lv' := []) [] rfl ?_
    exact w_Md_count_29 hAD C hr σ2 hm
set_option maxHeartbeats 4000000 in
set_option maxRecDepth 100000 in
theorem w_Md_deeper_28 {D : va_G} {ad : Nat → Nat} {cA : Nat → ClassId} {p : Program} {l : Launch} {e : Env} {s : State} {m : MethodId} {args : Array Value} {below : List Frame} {meth : Method} {c : Code} {F : Nat} (hAD : ∀ σ, va_D (owM ad) (wdM ad cA σ)) (C : CM D ad cA xTr p s m args meth c bc_Md_deeper "KindRoundsModel" 1) (hr : meth.sig.returnType = none) {σ' : zS} (σ : zS) (hm : Md_deeper_28 F σ = some σ') : ZM D ad cA p l e (rmK 1) s m args below meth c 1 (qvM D ad cA below args s σ') 28 [] [] σ := by
  unfold Md_deeper_28 at hm
  exact z_vretE (pc := 28) C hr hm d_Md_deeper_28
set_option maxHeartbeats 4000000 in
set_option maxRecDepth 100000 in
theorem k_Md_deeper {l : Launch} {D : va_G} {ad : Nat → Nat} {cA : Nat → ClassId} {F : Nat} (hAD : ∀ σ, va_D (owM ad) (wdM ad cA σ)) {σ : zS} {σ' : zS} (hm : Md_deeper F σ = some σ') : kVM l D ad cA xTr y_Md_deeper bc_Md_deeper 1 1 [.ref (ad 0)] σ σ' := by
  refine kV_of (by decide) hAD xTr_P (Nat.le_of_ble_eq_true rfl) ?_
  intro p e s m below meth c C hr
  unfold Md_deeper at hm
  refine z_lv (lv' := [(0, .ref (ad 0))]) [0] rfl ?_
  refine z_aload_n (pc := 0) C d_Md_deeper_0 rfl 0 rfl ?_
  refine z_dup (pc := 1) C d_Md_deeper_1 rfl ?_
  refine gM_Md_294 (pc := 2) (v := (gi σ 18)) C rfl d_Md_deeper_2 ?_
  refine z_iconst (pc := 5) C d_Md_deeper_5 ki_1 ?_
  refine z_iadd (pc := 6) C d_Md_deeper_6 ?_
  refine pM_Md_294 (pc := 7) C  d_Md_deeper_7 ?_
  refine z_aload_n (pc := 10) C d_Md_deeper_10 rfl 0 rfl ?_
  refine gM_Md_294 (pc := 11) (v := ((gi σ 18) + (1 : Int32))) C rfl d_Md_deeper_11 ?_
  refine z_bipush (pc := 14) C d_Md_deeper_14 kb_8 ?_
  refine z_icmp_le (pc := 16) (tgt := 28) C d_Md_deeper_16 (by decide) (fun c1 => ?_) (fun c1 => ?_)
  · rw [if_pos c1] at hm
    refine z_lv (lv' := []) [] rfl ?_
    exact w_Md_deeper_28 hAD C hr (si σ 18 ((gi σ 18) + (1 : Int32))) hm
  · rw [if_neg c1] at hm
    refine z_aload_n (pc := 19) C d_Md_deeper_19 rfl 0 rfl ?_
    refine z_iconst (pc := 20) C d_Md_deeper_20 ki_2 ?_
    refine z_aload_n (pc := 21) C d_Md_deeper_21 rfl 0 rfl ?_
    refine gM_Md_238 (pc := 22) (v := (gi σ 5)) C rfl d_Md_deeper_22 ?_
    obtain ⟨σ2, e3, hm⟩ := bv_s hm
    refine z_callV (pc := 25) C (k_Md_wrong hAD e3) kz_Md_wrong mM_11 rfl rfl oM_0 rfl (kR_of (Nat.le_of_ble_eq_true rfl) (Nat.le_of_ble_eq_true rfl)) rfl (Nat.le_of_ble_eq_true rfl) d_Md_deeper_25 ?_
    refine z_lv (lv' := []) [] rfl ?_
    exact w_Md_deeper_28 hAD C hr σ2 hm
set_option maxHeartbeats 4000000 in
set_option maxRecDepth 100000 in
theorem w_Md_canBegin_46 {D : va_G} {ad : Nat → Nat} {cA : Nat → ClassId} {p : Program} {l : Launch} {e : Env} {s : State} {m : MethodId} {args : Array Value} {below : List Frame} {meth : Method} {c : Code} {F : Nat} (hAD : ∀ σ, va_D (owM ad) (wdM ad cA σ)) (C : CM D ad cA xTr p s m args meth c bc_Md_canBegin "KindRoundsModel" 1) (hr : meth.sig.returnType = some .boolean) {r : Int32} {σ' : zS} (σ : zS) (s0 : Int32) (hm : Md_canBegin_46 F σ s0 = some (r, σ')) : ZM D ad cA p l e (rmK 1) s m args below meth c 1 (qiM D ad cA below args s r σ') 46 [] [.int s0] σ := by
  unfold Md_canBegin_46 at hm
  obtain ⟨g1, hm⟩ := gd_s hm
  exact z_zretE (pc := 46) C hr g1 hm d_Md_canBegin_46
set_option maxHeartbeats 4000000 in
set_option maxRecDepth 100000 in
theorem w_Md_canBegin_45 {D : va_G} {ad : Nat → Nat} {cA : Nat → ClassId} {p : Program} {l : Launch} {e : Env} {s : State} {m : MethodId} {args : Array Value} {below : List Frame} {meth : Method} {c : Code} {F : Nat} (hAD : ∀ σ, va_D (owM ad) (wdM ad cA σ)) (C : CM D ad cA xTr p s m args meth c bc_Md_canBegin "KindRoundsModel" 1) (hr : meth.sig.returnType = some .boolean) {r : Int32} {σ' : zS} (σ : zS) (hm : Md_canBegin_45 F σ = some (r, σ')) : ZM D ad cA p l e (rmK 1) s m args below meth c 1 (qiM D ad cA below args s r σ') 45 [] [] σ := by
  unfold Md_canBegin_45 at hm
  refine z_iconst (pc := 45) C d_Md_canBegin_45 ki_0 ?_
  exact w_Md_canBegin_46 hAD C hr σ (0 : Int32) hm
set_option maxHeartbeats 4000000 in
set_option maxRecDepth 100000 in
theorem w_Md_canBegin_41 {D : va_G} {ad : Nat → Nat} {cA : Nat → ClassId} {p : Program} {l : Launch} {e : Env} {s : State} {m : MethodId} {args : Array Value} {below : List Frame} {meth : Method} {c : Code} {F : Nat} (hAD : ∀ σ, va_D (owM ad) (wdM ad cA σ)) (C : CM D ad cA xTr p s m args meth c bc_Md_canBegin "KindRoundsModel" 1) (hr : meth.sig.returnType = some .boolean) {r : Int32} {σ' : zS} (σ : zS) (hm : Md_canBegin_41 F σ = some (r, σ')) : ZM D ad cA p l e (rmK 1) s m args below meth c 1 (qiM D ad cA below args s r σ') 41 [] [] σ := by
  unfold Md_canBegin_41 at hm
  refine z_iconst (pc := 41) C d_Md_canBegin_41 ki_1 ?_
  refine z_goto (pc := 42) (tgt := 46) C d_Md_canBegin_42 (by decide) ?_
  exact w_Md_canBegin_46 hAD C hr σ (1 : Int32) hm
set_option maxHeartbeats 4000000 in
set_option maxRecDepth 100000 in
theorem k_Md_canBegin {l : Launch} {D : va_G} {ad : Nat → Nat} {cA : Nat → ClassId} {F : Nat} (hAD : ∀ σ, va_D (owM ad) (wdM ad cA σ)) {σ : zS} {r : Int32} {σ' : zS} (hm : Md_canBegin F σ = some (r, σ')) : kIM l D ad cA xTr y_Md_canBegin bc_Md_canBegin 1 .boolean 1 [.ref (ad 0)] σ r σ' := by
  refine kI_of (by decide) hAD xTr_P (Nat.le_of_ble_eq_true rfl) ?_
  intro p e s m below meth c C hr
  unfold Md_canBegin at hm
  refine z_lv (lv' := [(0, .ref (ad 0))]) [0] rfl ?_
  refine z_aload_n (pc := 0) C d_Md_canBegin_0 rfl 0 rfl ?_
  refine gM_Md_221 (pc := 1) (v := (gi σ 8)) C rfl d_Md_canBegin_1 ?_
  refine z_if_ne (pc := 4) (tgt := 45) C d_Md_canBegin_4 (by decide) (fun c1 => ?_) (fun c1 => ?_)
  · rw [if_neg c1] at hm
    refine z_lv (lv' := []) [] rfl ?_
    exact w_Md_canBegin_45 hAD C hr σ hm
  · rw [if_pos c1] at hm
    refine z_aload_n (pc := 7) C d_Md_canBegin_7 rfl 0 rfl ?_
    refine gM_Md_241 (pc := 8) (v := (gi σ 4)) C rfl d_Md_canBegin_8 ?_
    refine z_iconst (pc := 11) C d_Md_canBegin_11 ki_1 ?_
    refine z_icmp_eq (pc := 12) (tgt := 41) C d_Md_canBegin_12 (by decide) (fun c2 => ?_) (fun c2 => ?_)
    · rw [if_pos c2] at hm
      refine z_lv (lv' := []) [] rfl ?_
      exact w_Md_canBegin_41 hAD C hr σ hm
    · rw [if_neg c2] at hm
      refine z_aload_n (pc := 15) C d_Md_canBegin_15 rfl 0 rfl ?_
      refine gM_Md_241 (pc := 16) (v := (gi σ 4)) C rfl d_Md_canBegin_16 ?_
      refine z_iconst (pc := 19) C d_Md_canBegin_19 ki_2 ?_
      refine z_icmp_eq (pc := 20) (tgt := 41) C d_Md_canBegin_20 (by decide) (fun c3 => ?_) (fun c3 => ?_)
      · rw [if_pos c3] at hm
        refine z_lv (lv' := []) [] rfl ?_
        exact w_Md_canBegin_41 hAD C hr σ hm
      · rw [if_neg c3] at hm
        refine z_aload_n (pc := 23) C d_Md_canBegin_23 rfl 0 rfl ?_
        refine z_bipush (pc := 24) C d_Md_canBegin_24 kb_40 ?_
        obtain ⟨r5, σ4, e6, hm⟩ := bi_s hm
        refine z_callI (pc := 26) C (k_Md_isSign hAD e6) kz_Md_isSign mM_19 rfl rfl oM_0 rfl (kR_of (Nat.le_of_ble_eq_true rfl) (Nat.le_of_ble_eq_true rfl)) rfl (Nat.le_of_ble_eq_true rfl) d_Md_canBegin_26 ?_
        refine z_if_ne (pc := 29) (tgt := 41) C d_Md_canBegin_29 (by decide) (fun c7 => ?_) (fun c7 => ?_)
        · rw [if_neg c7] at hm
          refine z_lv (lv' := []) [] rfl ?_
          exact w_Md_canBegin_41 hAD C hr σ4 hm
        · rw [if_pos c7] at hm
          refine z_aload_n (pc := 32) C d_Md_canBegin_32 rfl 0 rfl ?_
          refine z_bipush (pc := 33) C d_Md_canBegin_33 kb_91 ?_
          obtain ⟨r9, σ8, e10, hm⟩ := bi_s hm
          refine z_callI (pc := 35) C (k_Md_isSign hAD e10) kz_Md_isSign mM_19 rfl rfl oM_0 rfl (kR_of (Nat.le_of_ble_eq_true rfl) (Nat.le_of_ble_eq_true rfl)) rfl (Nat.le_of_ble_eq_true rfl) d_Md_canBegin_35 ?_
          refine z_if_eq (pc := 38) (tgt := 45) C d_Md_canBegin_38 (by decide) (fun c11 => ?_) (fun c11 => ?_)
          · rw [if_pos c11] at hm
            refine z_lv (lv' := []) [] rfl ?_
            exact w_Md_canBegin_45 hAD C hr σ8 hm
          · rw [if_neg c11] at hm
            refine z_lv (lv' := []) [] rfl ?_
            exact w_Md_canBegin_41 hAD C hr σ8 hm
set_option maxHeartbeats 4000000 in
set_option maxRecDepth 100000 in
theorem k_Md_open {l : Launch} {D : va_G} {ad : Nat → Nat} {cA : Nat → ClassId} {F : Nat} (hAD : ∀ σ, va_D (owM ad) (wdM ad cA σ)) {σ : zS} {x1 : Int32} {σ' : zS} (hm : Md_open F σ x1 = some σ') : kVM l D ad cA xTr y_Md_open bc_Md_open 2 0 [.ref (ad 0), .int x1] σ σ' := by
  refine kV_of (by decide) hAD xTr_P (Nat.le_of_ble_eq_true rfl) ?_
  intro p e s m below meth c C hr
  unfold Md_open at hm
  refine z_lv (lv' := [(0, .ref (ad 0)), (1, .int x1)]) [0, 1] rfl ?_
  refine z_aload_n (pc := 0) C d_Md_open_0 rfl 0 rfl ?_
  refine z_dup (pc := 1) C d_Md_open_1 rfl ?_
  refine gM_Md_297 (pc := 2) (v := (gi σ 42)) C rfl d_Md_open_2 ?_
  refine z_iconst (pc := 5) C d_Md_open_5 ki_1 ?_
  refine z_iadd (pc := 6) C d_Md_open_6 ?_
  refine pM_Md_297 (pc := 7) C  d_Md_open_7 ?_
  refine z_aload_n (pc := 10) C d_Md_open_10 rfl 0 rfl ?_
  refine gM_Md_64 (pc := 11) C  d_Md_open_11 ?_
  refine z_aload_n (pc := 14) C d_Md_open_14 rfl 0 rfl ?_
  refine gM_Md_297 (pc := 15) (v := ((gi σ 42) + (1 : Int32))) C rfl d_Md_open_15 ?_
  refine z_iload_n (pc := 18) C d_Md_open_18 rfl 1 rfl ?_
  obtain ⟨g1, hm⟩ := gd_s hm
  refine asM_17 (pc := 19) C  g1 d_Md_open_19 ?_
  refine z_aload_n (pc := 20) C d_Md_open_20 rfl 0 rfl ?_
  refine gM_Md_67 (pc := 21) C  d_Md_open_21 ?_
  refine z_aload_n (pc := 24) C d_Md_open_24 rfl 0 rfl ?_
  refine gM_Md_297 (pc := 25) (v := ((gi σ 42) + (1 : Int32))) C rfl d_Md_open_25 ?_
  refine z_aload_n (pc := 28) C d_Md_open_28 rfl 0 rfl ?_
  refine gM_Md_238 (pc := 29) (v := (gi σ 5)) C rfl d_Md_open_29 ?_
  refine asM_18 (pc := 32) C  g1 d_Md_open_32 ?_
  refine z_aload_n (pc := 33) C d_Md_open_33 rfl 0 rfl ?_
  refine gM_Md_70 (pc := 34) C  d_Md_open_34 ?_
  refine z_aload_n (pc := 37) C d_Md_open_37 rfl 0 rfl ?_
  refine gM_Md_297 (pc := 38) (v := ((gi σ 42) + (1 : Int32))) C rfl d_Md_open_38 ?_
  refine z_iconst (pc := 41) C d_Md_open_41 ki_m1 ?_
  refine asM_19 (pc := 42) C  g1 d_Md_open_42 ?_
  refine z_aload_n (pc := 43) C d_Md_open_43 rfl 0 rfl ?_
  refine gM_Md_82 (pc := 44) C  d_Md_open_44 ?_
  refine z_aload_n (pc := 47) C d_Md_open_47 rfl 0 rfl ?_
  refine gM_Md_297 (pc := 48) (v := ((gi σ 42) + (1 : Int32))) C rfl d_Md_open_48 ?_
  refine z_iconst (pc := 51) C d_Md_open_51 ki_m1 ?_
  refine asM_23 (pc := 52) C  g1 d_Md_open_52 ?_
  refine z_aload_n (pc := 53) C d_Md_open_53 rfl 0 rfl ?_
  refine gM_Md_85 (pc := 54) C  d_Md_open_54 ?_
  refine z_aload_n (pc := 57) C d_Md_open_57 rfl 0 rfl ?_
  refine gM_Md_297 (pc := 58) (v := ((gi σ 42) + (1 : Int32))) C rfl d_Md_open_58 ?_
  refine z_iconst (pc := 61) C d_Md_open_61 ki_m1 ?_
  refine asM_24 (pc := 62) C  g1 d_Md_open_62 ?_
  refine z_aload_n (pc := 63) C d_Md_open_63 rfl 0 rfl ?_
  refine gM_Md_88 (pc := 64) C  d_Md_open_64 ?_
  refine z_aload_n (pc := 67) C d_Md_open_67 rfl 0 rfl ?_
  refine gM_Md_297 (pc := 68) (v := ((gi σ 42) + (1 : Int32))) C rfl d_Md_open_68 ?_
  refine z_iconst (pc := 71) C d_Md_open_71 ki_m1 ?_
  refine asM_25 (pc := 72) C  g1 d_Md_open_72 ?_
  exact z_vretE (pc := 73) C hr hm d_Md_open_73
set_option maxHeartbeats 4000000 in
set_option maxRecDepth 100000 in
theorem w_Md_addOne_98 {D : va_G} {ad : Nat → Nat} {cA : Nat → ClassId} {p : Program} {l : Launch} {e : Env} {s : State} {m : MethodId} {args : Array Value} {below : List Frame} {meth : Method} {c : Code} {F : Nat} (hAD : ∀ σ, va_D (owM ad) (wdM ad cA σ)) (C : CM D ad cA xTr p s m args meth c bc_Md_addOne "KindRoundsModel" 4) (hr : meth.sig.returnType = none) {σ' : zS} (σ : zS) (x1 : Int32) (x3 : Int32) (hm : Md_addOne_98 F σ x1 x3 = some σ') : ZM D ad cA p l e (rmK 1) s m args below meth c 4 (qvM D ad cA below args s σ') 98 [(0, .ref (ad 0)), (1, .int x1), (3, .int x3)] [] σ := by
  unfold Md_addOne_98 at hm
  refine z_aload_n (pc := 98) C d_Md_addOne_98 rfl 0 rfl ?_
  refine gM_Md_70 (pc := 99) C  d_Md_addOne_99 ?_
  refine z_aload_n (pc := 102) C d_Md_addOne_102 rfl 0 rfl ?_
  refine gM_Md_297 (pc := 103) (v := (gi σ 42)) C rfl d_Md_addOne_103 ?_
  refine z_aload_n (pc := 106) C d_Md_addOne_106 rfl 0 rfl ?_
  refine z_iconst (pc := 107) C d_Md_addOne_107 ki_2 ?_
  refine z_aload_n (pc := 108) C d_Md_addOne_108 rfl 0 rfl ?_
  refine gM_Md_70 (pc := 109) C  d_Md_addOne_109 ?_
  refine z_aload_n (pc := 112) C d_Md_addOne_112 rfl 0 rfl ?_
  refine gM_Md_297 (pc := 113) (v := (gi σ 42)) C rfl d_Md_addOne_113 ?_
  obtain ⟨g1, hm⟩ := gd_s hm
  refine alM_19 (pc := 116) (v := (ga σ 19 (gi σ 42).toNatClampNeg)) C  rfl g1 d_Md_addOne_116 ?_
  refine z_iload_n (pc := 117) C d_Md_addOne_117 rfl 1 rfl ?_
  obtain ⟨r3, σ2, e4, hm⟩ := bi_s hm
  refine z_callI (pc := 118) C (k_Md_node hAD e4) kz_Md_node mM_48 rfl rfl oM_0 rfl (kR_of (Nat.le_of_ble_eq_true rfl) (Nat.le_of_ble_eq_true rfl)) rfl (Nat.le_of_ble_eq_true rfl) d_Md_addOne_118 ?_
  refine asM_19 (pc := 121) C  g1 d_Md_addOne_121 ?_
  refine z_aload_n (pc := 122) C d_Md_addOne_122 rfl 0 rfl ?_
  refine z_iconst (pc := 123) C d_Md_addOne_123 ki_0 ?_
  refine z_aload_n (pc := 124) C d_Md_addOne_124 rfl 0 rfl ?_
  refine gM_Md_70 (pc := 125) C  d_Md_addOne_125 ?_
  refine z_aload_n (pc := 128) C d_Md_addOne_128 rfl 0 rfl ?_
  refine gM_Md_297 (pc := 129) (v := (gi σ2 42)) C rfl d_Md_addOne_129 ?_
  obtain ⟨g5, hm⟩ := gd_s hm
  refine alM_19 (pc := 132) (v := (ga (sa σ2 19 (gi σ 42).toNatClampNeg r3) 19 (gi σ2 42).toNatClampNeg)) C  rfl g5 d_Md_addOne_132 ?_
  refine z_iload_n (pc := 133) C d_Md_addOne_133 rfl 2 rfl ?_
  obtain ⟨σ6, e7, hm⟩ := bv_s hm
  refine z_callV (pc := 134) C (k_Md_act hAD e7) kz_Md_act mM_49 rfl rfl oM_0 rfl (kR_of (Nat.le_of_ble_eq_true rfl) (Nat.le_of_ble_eq_true rfl)) rfl (Nat.le_of_ble_eq_true rfl) d_Md_addOne_134 ?_
  refine z_aload_n (pc := 137) C d_Md_addOne_137 rfl 0 rfl ?_
  refine gM_Md_76 (pc := 138) C  d_Md_addOne_138 ?_
  refine z_aload_n (pc := 141) C d_Md_addOne_141 rfl 0 rfl ?_
  refine gM_Md_297 (pc := 142) (v := (gi σ6 42)) C rfl d_Md_addOne_142 ?_
  refine z_dup2 (pc := 145) C d_Md_addOne_145 rfl rfl ?_
  obtain ⟨g8, hm⟩ := gd_s hm
  refine alM_21 (pc := 146) (v := (ga σ6 21 (gi σ6 42).toNatClampNeg)) C  rfl g8 d_Md_addOne_146 ?_
  refine z_iconst (pc := 147) C d_Md_addOne_147 ki_1 ?_
  refine z_iadd (pc := 148) C d_Md_addOne_148 ?_
  refine asM_21 (pc := 149) C  g8 d_Md_addOne_149 ?_
  exact z_vretE (pc := 150) C hr hm d_Md_addOne_150
set_option maxHeartbeats 4000000 in
set_option maxRecDepth 100000 in
theorem w_Md_addOne_85 {D : va_G} {ad : Nat → Nat} {cA : Nat → ClassId} {p : Program} {l : Launch} {e : Env} {s : State} {m : MethodId} {args : Array Value} {below : List Frame} {meth : Method} {c : Code} {F : Nat} (hAD : ∀ σ, va_D (owM ad) (wdM ad cA σ)) (C : CM D ad cA xTr p s m args meth c bc_Md_addOne "KindRoundsModel" 4) (hr : meth.sig.returnType = none) {σ' : zS} (σ : zS) (s1 : Int32) (s2 : Int32) (hm : Md_addOne_85 F σ s1 s2 = some σ') : ZM D ad cA p l e (rmK 1) s m args below meth c 4 (qvM D ad cA below args s σ') 85 [] [.int s2, .int s1, .ref (ad 25)] σ := by
  unfold Md_addOne_85 at hm
  obtain ⟨g1, hm⟩ := gd_s hm
  refine asM_25 (pc := 85) C  g1 d_Md_addOne_85 ?_
  exact z_vretE (pc := 86) C hr hm d_Md_addOne_86
set_option maxHeartbeats 4000000 in
set_option maxRecDepth 100000 in
theorem k_Md_addOne {l : Launch} {D : va_G} {ad : Nat → Nat} {cA : Nat → ClassId} {F : Nat} (hAD : ∀ σ, va_D (owM ad) (wdM ad cA σ)) {σ : zS} {x1 : Int32} {x2 : Int32} {x3 : Int32} {σ' : zS} (hm : Md_addOne F σ x1 x2 x3 = some σ') : kVM l D ad cA xTr y_Md_addOne bc_Md_addOne 4 1 [.ref (ad 0), .int x1, .int x2, .int x3] σ σ' := by
  refine kV_of (by decide) hAD xTr_P (Nat.le_of_ble_eq_true rfl) ?_
  intro p e s m below meth c C hr
  unfold Md_addOne at hm
  refine z_lv (lv' := [(0, .ref (ad 0)), (1, .int x1), (2, .int x2), (3, .int x3)]) [0, 1, 2, 3] rfl ?_
  refine z_aload_n (pc := 0) C d_Md_addOne_0 rfl 0 rfl ?_
  refine gM_Md_70 (pc := 1) C  d_Md_addOne_1 ?_
  refine z_aload_n (pc := 4) C d_Md_addOne_4 rfl 0 rfl ?_
  refine gM_Md_297 (pc := 5) (v := (gi σ 42)) C rfl d_Md_addOne_5 ?_
  obtain ⟨g1, hm⟩ := gd_s hm
  refine alM_19 (pc := 8) (v := (ga σ 19 (gi σ 42).toNatClampNeg)) C  rfl g1 d_Md_addOne_8 ?_
  refine z_if_ge (pc := 9) (tgt := 87) C d_Md_addOne_9 (by decide) (fun c2 => ?_) (fun c2 => ?_)
  · rw [if_pos c2] at hm
    refine z_iload_n (pc := 87) C d_Md_addOne_87 rfl 2 rfl ?_
    refine z_if_lt (pc := 88) (tgt := 98) C d_Md_addOne_88 (by decide) (fun c3 => ?_) (fun c3 => ?_)
    · rw [if_pos c3] at hm
      refine z_lv (lv' := [(0, .ref (ad 0)), (1, .int x1), (3, .int x3)]) [0, 1, 3] rfl ?_
      exact w_Md_addOne_98 hAD C hr σ x1 x3 hm
    · rw [if_neg c3] at hm
      refine z_aload_n (pc := 91) C d_Md_addOne_91 rfl 0 rfl ?_
      refine gM_Md_57 (pc := 92) C  d_Md_addOne_92 ?_
      refine z_iload_n (pc := 95) C d_Md_addOne_95 rfl 2 rfl ?_
      refine z_iconst (pc := 96) C d_Md_addOne_96 ki_0 ?_
      obtain ⟨g4, hm⟩ := gd_s hm
      refine asM_15 (pc := 97) C  g4 d_Md_addOne_97 ?_
      refine z_lv (lv' := [(0, .ref (ad 0)), (1, .int x1), (3, .int x3)]) [0, 1, 3] rfl ?_
      exact w_Md_addOne_98 hAD C hr (sa σ 15 x2.toNatClampNeg (vp_nar .boolean (0 : Int32))) x1 x3 hm
  · rw [if_neg c2] at hm
    refine z_aload_n (pc := 12) C d_Md_addOne_12 rfl 0 rfl ?_
    refine gM_Md_70 (pc := 13) C  d_Md_addOne_13 ?_
    refine z_aload_n (pc := 16) C d_Md_addOne_16 rfl 0 rfl ?_
    refine gM_Md_297 (pc := 17) (v := (gi σ 42)) C rfl d_Md_addOne_17 ?_
    refine z_iload_n (pc := 20) C d_Md_addOne_20 rfl 1 rfl ?_
    refine asM_19 (pc := 21) C  g1 d_Md_addOne_21 ?_
    refine z_aload_n (pc := 22) C d_Md_addOne_22 rfl 0 rfl ?_
    refine gM_Md_73 (pc := 23) C  d_Md_addOne_23 ?_
    refine z_aload_n (pc := 26) C d_Md_addOne_26 rfl 0 rfl ?_
    refine gM_Md_297 (pc := 27) (v := (gi σ 42)) C rfl d_Md_addOne_27 ?_
    refine z_iload_n (pc := 30) C d_Md_addOne_30 rfl 2 rfl ?_
    refine asM_20 (pc := 31) C  g1 d_Md_addOne_31 ?_
    refine z_aload_n (pc := 32) C d_Md_addOne_32 rfl 0 rfl ?_
    refine gM_Md_76 (pc := 33) C  d_Md_addOne_33 ?_
    refine z_aload_n (pc := 36) C d_Md_addOne_36 rfl 0 rfl ?_
    refine gM_Md_297 (pc := 37) (v := (gi σ 42)) C rfl d_Md_addOne_37 ?_
    refine z_iconst (pc := 40) C d_Md_addOne_40 ki_0 ?_
    refine asM_21 (pc := 41) C  g1 d_Md_addOne_41 ?_
    refine z_aload_n (pc := 42) C d_Md_addOne_42 rfl 0 rfl ?_
    refine gM_Md_79 (pc := 43) C  d_Md_addOne_43 ?_
    refine z_aload_n (pc := 46) C d_Md_addOne_46 rfl 0 rfl ?_
    refine gM_Md_297 (pc := 47) (v := (gi σ 42)) C rfl d_Md_addOne_47 ?_
    refine z_iload_n (pc := 50) C d_Md_addOne_50 rfl 3 rfl ?_
    refine asM_22 (pc := 51) C  g1 d_Md_addOne_51 ?_
    refine z_aload_n (pc := 52) C d_Md_addOne_52 rfl 0 rfl ?_
    refine gM_Md_88 (pc := 53) C  d_Md_addOne_53 ?_
    refine z_aload_n (pc := 56) C d_Md_addOne_56 rfl 0 rfl ?_
    refine gM_Md_297 (pc := 57) (v := (gi σ 42)) C rfl d_Md_addOne_57 ?_
    refine z_aload_n (pc := 60) C d_Md_addOne_60 rfl 0 rfl ?_
    refine gM_Md_88 (pc := 61) C  d_Md_addOne_61 ?_
    refine z_aload_n (pc := 64) C d_Md_addOne_64 rfl 0 rfl ?_
    refine gM_Md_297 (pc := 65) (v := (gi σ 42)) C rfl d_Md_addOne_65 ?_
    refine alM_25 (pc := 68) (v := (ga σ 25 (gi σ 42).toNatClampNeg)) C  rfl g1 d_Md_addOne_68 ?_
    refine z_if_ge (pc := 69) (tgt := 76) C d_Md_addOne_69 (by decide) (fun c5 => ?_) (fun c5 => ?_)
    · rw [if_pos c5] at hm
      refine z_aload_n (pc := 76) C d_Md_addOne_76 rfl 0 rfl ?_
      refine gM_Md_88 (pc := 77) C  d_Md_addOne_77 ?_
      refine z_aload_n (pc := 80) C d_Md_addOne_80 rfl 0 rfl ?_
      refine gM_Md_297 (pc := 81) (v := (gi σ 42)) C rfl d_Md_addOne_81 ?_
      refine alM_25 (pc := 84) (v := (ga σ 25 (gi σ 42).toNatClampNeg)) C  rfl g1 d_Md_addOne_84 ?_
      refine z_lv (lv' := []) [] rfl ?_
      exact w_Md_addOne_85 hAD C hr (sa (sa (sa (sa σ 19 (gi σ 42).toNatClampNeg x1) 20 (gi σ 42).toNatClampNeg x2) 21 (gi σ 42).toNatClampNeg (0 : Int32)) 22 (gi σ 42).toNatClampNeg x3) (gi σ 42) (ga σ 25 (gi σ 42).toNatClampNeg) hm
    · rw [if_neg c5] at hm
      refine z_iload_n (pc := 72) C d_Md_addOne_72 rfl 3 rfl ?_
      refine z_goto (pc := 73) (tgt := 85) C d_Md_addOne_73 (by decide) ?_
      refine z_lv (lv' := []) [] rfl ?_
      exact w_Md_addOne_85 hAD C hr (sa (sa (sa (sa σ 19 (gi σ 42).toNatClampNeg x1) 20 (gi σ 42).toNatClampNeg x2) 21 (gi σ 42).toNatClampNeg (0 : Int32)) 22 (gi σ 42).toNatClampNeg x3) (gi σ 42) x3 hm
set_option maxHeartbeats 4000000 in
set_option maxRecDepth 100000 in
theorem w_Md_endSome_137 {D : va_G} {ad : Nat → Nat} {cA : Nat → ClassId} {p : Program} {l : Launch} {e : Env} {s : State} {m : MethodId} {args : Array Value} {below : List Frame} {meth : Method} {c : Code} {F : Nat} (hAD : ∀ σ, va_D (owM ad) (wdM ad cA σ)) (C : CM D ad cA xTr p s m args meth c bc_Md_endSome "KindRoundsModel" 3) (hr : meth.sig.returnType = none) {σ' : zS} (σ : zS) (x2 : Int32) (hm : Md_endSome_137 F σ x2 = some σ') : ZM D ad cA p l e (rmK 1) s m args below meth c 3 (qvM D ad cA below args s σ') 137 [(0, .ref (ad 0)), (2, .int x2)] [] σ := by
  unfold Md_endSome_137 at hm
  refine z_aload_n (pc := 137) C d_Md_endSome_137 rfl 0 rfl ?_
  refine gM_Md_85 (pc := 138) C  d_Md_endSome_138 ?_
  refine z_aload_n (pc := 141) C d_Md_endSome_141 rfl 0 rfl ?_
  refine gM_Md_297 (pc := 142) (v := (gi σ 42)) C rfl d_Md_endSome_142 ?_
  refine z_iload_n (pc := 145) C d_Md_endSome_145 rfl 1 rfl ?_
  obtain ⟨g1, hm⟩ := gd_s hm
  refine asM_24 (pc := 146) C  g1 d_Md_endSome_146 ?_
  exact z_vretE (pc := 147) C hr hm d_Md_endSome_147
set_option maxHeartbeats 4000000 in
set_option maxRecDepth 100000 in
theorem w_Md_endSome_100 {D : va_G} {ad : Nat → Nat} {cA : Nat → ClassId} {p : Program} {l : Launch} {e : Env} {s : State} {m : MethodId} {args : Array Value} {below : List Frame} {meth : Method} {c : Code} {F : Nat} (hAD : ∀ σ, va_D (owM ad) (wdM ad cA σ)) (C : CM D ad cA xTr p s m args meth c bc_Md_endSome "KindRoundsModel" 3) (hr : meth.sig.returnType = none) {σ' : zS} (σ : zS) (x1 : Int32) (s1 : Int32) (s2 : Int32) (hm : Md_endSome_100 F σ x1 s1 s2 = some σ') : ZM D ad cA p l e (rmK 1) s m args below meth c 3 (qvM D ad cA below args s σ') 100 [(0, .ref (ad 0)), (1, .int x1)] [.int s2, .int s1, .ref (ad 0)] σ := by
  unfold Md_endSome_100 at hm
  refine z_aload_n (pc := 100) C d_Md_endSome_100 rfl 0 rfl ?_
  refine gM_Md_70 (pc := 101) C  d_Md_endSome_101 ?_
  refine z_aload_n (pc := 104) C d_Md_endSome_104 rfl 0 rfl ?_
  refine gM_Md_297 (pc := 105) (v := (gi σ 42)) C rfl d_Md_endSome_105 ?_
  obtain ⟨g1, hm⟩ := gd_s hm
  refine alM_19 (pc := 108) (v := (ga σ 19 (gi σ 42).toNatClampNeg)) C  rfl g1 d_Md_endSome_108 ?_
  obtain ⟨r3, σ2, e4, hm⟩ := bi_s hm
  refine z_callI (pc := 109) C (k_Md_node hAD e4) kz_Md_node mM_48 rfl rfl oM_0 rfl (kR_of (Nat.le_of_ble_eq_true rfl) (Nat.le_of_ble_eq_true rfl)) rfl (Nat.le_of_ble_eq_true rfl) d_Md_endSome_109 ?_
  refine z_istore_n (pc := 112) (lv' := [(0, .ref (ad 0)), (1, .int x1), (2, .int r3)]) C d_Md_endSome_112 rfl (Nat.le_of_ble_eq_true rfl) [1, 2, 0] rfl ?_
  refine z_iload_n (pc := 113) C d_Md_endSome_113 rfl 1 rfl ?_
  refine z_if_ge (pc := 114) (tgt := 130) C d_Md_endSome_114 (by decide) (fun c5 => ?_) (fun c5 => ?_)
  · rw [if_pos c5] at hm
    refine z_aload_n (pc := 130) C d_Md_endSome_130 rfl 0 rfl ?_
    refine gM_Md_27 (pc := 131) C  d_Md_endSome_131 ?_
    refine z_iload_n (pc := 134) C d_Md_endSome_134 rfl 1 rfl ?_
    refine z_iload_n (pc := 135) C d_Md_endSome_135 rfl 2 rfl ?_
    obtain ⟨g6, hm⟩ := gd_s hm
    refine asM_5 (pc := 136) C  g6 d_Md_endSome_136 ?_
    refine z_lv (lv' := [(0, .ref (ad 0)), (2, .int r3)]) [0, 2] rfl ?_
    exact w_Md_endSome_137 hAD C hr (sa σ2 5 x1.toNatClampNeg r3) r3 hm
  · rw [if_neg c5] at hm
    refine z_aload_n (pc := 117) C d_Md_endSome_117 rfl 0 rfl ?_
    refine gM_Md_82 (pc := 118) C  d_Md_endSome_118 ?_
    refine z_aload_n (pc := 121) C d_Md_endSome_121 rfl 0 rfl ?_
    refine gM_Md_297 (pc := 122) (v := (gi σ2 42)) C rfl d_Md_endSome_122 ?_
    refine z_iload_n (pc := 125) C d_Md_endSome_125 rfl 2 rfl ?_
    obtain ⟨g7, hm⟩ := gd_s hm
    refine asM_23 (pc := 126) C  g7 d_Md_endSome_126 ?_
    refine z_goto (pc := 127) (tgt := 137) C d_Md_endSome_127 (by decide) ?_
    refine z_lv (lv' := [(0, .ref (ad 0)), (2, .int r3)]) [0, 2] rfl ?_
    exact w_Md_endSome_137 hAD C hr (sa σ2 23 (gi σ2 42).toNatClampNeg r3) r3 hm
set_option maxHeartbeats 4000000 in
set_option maxRecDepth 100000 in
theorem w_Md_endSome_35 {D : va_G} {ad : Nat → Nat} {cA : Nat → ClassId} {p : Program} {l : Launch} {e : Env} {s : State} {m : MethodId} {args : Array Value} {below : List Frame} {meth : Method} {c : Code} {F : Nat} (hAD : ∀ σ, va_D (owM ad) (wdM ad cA σ)) (C : CM D ad cA xTr p s m args meth c bc_Md_endSome "KindRoundsModel" 3) (hr : meth.sig.returnType = none) {σ' : zS} (σ : zS) (hm : Md_endSome_35 F σ = some σ') : ZM D ad cA p l e (rmK 1) s m args below meth c 3 (qvM D ad cA below args s σ') 35 [(0, .ref (ad 0))] [] σ := by
  unfold Md_endSome_35 at hm
  refine z_aload_n (pc := 35) C d_Md_endSome_35 rfl 0 rfl ?_
  refine gM_Md_82 (pc := 36) C  d_Md_endSome_36 ?_
  refine z_aload_n (pc := 39) C d_Md_endSome_39 rfl 0 rfl ?_
  refine gM_Md_297 (pc := 40) (v := (gi σ 42)) C rfl d_Md_endSome_40 ?_
  obtain ⟨g1, hm⟩ := gd_s hm
  refine alM_23 (pc := 43) (v := (ga σ 23 (gi σ 42).toNatClampNeg)) C  rfl g1 d_Md_endSome_43 ?_
  refine z_if_ge (pc := 44) (tgt := 66) C d_Md_endSome_44 (by decide) (fun c2 => ?_) (fun c2 => ?_)
  · rw [if_pos c2] at hm
    refine z_aload_n (pc := 66) C d_Md_endSome_66 rfl 0 rfl ?_
    refine gM_Md_85 (pc := 67) C  d_Md_endSome_67 ?_
    refine z_aload_n (pc := 70) C d_Md_endSome_70 rfl 0 rfl ?_
    refine gM_Md_297 (pc := 71) (v := (gi σ 42)) C rfl d_Md_endSome_71 ?_
    refine alM_24 (pc := 74) (v := (ga σ 24 (gi σ 42).toNatClampNeg)) C  rfl g1 d_Md_endSome_74 ?_
    refine z_istore_n (pc := 75) (lv' := [(0, .ref (ad 0)), (1, .int (ga σ 24 (gi σ 42).toNatClampNeg))]) C d_Md_endSome_75 rfl (Nat.le_of_ble_eq_true rfl) [1, 0] rfl ?_
    refine z_aload_n (pc := 76) C d_Md_endSome_76 rfl 0 rfl ?_
    refine z_iconst (pc := 77) C d_Md_endSome_77 ki_4 ?_
    refine z_iload_n (pc := 78) C d_Md_endSome_78 rfl 1 rfl ?_
    refine z_if_ge (pc := 79) (tgt := 94) C d_Md_endSome_79 (by decide) (fun c3 => ?_) (fun c3 => ?_)
    · rw [if_pos c3] at hm
      refine z_aload_n (pc := 94) C d_Md_endSome_94 rfl 0 rfl ?_
      refine gM_Md_27 (pc := 95) C  d_Md_endSome_95 ?_
      refine z_iload_n (pc := 98) C d_Md_endSome_98 rfl 1 rfl ?_
      obtain ⟨g4, hm⟩ := gd_s hm
      refine alM_5 (pc := 99) (v := (ga σ 5 (ga σ 24 (gi σ 42).toNatClampNeg).toNatClampNeg)) C  rfl g4 d_Md_endSome_99 ?_
      exact w_Md_endSome_100 hAD C hr σ (ga σ 24 (gi σ 42).toNatClampNeg) (4 : Int32) (ga σ 5 (ga σ 24 (gi σ 42).toNatClampNeg).toNatClampNeg) hm
    · rw [if_neg c3] at hm
      refine z_aload_n (pc := 82) C d_Md_endSome_82 rfl 0 rfl ?_
      refine gM_Md_82 (pc := 83) C  d_Md_endSome_83 ?_
      refine z_aload_n (pc := 86) C d_Md_endSome_86 rfl 0 rfl ?_
      refine gM_Md_297 (pc := 87) (v := (gi σ 42)) C rfl d_Md_endSome_87 ?_
      refine alM_23 (pc := 90) (v := (ga σ 23 (gi σ 42).toNatClampNeg)) C  rfl g1 d_Md_endSome_90 ?_
      refine z_goto (pc := 91) (tgt := 100) C d_Md_endSome_91 (by decide) ?_
      exact w_Md_endSome_100 hAD C hr σ (ga σ 24 (gi σ 42).toNatClampNeg) (4 : Int32) (ga σ 23 (gi σ 42).toNatClampNeg) hm
  · rw [if_neg c2] at hm
    refine z_aload_n (pc := 47) C d_Md_endSome_47 rfl 0 rfl ?_
    refine gM_Md_82 (pc := 48) C  d_Md_endSome_48 ?_
    refine z_aload_n (pc := 51) C d_Md_endSome_51 rfl 0 rfl ?_
    refine gM_Md_297 (pc := 52) (v := (gi σ 42)) C rfl d_Md_endSome_52 ?_
    refine z_aload_n (pc := 55) C d_Md_endSome_55 rfl 0 rfl ?_
    refine gM_Md_70 (pc := 56) C  d_Md_endSome_56 ?_
    refine z_aload_n (pc := 59) C d_Md_endSome_59 rfl 0 rfl ?_
    refine gM_Md_297 (pc := 60) (v := (gi σ 42)) C rfl d_Md_endSome_60 ?_
    refine alM_19 (pc := 63) (v := (ga σ 19 (gi σ 42).toNatClampNeg)) C  rfl g1 d_Md_endSome_63 ?_
    refine asM_23 (pc := 64) C  g1 d_Md_endSome_64 ?_
    exact z_vretE (pc := 65) C hr hm d_Md_endSome_65
set_option maxHeartbeats 4000000 in
set_option maxRecDepth 100000 in
theorem k_Md_endSome {l : Launch} {D : va_G} {ad : Nat → Nat} {cA : Nat → ClassId} {F : Nat} (hAD : ∀ σ, va_D (owM ad) (wdM ad cA σ)) {σ : zS} {σ' : zS} (hm : Md_endSome F σ = some σ') : kVM l D ad cA xTr y_Md_endSome bc_Md_endSome 3 1 [.ref (ad 0)] σ σ' := by
  refine kV_of (by decide) hAD xTr_P (Nat.le_of_ble_eq_true rfl) ?_
  intro p e s m below meth c C hr
  unfold Md_endSome at hm
  refine z_lv (lv' := [(0, .ref (ad 0))]) [0] rfl ?_
  refine z_aload_n (pc := 0) C d_Md_endSome_0 rfl 0 rfl ?_
  refine gM_Md_73 (pc := 1) C  d_Md_endSome_1 ?_
  refine z_aload_n (pc := 4) C d_Md_endSome_4 rfl 0 rfl ?_
  refine gM_Md_297 (pc := 5) (v := (gi σ 42)) C rfl d_Md_endSome_5 ?_
  obtain ⟨g1, hm⟩ := gd_s hm
  refine alM_20 (pc := 8) (v := (ga σ 20 (gi σ 42).toNatClampNeg)) C  rfl g1 d_Md_endSome_8 ?_
  refine z_if_lt (pc := 9) (tgt := 35) C d_Md_endSome_9 (by decide) (fun c2 => ?_) (fun c2 => ?_)
  · rw [if_pos c2] at hm
    exact w_Md_endSome_35 hAD C hr σ hm
  · rw [if_neg c2] at hm
    refine z_aload_n (pc := 12) C d_Md_endSome_12 rfl 0 rfl ?_
    refine gM_Md_61 (pc := 13) C  d_Md_endSome_13 ?_
    refine z_aload_n (pc := 16) C d_Md_endSome_16 rfl 0 rfl ?_
    refine gM_Md_73 (pc := 17) C  d_Md_endSome_17 ?_
    refine z_aload_n (pc := 20) C d_Md_endSome_20 rfl 0 rfl ?_
    refine gM_Md_297 (pc := 21) (v := (gi σ 42)) C rfl d_Md_endSome_21 ?_
    refine alM_20 (pc := 24) (v := (ga σ 20 (gi σ 42).toNatClampNeg)) C  rfl g1 d_Md_endSome_24 ?_
    refine z_aload_n (pc := 25) C d_Md_endSome_25 rfl 0 rfl ?_
    refine gM_Md_76 (pc := 26) C  d_Md_endSome_26 ?_
    refine z_aload_n (pc := 29) C d_Md_endSome_29 rfl 0 rfl ?_
    refine gM_Md_297 (pc := 30) (v := (gi σ 42)) C rfl d_Md_endSome_30 ?_
    refine alM_21 (pc := 33) (v := (ga σ 21 (gi σ 42).toNatClampNeg)) C  rfl g1 d_Md_endSome_33 ?_
    obtain ⟨g3, hm⟩ := gd_s hm
    refine asM_16 (pc := 34) C  g3 d_Md_endSome_34 ?_
    exact w_Md_endSome_35 hAD C hr (sa σ 16 (ga σ 20 (gi σ 42).toNatClampNeg).toNatClampNeg (ga σ 21 (gi σ 42).toNatClampNeg)) hm
set_option maxHeartbeats 4000000 in
set_option maxRecDepth 100000 in
theorem w_Md_beginOne_115 {D : va_G} {ad : Nat → Nat} {cA : Nat → ClassId} {p : Program} {l : Launch} {e : Env} {s : State} {m : MethodId} {args : Array Value} {below : List Frame} {meth : Method} {c : Code} {F : Nat} (hAD : ∀ σ, va_D (owM ad) (wdM ad cA σ)) (C : CM D ad cA xTr p s m args meth c bc_Md_beginOne "KindRoundsModel" 4) (hr : meth.sig.returnType = none) {σ' : zS} (σ : zS) (hm : Md_beginOne_115 F σ = some σ') : ZM D ad cA p l e (rmK 4) s m args below meth c 4 (qvM D ad cA below args s σ') 115 [] [] σ := by
  unfold Md_beginOne_115 at hm
  exact z_vretE (pc := 115) C hr hm d_Md_beginOne_115
set_option maxHeartbeats 4000000 in
set_option maxRecDepth 100000 in
theorem w_Md_beginOne_100 {D : va_G} {ad : Nat → Nat} {cA : Nat → ClassId} {p : Program} {l : Launch} {e : Env} {s : State} {m : MethodId} {args : Array Value} {below : List Frame} {meth : Method} {c : Code} {F : Nat} (hAD : ∀ σ, va_D (owM ad) (wdM ad cA σ)) (C : CM D ad cA xTr p s m args meth c bc_Md_beginOne "KindRoundsModel" 4) (hr : meth.sig.returnType = none) {σ' : zS} (σ : zS) (x1 : Int32) (x2 : Int32) (x3 : Int32) (s1 : Int32) (hm : Md_beginOne_100 F σ x1 x2 x3 s1 = some σ') : ZM D ad cA p l e (rmK 4) s m args below meth c 4 (qvM D ad cA below args s σ') 100 [(0, .ref (ad 0)), (1, .int x1), (2, .int x2), (3, .int x3)] [.int s1, .ref (ad 0)] σ := by
  unfold Md_beginOne_100 at hm
  refine z_iload_n (pc := 100) C d_Md_beginOne_100 rfl 2 rfl ?_
  obtain ⟨σ1, e2, hm⟩ := bv_s hm
  refine z_callV (pc := 101) C (k_Md_tell hAD e2) kz_Md_tell mM_53 rfl rfl oM_0 rfl (kR_of (Nat.le_of_ble_eq_true rfl) (Nat.le_of_ble_eq_true rfl)) rfl (Nat.le_of_ble_eq_true rfl) d_Md_beginOne_101 ?_
  refine z_aload_n (pc := 104) C d_Md_beginOne_104 rfl 0 rfl ?_
  obtain ⟨σ3, e4, hm⟩ := bv_s hm
  refine z_callV (pc := 105) C (k_Md_next hAD e4) kz_Md_next mM_21 rfl rfl oM_0 rfl (kR_of (Nat.le_of_ble_eq_true rfl) (Nat.le_of_ble_eq_true rfl)) rfl (Nat.le_of_ble_eq_true rfl) d_Md_beginOne_105 ?_
  refine z_aload_n (pc := 108) C d_Md_beginOne_108 rfl 0 rfl ?_
  refine z_iload_n (pc := 109) C d_Md_beginOne_109 rfl 2 rfl ?_
  refine z_iload_n (pc := 110) C d_Md_beginOne_110 rfl 3 rfl ?_
  refine z_iload_n (pc := 111) C d_Md_beginOne_111 rfl 1 rfl ?_
  obtain ⟨σ5, e6, hm⟩ := bv_s hm
  refine z_callV (pc := 112) C (k_Md_addOne hAD e6) kz_Md_addOne mM_54 rfl rfl oM_0 rfl (kR_of (Nat.le_of_ble_eq_true rfl) (Nat.le_of_ble_eq_true rfl)) rfl (Nat.le_of_ble_eq_true rfl) d_Md_beginOne_112 ?_
  refine z_lv (lv' := []) [] rfl ?_
  exact w_Md_beginOne_115 hAD C hr σ5 hm
set_option maxHeartbeats 4000000 in
set_option maxRecDepth 100000 in
theorem w_Md_beginOne_84 {D : va_G} {ad : Nat → Nat} {cA : Nat → ClassId} {p : Program} {l : Launch} {e : Env} {s : State} {m : MethodId} {args : Array Value} {below : List Frame} {meth : Method} {c : Code} {F : Nat} (hAD : ∀ σ, va_D (owM ad) (wdM ad cA σ)) (C : CM D ad cA xTr p s m args meth c bc_Md_beginOne "KindRoundsModel" 4) (hr : meth.sig.returnType = none) {σ' : zS} (σ : zS) (x1 : Int32) (x2 : Int32) (s0 : Int32) (hm : Md_beginOne_84 F σ x1 x2 s0 = some σ') : ZM D ad cA p l e (rmK 4) s m args below meth c 4 (qvM D ad cA below args s σ') 84 [(0, .ref (ad 0)), (1, .int x1), (2, .int x2)] [.int s0] σ := by
  unfold Md_beginOne_84 at hm
  refine z_istore_n (pc := 84) (lv' := [(0, .ref (ad 0)), (1, .int x1), (2, .int x2), (3, .int s0)]) C d_Md_beginOne_84 rfl (Nat.le_of_ble_eq_true rfl) [1, 2, 3, 0] rfl ?_
  refine z_aload_n (pc := 85) C d_Md_beginOne_85 rfl 0 rfl ?_
  refine z_aload_n (pc := 86) C d_Md_beginOne_86 rfl 0 rfl ?_
  refine gM_Md_241 (pc := 87) (v := (gi σ 4)) C rfl d_Md_beginOne_87 ?_
  refine z_iconst (pc := 90) C d_Md_beginOne_90 ki_1 ?_
  refine z_icmp_ne (pc := 91) (tgt := 98) C d_Md_beginOne_91 (by decide) (fun c1 => ?_) (fun c1 => ?_)
  · rw [if_neg c1] at hm
    refine z_bipush (pc := 98) C d_Md_beginOne_98 kb_6 ?_
    exact w_Md_beginOne_100 hAD C hr σ x1 x2 s0 (6 : Int32) hm
  · rw [if_pos c1] at hm
    refine z_iconst (pc := 94) C d_Md_beginOne_94 ki_5 ?_
    refine z_goto (pc := 95) (tgt := 100) C d_Md_beginOne_95 (by decide) ?_
    exact w_Md_beginOne_100 hAD C hr σ x1 x2 s0 (5 : Int32) hm
set_option maxHeartbeats 4000000 in
set_option maxRecDepth 100000 in
theorem w_Md_beginOne_46 {D : va_G} {ad : Nat → Nat} {cA : Nat → ClassId} {p : Program} {l : Launch} {e : Env} {s : State} {m : MethodId} {args : Array Value} {below : List Frame} {meth : Method} {c : Code} {F : Nat} (hAD : ∀ σ, va_D (owM ad) (wdM ad cA σ)) (C : CM D ad cA xTr p s m args meth c bc_Md_beginOne "KindRoundsModel" 4) (hr : meth.sig.returnType = none) {σ' : zS} (σ : zS) (x1 : Int32) (s1 : Int32) (hm : Md_beginOne_46 F σ x1 s1 = some σ') : ZM D ad cA p l e (rmK 4) s m args below meth c 4 (qvM D ad cA below args s σ') 46 [(0, .ref (ad 0)), (1, .int x1)] [.int s1, .ref (ad 0)] σ := by
  unfold Md_beginOne_46 at hm
  refine z_aload_n (pc := 46) C d_Md_beginOne_46 rfl 0 rfl ?_
  refine gM_Md_282 (pc := 47) (v := (gi σ 32)) C rfl d_Md_beginOne_47 ?_
  refine z_aload_n (pc := 50) C d_Md_beginOne_50 rfl 0 rfl ?_
  refine gM_Md_310 (pc := 51) (v := (gi σ 67)) C rfl d_Md_beginOne_51 ?_
  obtain ⟨r2, σ1, e3, hm⟩ := bi_s hm
  refine z_callI (pc := 54) C (k_Md_node hAD e3) kz_Md_node mM_48 rfl rfl oM_0 rfl (kR_of (Nat.le_of_ble_eq_true rfl) (Nat.le_of_ble_eq_true rfl)) rfl (Nat.le_of_ble_eq_true rfl) d_Md_beginOne_54 ?_
  refine z_istore_n (pc := 57) (lv' := [(0, .ref (ad 0)), (1, .int x1), (2, .int r2)]) C d_Md_beginOne_57 rfl (Nat.le_of_ble_eq_true rfl) [1, 2, 0] rfl ?_
  refine z_aload_n (pc := 58) C d_Md_beginOne_58 rfl 0 rfl ?_
  refine gM_Md_20 (pc := 59) C  d_Md_beginOne_59 ?_
  refine z_iload_n (pc := 62) C d_Md_beginOne_62 rfl 2 rfl ?_
  refine z_aload_n (pc := 63) C d_Md_beginOne_63 rfl 0 rfl ?_
  refine gM_Md_255 (pc := 64) (v := (gl σ1 6)) C rfl d_Md_beginOne_64 ?_
  obtain ⟨g4, hm⟩ := gd_s hm
  refine asM_3 (pc := 67) C  g4 d_Md_beginOne_67 ?_
  refine z_aload_n (pc := 68) C d_Md_beginOne_68 rfl 0 rfl ?_
  refine gM_Md_241 (pc := 69) (v := (gi σ1 4)) C rfl d_Md_beginOne_69 ?_
  refine z_iconst (pc := 72) C d_Md_beginOne_72 ki_1 ?_
  refine z_icmp_ne (pc := 73) (tgt := 83) C d_Md_beginOne_73 (by decide) (fun c5 => ?_) (fun c5 => ?_)
  · rw [if_neg c5] at hm
    refine z_iconst (pc := 83) C d_Md_beginOne_83 ki_m1 ?_
    exact w_Md_beginOne_84 hAD C hr (sb σ1 3 r2.toNatClampNeg (gl σ1 6)) x1 r2 (-1 : Int32) hm
  · rw [if_pos c5] at hm
    refine z_aload_n (pc := 76) C d_Md_beginOne_76 rfl 0 rfl ?_
    refine gM_Md_279 (pc := 77) (v := (gi σ1 31)) C rfl d_Md_beginOne_77 ?_
    refine z_goto (pc := 80) (tgt := 84) C d_Md_beginOne_80 (by decide) ?_
    exact w_Md_beginOne_84 hAD C hr (sb σ1 3 r2.toNatClampNeg (gl σ1 6)) x1 r2 (gi σ1 31) hm
set_option maxHeartbeats 4000000 in
set_option maxRecDepth 100000 in
theorem w_Md_beginOne_21 {D : va_G} {ad : Nat → Nat} {cA : Nat → ClassId} {p : Program} {l : Launch} {e : Env} {s : State} {m : MethodId} {args : Array Value} {below : List Frame} {meth : Method} {c : Code} {F : Nat} (hAD : ∀ σ, va_D (owM ad) (wdM ad cA σ)) (C : CM D ad cA xTr p s m args meth c bc_Md_beginOne "KindRoundsModel" 4) (hr : meth.sig.returnType = none) {σ' : zS} (σ : zS) (x1 : Int32) (hm : Md_beginOne_21 F σ x1 = some σ') : ZM D ad cA p l e (rmK 4) s m args below meth c 4 (qvM D ad cA below args s σ') 21 [(0, .ref (ad 0)), (1, .int x1)] [] σ := by
  unfold Md_beginOne_21 at hm
  refine z_aload_n (pc := 21) C d_Md_beginOne_21 rfl 0 rfl ?_
  obtain ⟨σ1, e2, hm⟩ := bv_s hm
  refine z_callV (pc := 22) C (k_Md_count hAD e2) kz_Md_count mM_57 rfl rfl oM_0 rfl (kR_of (Nat.le_of_ble_eq_true rfl) (Nat.le_of_ble_eq_true rfl)) rfl (Nat.le_of_ble_eq_true rfl) d_Md_beginOne_22 ?_
  refine z_aload_n (pc := 25) C d_Md_beginOne_25 rfl 0 rfl ?_
  refine gM_Md_221 (pc := 26) (v := (gi σ1 8)) C rfl d_Md_beginOne_26 ?_
  refine z_if_ne (pc := 29) (tgt := 115) C d_Md_beginOne_29 (by decide) (fun c3 => ?_) (fun c3 => ?_)
  · rw [if_neg c3] at hm
    refine z_lv (lv' := []) [] rfl ?_
    exact w_Md_beginOne_115 hAD C hr σ1 hm
  · rw [if_pos c3] at hm
    refine z_aload_n (pc := 32) C d_Md_beginOne_32 rfl 0 rfl ?_
    refine z_aload_n (pc := 33) C d_Md_beginOne_33 rfl 0 rfl ?_
    refine gM_Md_241 (pc := 34) (v := (gi σ1 4)) C rfl d_Md_beginOne_34 ?_
    refine z_iconst (pc := 37) C d_Md_beginOne_37 ki_1 ?_
    refine z_icmp_ne (pc := 38) (tgt := 45) C d_Md_beginOne_38 (by decide) (fun c4 => ?_) (fun c4 => ?_)
    · rw [if_neg c4] at hm
      refine z_iconst (pc := 45) C d_Md_beginOne_45 ki_1 ?_
      exact w_Md_beginOne_46 hAD C hr σ1 x1 (1 : Int32) hm
    · rw [if_pos c4] at hm
      refine z_iconst (pc := 41) C d_Md_beginOne_41 ki_0 ?_
      refine z_goto (pc := 42) (tgt := 46) C d_Md_beginOne_42 (by decide) ?_
      exact w_Md_beginOne_46 hAD C hr σ1 x1 (0 : Int32) hm
set_option maxHeartbeats 4000000 in
set_option maxRecDepth 100000 in
theorem w_Md_beginOne_166 {D : va_G} {ad : Nat → Nat} {cA : Nat → ClassId} {p : Program} {l : Launch} {e : Env} {s : State} {m : MethodId} {args : Array Value} {below : List Frame} {meth : Method} {c : Code} {F : Nat} (hAD : ∀ σ, va_D (owM ad) (wdM ad cA σ)) (C : CM D ad cA xTr p s m args meth c bc_Md_beginOne "KindRoundsModel" 4) (hr : meth.sig.returnType = none) {σ' : zS} (σ : zS) (hm : Md_beginOne_166 F σ = some σ') : ZM D ad cA p l e (rmK 4) s m args below meth c 4 (qvM D ad cA below args s σ') 166 [] [] σ := by
  unfold Md_beginOne_166 at hm
  exact z_vretE (pc := 166) C hr hm d_Md_beginOne_166
set_option maxHeartbeats 4000000 in
set_option maxRecDepth 100000 in
theorem w_Md_beginOne_159 {D : va_G} {ad : Nat → Nat} {cA : Nat → ClassId} {p : Program} {l : Launch} {e : Env} {s : State} {m : MethodId} {args : Array Value} {below : List Frame} {meth : Method} {c : Code} {F : Nat} (hAD : ∀ σ, va_D (owM ad) (wdM ad cA σ)) (C : CM D ad cA xTr p s m args meth c bc_Md_beginOne "KindRoundsModel" 4) (hr : meth.sig.returnType = none) {σ' : zS} (σ : zS) (s1 : Int32) (hm : Md_beginOne_159 F σ s1 = some σ') : ZM D ad cA p l e (rmK 4) s m args below meth c 4 (qvM D ad cA below args s σ') 159 [(0, .ref (ad 0))] [.int s1, .ref (ad 0)] σ := by
  unfold Md_beginOne_159 at hm
  obtain ⟨σ1, e2, hm⟩ := bv_s hm
  refine z_callV (pc := 159) C (k_Md_open hAD e2) kz_Md_open mM_58 rfl rfl oM_0 rfl (kR_of (Nat.le_of_ble_eq_true rfl) (Nat.le_of_ble_eq_true rfl)) rfl (Nat.le_of_ble_eq_true rfl) d_Md_beginOne_159 ?_
  refine z_aload_n (pc := 162) C d_Md_beginOne_162 rfl 0 rfl ?_
  obtain ⟨σ3, e4, hm⟩ := bv_s hm
  refine z_callV (pc := 163) C (k_Md_next hAD e4) kz_Md_next mM_21 rfl rfl oM_0 rfl (kR_of (Nat.le_of_ble_eq_true rfl) (Nat.le_of_ble_eq_true rfl)) rfl (Nat.le_of_ble_eq_true rfl) d_Md_beginOne_163 ?_
  refine z_lv (lv' := []) [] rfl ?_
  exact w_Md_beginOne_166 hAD C hr σ3 hm
set_option maxHeartbeats 4000000 in
set_option maxRecDepth 100000 in
theorem w_Md_beginOne_142 {D : va_G} {ad : Nat → Nat} {cA : Nat → ClassId} {p : Program} {l : Launch} {e : Env} {s : State} {m : MethodId} {args : Array Value} {below : List Frame} {meth : Method} {c : Code} {F : Nat} (hAD : ∀ σ, va_D (owM ad) (wdM ad cA σ)) (C : CM D ad cA xTr p s m args meth c bc_Md_beginOne "KindRoundsModel" 4) (hr : meth.sig.returnType = none) {σ' : zS} (σ : zS) (x2 : Int32) (hm : Md_beginOne_142 F σ x2 = some σ') : ZM D ad cA p l e (rmK 4) s m args below meth c 4 (qvM D ad cA below args s σ') 142 [(0, .ref (ad 0)), (2, .int x2)] [] σ := by
  unfold Md_beginOne_142 at hm
  refine z_aload_n (pc := 142) C d_Md_beginOne_142 rfl 0 rfl ?_
  refine gM_Md_221 (pc := 143) (v := (gi σ 8)) C rfl d_Md_beginOne_143 ?_
  refine z_if_ne (pc := 146) (tgt := 166) C d_Md_beginOne_146 (by decide) (fun c1 => ?_) (fun c1 => ?_)
  · rw [if_neg c1] at hm
    refine z_lv (lv' := []) [] rfl ?_
    exact w_Md_beginOne_166 hAD C hr σ hm
  · rw [if_pos c1] at hm
    refine z_aload_n (pc := 149) C d_Md_beginOne_149 rfl 0 rfl ?_
    refine z_iload_n (pc := 150) C d_Md_beginOne_150 rfl 1 rfl ?_
    refine z_if_eq (pc := 151) (tgt := 158) C d_Md_beginOne_151 (by decide) (fun c2 => ?_) (fun c2 => ?_)
    · rw [if_pos c2] at hm
      refine z_iconst (pc := 158) C d_Md_beginOne_158 ki_1 ?_
      refine z_lv (lv' := [(0, .ref (ad 0))]) [0] rfl ?_
      exact w_Md_beginOne_159 hAD C hr σ (1 : Int32) hm
    · rw [if_neg c2] at hm
      refine z_iconst (pc := 154) C d_Md_beginOne_154 ki_2 ?_
      refine z_goto (pc := 155) (tgt := 159) C d_Md_beginOne_155 (by decide) ?_
      refine z_lv (lv' := [(0, .ref (ad 0))]) [0] rfl ?_
      exact w_Md_beginOne_159 hAD C hr σ (2 : Int32) hm
set_option maxHeartbeats 4000000 in
set_option maxRecDepth 100000 in
theorem k_Md_beginOne {l : Launch} {D : va_G} {ad : Nat → Nat} {cA : Nat → ClassId} {F : Nat} (hAD : ∀ σ, va_D (owM ad) (wdM ad cA σ)) {σ : zS} {σ' : zS} (hm : Md_beginOne F σ = some σ') : kVM l D ad cA xTr y_Md_beginOne bc_Md_beginOne 4 4 [.ref (ad 0)] σ σ' := by
  refine kV_of (by decide) hAD xTr_P (Nat.le_of_ble_eq_true rfl) ?_
  intro p e s m below meth c C hr
  unfold Md_beginOne at hm
  refine z_lv (lv' := [(0, .ref (ad 0))]) [0] rfl ?_
  refine z_aload_n (pc := 0) C d_Md_beginOne_0 rfl 0 rfl ?_
  refine gM_Md_238 (pc := 1) (v := (gi σ 5)) C rfl d_Md_beginOne_1 ?_
  refine z_istore_n (pc := 4) (lv' := [(0, .ref (ad 0)), (1, .int (gi σ 5))]) C d_Md_beginOne_4 rfl (Nat.le_of_ble_eq_true rfl) [1, 0] rfl ?_
  refine z_aload_n (pc := 5) C d_Md_beginOne_5 rfl 0 rfl ?_
  refine gM_Md_241 (pc := 6) (v := (gi σ 4)) C rfl d_Md_beginOne_6 ?_
  refine z_iconst (pc := 9) C d_Md_beginOne_9 ki_1 ?_
  refine z_icmp_eq (pc := 10) (tgt := 21) C d_Md_beginOne_10 (by decide) (fun c1 => ?_) (fun c1 => ?_)
  · rw [if_pos c1] at hm
    exact w_Md_beginOne_21 hAD C hr σ (gi σ 5) hm
  · rw [if_neg c1] at hm
    refine z_aload_n (pc := 13) C d_Md_beginOne_13 rfl 0 rfl ?_
    refine gM_Md_241 (pc := 14) (v := (gi σ 4)) C rfl d_Md_beginOne_14 ?_
    refine z_iconst (pc := 17) C d_Md_beginOne_17 ki_2 ?_
    refine z_icmp_ne (pc := 18) (tgt := 116) C d_Md_beginOne_18 (by decide) (fun c2 => ?_) (fun c2 => ?_)
    · rw [if_neg c2] at hm
      refine z_aload_n (pc := 116) C d_Md_beginOne_116 rfl 0 rfl ?_
      obtain ⟨σ3, e4, hm⟩ := bv_s hm
      refine z_callV (pc := 117) C (k_Md_deeper hAD e4) kz_Md_deeper mM_59 rfl rfl oM_0 rfl (kR_of (Nat.le_of_ble_eq_true rfl) (Nat.le_of_ble_eq_true rfl)) rfl (Nat.le_of_ble_eq_true rfl) d_Md_beginOne_117 ?_
      refine z_aload_n (pc := 120) C d_Md_beginOne_120 rfl 0 rfl ?_
      refine z_bipush (pc := 121) C d_Md_beginOne_121 kb_91 ?_
      obtain ⟨r6, σ5, e7, hm⟩ := bi_s hm
      refine z_callI (pc := 123) C (k_Md_isSign hAD e7) kz_Md_isSign mM_19 rfl rfl oM_0 rfl (kR_of (Nat.le_of_ble_eq_true rfl) (Nat.le_of_ble_eq_true rfl)) rfl (Nat.le_of_ble_eq_true rfl) d_Md_beginOne_123 ?_
      refine z_istore_n (pc := 126) (lv' := [(0, .ref (ad 0)), (1, .int (gi σ 5)), (2, .int r6)]) C d_Md_beginOne_126 rfl (Nat.le_of_ble_eq_true rfl) [1, 2, 0] rfl ?_
      refine z_aload_n (pc := 127) C d_Md_beginOne_127 rfl 0 rfl ?_
      refine gM_Md_221 (pc := 128) (v := (gi σ5 8)) C rfl d_Md_beginOne_128 ?_
      refine z_if_ne (pc := 131) (tgt := 142) C d_Md_beginOne_131 (by decide) (fun c8 => ?_) (fun c8 => ?_)
      · rw [if_neg c8] at hm
        refine z_lv (lv' := [(0, .ref (ad 0)), (2, .int r6)]) [0, 2] rfl ?_
        exact w_Md_beginOne_142 hAD C hr σ5 r6 hm
      · rw [if_pos c8] at hm
        refine z_iload_n (pc := 134) C d_Md_beginOne_134 rfl 2 rfl ?_
        refine z_if_eq (pc := 135) (tgt := 142) C d_Md_beginOne_135 (by decide) (fun c9 => ?_) (fun c9 => ?_)
        · rw [if_pos c9] at hm
          refine z_lv (lv' := [(0, .ref (ad 0)), (2, .int r6)]) [0, 2] rfl ?_
          exact w_Md_beginOne_142 hAD C hr σ5 r6 hm
        · rw [if_neg c9] at hm
          refine z_aload_n (pc := 138) C d_Md_beginOne_138 rfl 0 rfl ?_
          obtain ⟨σ10, e11, hm⟩ := bv_s hm
          refine z_callV (pc := 139) C (k_Md_count hAD e11) kz_Md_count mM_57 rfl rfl oM_0 rfl (kR_of (Nat.le_of_ble_eq_true rfl) (Nat.le_of_ble_eq_true rfl)) rfl (Nat.le_of_ble_eq_true rfl) d_Md_beginOne_139 ?_
          refine z_lv (lv' := [(0, .ref (ad 0)), (2, .int r6)]) [0, 2] rfl ?_
          exact w_Md_beginOne_142 hAD C hr σ10 r6 hm
    · rw [if_pos c2] at hm
      exact w_Md_beginOne_21 hAD C hr σ (gi σ 5) hm
set_option maxHeartbeats 4000000 in
set_option maxRecDepth 100000 in
theorem w_Md_closeOne_109 {D : va_G} {ad : Nat → Nat} {cA : Nat → ClassId} {p : Program} {l : Launch} {e : Env} {s : State} {m : MethodId} {args : Array Value} {below : List Frame} {meth : Method} {c : Code} {F : Nat} (hAD : ∀ σ, va_D (owM ad) (wdM ad cA σ)) (C : CM D ad cA xTr p s m args meth c bc_Md_closeOne "KindRoundsModel" 4) (hr : meth.sig.returnType = none) {σ' : zS} (σ : zS) (x3 : Int32) (s1 : Int32) (hm : Md_closeOne_109 F σ x3 s1 = some σ') : ZM D ad cA p l e (rmK 5) s m args below meth c 4 (qvM D ad cA below args s σ') 109 [(3, .int x3)] [.int s1, .ref (ad 0)] σ := by
  unfold Md_closeOne_109 at hm
  refine z_iconst (pc := 109) C d_Md_closeOne_109 ki_m1 ?_
  refine z_iload_n (pc := 110) C d_Md_closeOne_110 rfl 0 rfl ?_
  obtain ⟨σ1, e2, hm⟩ := bv_s hm
  refine z_callV (pc := 111) C (k_Md_addOne hAD e2) kz_Md_addOne mM_54 rfl rfl oM_0 rfl (kR_of (Nat.le_of_ble_eq_true rfl) (Nat.le_of_ble_eq_true rfl)) rfl (Nat.le_of_ble_eq_true rfl) d_Md_closeOne_111 ?_
  exact z_vretE (pc := 114) C hr hm d_Md_closeOne_114
set_option maxHeartbeats 4000000 in
set_option maxRecDepth 100000 in
theorem w_Md_closeOne_70 {D : va_G} {ad : Nat → Nat} {cA : Nat → ClassId} {p : Program} {l : Launch} {e : Env} {s : State} {m : MethodId} {args : Array Value} {below : List Frame} {meth : Method} {c : Code} {F : Nat} (hAD : ∀ σ, va_D (owM ad) (wdM ad cA σ)) (C : CM D ad cA xTr p s m args meth c bc_Md_closeOne "KindRoundsModel" 4) (hr : meth.sig.returnType = none) {σ' : zS} (σ : zS) (x1 : Int32) (x2 : Int32) (x3 : Int32) (s1 : Int32) (hm : Md_closeOne_70 F σ x1 x2 x3 s1 = some σ') : ZM D ad cA p l e (rmK 5) s m args below meth c 4 (qvM D ad cA below args s σ') 70 [(0, .ref (ad 0)), (1, .int x1), (2, .int x2), (3, .int x3)] [.int s1, .ref (ad 0)] σ := by
  unfold Md_closeOne_70 at hm
  obtain ⟨σ1, e2, hm⟩ := bv_s hm
  refine z_callV (pc := 70) C (k_Md_want hAD e2) kz_Md_want mM_60 rfl rfl oM_0 rfl (kR_of (Nat.le_of_ble_eq_true rfl) (Nat.le_of_ble_eq_true rfl)) rfl (Nat.le_of_ble_eq_true rfl) d_Md_closeOne_70 ?_
  refine z_aload_n (pc := 73) C d_Md_closeOne_73 rfl 0 rfl ?_
  refine z_dup (pc := 74) C d_Md_closeOne_74 rfl ?_
  refine gM_Md_294 (pc := 75) (v := (gi σ1 18)) C rfl d_Md_closeOne_75 ?_
  refine z_iconst (pc := 78) C d_Md_closeOne_78 ki_1 ?_
  refine z_isub (pc := 79) C d_Md_closeOne_79 ?_
  refine pM_Md_294 (pc := 80) C  d_Md_closeOne_80 ?_
  refine z_aload_n (pc := 83) C d_Md_closeOne_83 rfl 0 rfl ?_
  refine z_dup (pc := 84) C d_Md_closeOne_84 rfl ?_
  refine gM_Md_297 (pc := 85) (v := (gi σ1 42)) C rfl d_Md_closeOne_85 ?_
  refine z_iconst (pc := 88) C d_Md_closeOne_88 ki_1 ?_
  refine z_isub (pc := 89) C d_Md_closeOne_89 ?_
  refine pM_Md_297 (pc := 90) C  d_Md_closeOne_90 ?_
  refine z_aload_n (pc := 93) C d_Md_closeOne_93 rfl 0 rfl ?_
  refine z_iload_n (pc := 94) C d_Md_closeOne_94 rfl 1 rfl ?_
  refine z_if_eq (pc := 95) (tgt := 108) C d_Md_closeOne_95 (by decide) (fun c3 => ?_) (fun c3 => ?_)
  · rw [if_pos c3] at hm
    refine z_iload_n (pc := 108) C d_Md_closeOne_108 rfl 2 rfl ?_
    refine z_lv (lv' := [(3, .int x3)]) [3] rfl ?_
    exact w_Md_closeOne_109 hAD C hr (si (si σ1 18 ((gi σ1 18) - (1 : Int32))) 42 ((gi σ1 42) - (1 : Int32))) x3 x2 hm
  · rw [if_neg c3] at hm
    refine z_aload_n (pc := 98) C d_Md_closeOne_98 rfl 0 rfl ?_
    refine z_iconst (pc := 99) C d_Md_closeOne_99 ki_3 ?_
    refine z_iload_n (pc := 100) C d_Md_closeOne_100 rfl 2 rfl ?_
    refine z_iconst (pc := 101) C d_Md_closeOne_101 ki_0 ?_
    obtain ⟨r5, σ4, e6, hm⟩ := bi_s hm
    refine z_callI (pc := 102) C (k_Md_node hAD e6) kz_Md_node mM_48 rfl rfl oM_0 rfl (kR_of (Nat.le_of_ble_eq_true rfl) (Nat.le_of_ble_eq_true rfl)) rfl (Nat.le_of_ble_eq_true rfl) d_Md_closeOne_102 ?_
    refine z_goto (pc := 105) (tgt := 109) C d_Md_closeOne_105 (by decide) ?_
    refine z_lv (lv' := [(3, .int x3)]) [3] rfl ?_
    exact w_Md_closeOne_109 hAD C hr σ4 x3 r5 hm
set_option maxHeartbeats 4000000 in
set_option maxRecDepth 100000 in
theorem w_Md_closeOne_58 {D : va_G} {ad : Nat → Nat} {cA : Nat → ClassId} {p : Program} {l : Launch} {e : Env} {s : State} {m : MethodId} {args : Array Value} {below : List Frame} {meth : Method} {c : Code} {F : Nat} (hAD : ∀ σ, va_D (owM ad) (wdM ad cA σ)) (C : CM D ad cA xTr p s m args meth c bc_Md_closeOne "KindRoundsModel" 4) (hr : meth.sig.returnType = none) {σ' : zS} (σ : zS) (x1 : Int32) (x2 : Int32) (x3 : Int32) (hm : Md_closeOne_58 F σ x1 x2 x3 = some σ') : ZM D ad cA p l e (rmK 5) s m args below meth c 4 (qvM D ad cA below args s σ') 58 [(0, .ref (ad 0)), (1, .int x1), (2, .int x2), (3, .int x3)] [] σ := by
  unfold Md_closeOne_58 at hm
  refine z_aload_n (pc := 58) C d_Md_closeOne_58 rfl 0 rfl ?_
  refine z_iload_n (pc := 59) C d_Md_closeOne_59 rfl 1 rfl ?_
  refine z_if_eq (pc := 60) (tgt := 68) C d_Md_closeOne_60 (by decide) (fun c1 => ?_) (fun c1 => ?_)
  · rw [if_pos c1] at hm
    refine z_bipush (pc := 68) C d_Md_closeOne_68 kb_41 ?_
    exact w_Md_closeOne_70 hAD C hr σ x1 x2 x3 (41 : Int32) hm
  · rw [if_neg c1] at hm
    refine z_bipush (pc := 63) C d_Md_closeOne_63 kb_93 ?_
    refine z_goto (pc := 65) (tgt := 70) C d_Md_closeOne_65 (by decide) ?_
    exact w_Md_closeOne_70 hAD C hr σ x1 x2 x3 (93 : Int32) hm
set_option maxHeartbeats 4000000 in
set_option maxRecDepth 100000 in
theorem w_Md_closeOne_18 {D : va_G} {ad : Nat → Nat} {cA : Nat → ClassId} {p : Program} {l : Launch} {e : Env} {s : State} {m : MethodId} {args : Array Value} {below : List Frame} {meth : Method} {c : Code} {F : Nat} (hAD : ∀ σ, va_D (owM ad) (wdM ad cA σ)) (C : CM D ad cA xTr p s m args meth c bc_Md_closeOne "KindRoundsModel" 4) (hr : meth.sig.returnType = none) {σ' : zS} (σ : zS) (s0 : Int32) (hm : Md_closeOne_18 F σ s0 = some σ') : ZM D ad cA p l e (rmK 5) s m args below meth c 4 (qvM D ad cA below args s σ') 18 [(0, .ref (ad 0))] [.int s0] σ := by
  unfold Md_closeOne_18 at hm
  refine z_istore_n (pc := 18) (lv' := [(0, .ref (ad 0)), (1, .int s0)]) C d_Md_closeOne_18 rfl (Nat.le_of_ble_eq_true rfl) [1, 0] rfl ?_
  refine z_aload_n (pc := 19) C d_Md_closeOne_19 rfl 0 rfl ?_
  refine gM_Md_82 (pc := 20) C  d_Md_closeOne_20 ?_
  refine z_aload_n (pc := 23) C d_Md_closeOne_23 rfl 0 rfl ?_
  refine gM_Md_297 (pc := 24) (v := (gi σ 42)) C rfl d_Md_closeOne_24 ?_
  obtain ⟨g1, hm⟩ := gd_s hm
  refine alM_23 (pc := 27) (v := (ga σ 23 (gi σ 42).toNatClampNeg)) C  rfl g1 d_Md_closeOne_27 ?_
  refine z_istore_n (pc := 28) (lv' := [(0, .ref (ad 0)), (1, .int s0), (2, .int (ga σ 23 (gi σ 42).toNatClampNeg))]) C d_Md_closeOne_28 rfl (Nat.le_of_ble_eq_true rfl) [1, 2, 0] rfl ?_
  refine z_aload_n (pc := 29) C d_Md_closeOne_29 rfl 0 rfl ?_
  refine gM_Md_67 (pc := 30) C  d_Md_closeOne_30 ?_
  refine z_aload_n (pc := 33) C d_Md_closeOne_33 rfl 0 rfl ?_
  refine gM_Md_297 (pc := 34) (v := (gi σ 42)) C rfl d_Md_closeOne_34 ?_
  refine alM_18 (pc := 37) (v := (ga σ 18 (gi σ 42).toNatClampNeg)) C  rfl g1 d_Md_closeOne_37 ?_
  refine z_istore_n (pc := 38) (lv' := [(0, .ref (ad 0)), (1, .int s0), (2, .int (ga σ 23 (gi σ 42).toNatClampNeg)), (3, .int (ga σ 18 (gi σ 42).toNatClampNeg))]) C d_Md_closeOne_38 rfl (Nat.le_of_ble_eq_true rfl) [1, 2, 3, 0] rfl ?_
  refine z_iload_n (pc := 39) C d_Md_closeOne_39 rfl 1 rfl ?_
  refine z_if_eq (pc := 40) (tgt := 58) C d_Md_closeOne_40 (by decide) (fun c2 => ?_) (fun c2 => ?_)
  · rw [if_pos c2] at hm
    exact w_Md_closeOne_58 hAD C hr σ s0 (ga σ 23 (gi σ 42).toNatClampNeg) (ga σ 18 (gi σ 42).toNatClampNeg) hm
  · rw [if_neg c2] at hm
    refine z_aload_n (pc := 43) C d_Md_closeOne_43 rfl 0 rfl ?_
    refine z_iconst (pc := 44) C d_Md_closeOne_44 ki_1 ?_
    refine z_iload_n (pc := 45) C d_Md_closeOne_45 rfl 2 rfl ?_
    refine z_aload_n (pc := 46) C d_Md_closeOne_46 rfl 0 rfl ?_
    refine gM_Md_88 (pc := 47) C  d_Md_closeOne_47 ?_
    refine z_aload_n (pc := 50) C d_Md_closeOne_50 rfl 0 rfl ?_
    refine gM_Md_297 (pc := 51) (v := (gi σ 42)) C rfl d_Md_closeOne_51 ?_
    refine alM_25 (pc := 54) (v := (ga σ 25 (gi σ 42).toNatClampNeg)) C  rfl g1 d_Md_closeOne_54 ?_
    obtain ⟨σ3, e4, hm⟩ := bv_s hm
    refine z_callV (pc := 55) C (k_Md_act hAD e4) kz_Md_act mM_49 rfl rfl oM_0 rfl (kR_of (Nat.le_of_ble_eq_true rfl) (Nat.le_of_ble_eq_true rfl)) rfl (Nat.le_of_ble_eq_true rfl) d_Md_closeOne_55 ?_
    exact w_Md_closeOne_58 hAD C hr σ3 s0 (ga σ 23 (gi σ 42).toNatClampNeg) (ga σ 18 (gi σ 42).toNatClampNeg) hm
set_option maxHeartbeats 4000000 in
set_option maxRecDepth 100000 in
theorem k_Md_closeOne {l : Launch} {D : va_G} {ad : Nat → Nat} {cA : Nat → ClassId} {F : Nat} (hAD : ∀ σ, va_D (owM ad) (wdM ad cA σ)) {σ : zS} {σ' : zS} (hm : Md_closeOne F σ = some σ') : kVM l D ad cA xTr y_Md_closeOne bc_Md_closeOne 4 5 [.ref (ad 0)] σ σ' := by
  refine kV_of (by decide) hAD xTr_P (Nat.le_of_ble_eq_true rfl) ?_
  intro p e s m below meth c C hr
  unfold Md_closeOne at hm
  refine z_lv (lv' := [(0, .ref (ad 0))]) [0] rfl ?_
  refine z_aload_n (pc := 0) C d_Md_closeOne_0 rfl 0 rfl ?_
  refine gM_Md_64 (pc := 1) C  d_Md_closeOne_1 ?_
  refine z_aload_n (pc := 4) C d_Md_closeOne_4 rfl 0 rfl ?_
  refine gM_Md_297 (pc := 5) (v := (gi σ 42)) C rfl d_Md_closeOne_5 ?_
  obtain ⟨g1, hm⟩ := gd_s hm
  refine alM_17 (pc := 8) (v := (ga σ 17 (gi σ 42).toNatClampNeg)) C  rfl g1 d_Md_closeOne_8 ?_
  refine z_iconst (pc := 9) C d_Md_closeOne_9 ki_2 ?_
  refine z_icmp_ne (pc := 10) (tgt := 17) C d_Md_closeOne_10 (by decide) (fun c2 => ?_) (fun c2 => ?_)
  · rw [if_neg c2] at hm
    refine z_iconst (pc := 17) C d_Md_closeOne_17 ki_0 ?_
    exact w_Md_closeOne_18 hAD C hr σ (0 : Int32) hm
  · rw [if_pos c2] at hm
    refine z_iconst (pc := 13) C d_Md_closeOne_13 ki_1 ?_
    refine z_goto (pc := 14) (tgt := 18) C d_Md_closeOne_14 (by decide) ?_
    exact w_Md_closeOne_18 hAD C hr σ (1 : Int32) hm
set_option maxHeartbeats 4000000 in
set_option maxRecDepth 100000 in
theorem w_Md_readOpen_185 {D : va_G} {ad : Nat → Nat} {cA : Nat → ClassId} {p : Program} {l : Launch} {e : Env} {s : State} {m : MethodId} {args : Array Value} {below : List Frame} {meth : Method} {c : Code} {F : Nat} (hAD : ∀ σ, va_D (owM ad) (wdM ad cA σ)) (C : CM D ad cA xTr p s m args meth c bc_Md_readOpen "KindRoundsModel" 2) (hr : meth.sig.returnType = some .int) {r : Int32} {σ' : zS} (rc10 : zS → Int32 → Option (Int32 × zS)) (h10 : ∀ σ x1, rc10 σ x1 = some (r, σ') → ZM D ad cA p l e (rmK 6) s m args below meth c 2 (qiM D ad cA below args s r σ') 10 [(0, .ref (ad 0)), (1, .int x1)] [] σ) (σ : zS) (x1 : Int32) (hm : Md_readOpen_185 F rc10 σ x1 = some (r, σ')) : ZM D ad cA p l e (rmK 6) s m args below meth c 2 (qiM D ad cA below args s r σ') 185 [(0, .ref (ad 0)), (1, .int x1)] [] σ := by
  unfold Md_readOpen_185 at hm
  refine z_aload_n (pc := 185) C d_Md_readOpen_185 rfl 0 rfl ?_
  refine gM_Md_297 (pc := 186) (v := (gi σ 42)) C rfl d_Md_readOpen_186 ?_
  refine z_if_ne (pc := 189) (tgt := 209) C d_Md_readOpen_189 (by decide) (fun c1 => ?_) (fun c1 => ?_)
  · rw [if_neg c1] at hm
    refine z_aload_n (pc := 209) C d_Md_readOpen_209 rfl 0 rfl ?_
    obtain ⟨σ2, e3, hm⟩ := bv_s hm
    refine z_callV (pc := 210) C (k_Md_closeOne hAD e3) kz_Md_closeOne mM_62 rfl rfl oM_0 rfl (kR_of (Nat.le_of_ble_eq_true rfl) (Nat.le_of_ble_eq_true rfl)) rfl (Nat.le_of_ble_eq_true rfl) d_Md_readOpen_210 ?_
    refine z_goto (pc := 213) (tgt := 10) C d_Md_readOpen_213 (by decide) ?_
    exact h10 σ2 x1 hm
  · rw [if_pos c1] at hm
    refine z_aload_n (pc := 192) C d_Md_readOpen_192 rfl 0 rfl ?_
    refine z_aload_n (pc := 193) C d_Md_readOpen_193 rfl 0 rfl ?_
    refine gM_Md_88 (pc := 194) C  d_Md_readOpen_194 ?_
    refine z_iconst (pc := 197) C d_Md_readOpen_197 ki_0 ?_
    obtain ⟨g4, hm⟩ := gd_s hm
    refine alM_25 (pc := 198) (v := (ga σ 25 (0 : Int32).toNatClampNeg)) C  rfl g4 d_Md_readOpen_198 ?_
    refine pM_Md_332 (pc := 199) C  d_Md_readOpen_199 ?_
    refine z_aload_n (pc := 202) C d_Md_readOpen_202 rfl 0 rfl ?_
    refine gM_Md_82 (pc := 203) C  d_Md_readOpen_203 ?_
    refine z_iconst (pc := 206) C d_Md_readOpen_206 ki_0 ?_
    refine alM_23 (pc := 207) (v := (ga σ 23 (0 : Int32).toNatClampNeg)) C  rfl g4 d_Md_readOpen_207 ?_
    exact z_iretE (pc := 208) C hr hm d_Md_readOpen_208
set_option maxHeartbeats 4000000 in
set_option maxRecDepth 100000 in
theorem w_Md_readOpen_55 {D : va_G} {ad : Nat → Nat} {cA : Nat → ClassId} {p : Program} {l : Launch} {e : Env} {s : State} {m : MethodId} {args : Array Value} {below : List Frame} {meth : Method} {c : Code} {F : Nat} (hAD : ∀ σ, va_D (owM ad) (wdM ad cA σ)) (C : CM D ad cA xTr p s m args meth c bc_Md_readOpen "KindRoundsModel" 2) (hr : meth.sig.returnType = some .int) {r : Int32} {σ' : zS} (rc10 : zS → Int32 → Option (Int32 × zS)) (h10 : ∀ σ x1, rc10 σ x1 = some (r, σ') → ZM D ad cA p l e (rmK 6) s m args below meth c 2 (qiM D ad cA below args s r σ') 10 [(0, .ref (ad 0)), (1, .int x1)] [] σ) (σ : zS) (x1 : Int32) (hm : Md_readOpen_55 F rc10 σ x1 = some (r, σ')) : ZM D ad cA p l e (rmK 6) s m args below meth c 2 (qiM D ad cA below args s r σ') 55 [(0, .ref (ad 0)), (1, .int x1)] [] σ := by
  unfold Md_readOpen_55 at hm
  refine z_aload_n (pc := 55) C d_Md_readOpen_55 rfl 0 rfl ?_
  obtain ⟨r2, σ1, e3, hm⟩ := bi_s hm
  refine z_callI (pc := 56) C (k_Md_canBegin hAD e3) kz_Md_canBegin mM_64 rfl rfl oM_0 rfl (kR_of (Nat.le_of_ble_eq_true rfl) (Nat.le_of_ble_eq_true rfl)) rfl (Nat.le_of_ble_eq_true rfl) d_Md_readOpen_56 ?_
  refine z_if_eq (pc := 59) (tgt := 69) C d_Md_readOpen_59 (by decide) (fun c4 => ?_) (fun c4 => ?_)
  · rw [if_pos c4] at hm
    refine z_aload_n (pc := 69) C d_Md_readOpen_69 rfl 0 rfl ?_
    refine gM_Md_70 (pc := 70) C  d_Md_readOpen_70 ?_
    refine z_aload_n (pc := 73) C d_Md_readOpen_73 rfl 0 rfl ?_
    refine gM_Md_297 (pc := 74) (v := (gi σ1 42)) C rfl d_Md_readOpen_74 ?_
    obtain ⟨g5, hm⟩ := gd_s hm
    refine alM_19 (pc := 77) (v := (ga σ1 19 (gi σ1 42).toNatClampNeg)) C  rfl g5 d_Md_readOpen_77 ?_
    refine z_if_ge (pc := 78) (tgt := 88) C d_Md_readOpen_78 (by decide) (fun c6 => ?_) (fun c6 => ?_)
    · rw [if_pos c6] at hm
      refine z_aload_n (pc := 88) C d_Md_readOpen_88 rfl 0 rfl ?_
      refine z_sipush (pc := 89) C d_Md_readOpen_89 ks_1000 ?_
      obtain ⟨r8, σ7, e9, hm⟩ := bi_s hm
      refine z_callI (pc := 92) C (k_Md_isSign hAD e9) kz_Md_isSign mM_19 rfl rfl oM_0 rfl (kR_of (Nat.le_of_ble_eq_true rfl) (Nat.le_of_ble_eq_true rfl)) rfl (Nat.le_of_ble_eq_true rfl) d_Md_readOpen_92 ?_
      refine z_if_eq (pc := 95) (tgt := 146) C d_Md_readOpen_95 (by decide) (fun c10 => ?_) (fun c10 => ?_)
      · rw [if_pos c10] at hm
        refine z_aload_n (pc := 146) C d_Md_readOpen_146 rfl 0 rfl ?_
        obtain ⟨σ11, e12, hm⟩ := bv_s hm
        refine z_callV (pc := 147) C (k_Md_endSome hAD e12) kz_Md_endSome mM_65 rfl rfl oM_0 rfl (kR_of (Nat.le_of_ble_eq_true rfl) (Nat.le_of_ble_eq_true rfl)) rfl (Nat.le_of_ble_eq_true rfl) d_Md_readOpen_147 ?_
        refine z_aload_n (pc := 150) C d_Md_readOpen_150 rfl 0 rfl ?_
        refine gM_Md_85 (pc := 151) C  d_Md_readOpen_151 ?_
        refine z_aload_n (pc := 154) C d_Md_readOpen_154 rfl 0 rfl ?_
        refine gM_Md_297 (pc := 155) (v := (gi σ11 42)) C rfl d_Md_readOpen_155 ?_
        obtain ⟨g13, hm⟩ := gd_s hm
        refine alM_24 (pc := 158) (v := (ga σ11 24 (gi σ11 42).toNatClampNeg)) C  rfl g13 d_Md_readOpen_158 ?_
        refine z_if_lt (pc := 159) (tgt := 185) C d_Md_readOpen_159 (by decide) (fun c14 => ?_) (fun c14 => ?_)
        · rw [if_pos c14] at hm
          exact w_Md_readOpen_185 hAD C hr _ h10 σ11 x1 hm
        · rw [if_neg c14] at hm
          refine z_aload_n (pc := 162) C d_Md_readOpen_162 rfl 0 rfl ?_
          refine z_iconst (pc := 163) C d_Md_readOpen_163 ki_1 ?_
          refine z_aload_n (pc := 164) C d_Md_readOpen_164 rfl 0 rfl ?_
          refine gM_Md_70 (pc := 165) C  d_Md_readOpen_165 ?_
          refine z_aload_n (pc := 168) C d_Md_readOpen_168 rfl 0 rfl ?_
          refine gM_Md_297 (pc := 169) (v := (gi σ11 42)) C rfl d_Md_readOpen_169 ?_
          refine alM_19 (pc := 172) (v := (ga σ11 19 (gi σ11 42).toNatClampNeg)) C  rfl g13 d_Md_readOpen_172 ?_
          refine z_aload_n (pc := 173) C d_Md_readOpen_173 rfl 0 rfl ?_
          refine gM_Md_79 (pc := 174) C  d_Md_readOpen_174 ?_
          refine z_aload_n (pc := 177) C d_Md_readOpen_177 rfl 0 rfl ?_
          refine gM_Md_297 (pc := 178) (v := (gi σ11 42)) C rfl d_Md_readOpen_178 ?_
          refine alM_22 (pc := 181) (v := (ga σ11 22 (gi σ11 42).toNatClampNeg)) C  rfl g13 d_Md_readOpen_181 ?_
          obtain ⟨σ15, e16, hm⟩ := bv_s hm
          refine z_callV (pc := 182) C (k_Md_act hAD e16) kz_Md_act mM_49 rfl rfl oM_0 rfl (kR_of (Nat.le_of_ble_eq_true rfl) (Nat.le_of_ble_eq_true rfl)) rfl (Nat.le_of_ble_eq_true rfl) d_Md_readOpen_182 ?_
          exact w_Md_readOpen_185 hAD C hr _ h10 σ15 x1 hm
      · rw [if_neg c10] at hm
        refine z_aload_n (pc := 98) C d_Md_readOpen_98 rfl 0 rfl ?_
        obtain ⟨σ17, e18, hm⟩ := bv_s hm
        refine z_callV (pc := 99) C (k_Md_count hAD e18) kz_Md_count mM_57 rfl rfl oM_0 rfl (kR_of (Nat.le_of_ble_eq_true rfl) (Nat.le_of_ble_eq_true rfl)) rfl (Nat.le_of_ble_eq_true rfl) d_Md_readOpen_99 ?_
        refine z_aload_n (pc := 102) C d_Md_readOpen_102 rfl 0 rfl ?_
        obtain ⟨σ19, e20, hm⟩ := bv_s hm
        refine z_callV (pc := 103) C (k_Md_endSome hAD e20) kz_Md_endSome mM_65 rfl rfl oM_0 rfl (kR_of (Nat.le_of_ble_eq_true rfl) (Nat.le_of_ble_eq_true rfl)) rfl (Nat.le_of_ble_eq_true rfl) d_Md_readOpen_103 ?_
        refine z_aload_n (pc := 106) C d_Md_readOpen_106 rfl 0 rfl ?_
        refine z_iconst (pc := 107) C d_Md_readOpen_107 ki_1 ?_
        refine z_aload_n (pc := 108) C d_Md_readOpen_108 rfl 0 rfl ?_
        refine gM_Md_70 (pc := 109) C  d_Md_readOpen_109 ?_
        refine z_aload_n (pc := 112) C d_Md_readOpen_112 rfl 0 rfl ?_
        refine gM_Md_297 (pc := 113) (v := (gi σ19 42)) C rfl d_Md_readOpen_113 ?_
        obtain ⟨g21, hm⟩ := gd_s hm
        refine alM_19 (pc := 116) (v := (ga σ19 19 (gi σ19 42).toNatClampNeg)) C  rfl g21 d_Md_readOpen_116 ?_
        refine z_aload_n (pc := 117) C d_Md_readOpen_117 rfl 0 rfl ?_
        refine gM_Md_79 (pc := 118) C  d_Md_readOpen_118 ?_
        refine z_aload_n (pc := 121) C d_Md_readOpen_121 rfl 0 rfl ?_
        refine gM_Md_297 (pc := 122) (v := (gi σ19 42)) C rfl d_Md_readOpen_122 ?_
        refine alM_22 (pc := 125) (v := (ga σ19 22 (gi σ19 42).toNatClampNeg)) C  rfl g21 d_Md_readOpen_125 ?_
        obtain ⟨σ22, e23, hm⟩ := bv_s hm
        refine z_callV (pc := 126) C (k_Md_act hAD e23) kz_Md_act mM_49 rfl rfl oM_0 rfl (kR_of (Nat.le_of_ble_eq_true rfl) (Nat.le_of_ble_eq_true rfl)) rfl (Nat.le_of_ble_eq_true rfl) d_Md_readOpen_126 ?_
        refine z_aload_n (pc := 129) C d_Md_readOpen_129 rfl 0 rfl ?_
        refine gM_Md_70 (pc := 130) C  d_Md_readOpen_130 ?_
        refine z_aload_n (pc := 133) C d_Md_readOpen_133 rfl 0 rfl ?_
        refine gM_Md_297 (pc := 134) (v := (gi σ22 42)) C rfl d_Md_readOpen_134 ?_
        refine z_iconst (pc := 137) C d_Md_readOpen_137 ki_m1 ?_
        obtain ⟨g24, hm⟩ := gd_s hm
        refine asM_19 (pc := 138) C  g24 d_Md_readOpen_138 ?_
        refine z_aload_n (pc := 139) C d_Md_readOpen_139 rfl 0 rfl ?_
        obtain ⟨σ25, e26, hm⟩ := bv_s hm
        refine z_callV (pc := 140) C (k_Md_next hAD e26) kz_Md_next mM_21 rfl rfl oM_0 rfl (kR_of (Nat.le_of_ble_eq_true rfl) (Nat.le_of_ble_eq_true rfl)) rfl (Nat.le_of_ble_eq_true rfl) d_Md_readOpen_140 ?_
        refine z_goto (pc := 143) (tgt := 10) C d_Md_readOpen_143 (by decide) ?_
        exact h10 σ25 x1 hm
    · rw [if_neg c6] at hm
      refine z_aload_n (pc := 81) C d_Md_readOpen_81 rfl 0 rfl ?_
      obtain ⟨σ27, e28, hm⟩ := bv_s hm
      refine z_callV (pc := 82) C (k_Md_cannot hAD e28) kz_Md_cannot mM_20 rfl rfl oM_0 rfl (kR_of (Nat.le_of_ble_eq_true rfl) (Nat.le_of_ble_eq_true rfl)) rfl (Nat.le_of_ble_eq_true rfl) d_Md_readOpen_82 ?_
      refine z_goto (pc := 85) (tgt := 10) C d_Md_readOpen_85 (by decide) ?_
      exact h10 σ27 x1 hm
  · rw [if_neg c4] at hm
    refine z_aload_n (pc := 62) C d_Md_readOpen_62 rfl 0 rfl ?_
    obtain ⟨σ29, e30, hm⟩ := bv_s hm
    refine z_callV (pc := 63) C (k_Md_beginOne hAD e30) kz_Md_beginOne mM_66 rfl rfl oM_0 rfl (kR_of (Nat.le_of_ble_eq_true rfl) (Nat.le_of_ble_eq_true rfl)) rfl (Nat.le_of_ble_eq_true rfl) d_Md_readOpen_63 ?_
    refine z_goto (pc := 66) (tgt := 10) C d_Md_readOpen_66 (by decide) ?_
    exact h10 σ29 x1 hm
set_option maxHeartbeats 4000000 in
set_option maxRecDepth 100000 in
theorem w_Md_readOpen_10 {D : va_G} {ad : Nat → Nat} {cA : Nat → ClassId} {p : Program} {l : Launch} {e : Env} {s : State} {m : MethodId} {args : Array Value} {below : List Frame} {meth : Method} {c : Code} {F : Nat} (hAD : ∀ σ, va_D (owM ad) (wdM ad cA σ)) (C : CM D ad cA xTr p s m args meth c bc_Md_readOpen "KindRoundsModel" 2) (hr : meth.sig.returnType = some .int) {r : Int32} {σ' : zS} : ∀ (n : Nat) (σ : zS) (x1 : Int32), Md_readOpen_10 F n σ x1 = some (r, σ') → ZM D ad cA p l e (rmK 6) s m args below meth c 2 (qiM D ad cA below args s r σ') 10 [(0, .ref (ad 0)), (1, .int x1)] [] σ := by
  intro n
  induction n with
  | zero => intro σ x1 hm; cases hm
  | succ n h10 =>
    intro σ x1 hm
    have hm : Md_readOpen_b10 F (Md_readOpen_10 F n) σ x1 = some (r, σ') := hm
    unfold Md_readOpen_b10 at hm
    refine z_aload_n (pc := 10) C d_Md_readOpen_10 rfl 0 rfl ?_
    refine gM_Md_221 (pc := 11) (v := (gi σ 8)) C rfl d_Md_readOpen_11 ?_
    refine z_if_ne (pc := 14) (tgt := 216) C d_Md_readOpen_14 (by decide) (fun c1 => ?_) (fun c1 => ?_)
    · rw [if_neg c1] at hm
      refine z_iconst (pc := 216) C d_Md_readOpen_216 ki_0 ?_
      exact z_iretE (pc := 217) C hr hm d_Md_readOpen_217
    · rw [if_pos c1] at hm
      refine z_aload_n (pc := 17) C d_Md_readOpen_17 rfl 0 rfl ?_
      refine gM_Md_297 (pc := 18) (v := (gi σ 42)) C rfl d_Md_readOpen_18 ?_
      refine z_if_ne (pc := 21) (tgt := 55) C d_Md_readOpen_21 (by decide) (fun c2 => ?_) (fun c2 => ?_)
      · rw [if_neg c2] at hm
        exact w_Md_readOpen_55 hAD C hr _ h10 σ x1 hm
      · rw [if_pos c2] at hm
        refine z_iload_n (pc := 24) C d_Md_readOpen_24 rfl 1 rfl ?_
        refine z_iconst (pc := 25) C d_Md_readOpen_25 ki_3 ?_
        refine z_icmp_ne (pc := 26) (tgt := 55) C d_Md_readOpen_26 (by decide) (fun c3 => ?_) (fun c3 => ?_)
        · rw [if_neg c3] at hm
          exact w_Md_readOpen_55 hAD C hr _ h10 σ x1 hm
        · rw [if_pos c3] at hm
          refine z_aload_n (pc := 29) C d_Md_readOpen_29 rfl 0 rfl ?_
          refine gM_Md_70 (pc := 30) C  d_Md_readOpen_30 ?_
          refine z_iconst (pc := 33) C d_Md_readOpen_33 ki_0 ?_
          obtain ⟨g4, hm⟩ := gd_s hm
          refine alM_19 (pc := 34) (v := (ga σ 19 (0 : Int32).toNatClampNeg)) C  rfl g4 d_Md_readOpen_34 ?_
          refine z_if_lt (pc := 35) (tgt := 55) C d_Md_readOpen_35 (by decide) (fun c5 => ?_) (fun c5 => ?_)
          · rw [if_pos c5] at hm
            exact w_Md_readOpen_55 hAD C hr _ h10 σ x1 hm
          · rw [if_neg c5] at hm
            refine z_aload_n (pc := 38) C d_Md_readOpen_38 rfl 0 rfl ?_
            refine z_aload_n (pc := 39) C d_Md_readOpen_39 rfl 0 rfl ?_
            refine gM_Md_88 (pc := 40) C  d_Md_readOpen_40 ?_
            refine z_iconst (pc := 43) C d_Md_readOpen_43 ki_0 ?_
            refine alM_25 (pc := 44) (v := (ga σ 25 (0 : Int32).toNatClampNeg)) C  rfl g4 d_Md_readOpen_44 ?_
            refine pM_Md_332 (pc := 45) C  d_Md_readOpen_45 ?_
            refine z_aload_n (pc := 48) C d_Md_readOpen_48 rfl 0 rfl ?_
            refine gM_Md_70 (pc := 49) C  d_Md_readOpen_49 ?_
            refine z_iconst (pc := 52) C d_Md_readOpen_52 ki_0 ?_
            refine alM_19 (pc := 53) (v := (ga σ 19 (0 : Int32).toNatClampNeg)) C  rfl g4 d_Md_readOpen_53 ?_
            exact z_iretE (pc := 54) C hr hm d_Md_readOpen_54
set_option maxHeartbeats 4000000 in
set_option maxRecDepth 100000 in
theorem k_Md_readOpen {l : Launch} {D : va_G} {ad : Nat → Nat} {cA : Nat → ClassId} {F : Nat} (hAD : ∀ σ, va_D (owM ad) (wdM ad cA σ)) {σ : zS} {x1 : Int32} {r : Int32} {σ' : zS} (hm : Md_readOpen F σ x1 = some (r, σ')) : kIM l D ad cA xTr y_Md_readOpen bc_Md_readOpen 2 .int 6 [.ref (ad 0), .int x1] σ r σ' := by
  refine kI_of (by decide) hAD xTr_P (Nat.le_of_ble_eq_true rfl) ?_
  intro p e s m below meth c C hr
  unfold Md_readOpen at hm
  refine z_lv (lv' := [(0, .ref (ad 0)), (1, .int x1)]) [0, 1] rfl ?_
  refine z_aload_n (pc := 0) C d_Md_readOpen_0 rfl 0 rfl ?_
  refine z_iconst (pc := 1) C d_Md_readOpen_1 ki_m1 ?_
  refine pM_Md_297 (pc := 2) C  d_Md_readOpen_2 ?_
  refine z_aload_n (pc := 5) C d_Md_readOpen_5 rfl 0 rfl ?_
  refine z_iload_n (pc := 6) C d_Md_readOpen_6 rfl 1 rfl ?_
  obtain ⟨σ1, e2, hm⟩ := bv_s hm
  refine z_callV (pc := 7) C (k_Md_open hAD e2) kz_Md_open mM_58 rfl rfl oM_0 rfl (kR_of (Nat.le_of_ble_eq_true rfl) (Nat.le_of_ble_eq_true rfl)) rfl (Nat.le_of_ble_eq_true rfl) d_Md_readOpen_7 ?_
  exact w_Md_readOpen_10 hAD C hr F σ1 x1 hm
