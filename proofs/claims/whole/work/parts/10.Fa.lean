/-! Walks of Fa. Written by program (wip/gen). -/
set_option maxHeartbeats 4000000 in
set_option maxRecDepth 100000 in
theorem k_Fa_clear {l : Launch} {D : va_G} {ad : Nat → Nat} {cA : Nat → ClassId} {F : Nat} (hAD : ∀ σ, va_D (owC ad) (wdC ad cA σ)) {σ : zS} {σ' : zS} (hm : Fa_clear F σ = some σ') : kVC l D ad cA (sXC ad) y_Fa_clear bc_Fa_clear 1 0 [.ref (ad 2)] σ σ' := by
  refine kV_of (by decide) hAD sXC_P (Nat.le_of_ble_eq_true rfl) ?_
  intro p e s m below meth c C hr
  unfold Fa_clear at hm
  refine z_lv (lv' := [(0, .ref (ad 2))]) [0] rfl ?_
  refine z_aload_n (pc := 0) C d_Fa_clear_0 rfl 0 rfl ?_
  refine z_iconst (pc := 1) C d_Fa_clear_1 ki_0 ?_
  refine pC_Fa_19 (pc := 2) C  d_Fa_clear_2 ?_
  exact z_vretE (pc := 5) C hr hm d_Fa_clear_5
set_option maxHeartbeats 4000000 in
set_option maxRecDepth 100000 in
theorem w_Fa_isThere_12 {D : va_G} {ad : Nat → Nat} {cA : Nat → ClassId} {p : Program} {l : Launch} {e : Env} {s : State} {m : MethodId} {args : Array Value} {below : List Frame} {meth : Method} {c : Code} {F : Nat} (hAD : ∀ σ, va_D (owC ad) (wdC ad cA σ)) (C : CC D ad cA (sXC ad) p s m args meth c bc_Fa_isThere "KindRounds$Fault" 1) (hr : meth.sig.returnType = some .boolean) {r : Int32} {σ' : zS} (σ : zS) (s0 : Int32) (hm : Fa_isThere_12 F σ s0 = some (r, σ')) : ZC D ad cA p l e (rmK 0) s m args below meth c 1 (qiC D ad cA below args s r σ') 12 [] [.int s0] σ := by
  unfold Fa_isThere_12 at hm
  obtain ⟨g1, hm⟩ := gd_s hm
  exact z_zretE (pc := 12) C hr g1 hm d_Fa_isThere_12
set_option maxHeartbeats 4000000 in
set_option maxRecDepth 100000 in
theorem k_Fa_isThere {l : Launch} {D : va_G} {ad : Nat → Nat} {cA : Nat → ClassId} {F : Nat} (hAD : ∀ σ, va_D (owC ad) (wdC ad cA σ)) {σ : zS} {r : Int32} {σ' : zS} (hm : Fa_isThere F σ = some (r, σ')) : kIC l D ad cA (sXC ad) y_Fa_isThere bc_Fa_isThere 1 .boolean 0 [.ref (ad 2)] σ r σ' := by
  refine kI_of (by decide) hAD sXC_P (Nat.le_of_ble_eq_true rfl) ?_
  intro p e s m below meth c C hr
  unfold Fa_isThere at hm
  refine z_lv (lv' := [(0, .ref (ad 2))]) [0] rfl ?_
  refine z_aload_n (pc := 0) C d_Fa_isThere_0 rfl 0 rfl ?_
  refine gC_Fa_19 (pc := 1) (v := (gi σ 200)) C rfl d_Fa_isThere_1 ?_
  refine z_if_eq (pc := 4) (tgt := 11) C d_Fa_isThere_4 (by decide) (fun c1 => ?_) (fun c1 => ?_)
  · rw [if_pos c1] at hm
    refine z_iconst (pc := 11) C d_Fa_isThere_11 ki_0 ?_
    refine z_lv (lv' := []) [] rfl ?_
    exact w_Fa_isThere_12 hAD C hr σ (0 : Int32) hm
  · rw [if_neg c1] at hm
    refine z_iconst (pc := 7) C d_Fa_isThere_7 ki_1 ?_
    refine z_goto (pc := 8) (tgt := 12) C d_Fa_isThere_8 (by decide) ?_
    refine z_lv (lv' := []) [] rfl ?_
    exact w_Fa_isThere_12 hAD C hr σ (1 : Int32) hm
set_option maxHeartbeats 4000000 in
set_option maxRecDepth 100000 in
theorem k_Fa_raise {l : Launch} {D : va_G} {ad : Nat → Nat} {cA : Nat → ClassId} {F : Nat} (hAD : ∀ σ, va_D (owC ad) (wdC ad cA σ)) {σ : zS} {x1 : Int32} {x2 : Int32} {σ' : zS} (hm : Fa_raise F σ x1 x2 = some σ') : kVC l D ad cA (sXC ad) y_Fa_raise bc_Fa_raise 3 0 [.ref (ad 2), .int x1, .int x2] σ σ' := by
  refine kV_of (by decide) hAD sXC_P (Nat.le_of_ble_eq_true rfl) ?_
  intro p e s m below meth c C hr
  unfold Fa_raise at hm
  refine z_lv (lv' := [(0, .ref (ad 2)), (1, .int x1), (2, .int x2)]) [0, 1, 2] rfl ?_
  refine z_aload_n (pc := 0) C d_Fa_raise_0 rfl 0 rfl ?_
  refine z_iload_n (pc := 1) C d_Fa_raise_1 rfl 1 rfl ?_
  refine pC_Fa_19 (pc := 2) C  d_Fa_raise_2 ?_
  refine z_aload_n (pc := 5) C d_Fa_raise_5 rfl 0 rfl ?_
  refine z_iload_n (pc := 6) C d_Fa_raise_6 rfl 2 rfl ?_
  refine pC_Fa_23 (pc := 7) C  d_Fa_raise_7 ?_
  exact z_vretE (pc := 10) C hr hm d_Fa_raise_10
