/-! Types that are asked: the start of both. Own text. -/
def exAi (j : Nat) : Prop := j = 105 ∨ j = 106 ∨ j = 200 ∨ j = 201 ∨ j = 306 ∨ j = 505 ∨ j = 606
/-- what a question's reading leaves alone in the class -/
def frA (σ σ' : zS) : Prop := (∀ j, ¬ exAi j → gi σ' j = gi σ j) ∧ (∀ j, j ≠ 20 → j ≠ 22 → (j < 43 ∨ 47 < j) → ga σ' j = ga σ j) ∧ (∀ j, gl σ' j = gl σ j) ∧ (∀ j, j ≠ 21 → j ≠ 44 → gb σ' j = gb σ j) ∧ (∀ j, j ≠ 605 → gr σ' j = gr σ j) ∧ (∀ j, j ≠ 1104 → j ≠ 1107 → mi σ' j = mi σ j) ∧ (∀ j, (j < 66 ∨ 71 < j) → ma σ' j = ma σ j) ∧ (∀ j, j ≠ 67 → mb σ' j = mb σ j)
theorem frA_C {σ σ1 σ2 : zS} {M s : Nat} (h : frA σ σ1) (g : frC 11 M s σ1 σ2) : frA σ σ2 := by
  obtain ⟨a1, a2, a3, a4, a5, a6, a7, a8⟩ := h
  obtain ⟨b1, b2, b3, b4, b5, b6, b7, b8⟩ := g
  refine ⟨fun j hj => ?_, fun j j1 j2 hj => ?_, fun j => (b3 j).trans (a3 j), fun j j1 j2 => ?_, fun j j1 => (b5 j).trans (a5 j j1), fun j j1 j2 => (b6 j (by omega)).trans (a6 j j1 j2), fun j hj => ?_, fun j hj => ?_⟩
  · have := hj
    unfold exAi at this
    exact (b1 j (by omega) (by omega) (by omega) (by omega)).trans (a1 j hj)
  · rw [← a2 j j1 j2 hj]; funext i; exact b2 j i (by omega)
  · rw [← a4 j j1 j2]; funext i; exact b4 j i (Or.inl j2)
  · rw [← a7 j hj]; funext i; exact b7 j i (by unfold rA; omega)
  · rw [← a8 j hj]; funext i; exact b8 j i (Or.inl (by unfold rA; omega))
def exAm (j : Nat) : Prop := exM j ∨ j = 10 ∨ j = 32 ∨ j = 48 ∨ j = 67 ∨ j = 91
/-- and in the reference: nodes below N0, and the kinds' links of the text -/
def frB (N0 : Nat) (τ τ' : zS) : Prop := (∀ j, ¬ exAm j → gi τ' j = gi τ j) ∧ (∀ j i, (j = 2 ∨ j = 4 ∨ j = 5 → i < N0) → (j < 7 ∨ 25 < j) → j ≠ 29 → ga τ' j i = ga τ j i) ∧ (∀ j, j ≠ 6 → gl τ' j = gl τ j) ∧ (∀ j i, (j = 3 → i < N0) → j ≠ 11 → gb τ' j i = gb τ j i)
theorem frB_M {N0 N a M : Nat} {τ τ1 τ2 : zS} (h : frB N0 τ τ1) (g : frM 0 N a M τ1 τ2) (hN : N0 ≤ N) : frB N0 τ τ2 := by
  obtain ⟨a1, a2, a3, a4⟩ := h
  obtain ⟨b1, b2, b3, b4, _⟩ := g
  exact ⟨fun j hj => (b1 j (fun z => hj (Or.inl z))).trans (a1 j hj), fun j i q1 q2 q3 => (b2 j i (by unfold okM; omega)).trans (a2 j i q1 q2 q3), fun j hj => (b3 j hj).trans (a3 j hj), fun j i q1 q2 => (b4 j i (by omega) (by omega)).trans (a4 j i q1 q2)⟩
theorem ask_start {F : Nat} {σ τ : zS} {n N0 R0 : Nat} (hF : 5000 ≤ F) (hB : byt (ga σ 19) n) (hl : gi σ 101 = nI n) (hB2 : ∀ i, i < n → ga σ 19 i = ga τ 1 i) (hl2 : gi τ 2 = nI n) (hN0 : gi τ 89 = nI N0) (hR0 : gi τ 88 = nI R0) (hR1 : R0 ≤ 4000) : ∃ σs τb c, tEnd (ga τ 1) n c ∧ (∀ (K : zS → Option (Int32 × zS)) (x2 : Int32), bv (Fa_clear F σ) (fun σ1 => bv (Me_clear F σ1) (fun σ3 => gd (isRow 11) (bv (Ro_clear F σ3 11) (fun σ5 => bv (Ki_dropAsked F σ5) (fun σ8 => bv (Ta_scan F σ8) (fun σ10 => bv (Pa_parseTypes F σ10 11 x2) (fun σ12 => K σ12))))))) = bv (bi (Pa_parseType F 12 σs (0 : Int32)) (fun r7 σ6 => if r7 = 0 then (Pa_parseTypes_36 F σ6 x2) else (Pa_parseTypes_37 F σ6 x2 (1 : Int32)))) (fun σ12 => K σ12)) ∧ (∀ x1 : Int32, Md_readAsked F τ x1 = bi (Md_readType F τb) (fun r6 σ5 => if x1 = 0 then (Md_readAsked_74 F σ5 r6) else (bv (Md_want F σ5 (44 : Int32)) (fun σ9 => bi (Md_readType F (si σ9 32 (-2 : Int32))) (fun r12 σ11 => Md_readAsked_74 F (si σ11 91 r12) r6))))) ∧ cS (ga τ 1) n c 11 σs 0 0 0 ∧ mO (ga τ 1) n τb 0 0 0 N0 0 ∧ gi σs 606 = -1 ∧ gi τb 32 = -1 ∧ gi τb 67 = -1 ∧ gi τb 10 = 0 ∧ (gi τb 8 = 0 → gi τb 9 = -3) ∧ gi τb 48 = nI R0 ∧ (∀ i, i < R0 → ga τb 29 i = ga τ 58 i) ∧ (∀ i, R0 ≤ i → ga τb 29 i = ga τ 29 i) ∧ gi σs 306 = gi σ 307 ∧ mi σs 1107 = nI 1 ∧ ma σs 70 0 = nI 0 ∧ ma σs 71 0 = -1 ∧ frA σ σs ∧ frB N0 τ τb := by
  have hn := hB.1
  obtain ⟨B, eB⟩ : ∃ B, B = ga τ 1 := ⟨_, rfl⟩
  rw [← eB]
  have hBB : byt B n := by
    refine ⟨hn, fun i hi => ?_⟩
    obtain ⟨c, h1, h2⟩ := hB.2 i hi
    exact ⟨c, h1, by rw [eB, ← hB2 i hi, h2]⟩
  have hcg : ∀ i, i < n → ga σ 19 i = B i := fun i hi => by rw [eB]; exact hB2 i hi
  obtain ⟨σ7, e7⟩ : ∃ σ7, σ7 = si (ti (ti (si (si σ 200 0) 505 0) 1104 0) 1107 0) 306 (gi σ 307) := ⟨_, rfl⟩
  have g19 : ga σ7 19 = ga σ 19 := by rw [e7]; simp [zs]
  obtain ⟨c, f, g, h, q1, q2, q3, q4, q5⟩ := scan_ok (F := F) (σ := σ7) (n := n) (by rw [g19]; exact hB) (by rw [e7]; simp [zs, hl]) (by omega)
  rw [g19] at q3 q4 q5
  have hT : tEnd B n c := ⟨hBB, q2, by rw [← tkP_cg hcg]; exact q3, fun k hk => by rw [← tkP_cg hcg]; exact q5 k hk⟩
  have hok : tkOk B n (c + 1) f g h := fun k hk => by
    obtain ⟨w1, w2, w3⟩ := q4 k hk
    exact ⟨by rw [w1, tkS_cg hcg], by rw [w2, tkN_cg hcg], by rw [w3, tkP_cg hcg]⟩
  obtain ⟨σb, eb⟩ : ∃ σb, σb = si (sr (tkSt (si σ7 106 0) (c + 1) f g h) 605 11) 606 (-1) := ⟨_, rfl⟩
  obtain ⟨z1, z2, z3, z4, z5, z6⟩ := tkSt_zs (si σ7 106 0) (c + 1) f g h
  have ib : ∀ j, j ≠ 105 → j ≠ 606 → gi σb j = gi (si σ7 106 0) j := fun j hj j2 => by rw [eb]; simp only [zs]; rw [if_neg j2]; exact z2 j hj
  have hCS : cS B n c 11 σb 0 0 0 := by
    refine ⟨?_, Nat.zero_le _, ?_, ?_, ?_, ?_, ?_, ?_⟩
    · rw [ib 106 (by decide) (by decide)]; simp [zs]; rfl
    · rw [eb]; simp only [zs]; rw [if_neg (by decide)]; exact z1
    · rw [eb]; simp only [zs]; rw [z3, z4, z5]; exact hok
    · rw [eb]; simp [zs]
    · rw [eb]; unfold tkSt; rw [e7]; simp [zs]; rfl
    · rw [ib 505 (by decide) (by decide), e7]; simp [zs]; rfl
    · rw [ib 200 (by decide) (by decide), e7]; simp [zs]
  have h1107 : mi σb 1107 = nI 0 := by rw [eb]; unfold tkSt; rw [e7]; simp [zs]; rfl
  obtain ⟨σs, b1, b2, b3, b4, b5, b6, b7, b8, b9, b10, b11, b12, b13, b14⟩ := a_begin (F := F) hCS h1107 (by omega) (by omega) (-1)
  -- the reference
  obtain ⟨fc, c1, c2, c3⟩ := md_copy (F := F) (x0 := 58) (x1 := 29) (by decide) (by decide) (by decide) hR1 (R0 - 0) F 0 τ rfl (by omega) (Nat.zero_le _)
  have hcopy : Md_copy F τ 58 29 (nI R0) = some (sA τ 29 fc) := c1
  obtain ⟨τ2, e2⟩ : ∃ τ2, τ2 = si (si (si (si (si (si (si (si (si (si (si (si (sA τ 29 fc) 48 (nI R0)) 16 (nI N0)) 31 0) 23 0) 3 0) 8 0) 9 (-3)) 10 0) 18 0) 17 0) 32 (-1)) 67 (-1) := ⟨_, rfl⟩
  have b1' : ga τ2 1 = B := by rw [e2, eB]; simp [zs]
  have l0 : lxE B n 0 = 0 := rfl
  obtain ⟨τb, nx, frn, cu⟩ := next_tok (F := F) (τ := τ2) (n := n) (k := 0) (by rw [b1']; exact hBB) (by rw [e2]; simp [zs, hl2]) (by rw [e2]; simp [zs]) (by omega) (by rw [b1', l0, e2]; simp [zs]; rfl)
  rw [b1'] at cu
  obtain ⟨fa1, fa2, fa3, fa4, fa5⟩ := frn
  refine ⟨σs, τb, c, hT, fun K x2 => ?_, fun x1 => ?_, b2, ⟨by rw [fa2, b1'], ?_, cu, ?_, ?_, ?_, ?_, ?_⟩, ?_, ?_, ?_, ?_, fun z => ?_, ?_, fun i hi => ?_, fun i hi => ?_, ?_, b3, b4, b5, ⟨fun j hj => ?_, fun j j1 j2 j3 => ?_, fun j => ?_, fun j j1 j2 => ?_, fun j j1 => ?_, fun j j1 j2 => ?_, fun j hj => ?_, fun j hj => ?_⟩, ⟨fun j hj => ?_, fun j i w1 w2 w3 => ?_, fun j hj => ?_, fun j i _ _ => ?_⟩⟩
  · have d307 : gi (ti (ti (si (si σ 200 0) 505 0) 1104 0) 1107 0) 307 = gi σ 307 := by simp [zs]
    have ro : Ro_clear F (si (si σ 200 0) 505 0) 11 = some (ti (ti (si (si σ 200 0) 505 0) 1104 0) 1107 0) := by
      rw [Ro_clear, gd_t (by decide)]
    rw [Fa_clear, bv_some, Me_clear, bv_some, gd_t (by decide), ro, bv_some, Ki_dropAsked, bv_some, d307, ← e7, q1, bv_some, Pa_parseTypes, gd_t (by decide), ← eb, b1, bi_some, if_neg (by decide)]
  · rw [Md_readAsked, hR0, hcopy, bv_some]
    have r88 : gi (sA τ 29 fc) 88 = nI R0 := by simp [zs, hR0]
    have r89 : gi (sA τ 29 fc) 89 = nI N0 := by simp [zs, hN0]
    rw [r88, r89, Md_begin, ← e2, nx, bv_some, bv_some]
  · rw [fa1 2 (by decide) (by decide) (by decide) (by decide) (by decide) (by decide), e2]; simp [zs, hl2]
  · rw [fa1 31 (by decide) (by decide) (by decide) (by decide) (by decide) (by decide), e2]; simp [zs]; rfl
  · rw [fa1 17 (by decide) (by decide) (by decide) (by decide) (by decide) (by decide), e2]; simp [zs]; rfl
  · rw [fa1 16 (by decide) (by decide) (by decide) (by decide) (by decide) (by decide), e2]; simp [zs]
  · rw [fa1 23 (by decide) (by decide) (by decide) (by decide) (by decide) (by decide), e2]; simp [zs]; rfl
  · rw [fa1 18 (by decide) (by decide) (by decide) (by decide) (by decide) (by decide), e2]; simp [zs]
  · rw [b9, eb]; simp [zs]
  · rw [fa1 32 (by decide) (by decide) (by decide) (by decide) (by decide) (by decide), e2]; simp [zs]
  · rw [fa1 67 (by decide) (by decide) (by decide) (by decide) (by decide) (by decide), e2]; simp [zs]
  · rw [fa1 10 (by decide) (by decide) (by decide) (by decide) (by decide) (by decide), e2]; simp [zs]
  · rw [fa5 z, e2]; simp [zs]
  · rw [fa1 48 (by decide) (by decide) (by decide) (by decide) (by decide) (by decide), e2]; simp [zs]
  · rw [fa2, e2]; simp only [zs]; rw [if_pos trivial]; exact c2 i (Nat.zero_le _) hi
  · rw [fa2, e2]; simp only [zs]; rw [if_pos trivial]; exact c3 i (Or.inr hi)
  · rw [b9, ib 306 (by decide) (by decide), e7]; simp [zs]
  · unfold exAi at hj
    have k1 : j ≠ 106 := by omega
    have k2 : j ≠ 200 := by omega
    have k3 : j ≠ 306 := by omega
    have k4 : j ≠ 505 := by omega
    rw [b9, ib j (by omega) (by omega), e7]; simp [zs, k1, k2, k3, k4]
  · rw [b10, eb]; simp only [zs]; rw [z6 j j1 j2, e7]; simp [zs]
  · rw [b12, eb, e7]; unfold tkSt; simp [zs]
  · rw [b11, eb, e7]; unfold tkSt; simp [zs, j1]
  · rw [b13, eb, e7]; unfold tkSt; simp [zs, j1]
  · rw [b8 j j2, eb, e7]; unfold tkSt; simp [zs, j1, j2]
  · rw [b7 j (by omega) (by omega), eb, e7]; unfold tkSt; simp [zs]
  · rw [b14, eb, e7]; unfold tkSt; simp [zs]
  · unfold exAm exM at hj
    have k1 : j ≠ 48 := by omega
    have k2 : j ≠ 18 := by omega
    have k3 : j ≠ 17 := by omega
    have k4 : j ≠ 32 := by omega
    have k5 : j ≠ 67 := by omega
    have k9 : j ≠ 31 := by omega
    have k10 : j ≠ 23 := by omega
    have k11 : j ≠ 16 := by omega
    have k12 : j ≠ 3 := by omega
    have k13 : j ≠ 8 := by omega
    have k14 : j ≠ 9 := by omega
    have k15 : j ≠ 10 := by omega
    rw [fa1 j (by omega) (by omega) (by omega) (by omega) (by omega) (by omega), e2]
    simp [zs, k1, k2, k3, k4, k5, k9, k10, k11, k12, k13, k14, k15]
  · rw [fa2, e2]; simp [zs, w3]
  · rw [fa3 j hj, e2]; simp [zs]
  · rw [fa4, e2]; simp [zs]
