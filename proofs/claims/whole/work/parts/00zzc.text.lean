/-! A text read as a whole, from any state. Own text. -/
/-- what reading a text leaves alone in the class -/
def frR (σ σ' : zS) : Prop := (∀ j, ¬ exTi j → j ≠ 105 → j ≠ 307 → j ≠ 412 → gi σ' j = gi σ j) ∧ (∀ j, ¬ exTa j → j ≠ 20 → j ≠ 22 → ga σ' j = ga σ j) ∧ (∀ j, gl σ' j = gl σ j) ∧ (∀ j, j ≠ 30 → j ≠ 33 → j ≠ 44 → j ≠ 21 → gb σ' j = gb σ j) ∧ (∀ j, j ≠ 605 → gr σ' j = gr σ j) ∧ (∀ j, j ≠ 1004 → j ≠ 1007 → mi σ' j = mi σ j) ∧ (∀ j, (j < 60 ∨ 65 < j) → ma σ' j = ma σ j) ∧ (∀ j, j ≠ 61 → mb σ' j = mb σ j)
/-- and in the reference -/
def frRM (τ τ' : zS) : Prop := (∀ j, ¬ exMi j → j ≠ 10 → j ≠ 49 → gi τ' j = gi τ j) ∧ (∀ j, ¬ exMa j → ga τ' j = ga τ j) ∧ (∀ j, j ≠ 6 → gl τ' j = gl τ j) ∧ (∀ j, j ≠ 3 → j ≠ 11 → j ≠ 34 → j ≠ 37 → j ≠ 42 → gb τ' j = gb τ j)
/-- a text that was read: at its end, no fault -/
def TXT (B : Nat → Int32) (n c : Nat) (σ τ : zS) (M D S R : Nat) (TL : List TR) : Prop := ∃ σ0 τ0 k s N a, JT B n c σ0 τ0 σ τ k M s N a D S R TL ∧ tkS B n k = 1
theorem text_ok {F : Nat} {σ τ : zS} {n : Nat} (hF : 1300 ≤ F) (hB : byt (ga σ 19) n) (hl : gi σ 101 = nI n) (hB2 : ∀ i, i < n → ga σ 19 i = ga τ 1 i) (hl2 : gi τ 2 = nI n) : ∃ σ' τ' c, (∀ K : zS → Option (Int32 × zS), bv (Fa_clear F σ) (fun σ1 => bv (Me_clear F σ1) (fun σ3 => bv (Ki_clear F σ3) (fun σ5 => bv (Te_clear F σ5) (fun σ7 => bv (Ta_scan F σ7) (fun σ9 => bv (Pa_parseText F σ9) (fun σ11 => K σ11)))))) = K σ') ∧ Md_readText F τ = some τ' ∧ frR σ σ' ∧ frRM τ τ' ∧ gi σ' 307 = 1 ∧ gi σ' 412 = 0 ∧ gi τ' 10 = 0 ∧ ((∃ f p, (f = 1 ∨ f = 2) ∧ gi σ' 200 = f ∧ gi σ' 201 = nI p ∧ gi τ' 8 = f ∧ gi τ' 9 = nI p ∧ (∃ N2, N2 ≤ 402 ∧ gi τ' 16 = nI N2) ∧ ∃ R', R' ≤ 500 ∧ gi τ' 48 = nI R') ∨ (gi σ' 200 = 0 ∧ gi τ' 8 = 0 ∧ gi τ' 9 = -3 ∧ tEnd (ga τ 1) n c ∧ ∃ M D S R TL, TXT (ga τ 1) n c σ' τ' M D S R TL)) := by
  have hn := hB.1
  obtain ⟨B, eB⟩ : ∃ B, B = ga τ 1 := ⟨_, rfl⟩
  have hBB : byt B n := by
    refine ⟨hn, fun i hi => ?_⟩
    obtain ⟨c, h1, h2⟩ := hB.2 i hi
    exact ⟨c, h1, by rw [eB, ← hB2 i hi, h2]⟩
  have hcg : ∀ i, i < n → ga σ 19 i = B i := fun i hi => by rw [eB]; exact hB2 i hi
  -- the class ahead of the parser
  obtain ⟨σ7, e7⟩ : ∃ σ7, σ7 = ti (ti (si (si (si (si (si (si σ 200 0) 505 0) 306 1) 307 1) 400 0) 412 0) 1004 0) 1007 0 := ⟨_, rfl⟩
  have g19 : ga σ7 19 = ga σ 19 := by rw [e7]; simp [zs]
  obtain ⟨c, f, g, h, q1, q2, q3, q4, q5⟩ := scan_ok (F := F) (σ := σ7) (n := n) (by rw [g19]; exact hB) (by rw [e7]; simp [zs, hl]) hF
  rw [g19] at q3 q4 q5
  have hT : tEnd B n c := ⟨hBB, q2, by rw [← tkP_cg hcg]; exact q3, fun k hk => by rw [← tkP_cg hcg]; exact q5 k hk⟩
  have hok : tkOk B n (c + 1) f g h := fun k hk => by
    obtain ⟨w1, w2, w3⟩ := q4 k hk
    exact ⟨by rw [w1, tkS_cg hcg], by rw [w2, tkN_cg hcg], by rw [w3, tkP_cg hcg]⟩
  obtain ⟨σb, eb⟩ : ∃ σb, σb = sr (tkSt (si σ7 106 0) (c + 1) f g h) 605 10 := ⟨_, rfl⟩
  obtain ⟨z1, z2, z3, z4, z5, z6⟩ := tkSt_zs (si σ7 106 0) (c + 1) f g h
  have ib : ∀ j, j ≠ 105 → gi σb j = gi (si σ7 106 0) j := fun j hj => by rw [eb]; simp only [zs]; exact z2 j hj
  have hCS : cS B n c 10 σb 0 0 0 := by
    refine ⟨?_, Nat.zero_le _, ?_, ?_, ?_, ?_, ?_, ?_⟩
    · rw [ib 106 (by decide)]; simp [zs]; rfl
    · rw [eb]; simp only [zs]; exact z1
    · rw [eb]; simp only [zs]; rw [z3, z4, z5]; exact hok
    · rw [eb]; simp [zs]
    · rw [eb]; unfold tkSt; rw [e7]; simp [zs]; rfl
    · rw [ib 505 (by decide), e7]; simp [zs]; rfl
    · rw [ib 200 (by decide), e7]; simp [zs]
  have hchain : ∀ K : zS → Option (Int32 × zS), bv (Fa_clear F σ) (fun σ1 => bv (Me_clear F σ1) (fun σ3 => bv (Ki_clear F σ3) (fun σ5 => bv (Te_clear F σ5) (fun σ7 => bv (Ta_scan F σ7) (fun σ9 => bv (Pa_parseText F σ9) (fun σ11 => K σ11)))))) = bv (Pa_parseText_15 F F σb 1 (nI 0)) (fun σ11 => K σ11) := by
    intro K
    have te : Te_clear F (si (si (si (si σ 200 0) 505 0) 306 1) 307 1) = some σ7 := by
      rw [Te_clear, gd_t (by decide), Ro_clear, gd_t (by decide), bv_some, e7]
    rw [Fa_clear, bv_some, Me_clear, bv_some, Ki_clear, bv_some, te, bv_some, q1, bv_some, Pa_parseText, eb]
    rfl
  -- the reference ahead of its loop
  obtain ⟨τ1, e1⟩ : ∃ τ1, τ1 = si (si (si (si (si (si (si τ 52 0) 62 0) 66 0) 31 0) 23 0) 16 0) 48 0 := ⟨_, rfl⟩
  have hnk : Md_newKind F τ1 1 0 0 = some (nI 0, si (sa (sa (sa (sa τ1 26 0 1) 27 0 0) 28 0 0) 29 0 (nI 0)) 48 (nI 1)) := m_newK (R := 0) (by rw [e1]; simp [zs]; rfl) (by omega) 1 0 0
  obtain ⟨τ2, e2⟩ : ∃ τ2, τ2 = si (si (si (si (si (si (si (si (si (si (sa (sa (sa (sa τ1 26 0 1) 27 0 0) 28 0 0) 29 0 (nI 0)) 48 (nI 1)) 49 (nI 0)) 3 0) 8 0) 9 (-3)) 10 0) 18 0) 17 0) 32 (-1)) 67 (-1) := ⟨_, rfl⟩
  have b1 : ga τ2 1 = B := by rw [e2, e1, eB]; simp [zs]
  have l0 : lxE B n 0 = 0 := rfl
  obtain ⟨τb, nx, frn, cu⟩ := next_tok (F := F) (τ := τ2) (n := n) (k := 0) (by rw [b1]; exact hBB) (by rw [e2, e1]; simp [zs, hl2]) (by rw [e2]; simp [zs]) hF (by rw [b1, l0, e2]; simp [zs]; rfl)
  rw [b1] at cu
  have hread : Md_readText F τ = Md_readText_50 F F τb := by
    rw [Md_readText, ← e1, hnk, bi_some, Md_begin, ← e2, nx, bv_some, bv_some]
  obtain ⟨fa1, fa2, fa3, fa4, fa5⟩ := frn
  have ti' : ∀ j, j ≠ 3 → j ≠ 4 → j ≠ 5 → j ≠ 7 → j ≠ 8 → j ≠ 9 → gi τb j = gi τ2 j := fa1
  have hmO : mO B n τb 0 0 0 0 0 := by
    refine ⟨by rw [fa2, b1], ?_, cu, ?_, ?_, ?_, ?_, ?_⟩
    · rw [ti' 2 (by decide) (by decide) (by decide) (by decide) (by decide) (by decide), e2, e1]; simp [zs, hl2]
    · rw [ti' 31 (by decide) (by decide) (by decide) (by decide) (by decide) (by decide), e2, e1]; simp [zs]; rfl
    · rw [ti' 17 (by decide) (by decide) (by decide) (by decide) (by decide) (by decide), e2, e1]; simp [zs]; rfl
    · rw [ti' 16 (by decide) (by decide) (by decide) (by decide) (by decide) (by decide), e2, e1]; simp [zs]; rfl
    · rw [ti' 23 (by decide) (by decide) (by decide) (by decide) (by decide) (by decide), e2, e1]; simp [zs]; rfl
    · rw [ti' 18 (by decide) (by decide) (by decide) (by decide) (by decide) (by decide), e2, e1]; simp [zs]
  have hJT : JT B n c σb τb σb τb 0 0 0 0 0 0 1 1 [] := by
    refine ⟨⟨⟨⟨hCS, hmO, fun i hi => absurd hi (Nat.not_lt_zero _), by omega, by omega, by omega⟩, ⟨⟨?_, fun i hi => absurd hi (Nat.not_lt_zero _)⟩, trivial, trivial, trivial⟩, rfl, rfl, ⟨?_, ?_, ?_, ?_, by omega, by omega, fun i hi => absurd hi (Nat.not_lt_zero _)⟩, frTC_rfl _, frTM_rfl _⟩, ⟨⟨by omega, fun _ => by omega⟩, by omega, by show 4 * 0 ≤ _; omega⟩, ?_, ?_, by omega, fun i hi => absurd hi (Nat.not_lt_zero _)⟩, fun i hi => absurd hi (Nat.not_lt_zero _), ⟨?_, ?_⟩, fun i hi => absurd hi (Nat.not_lt_zero _), fun i hi => absurd hi (Nat.not_lt_zero _)⟩
    · rw [eb]; unfold tkSt; rw [e7]; simp [zs]; rfl
    · rw [ti' 62 (by decide) (by decide) (by decide) (by decide) (by decide) (by decide), e2, e1]; simp [zs]; rfl
    · rw [ib 306 (by decide), e7]; simp [zs]; rfl
    · rw [ti' 48 (by decide) (by decide) (by decide) (by decide) (by decide) (by decide), e2, e1]; simp [zs]
    · rw [ti' 49 (by decide) (by decide) (by decide) (by decide) (by decide) (by decide), e2, e1]; simp [zs]; rfl
    · rw [ib 400 (by decide), e7]; simp [zs]; rfl
    · rw [ti' 52 (by decide) (by decide) (by decide) (by decide) (by decide) (by decide), e2, e1]; simp [zs]; rfl
    · rw [ti' 66 (by decide) (by decide) (by decide) (by decide) (by decide) (by decide), e2, e1]; simp [zs]; rfl
    · rw [ti' 67 (by decide) (by decide) (by decide) (by decide) (by decide) (by decide), e2, e1]; simp [zs]
  obtain ⟨σ', w1, w2⟩ := text_loop (F := F) hT hF (c - 0) F F 0 0 0 0 0 0 1 1 0 [] σb τb rfl (by have := tE_c hT; omega) (by have := tE_c hT; omega) hJT (Nat.le_refl _)
  -- frames from the very start
  have frb : frR σ σb := by
    refine ⟨fun j hj j1 j2 j3 => ?_, fun j hj j1 j2 => ?_, fun j => ?_, fun j j1 j2 j3 j4 => ?_, fun j j1 => ?_, fun j j1 j2 => ?_, fun j hj => ?_, fun j hj => ?_⟩
    · unfold exTi at hj
      have k1 : j ≠ 106 := by omega
      have k2 : j ≠ 200 := by omega
      have k3 : j ≠ 306 := by omega
      have k4 : j ≠ 400 := by omega
      have k5 : j ≠ 505 := by omega
      rw [ib j j1, e7]; simp [zs, k1, k2, k3, k4, k5, j2, j3]
    · rw [eb]; simp only [zs]; rw [z6 j j1 j2, e7]; simp [zs]
    · rw [eb, e7]; unfold tkSt; simp [zs]
    · rw [eb, e7]; unfold tkSt; simp [zs, j4]
    · rw [eb, e7]; unfold tkSt; simp [zs, j1]
    · rw [eb, e7]; unfold tkSt; simp [zs, j1, j2]
    · rw [eb, e7]; unfold tkSt; simp [zs]
    · rw [eb, e7]; unfold tkSt; simp [zs]
  have frbm : frRM τ τb := by
    refine ⟨fun j hj j1 j2 => ?_, fun j hj => ?_, fun j hj => ?_, fun j j1 j2 j3 j4 j5 => ?_⟩
    · unfold exMi at hj
      have k1 : j ≠ 48 := by omega
      have k2 : j ≠ 18 := by omega
      have k3 : j ≠ 17 := by omega
      have k4 : j ≠ 32 := by omega
      have k5 : j ≠ 67 := by omega
      have k6 : j ≠ 52 := by omega
      have k7 : j ≠ 62 := by omega
      have k8 : j ≠ 66 := by omega
      have k9 : j ≠ 31 := by omega
      have k10 : j ≠ 23 := by omega
      have k11 : j ≠ 16 := by omega
      have k12 : j ≠ 3 := by omega
      have k13 : j ≠ 8 := by omega
      have k14 : j ≠ 9 := by omega
      rw [fa1 j (by omega) (by omega) (by omega) (by omega) (by omega) (by omega), e2, e1]
      simp [zs, j1, j2, k1, k2, k3, k4, k5, k6, k7, k8, k9, k10, k11, k12, k13, k14]
    · unfold exMa at hj
      have k1 : j ≠ 26 := by omega
      have k2 : j ≠ 27 := by omega
      have k3 : j ≠ 28 := by omega
      have k4 : j ≠ 29 := by omega
      rw [fa2, e2, e1]; simp [zs, k1, k2, k3, k4]
    · rw [fa3 j hj, e2, e1]; simp [zs]
    · rw [fa4, e2, e1]; simp [zs]
  have frc : ∀ σx, frTC σb σx → frR σ σx := by
    intro σx hx
    obtain ⟨a1, a2, a3, a4, a5, a6, a7, a8⟩ := frb
    obtain ⟨c1, c2, c3, c4', c5, c6, c7, c8⟩ := hx
    exact ⟨fun j hj j1 j2 j3 => (c1 j hj).trans (a1 j hj j1 j2 j3), fun j hj j1 j2 => (c2 j hj).trans (a2 j hj j1 j2), fun j => (c3 j).trans (a3 j), fun j j1 j2 j3 j4 => (c4' j j1 j2 j3).trans (a4 j j1 j2 j3 j4), fun j j1 => (c5 j).trans (a5 j j1), fun j j1 j2 => (c6 j j1 j2).trans (a6 j j1 j2), fun j hj => (c7 j hj).trans (a7 j hj), fun j hj => (c8 j hj).trans (a8 j hj)⟩
  have frm : ∀ τx, frTM τb τx → frRM τ τx := by
    intro τx hx
    obtain ⟨a1, a2, a3, a4⟩ := frbm
    obtain ⟨c1, c2, c3, c4', _⟩ := hx
    exact ⟨fun j hj j1 j2 => (c1 j hj).trans (a1 j hj j1 j2), fun j hj => (c2 j hj).trans (a2 j hj), fun j hj => (c3 j hj).trans (a3 j hj), fun j j1 j2 j3 j4 j5 => (c4' j j1 j2 j3 j4 j5).trans (a4 j j1 j2 j3 j4 j5)⟩
  have h307 : gi σb 307 = 1 := by rw [ib 307 (by decide), e7]; simp [zs]
  have h412 : gi σb 412 = 0 := by rw [ib 412 (by decide), e7]; simp [zs]
  have h10 : gi τb 10 = 0 := by rw [ti' 10 (by decide) (by decide) (by decide) (by decide) (by decide) (by decide), e2]; simp [zs]
  have h9 : gi τb 8 = 0 → gi τb 9 = -3 := fun z => by rw [fa5 z, e2]; simp [zs]
  rcases w2 with ⟨f, p, τ', u1, u2, u3, u4⟩ | ⟨k', M', s', N', a', D', S', R', TL', τ', u1, u2, u3⟩
  · obtain ⟨x1, x2, x3⟩ := u2
    obtain ⟨y1, y2, y3, _, y5, y6⟩ := u4
    refine ⟨σ', τ', c, fun K => by rw [hchain, w1, bv_some], by rw [hread, u3], frc σ' x3, frm τ' y3, by rw [x3.1 307 (by unfold exTi; omega), h307], by rw [x3.1 412 (by unfold exTi; omega), h412], by rw [y3.1 10 (by unfold exMi; omega), h10], Or.inl ⟨f, p, u1, x1, x2, y1, y2, y5, y6⟩⟩
  · have hX := u2.1
    have fC := hX.1.2.2.2.2.2.1
    have fM := hX.1.2.2.2.2.2.2
    have h8 : gi τ' 8 = 0 := (hX.1.1.2.1.2.2.1.2.2.2.1 (by rw [u3]; decide)).1
    have h8b : gi τb 8 = 0 := by
      rcases Decidable.em (gi τb 8 = 0) with w | w
      · exact w
      · have := (fM.2.2.2.2.1 w).1
        rw [h8] at this
        exact absurd this.symm w
    refine ⟨σ', τ', c, fun K => by rw [hchain, w1, bv_some], by rw [hread, u1], frc σ' fC, frm τ' fM, by rw [fC.1 307 (by unfold exTi; omega), h307], by rw [fC.1 412 (by unfold exTi; omega), h412], by rw [fM.1 10 (by unfold exMi; omega), h10], Or.inr ⟨hX.1.1.1.2.2.2.2.2.2.2, h8, by rw [fM.2.2.2.2.2 h8, h9 h8b], by rw [← eB]; exact hT, M', D', S', R', TL', ?_⟩⟩
    rw [← eB]
    exact ⟨σb, τb, k', s', N', a', u2, u3⟩
