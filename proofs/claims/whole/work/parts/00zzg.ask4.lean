/-! Types that are asked: two of them. Own text. -/
theorem fs_tail {F : Nat} (hF : 1300 ≤ F) {τ : zS} (h8 : gi τ 8 ≠ 0) (r6 : Int32) : ∃ τ', bi (Md_readType F (si τ 32 (-2 : Int32))) (fun r12 σ11 => Md_readAsked_74 F (si σ11 91 r12) r6) = Md_readAsked_93 F τ' r6 ∧ (∀ j, j ≠ 42 → j ≠ 32 → j ≠ 91 → gi τ' j = gi τ j) ∧ (∀ j i, (j < 17 ∨ 25 < j) → ga τ' j i = ga τ j i) ∧ (∀ j, gb τ' j = gb τ j) ∧ (∀ j, j ≠ 6 → gl τ' j = gl τ j) := by
  have h8' : gi (si τ 32 (-2)) 8 ≠ 0 := by simp [zs]; exact h8
  obtain ⟨τ1, y1, y2, y3⟩ := fs_readType (F := F) hF h8'
  have e8 : gi (si τ1 91 0) 8 ≠ 0 := by simp only [zs]; rw [if_neg (by decide), y3 8 (by decide)]; exact h8'
  refine ⟨si τ1 91 0, by rw [y1, bi_some, Md_readAsked_74, if_neg e8], fun j j1 j2 j3 => ?_, fun j i hj => ?_, fun j => ?_, fun j hj => ?_⟩
  · simp only [zs]; rw [if_neg j3, y3 j j1]; simp [zs, j2]
  · simp only [zs]
    by_cases w : j = 2 ∨ j = 4 ∨ j = 5 ∨ (7 ≤ j ∧ j ≤ 16)
    · rw [(y2 (i + 1) (i + 1) (i + 1)).2.1 j i (by unfold okM; omega)]; simp only [zs]
    · rw [(y2 0 0 0).2.1 j i (by unfold okM; omega)]; simp only [zs]
  · simp only [zs]
    funext i
    rw [(y2 (i + 1) (i + 1) (i + 1)).2.2.2.1 j i (by omega) (by omega)]; simp only [zs]
  · simp only [zs]
    rw [(y2 0 0 0).2.2.1 j hj]; simp only [zs]
theorem frB_t {N0 : Nat} {τ τ1 τ' : zS} (h : frB N0 τ τ1) (h1 : ∀ j, j ≠ 42 → j ≠ 32 → j ≠ 91 → gi τ' j = gi τ1 j) (h2 : ∀ j i, (j < 17 ∨ 25 < j) → ga τ' j i = ga τ1 j i) (h3 : ∀ j, gb τ' j = gb τ1 j) (h4 : ∀ j, j ≠ 6 → gl τ' j = gl τ1 j) : frB N0 τ τ' := by
  obtain ⟨a1, a2, a3, a4⟩ := h
  refine ⟨fun j hj => ?_, fun j i q1 q2 q3 => ?_, fun j hj => (h4 j hj).trans (a3 j hj), fun j i q1 q2 => by rw [h3]; exact a4 j i q1 q2⟩
  · have := hj
    unfold exAm exM at this
    rw [h1 j (by omega) (by omega) (by omega)]
    exact a1 j hj
  · rw [h2 j i (by omega)]; exact a2 j i q1 q2 q3
theorem ask2 {F : Nat} {σ τ : zS} {n N0 R0 : Nat} (hF : 5000 ≤ F) (hB : byt (ga σ 19) n) (hl : gi σ 101 = nI n) (hB2 : ∀ i, i < n → ga σ 19 i = ga τ 1 i) (hl2 : gi τ 2 = nI n) (hN0 : gi τ 89 = nI N0) (hN1 : N0 ≤ 500) (hR0 : gi τ 88 = nI R0) (hR1 : R0 ≤ 4000) : ∃ σ' τ' rr, (∀ K : zS → Option (Int32 × zS), bv (Fa_clear F σ) (fun σ1 => bv (Me_clear F σ1) (fun σ3 => gd (isRow 11) (bv (Ro_clear F σ3 11) (fun σ5 => bv (Ki_dropAsked F σ5) (fun σ8 => bv (Ta_scan F σ8) (fun σ10 => bv (Pa_parseTypes F σ10 11 2) (fun σ12 => K σ12))))))) = K σ') ∧ Md_readAsked F τ 1 = Md_readAsked_93 F τ' rr ∧ AX σ τ σ' τ' N0 R0 ∧ (AF σ' τ' ∨ ∃ M s N a M1 s1 N1 a1 t nn As t2 nn2 As2, AC σ' τ' N0 M s N a 2 ∧ AT σ' τ' N0 N1 (-1) 0 0 0 t nn As ∧ AT σ' τ' N1 N (-2) s1 M1 a1 t2 nn2 As2 ∧ N0 ≤ N1 ∧ N1 ≤ N ∧ s1 = lnT t ∧ a1 = As.length ∧ M1 = (lvs t).length ∧ s = s1 + lnT t2 ∧ a = a1 + As2.length ∧ M = M1 + (lvs t2).length ∧ ma σ' 70 0 = 0 ∧ ma σ' 71 0 = -1 ∧ ma σ' 70 1 = nI s1 ∧ ma σ' 71 1 = -1 ∧ rr = nI nn ∧ gi τ' 91 = nI nn2) := by
  obtain ⟨σs, τb, c, hT, hch, hrf, hC, hM, h606, h32, h67, h10, h9, h48, h29, h29', h306, h1107, h70, h71, fA, fB⟩ := ask_start (F := F) hF hB hl hB2 hl2 hN0 hR0 hR1
  have hBB := hT.1
  have hch1 := fun K => hch K 2
  have hrf1 : Md_readAsked F τ 1 = bi (Md_readType F τb) (fun r6 σ5 => (bv (Md_want F σ5 (44 : Int32)) (fun σ9 => bi (Md_readType F (si σ9 32 (-2 : Int32))) (fun r12 σ11 => Md_readAsked_74 F (si σ11 91 r12) r6)))) := by
    rw [hrf 1]
    congr 1
  obtain ⟨m, hm⟩ : ∃ m, F = m + 2 := ⟨F - 2, by omega⟩
  have h41 : ∀ (m : Nat) (σ : zS) (x : Int32), Pa_parseTypes_41 F (m + 1) σ 2 x 2 = Pa_parseTypes_94 F σ x := by
    intro m σ x
    rw [Pa_parseTypes_41, Pa_parseTypes_b41, if_pos (by decide)]
  have h94 : ∀ σ : zS, Pa_parseTypes_94 F σ 0 = some σ := by
    intro σ
    rw [Pa_parseTypes_94, if_pos rfl]; rfl
  have h36 : ∀ σ : zS, Pa_parseTypes_36 F σ 2 = some σ := by
    intro σ
    rw [Pa_parseTypes_36, Pa_parseTypes_37, show Pa_parseTypes_41 F F = Pa_parseTypes_41 F (m + 1 + 1) by rw [← hm], Pa_parseTypes_41, Pa_parseTypes_b41, if_neg (by decide), if_pos rfl, h94]
  have h37 : ∀ σ : zS, Pa_parseTypes_37 F σ 2 1 = bi (Pa_expect F σ (44 : Int32)) (fun r4 σ3 => if r4 = 0 then some σ3 else (gd (isRow (gr σ3 605)) (bi (Ro_beginTerm F σ3 (gr σ3 605) (gi σ3 606)) (fun r9 σ7 => if r9 = 0 then some σ7 else (bi (Pa_parseType F 12 σ7 (0 : Int32)) (fun r13 σ12 => if r13 = 0 then some σ12 else (Pa_parseTypes_94 F σ12 1))))))) := by
    intro σ
    rw [Pa_parseTypes_37, show Pa_parseTypes_41 F F = Pa_parseTypes_41 F (m + 1 + 1) by rw [← hm], Pa_parseTypes_41, Pa_parseTypes_b41, if_neg (by decide), if_neg (by decide)]
    have e86 : ∀ σ, Pa_parseTypes_86 F (Pa_parseTypes_41 F (m + 1)) σ 2 1 = some σ := by
      intro σ
      rw [Pa_parseTypes_86, Pa_parseTypes_87, show (1 : Int32) + 1 = 2 by decide, h41, h94]
    have e87 : ∀ σ, Pa_parseTypes_87 F (Pa_parseTypes_41 F (m + 1)) σ 2 1 1 = Pa_parseTypes_94 F σ 1 := by
      intro σ
      rw [Pa_parseTypes_87, show (1 : Int32) + 1 = 2 by decide, h41]
    simp only [e86, e87]
  have mkAX : ∀ (σ' τ' : zS) (M s N a : Nat), frC 11 M s σs σ' → frM 0 N a M τb τ' → N0 ≤ N → AX σ τ σ' τ' N0 R0 := by
    intro σ' τ' M s N a g1 g2 g3
    refine ⟨frA_C fA g1, frB_M fB g2 g3, by rw [g1.1 306 (by decide) (by decide) (by decide) (by decide), h306], by rw [g2.1 48 (by unfold exM; omega), h48], fun i hi => by rw [g2.2.1 29 i (by unfold okM; omega), h29 i hi], by rw [g2.1 10 (by unfold exM; omega), h10]⟩
  -- a fault of the reference ahead of the second type
  have tail : ∀ (σ' τ1 : zS) (r6 : Int32), AX σ τ σ' τ1 N0 R0 → AF σ' τ1 → ∃ τ', bi (Md_readType F (si τ1 32 (-2 : Int32))) (fun r12 σ11 => Md_readAsked_74 F (si σ11 91 r12) r6) = Md_readAsked_93 F τ' r6 ∧ AX σ τ σ' τ' N0 R0 ∧ AF σ' τ' := by
    intro σ' τ1 r6 hx hf
    obtain ⟨f, p, u1, u2, u3, u4, u5, ⟨a, u6, u6'⟩, N2, u7, u8⟩ := hf
    obtain ⟨τ', y1, y2, y3, y4, y5⟩ := fs_tail (F := F) (by omega) (τ := τ1) (by rw [u4]; exact (f_pos u1).1) r6
    obtain ⟨x1, x2, x3, x4, x5, x6⟩ := hx
    refine ⟨τ', y1, ⟨x1, frB_t x2 y2 y3 y4 y5, x3, by rw [y2 48 (by decide) (by decide) (by decide), x4], fun i hi => by rw [y3 29 i (by omega), x5 i hi], by rw [y2 10 (by decide) (by decide) (by decide), x6]⟩, f, p, u1, u2, u3, by rw [y2 8 (by decide) (by decide) (by decide), u4], by rw [y2 9 (by decide) (by decide) (by decide), u5], ⟨a, u6, by rw [y2 23 (by decide) (by decide) (by decide), u6']⟩, N2, u7, by rw [y2 16 (by decide) (by decide) (by decide), u8]⟩
  have hLb : LI N0 τb := ⟨N0, 0, hM.2.2.2.2.2.1, hM.2.2.2.1, by omega, by omega, fun n n1 n2 => by omega⟩
  have hAb : AI τb := ⟨N0, 0, hM.2.2.2.2.2.1, hM.2.2.2.2.2.2.1, by omega, by omega, fun a ha => by omega⟩
  by_cases h0 : tkS (ga τ 1) n 0 = 0
  · obtain ⟨σ', t1, t2, t3, t4⟩ := ty_bad (F := F) hT (by decide) (by omega) 11 0 σs 0 0 0 hC (by rw [h0]; unfold stO; decide)
    have hcu := hM.2.2.1.2.2.1 h0
    obtain ⟨τ1, y1, y2, y3⟩ := fs_readType (F := F) (by omega) (τ := τb) (by rw [hcu.1]; decide)
    have hAX := mkAX σ' τ1 0 0 N0 0 t4 (y2 N0 0 0) (Nat.le_refl _)
    have hAF : AF σ' τ1 := ⟨1, tkP (ga τ 1) n 0, Or.inl rfl, t2, t3, by rw [y3 8 (by decide), hcu.1], by rw [y3 9 (by decide), hcu.2], ⟨0, by omega, by rw [y3 23 (by decide)]; exact hM.2.2.2.2.2.2.1⟩, N0, by omega, by rw [y3 16 (by decide)]; exact hM.2.2.2.2.2.1⟩
    obtain ⟨τ', z1, z2, z3⟩ := tail σ' τ1 0 hAX hAF
    refine ⟨σ', τ', 0, fun K => by rw [hch1, t1, bi_some, if_pos rfl, h36, bv_some], ?_, z2, Or.inl z3⟩
    rw [hrf1, y1, bi_some, fs_want (by rw [y3 8 (by decide), hcu.1]; decide), bv_some, z1]
  · have hJO : JO (ga τ 1) n c 11 N0 σs τb 0 0 0 N0 0 := ⟨hC, hM, h0, fun i hi => absurd hi (Nat.not_lt_zero _), ⟨by omega, fun _ => by omega⟩, by omega, by omega, by omega, Or.inl (by rw [h32, h606])⟩
    obtain ⟨r, σ1, e1, fr1, res⟩ := rd_type (F := F) hT (by decide) (by omega) hN1 hJO
    rcases res with ⟨f, p, τ1, u1, u2, u3, u4⟩ | ⟨u0, k1, M1, s1, N1, a1, t, As, nn, τ1, u1, u2, u3, u4, u5, u6, u7, u8, u9, u10, u11, u12, u13, u14, u15, u16, u17, u18, u19⟩
    · obtain ⟨v1, v2, v3, ⟨a', v4, v4'⟩, N2, v5, v6⟩ := u3
      have href : Md_readAsked F τ 1 = bi (Md_readType F (si τ1 32 (-2 : Int32))) (fun r12 σ11 => Md_readAsked_74 F (si σ11 91 r12) 0) := by
        rw [hrf1, u4, bi_some, fs_want (by rw [v2]; exact (f_pos u1).1), bv_some]
      rcases u2 with ⟨d1, d2, d3⟩ | ⟨d1, d2, kb, Mb, sb, dC, _, _, _, _, dS, dp⟩
      · subst d1
        obtain ⟨τ', z1, z2, z3⟩ := tail σ1 τ1 0 (mkAX σ1 τ1 0 0 N0 0 fr1 v1 (Nat.le_refl _)) ⟨f, p, u1, d2, d3, v2, v3, ⟨a', v4, v4'⟩, N2, by omega, v6⟩
        exact ⟨σ1, τ', 0, fun K => by rw [hch1, e1, bi_some, if_pos rfl, h36, bv_some], by rw [href, z1], z2, Or.inl z3⟩
      · subst d1 d2
        obtain ⟨σ2, t1, t2, t3, t4⟩ := c_expect0 (F := F) hT dC (x := 44) (by rw [dS]; decide)
        obtain ⟨τ', z1, z2, z3⟩ := tail σ2 τ1 0 (mkAX σ2 τ1 0 0 N0 0 (frC_tr fr1 t4 (Nat.zero_le _) (Nat.zero_le _)) v1 (Nat.le_refl _)) ⟨1, p, u1, t2, by rw [dp]; exact t3, v2, v3, ⟨a', v4, v4'⟩, N2, by omega, v6⟩
        exact ⟨σ2, τ', 0, fun K => by rw [hch1, e1, bi_some, if_neg (by decide), h37, t1, bi_some, if_pos rfl, bv_some], by rw [href, z1], z2, Or.inl z3⟩
    · subst u0
      obtain ⟨oC, oM, one, ome, omb, os, oN, oa, oow⟩ := u4
      have g8 : gi τ1 8 = 0 := (oM.2.2.1.2.2.2.1 one).1
      have g8b : gi τb 8 = 0 := (hM.2.2.1.2.2.2.1 h0).1
      have g5 : gi τ1 5 = nI (tkP (ga τ 1) n k1) := oM.2.2.1.1
      rw [h32, h67] at u13
      rw [h606] at u16
      have sg := k_sign (F := F) hBB oM.2.2.1 one (y := 44) (by omega) (by omega)
      rw [show sgM (nI 44) = 44 by decide, show nI 44 = (44 : Int32) from rfl] at sg
      have hrf2 : Md_readAsked F τ 1 = (bv (Md_want F τ1 (44 : Int32)) (fun σ9 => bi (Md_readType F (si σ9 32 (-2 : Int32))) (fun r12 σ11 => Md_readAsked_74 F (si σ11 91 r12) (nI nn)))) := by
        rw [hrf1, u19, bi_some]
      by_cases hk : tkS (ga τ 1) n k1 = 44
      · have x1 := c_expect1 (F := F) hT oC hk (by decide)
        obtain ⟨_, C2, fc2⟩ := c_step (F := F) hT oC (show tkS (ga τ 1) n k1 ≠ 1 by rw [hk]; decide)
        have hk1 := tEnd_s hT oC.2.1 (show tkS (ga τ 1) n k1 ≠ 1 by rw [hk]; decide)
        obtain ⟨τ2, e2, fr2, cu2⟩ := m_nx (F := F) hBB (by omega) oM one
        have hwant : Md_want F τ1 44 = some τ2 := by rw [Md_want, sg.1 hk, bi_some, if_neg (by decide), e2, bv_some, Md_want_19]
        have fm2 := frM_N 0 N1 a1 M1 g8 fr2
        have fr12 : frM 0 N0 0 0 τb τ2 := frM_tr u5 fm2 (Nat.le_refl _) u10 (by omega) u3
        have fc12 : frC 11 0 0 σs (si σ1 106 (nI (k1 + 1))) := frC_tr fr1 fc2 (by omega) (by omega)
        obtain ⟨fa1, fa2, fa3, fa4, fa5⟩ := fr2
        have g605 : gr (si σ1 106 (nI (k1 + 1))) 605 = 11 := C2.2.2.2.2.1
        have g606 : gi (si σ1 106 (nI (k1 + 1))) 606 = -1 := by rw [fc12.1 606 (by decide) (by decide) (by decide) (by decide), h606]
        have hT1 : mi (si σ1 106 (nI (k1 + 1))) 1107 = nI 1 := by rw [fc12.2.2.2.2.2.1 1107 (by decide), h1107]
        obtain ⟨σ2, b1, b2, b3, b4, b5, b6, b7, b8, b9, b10, b11, b12, b13, b14⟩ := a_begin (F := F) C2 hT1 (by omega) os (-1)
        have hcl : ∀ K : zS → Option (Int32 × zS), bv (Fa_clear F σ) (fun σ1 => bv (Me_clear F σ1) (fun σ3 => gd (isRow 11) (bv (Ro_clear F σ3 11) (fun σ5 => bv (Ki_dropAsked F σ5) (fun σ8 => bv (Ta_scan F σ8) (fun σ10 => bv (Pa_parseTypes F σ10 11 2) (fun σ12 => K σ12))))))) = bv (bi (Pa_parseType F 12 σ2 (0 : Int32)) (fun r13 σ12 => if r13 = 0 then some σ12 else (Pa_parseTypes_94 F σ12 1))) (fun σ12 => K σ12) := by
          intro K
          rw [hch1, e1, bi_some, if_neg (by decide), h37, x1, bi_some, if_neg (by decide), g605, gd_t (by decide), g606, b1, bi_some, if_neg (by decide)]
        -- the frame over the new term
        have fA2 : frA σ σ2 := by
          obtain ⟨q1, q2, q3, q4, q5, q6, q7, q8⟩ := frA_C fA fc12
          refine ⟨fun j hj => by rw [b9]; exact q1 j hj, fun j j1 j2 hj => by rw [b10]; exact q2 j j1 j2 hj, fun j => by rw [b12]; exact q3 j, fun j j1 j2 => by rw [b11]; exact q4 j j1 j2, fun j j1 => by rw [b13]; exact q5 j j1, fun j j1 j2 => by rw [b8 j j2]; exact q6 j j1 j2, fun j hj => by rw [b7 j (by omega) (by omega)]; exact q7 j hj, fun j hj => by rw [b14]; exact q8 j hj⟩
        obtain ⟨τ3, e3⟩ : ∃ τ3, τ3 = si τ2 32 (-2) := ⟨_, rfl⟩
        have i3 : ∀ j, j ≠ 32 → gi τ3 j = gi τ2 j := fun j hj => by rw [e3]; simp [zs, hj]
        have a3 : ∀ j, ga τ3 j = ga τ2 j := fun j => by rw [e3]; simp [zs]
        have bb3 : ∀ j, gb τ3 j = gb τ2 j := fun j => by rw [e3]; simp [zs]
        have fB3 : frB N0 τ τ3 := by
          obtain ⟨q1, q2, q3, q4⟩ := frB_M fB fr12 (Nat.le_refl _)
          refine ⟨fun j hj => ?_, fun j i w1 w2 w3 => by rw [a3]; exact q2 j i w1 w2 w3, fun j hj => by rw [e3]; simp only [zs]; exact q3 j hj, fun j i w1 w2 => by rw [bb3]; exact q4 j i w1 w2⟩
          have := hj
          unfold exAm at this
          rw [i3 j (by omega)]
          exact q1 j hj
        have hM3 : mO (ga τ 1) n τ3 (k1 + 1) M1 s1 N1 a1 := by
          obtain ⟨m1, m2, m3, m31, m17, m16, m23, m18⟩ := oM
          refine ⟨by rw [a3, fa2, m1], ?_, curT_of cu2 (i3 3 (by decide)) (i3 4 (by decide)) (i3 5 (by decide)) (i3 7 (by decide)) (i3 8 (by decide)) (i3 9 (by decide)) (by rw [e3]; simp [zs]), ?_, ?_, ?_, ?_, ?_⟩
          · rw [i3 2 (by decide), fa1 2 (by decide) (by decide) (by decide) (by decide) (by decide) (by decide), m2]
          · rw [i3 31 (by decide), fa1 31 (by decide) (by decide) (by decide) (by decide) (by decide) (by decide), m31]
          · rw [i3 17 (by decide), fa1 17 (by decide) (by decide) (by decide) (by decide) (by decide) (by decide), m17]
          · rw [i3 16 (by decide), fa1 16 (by decide) (by decide) (by decide) (by decide) (by decide) (by decide), m16]
          · rw [i3 23 (by decide), fa1 23 (by decide) (by decide) (by decide) (by decide) (by decide) (by decide), m23]
          · rw [i3 18 (by decide), fa1 18 (by decide) (by decide) (by decide) (by decide) (by decide) (by decide), m18]
        have mkAX2 : ∀ (σ' τ' : zS) (M s N a : Nat), frC 11 M s σ2 σ' → frM 0 N a M τ3 τ' → N0 ≤ N → AX σ τ σ' τ' N0 R0 := by
          intro σ' τ' M s N a w1 w2 w3
          refine ⟨frA_C fA2 w1, frB_M fB3 w2 w3, ?_, ?_, fun i hi => ?_, ?_⟩
          · rw [w1.1 306 (by decide) (by decide) (by decide) (by decide), b9, fc12.1 306 (by decide) (by decide) (by decide) (by decide), h306]
          · rw [w2.1 48 (by unfold exM; omega), i3 48 (by decide), fr12.1 48 (by unfold exM; omega), h48]
          · rw [w2.2.1 29 i (by unfold okM; omega), a3, fr12.2.1 29 i (by unfold okM; omega), h29 i hi]
          · rw [w2.1 10 (by unfold exM; omega), i3 10 (by decide), fr12.1 10 (by unfold exM; omega), h10]
        have set91 : ∀ (σ' τ' : zS) (x : Int32), AX σ τ σ' τ' N0 R0 → AX σ τ σ' (si τ' 91 x) N0 R0 := by
          intro σ' τ' x hx
          obtain ⟨w1, ⟨w2, w3, w4, w5⟩, w6, w7, w8, w9⟩ := hx
          refine ⟨w1, ⟨fun j hj => ?_, fun j i q1 q2 q3 => by simp only [zs]; exact w3 j i q1 q2 q3, fun j hj => by simp only [zs]; exact w4 j hj, fun j i q1 q2 => by simp only [zs]; exact w5 j i q1 q2⟩, w6, by simp [zs, w7], fun i hi => by simp only [zs]; exact w8 i hi, by simp [zs, w9]⟩
          have := hj
          unfold exAm at this
          have j1 : j ≠ 91 := by omega
          simp only [zs]
          rw [if_neg j1]
          exact w2 j hj
        by_cases h02 : tkS (ga τ 1) n (k1 + 1) = 0
        · -- a bad token behind the comma
          obtain ⟨σ3, t1, t2, t3, t4⟩ := ty_bad (F := F) hT (by decide) (by omega) 11 0 σ2 (k1 + 1) M1 s1 b2 (by rw [h02]; unfold stO; decide)
          have hcu := hM3.2.2.1.2.2.1 h02
          obtain ⟨τ4, y1, y2, y3⟩ := fs_readType (F := F) (by omega) (τ := τ3) (by rw [hcu.1]; decide)
          have e8 : gi (si τ4 91 0) 8 = 1 := by simp only [zs]; rw [if_neg (by decide), y3 8 (by decide), hcu.1]
          refine ⟨σ3, si τ4 91 0, nI nn, fun K => by rw [hcl, t1, bi_some, if_pos rfl, bv_some], ?_, set91 _ _ _ (mkAX2 σ3 τ4 M1 s1 N1 a1 t4 (y2 N1 a1 M1) u10), Or.inl ⟨1, tkP (ga τ 1) n (k1 + 1), Or.inl rfl, t2, t3, e8, by simp only [zs]; rw [if_neg (by decide), y3 9 (by decide), hcu.2], ⟨a1, by omega, by simp only [zs]; rw [if_neg (by decide), y3 23 (by decide)]; exact hM3.2.2.2.2.2.2.1⟩, N1, by omega, by simp only [zs]; rw [if_neg (by decide), y3 16 (by decide)]; exact hM3.2.2.2.2.2.1⟩⟩
          rw [hrf2, hwant, bv_some, ← e3, y1, bi_some, Md_readAsked_74, if_neg (by rw [e8]; decide)]
        · have hJ3 : JO (ga τ 1) n c 11 N0 σ2 τ3 (k1 + 1) M1 s1 N1 a1 := by
            refine ⟨b2, hM3, h02, fun i hi => ?_, mB_step omb hk1.2, os, oN, oa, Or.inr ⟨by rw [b9]; exact g606, by rw [e3]; simp [zs]⟩⟩
            have q := meR_fr fc2 fm2 hi (ome i hi)
            unfold meR at q ⊢
            rw [b10, b11, b10, b10, b10, a3, bb3, a3, a3, a3, a3]
            exact q
          obtain ⟨r, σ3, y1, fr3, res⟩ := rd_type (F := F) hT (by decide) (by omega) hN1 hJ3
          have hrf3 : Md_readAsked F τ 1 = bi (Md_readType F τ3) (fun r12 σ11 => Md_readAsked_74 F (si σ11 91 r12) (nI nn)) := by
            rw [hrf2, hwant, bv_some, ← e3]
          rcases res with ⟨f, p, τ4, w1, w2, w3, w4⟩ | ⟨w0, k2, M2, s2, N2, a2, t2, As2, nn2, τ4, w1, w2, w3, w4, w5, w6, w7, w8, w9, w10, w11, w12, w13, w14, w15, w16, w17, w18, w19⟩
          · obtain ⟨v1, v2, v3, ⟨a', v4, v4'⟩, N2, v5, v6⟩ := w3
            have e8 : gi (si τ4 91 0) 8 = f := by simp [zs, v2]
            have href : Md_readAsked F τ 1 = Md_readAsked_93 F (si τ4 91 0) (nI nn) := by
              rw [hrf3, w4, bi_some, Md_readAsked_74, if_neg (by rw [e8]; exact (f_pos w1).1)]
            rcases w2 with ⟨d1, d2, d3⟩ | ⟨d1, d2, kb, Mb, sb, dC, _, _, _, _, dS, dp⟩
            · subst d1
              exact ⟨σ3, si τ4 91 0, nI nn, fun K => by rw [hcl, y1, bi_some, if_pos rfl, bv_some], href, set91 _ _ _ (mkAX2 σ3 τ4 M1 s1 N1 a1 fr3 v1 u10), Or.inl ⟨f, p, w1, d2, d3, e8, by simp [zs, v3], ⟨a', v4, by simp [zs, v4']⟩, N2, by omega, by simp [zs, v6]⟩⟩
            · subst d1 d2
              obtain ⟨σ4, t1, t2, t3, t4⟩ := c_misfit (F := F) hT dC
              refine ⟨σ4, si τ4 91 0, nI nn, fun K => ?_, href, set91 _ _ _ (mkAX2 σ4 τ4 0 0 N1 0 (frC_tr (frC_tr (frC_rfl 11 0 0 σ2) fr3 (Nat.zero_le _) (Nat.zero_le _)) t4 (Nat.zero_le _) (Nat.zero_le _)) (frM_tr (frM_rfl 0 N1 0 0 τ3) v1 (Nat.le_refl _) (Nat.le_refl _) (Nat.zero_le _) (Nat.zero_le _)) u10), Or.inl ⟨1, p, w1, t2, by rw [dp]; exact t3, e8, by simp [zs, v3], ⟨a', v4, by simp [zs, v4']⟩, N2, by omega, by simp [zs, v6]⟩⟩
              rw [hcl, y1, bi_some, if_neg (by decide), Pa_parseTypes_94, if_neg (by decide), c_sort hT dC, bi_some, if_neg (by rw [dS]; decide), t1, bi_some, Pa_parseTypes_114, bv_some]
          · subst w0
            obtain ⟨pC, pM, pne, pme, pmb, ps, pN, pa, pow⟩ := w4
            have hJ4 : JO (ga τ 1) n c 11 N0 σ3 (si τ4 91 (nI nn2)) k2 M2 s2 N2 a2 := by
              obtain ⟨m1, m2, m3, m31, m17, m16, m23, m18⟩ := pM
              refine ⟨pC, ⟨by simp [zs, m1], by simp [zs, m2], curT_of m3 (by simp [zs]) (by simp [zs]) (by simp [zs]) (by simp [zs]) (by simp [zs]) (by simp [zs]) (by simp [zs]), by simp [zs, m31], by simp [zs, m17], by simp [zs, m16], by simp [zs, m23], by simp [zs, m18]⟩, pne, fun i hi => ?_, pmb, ps, pN, pa, ?_⟩
              · have q := pme i hi
                unfold meR at q ⊢
                simpa only [zs] using q
              · unfold ownR at pow ⊢
                simpa [zs] using pow
            have hend := a_end (F := F) hT hJ4 (nI nn)
            have h84 : gi τ4 8 = 0 := (pM.2.2.1.2.2.2.1 pne).1
            have htp := tkP_le (ga τ 1) n k2
            by_cases hk2 : tkS (ga τ 1) n k2 = 1
            · obtain ⟨x1, x2⟩ := hend.1 hk2
              have f32 : gi τ3 32 = -2 := by rw [e3]; simp [zs]
              have f67 : gi τ3 67 = -1 := by rw [i3 67 (by decide), fr12.1 67 (by unfold exM; omega), h67]
              have f606 : gi σ2 606 = -1 := by rw [b9]; exact g606
              rw [f32, f67] at w13
              rw [f606] at w16
              have h8b3 : gi τ3 8 = 0 := (hM3.2.2.1.2.2.2.1 h02).1
              have n9 : gi τ4 9 = -3 := by
                rw [w5.2.2.2.2.2 h84, i3 9 (by decide), fr12.2.2.2.2.2 (by rw [← i3 8 (by decide)]; exact h8b3), h9 g8b]
              refine ⟨σ3, si τ4 91 (nI nn2), nI nn, fun K => by rw [hcl, y1, bi_some, if_neg (by decide), x1, bv_some], by rw [hrf3, w19, bi_some, x2], set91 _ _ _ (mkAX2 σ3 τ4 M1 s1 N1 a1 fr3 w5 u10), Or.inr ⟨M2, s2, N2, a2, M1, s1, N1, a1, t, nn, As, t2, nn2, As2, ⟨pC.2.2.2.2.2.2.2, by simp [zs, h84], by simp [zs, n9], pC.2.2.2.2.2.2.1, by simp [zs, pM.2.2.2.1], by have := pmb.1; have := hBB.1; omega, hJ4.2.2.2.1, pC.2.2.2.2.2.1, by rw [fr3.2.2.2.2.2.1 1107 (by decide), b3], ps, by simp [zs, pM.2.2.2.2.2.1], pN, by omega, by simp [zs, pM.2.2.2.2.2.2.1], pa, LI_si (li_readType F τ3 (by rw [e3]; exact LI_si (li_want F τ1 44 (li_readType F τb hLb _ _ u19) _ hwant) (by decide)) _ _ w19) (by decide), AI_si (ai_readType F τ3 (by rw [e3]; exact AI_si (ai_want F τ1 44 (ai_readType F τb hAb _ _ u19) _ hwant) (by decide)) _ _ w19) (by decide)⟩, ⟨u6, ?_, ?_, ?_, ?_, u9⟩, ⟨w6, w12, ?_, ?_, w16, w9⟩, u10, w10, by omega, by omega, by omega, by omega, by omega, by omega, ?_, ?_, ?_, ?_, rfl, by simp [zs]⟩⟩
              · refine rwL_fr _ _ (fun j j1 j2 => ?_) u12
                simp only [List.length_cons] at j2
                have hj : j < s1 := by unfold lnT at u7; omega
                refine ⟨?_, ?_, ?_, ?_⟩
                · rw [fr3.2.2.2.2.2.2.1 _ _ (by omega), b7 _ (by unfold rA; omega) (by unfold rA; omega)]; simp only [zs]
                · rw [fr3.2.2.2.2.2.2.2 _ _ (by omega), b14]; simp only [zs]
                · rw [fr3.2.2.2.2.2.2.1 _ _ (by omega), b7 _ (by unfold rA; omega) (by unfold rA; omega)]; simp only [zs]
                · rw [fr3.2.2.2.2.2.2.1 _ _ (by omega), b7 _ (by unfold rA; omega) (by unfold rA; omega)]; simp only [zs]
              · refine nd_mono (τ := τ1) (Nat.le_refl _) (Nat.le_refl _) (fun i i1 i2 => ?_) t nn As u13
                simp only [zs]
                rw [w5.2.1 2 i (by unfold okM; omega), w5.2.2.2.1 3 i (by omega) (by omega), w5.2.1 4 i (by unfold okM; omega), w5.2.1 5 i (by unfold okM; omega), a3, bb3, a3, a3, fa2, fa4, fa2, fa2]
                exact ⟨rfl, rfl, rfl, rfl⟩
              · refine acL_fr _ _ (fun j j1 j2 => ?_) u14
                simp only [zs]
                rw [w5.2.1 7 j (by unfold okM; omega), w5.2.1 8 j (by unfold okM; omega), w5.2.1 9 j (by unfold okM; omega), a3, a3, a3, fa2, fa2, fa2]
                exact ⟨rfl, rfl, rfl⟩
              · refine ⟨leL_fr _ _ (fun j j1 j2 => ?_) u16.1, vaL_fr _ _ (fun j j1 j2 => ?_) u16.2⟩
                · rw [fr3.2.1 43 j (by omega), fr3.2.2.2.1 44 j (by omega), fr3.2.1 46 j (by omega), b10, b11, b10]
                  simp only [zs]
                  exact ⟨trivial, trivial, trivial⟩
                · rw [nLf_t t u6] at j2
                  rw [fr3.2.1 47 j (by omega), b10]
                  simp only [zs]
              · exact nd_mono (τ := τ4) (Nat.le_refl _) (Nat.le_refl _) (fun i _ _ => ⟨by simp [zs], by simp [zs], by simp [zs], by simp [zs]⟩) t2 nn2 As2 w13
              · exact acL_fr _ _ (fun j _ _ => ⟨by simp [zs], by simp [zs], by simp [zs]⟩) w14
              · rw [fr3.2.2.2.2.2.2.1 70 0 (by unfold rA; omega), (b6 0 (by decide)).1, fc12.2.2.2.2.2.2.1 70 0 (by unfold rA; omega), h70]; rfl
              · rw [fr3.2.2.2.2.2.2.1 71 0 (by unfold rA; omega), (b6 0 (by decide)).2, fc12.2.2.2.2.2.2.1 71 0 (by unfold rA; omega), h71]
              · rw [fr3.2.2.2.2.2.2.1 70 1 (by unfold rA; omega), b4]
              · rw [fr3.2.2.2.2.2.2.1 71 1 (by unfold rA; omega), b5]
            · obtain ⟨σ4, τ5, x1, x2, x3, x4, x5, x6, x7, x9, x8⟩ := hend.2 hk2
              have hax := set91 _ _ (nI nn2) (mkAX2 σ4 τ4 0 0 N1 0 (frC_tr (frC_tr (frC_rfl 11 0 0 σ2) fr3 (Nat.zero_le _) (Nat.zero_le _)) x4 (Nat.zero_le _) (Nat.zero_le _)) (frM_tr (frM_rfl 0 N1 0 0 τ3) w5 (Nat.le_refl _) (Nat.le_refl _) (Nat.zero_le _) (Nat.zero_le _)) u10)
              refine ⟨σ4, τ5, nI nn, fun K => by rw [hcl, y1, bi_some, if_neg (by decide), x1, bv_some], by rw [hrf3, w19, bi_some, x5], ?_, Or.inl ⟨1, tkP (ga τ 1) n k2, Or.inl rfl, x2, x3, x6, x7, ⟨a2, by omega, by rw [x9 23 (by decide) (by decide)]; exact hJ4.2.1.2.2.2.2.2.2.1⟩, N2, by omega, by rw [x9 16 (by decide) (by decide)]; exact hJ4.2.1.2.2.2.2.2.1⟩⟩
              obtain ⟨q1, q2, q3, q4, q5, q6⟩ := hax
              have w := x8 0 N1 0 0
              exact ⟨q1, frB_M q2 w u10, q3, by rw [w.1 48 (by unfold exM; omega), q4], fun i hi => by rw [w.2.1 29 i (by unfold okM; omega)]; exact q5 i hi, by rw [w.1 10 (by unfold exM; omega), q6]⟩
      · obtain ⟨σ2, t1, t2, t3, t4⟩ := c_expect0 (F := F) hT oC (x := 44) hk
        have w := m_wrong (F := F) (L := 0) (N := N1) (a := a1) (M := M1) g8 (f := 1) (p := nI (tkP (ga τ 1) n k1)) (by decide)
        have hwant : Md_want F τ1 44 = some (si (si τ1 8 1) 9 (nI (tkP (ga τ 1) n k1))) := by
          rw [Md_want, sg.2 hk, bi_some, if_pos rfl, Md_cannot, g5, w.1, bv_some, bv_some, Md_want_19]
        obtain ⟨τ', z1, z2, z3⟩ := tail σ2 (si (si τ1 8 1) 9 (nI (tkP (ga τ 1) n k1))) (nI nn) (mkAX σ2 _ 0 0 N0 0 (frC_tr fr1 t4 (Nat.zero_le _) (Nat.zero_le _)) (frM_tr u5 w.2 (Nat.le_refl _) u10 (by omega) u3) (Nat.le_refl _)) ⟨1, tkP (ga τ 1) n k1, Or.inl rfl, t2, t3, by simp [zs], by simp [zs], ⟨a1, by omega, by simp [zs, oM.2.2.2.2.2.2.1]⟩, N1, by omega, by simp [zs, oM.2.2.2.2.2.1]⟩
        exact ⟨σ2, τ', nI nn, fun K => by rw [hch1, e1, bi_some, if_neg (by decide), h37, t1, bi_some, if_pos rfl, bv_some], by rw [hrf2, hwant, bv_some, z1], z2, Or.inl z3⟩
