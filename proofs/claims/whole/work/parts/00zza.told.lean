/-! A text while it is read: a kind that is told. Own text. -/
theorem tkP_add {B : Nat → Int32} {n c k : Nat} (hT : tEnd B n c) : ∀ d, k + d ≤ c → tkP B n k + d ≤ tkP B n (k + d)
  | 0, _ => Nat.le_refl _
  | d + 1, h => by
    have h1 := tkP_add (k := k) hT d (by omega)
    have h2 := (tk_next (hT.2.2.2 (k + d) (by omega))).2
    show _ ≤ tkP B n (k + d + 1)
    omega
theorem mB_mono {B : Nat → Int32} {n c k M : Nat} (hT : tEnd B n c) (h : mB B n k M) : ∀ d, k + d ≤ c → mB B n (k + d) M
  | 0, _ => h
  | d + 1, hd => mB_step (mB_mono hT h d (by omega)) (hT.2.2.2 (k + d) (by omega))
theorem meadd_m {F : Nat} {B : Nat → Int32} {n c X k M s : Nat} {σ σ' : zS} {r o : Int32} (hT : tEnd B n c) (h : cS B n c X σ k M s) (hM : M < 600) (e : Me_add F σ r o = some σ') : (∀ j, ma σ' j = ma σ j) ∧ (∀ j, mb σ' j = mb σ j) := by
  obtain ⟨h1, h2, h3, h4, h5, h6, h7, h8⟩ := h
  have g1 : cS B n c X (sa σ 43 M r) k M s := ⟨by simp [zs, h1], h2, by simp [zs, h3], by simpa [zs] using h4, by simp [zs, h5], by simp [zs, h6], by simp [zs, h7], by simp [zs, h8]⟩
  have g2 : cS B n c X (sb (sa σ 43 M r) 44 M (tkN B n k)) k M s := ⟨by simp [zs, h1], h2, by simp [zs, h3], by simpa [zs] using h4, by simp [zs, h5], by simp [zs, h6], by simp [zs, h7], by simp [zs, h8]⟩
  rw [Me_add, h7, if_neg (show ¬ (600 : Int32) ≤ nI M from nI_ge (b := 600) hM (by omega)), nI_clamp (by omega), gd_t (inb_nI hM (by omega)), c_name hT g1, bi_some, c_start hT g2, bi_some] at e
  have e1 : gi (sa σ 43 M r) 505 = nI M := g1.2.2.2.2.2.2.1
  have e2 : gi (sb (sa σ 43 M r) 44 M (tkN B n k)) 505 = nI M := g2.2.2.2.2.2.2.1
  rw [e1, e2, nI_clamp (by omega), gd_t (inb_nI hM (by omega)), gd_t (inb_nI hM (by omega)), Me_add_76] at e
  have := Option.some.inj e
  subst this
  exact ⟨fun j => by simp [zs], fun j => by simp [zs]⟩
section T
variable {F : Nat} {B : Nat → Int32} {n c : Nat} {σ0 τ0 : zS} {S R D : Nat}
theorem decl_told {σ τ : zS} {k M s N a : Nat} {TL : List TR} (hT : tEnd B n c) (hF : 1300 ≤ F) (h : TX B n c σ0 τ0 σ τ k M s N a D S R TL) (hAB : AB τ D TL) (hmc : MCp τ TL) (hSY : SY τ D TL) (hCL : CL σ D) (hk : tkS B n k = 7) : ∃ r σ', Pa_parseTold F σ = some (r, σ') ∧ ((∃ f p τ', (f = 1 ∨ f = 2) ∧ dmT B n c σ0 r σ' f p ∧ Md_readDecl F τ = some τ' ∧ FS τ0 τ' f p) ∨ (r = 1 ∧ ∃ k' S' R' τ', k < k' ∧ Md_readDecl F τ = some τ' ∧ TX B n c σ0 τ0 σ' τ' k' (M + 1) s N a D S' R' TL ∧ AB τ' D TL ∧ MCp τ' TL ∧ SY τ' D TL ∧ CL σ' D ∧ tkS B n k' ≠ 0)) := by
  have hB := hT.1
  have hR16 := TX_R hT h
  have h0 : tkS B n k ≠ 0 := by rw [hk]; decide
  have h1 : tkS B n k ≠ 1 := by rw [hk]; decide
  have hJM := h.1.1.2.1
  have hbn := h.2.1
  obtain ⟨τ1, e1, fr1, cu1⟩ := m_nx (F := F) hB hF hJM h0
  obtain ⟨s1, X1, fc1, fm1⟩ := TX_step (F := F) hT h h1 h0 fr1 cu1
  have hk0 := tEnd_s hT h.1.1.1.2.1 h1
  have hC1 := X1.1.1.1
  have hM1 := X1.1.1.2.1
  have f4 : gi τ 4 = 3 := by rw [hJM.2.2.1.2.1, hk]; decide
  have f6 : gl τ 6 = tkN B n k := hJM.2.2.1.2.2.2.2.1 (by rw [hk]; decide)
  have hkw := tk_kw (k := k) hB
  have hrd : Md_readDecl F τ = bi (Md_wantName F τ1 (1 : Int32)) (fun r5 σ4 => if r5 = 0 then (some σ4) else (bv (Md_readWish F σ4) (fun σ22 => some σ22))) := by
    rw [Md_readDecl, f6, hkw.2.2.2 hk, if_neg (by decide), if_neg (by decide), if_neg (by decide), Md_readDecl_46, if_pos f4, e1, bv_some]
    congr 1
  have hpt : Pa_parseTold F σ = (if tkS B n (k + 1) = (2 : Int32) then (bv (Me_add F (si σ 106 (nI (k + 1))) (4 : Int32) (-1 : Int32)) (fun σ7 => bv (Ta_step F σ7) (fun σ9 => bi (Pa_expect F σ9 (58 : Int32)) (fun r12 σ11 => if r12 = 0 then (some ((0 : Int32), σ11)) else (bi (Pa_parseKind F 12 σ11 (0 : Int32)) (fun r16 σ15 => bv (Me_setValue F σ15 (nI M) r16) (fun σ18 => if r16 < 0 then (some ((0 : Int32), σ18)) else (some ((1 : Int32), σ18))))))))) else (bi (Pa_misfit F (si σ 106 (nI (k + 1)))) (fun r22 σ21 => gd (isB r22) (some (r22, σ21))))) := by
    have g505 : gi (si σ 106 (nI (k + 1))) 505 = nI M := hC1.2.2.2.2.2.2.1
    rw [Pa_parseTold, s1, bv_some, c_sort hT hC1, bi_some, g505]
    rfl
  by_cases hn : tkS B n (k + 1) = 2
  · have h01 : tkS B n (k + 1) ≠ 0 := by rw [hn]; decide
    have h11 : tkS B n (k + 1) ≠ 1 := by rw [hn]; decide
    have hk1 := tEnd_s hT hC1.2.1 h11
    have h81 : gi τ1 8 = 0 := (hM1.2.2.1.2.2.2.1 h01).1
    have g4 : gi τ1 4 = 1 := by rw [hM1.2.2.1.2.1, hn]; decide
    have hwn := (m_wantName (F := F) h81 1).1 g4
    have g6 : gl τ1 6 = tkN B n (k + 1) := hM1.2.2.1.2.2.2.2.1 (by rw [hn]; decide)
    have g5 : gi τ1 5 = nI (tkP B n (k + 1)) := hM1.2.2.1.1
    obtain ⟨hJ1, hL1, hs1, ha1, hW1, f1, f2⟩ := X1.1
    obtain ⟨jC1, jM1, jme1, js1, jN1, ja1⟩ := hJ1
    obtain ⟨m1, m2, m3, m31, m17, m16, m23, m18⟩ := jM1
    obtain ⟨w62, w306, w48, w49, wR1, wRS, wall⟩ := hW1
    have hbn1 := X1.2.1
    obtain ⟨hM6, hmb2⟩ := mB_add hB hbn1.1 (Or.inl hn)
    -- the class's mention
    obtain ⟨σ2, a1, C2, fc2, me2, ic2⟩ := c_meadd (F := F) hT jC1 hM6 4 (-1)
    obtain ⟨a3, C3, fc3⟩ := c_step (F := F) hT C2 h11
    -- the reference's
    have hc4 : c4 (si σ 106 (nI (k + 1))) M = c4 σ M := c4_fr M (fun i _ => by simp [zs])
    obtain ⟨W, hW⟩ : ∃ W, W = c4 (si σ 106 (nI (k + 1))) M := ⟨_, rfl⟩
    have hW3 : W < 300 := by
      have b1 := hbn.2.2
      have b2 := tkP_add (k := k) hT 1 (by omega)
      have b3 := tkP_le B n (k + 1)
      have := hB.1
      omega
    rw [← hW] at w62
    obtain ⟨τ2, et2⟩ : ∃ τ2, τ2 = si (sa (sa (sa (sa (sa (sb (sa (si τ1 32 (-1)) 10 M 4) 11 M (tkN B n (k + 1))) 12 M (nI (tkP B n (k + 1)))) 13 M (-1)) 14 M (-1)) 15 M 1) 16 M 0) 31 (nI (M + 1)) := ⟨_, rfl⟩
    have nar : vp_nar .boolean (1 : Int32) = 1 := by decide
    have htell : Md_tell F (si τ1 32 (-1)) 4 (-1) = some τ2 := by
      have q31 : gi (si τ1 32 (-1)) 31 = nI M := by simp [zs, m31]
      have q6 : gl (si τ1 32 (-1)) 6 = tkN B n (k + 1) := by simp [zs, g6]
      have q5 : gi (si τ1 32 (-1)) 5 = nI (tkP B n (k + 1)) := by simp [zs, g5]
      have q32 : gi (si τ1 32 (-1)) 32 = -1 := by simp [zs]
      rw [Md_tell, q31, gd_t (inb_nI (by omega) (by omega)), nI_clamp (by omega), q6, q5, q32, nar, nI_1, et2]
    obtain ⟨τ3, et3⟩ : ∃ τ3, τ3 = sa (sb τ2 42 W (tkN B n (k + 1))) 43 W (nI (tkP B n (k + 1))) := ⟨_, rfl⟩
    have z3i : ∀ j, j ≠ 31 → j ≠ 32 → gi τ3 j = gi τ1 j := fun j j1 j2 => by rw [et3, et2]; simp [zs, j1, j2]
    have z3l : ∀ j, gl τ3 j = gl τ1 j := fun j => by rw [et3, et2]; simp [zs]
    obtain ⟨τ4, e4, fr4, cu4⟩ := m_next (F := F) (k := k + 1) hB hF (τ := τ3) (by rw [et3, et2]; simp [zs, m1]) (by rw [z3i 2 (by decide) (by decide), m2]) (by rw [z3i 8 (by decide) (by decide), h81]) (by rw [z3i 3 (by decide) (by decide)]; exact (m3.2.2.2.1 h01).2)
    have hrd2 : Md_readDecl F τ = bv (bv (Md_want F τ4 (1001 : Int32)) (fun σ6 => if (gi σ6 8) = 0 then (bi (Md_readKind F σ6) (fun r10 σ9 => gd (inb (gi σ6 62) 300) (Md_readWish_68 F (sa σ9 44 (gi σ6 62).toNatClampNeg r10)))) else (Md_readWish_68 F σ6))) (fun σ22 => some σ22) := by
      have q62 : gi τ2 62 = nI W := by rw [et2]; simp [zs, w62]
      have q6 : gl τ2 6 = tkN B n (k + 1) := by rw [et2]; simp [zs, g6]
      have q5 : gi τ2 5 = nI (tkP B n (k + 1)) := by rw [et2]; simp [zs, g5]
      rw [hrd, hwn, bi_some, if_neg (by decide), Md_readWish, htell, bv_some, q62, gd_t (inb_nI hW3 (by omega)), nI_clamp (by omega), q6, q5, ← et3, e4, bv_some]
    -- what has changed in the reference up to here
    obtain ⟨fa1, fa2, fa3, fa4, fa5⟩ := fr4
    have z4i : ∀ j, j ≠ 31 → j ≠ 32 → j ≠ 3 → j ≠ 4 → j ≠ 5 → j ≠ 7 → j ≠ 8 → j ≠ 9 → gi τ4 j = gi τ1 j := fun j j1 j2 j3 j4 j5 j6 j7 j8 => by rw [fa1 j j3 j4 j5 j6 j7 j8, z3i j j1 j2]
    have z4a : ∀ j i, (10 ≤ j ∧ j ≤ 16 → i < M) → (j = 43 → i < W) → ga τ4 j i = ga τ1 j i := by
      intro j i q1 q2
      rw [fa2, et3, et2]
      simp only [at_sa, at_sb, at_si]
      rw [if_neg (by omega), if_neg (by omega), if_neg (by omega), if_neg (by omega), if_neg (by omega), if_neg (by omega), if_neg (by omega)]
    have z4b : ∀ j i, (j = 11 → i < M) → (j = 42 → i < W) → gb τ4 j i = gb τ1 j i := by
      intro j i q1 q2
      rw [fa4, et3, et2]
      simp only [at_sa, at_sb, at_si]
      rw [if_neg (by omega), if_neg (by omega)]
    have frt14 : frTM τ1 τ4 := by
      refine ⟨fun j hj => ?_, fun j hj => ?_, fun j hj => ?_, fun j q1 q2 q3 q4 q5 => ?_, fun z => absurd h81 z, fun z => ?_⟩
      · unfold exMi at hj; exact z4i j (by omega) (by omega) (by omega) (by omega) (by omega) (by omega) (by omega) (by omega)
      · unfold exMa at hj; funext i; exact z4a j i (by omega) (by omega)
      · rw [fa3 j hj, z3l]
      · funext i; exact z4b j i (by omega) (by omega)
      · rw [fa5 z, z3i 9 (by decide) (by decide)]
    have c231 : frC 10 M s (si σ 106 (nI (k + 1))) (si σ2 106 (nI (k + 2))) := frC_tr fc2 fc3 (by omega) (Nat.le_refl _)
    have frt03 : frTC σ0 (si σ2 106 (nI (k + 2))) := frTC_tr f1 (frTC_C c231)
    have hclB : Pa_parseTold F σ = bi (Pa_expect F (si σ2 106 (nI (k + 2))) (58 : Int32)) (fun r12 σ11 => if r12 = 0 then (some ((0 : Int32), σ11)) else (bi (Pa_parseKind F 12 σ11 (0 : Int32)) (fun r16 σ15 => bv (Me_setValue F σ15 (nI M) r16) (fun σ18 => if r16 < 0 then (some ((0 : Int32), σ18)) else (some ((1 : Int32), σ18)))))) := by
      rw [hpt, if_pos hn, a1, bv_some, a3, bv_some]
    have mkFS : ∀ (τx : zS) (f : Int32) (p : Nat), gi τx 8 = f → gi τx 9 = nI p → frTM τ4 τx → gi τx 23 = gi τ4 23 → gi τx 16 = gi τ4 16 → (∃ R', R' ≤ 500 ∧ gi τx 48 = nI R') → FS τ0 (si τx 62 (gi τx 62 + 1)) f p := by
      intro τx f p q1 q2 q3 q4 q5 q6
      obtain ⟨R', r1, r2⟩ := q6
      refine ⟨by simp [zs, q1], by simp [zs, q2], frTM_tr f2 (frTM_tr frt14 (frTM_tr q3 ⟨fun j hj => ?_, fun j _ => by simp [zs], fun j _ => by simp [zs], fun j _ _ _ _ _ => by simp [zs], fun _ => ⟨by simp [zs], by simp [zs]⟩, fun _ => by simp [zs]⟩)), ⟨a, by omega, ?_⟩, ⟨N, by omega, ?_⟩, R', r1, by simp [zs, r2]⟩
      · unfold exMi at hj
        have j1 : j ≠ 62 := by omega
        simp [zs, j1]
      · simp only [zs]; rw [if_neg (by decide), q4, z4i 23 (by decide) (by decide) (by decide) (by decide) (by decide) (by decide) (by decide) (by decide), m23]
      · simp only [zs]; rw [if_neg (by decide), q5, z4i 16 (by decide) (by decide) (by decide) (by decide) (by decide) (by decide) (by decide) (by decide), m16]
    have w48' : gi τ4 48 = nI R := by rw [z4i 48 (by decide) (by decide) (by decide) (by decide) (by decide) (by decide) (by decide) (by decide), w48]
    by_cases h02 : tkS B n (k + 2) = 0
    · -- the token behind the name is bad
      have hcu := cu4.2.2.1 h02
      obtain ⟨σ4, x1, x2, x3, x4⟩ := c_expect0 (F := F) hT C3 (x := 58) (by rw [h02]; decide)
      refine ⟨0, σ4, by rw [hclB, x1, bi_some, if_pos rfl], Or.inl ⟨1, tkP B n (k + 2), _, Or.inl rfl, Or.inl ⟨rfl, x2, x3, frTC_tr frt03 (frTC_C x4)⟩, ?_, mkFS τ4 1 _ hcu.1 hcu.2 (frTM_rfl τ4) rfl rfl ⟨R, by omega, w48'⟩⟩⟩
      rw [hrd2, fs_want (by rw [hcu.1]; decide), bv_some, if_neg (by rw [hcu.1]; decide), Md_readWish_68, bv_some]
    · have sg := k_sign (F := F) hB cu4 h02 (y := 58) (by omega) (by omega)
      rw [show sgM (nI 58) = 1001 by decide, show nI 58 = (58 : Int32) from rfl] at sg
      have h84 : gi τ4 8 = 0 := (cu4.2.2.2.1 h02).1
      have h54 : gi τ4 5 = nI (tkP B n (k + 2)) := cu4.1
      by_cases h58 : tkS B n (k + 2) = 58
      · have h12 : tkS B n (k + 2) ≠ 1 := by rw [h58]; decide
        have hk2 := tEnd_s hT C3.2.1 h12
        have x1 := c_expect1 (F := F) hT C3 h58 (by decide)
        obtain ⟨_, C4, fc4⟩ := c_step (F := F) hT C3 h12
        obtain ⟨τ5, e5, fr5, cu5⟩ := m_next (F := F) (k := k + 2) hB hF (τ := τ4) (by funext i; rw [z4a 1 i (by omega) (by omega), m1]) (by rw [z4i 2 (by decide) (by decide) (by decide) (by decide) (by decide) (by decide) (by decide) (by decide), m2]) h84 (cu4.2.2.2.1 h02).2
        have hwant : Md_want F τ4 1001 = some τ5 := by
          rw [Md_want, sg.1 h58, bi_some, if_neg (by decide), e5, bv_some, Md_want_19]
        have fm45 := frM_N 0 N a (M + 1) h84 fr5
        obtain ⟨fb1, fb2, fb3, fb4, fb5⟩ := fr5
        have z5i : ∀ j, j ≠ 31 → j ≠ 32 → j ≠ 3 → j ≠ 4 → j ≠ 5 → j ≠ 7 → j ≠ 8 → j ≠ 9 → gi τ5 j = gi τ1 j := fun j j1 j2 j3 j4 j5 j6 j7 j8 => by rw [fb1 j j3 j4 j5 j6 j7 j8, z4i j j1 j2 j3 j4 j5 j6 j7 j8]
        have hrd3 : Md_readDecl F τ = bv (if (gi τ5 8) = 0 then (bi (Md_readKind F τ5) (fun r10 σ9 => gd (inb (gi τ5 62) 300) (Md_readWish_68 F (sa σ9 44 (gi τ5 62).toNatClampNeg r10)))) else (Md_readWish_68 F τ5)) (fun σ22 => some σ22) := by
          rw [hrd2, hwant, bv_some]
        have hclC : Pa_parseTold F σ = bi (Pa_parseKind F 12 (si (si σ2 106 (nI (k + 2))) 106 (nI (k + 3))) (0 : Int32)) (fun r16 σ15 => bv (Me_setValue F σ15 (nI M) r16) (fun σ18 => if r16 < 0 then (some ((0 : Int32), σ18)) else (some ((1 : Int32), σ18)))) := by
          rw [hclB, x1, bi_some, if_neg (by decide)]
        have frt04 : frTC σ0 (si (si σ2 106 (nI (k + 2))) 106 (nI (k + 3))) := frTC_tr frt03 (frTC_C fc4)
        have w485 : gi τ5 48 = nI R := by rw [z5i 48 (by decide) (by decide) (by decide) (by decide) (by decide) (by decide) (by decide) (by decide), w48]
        have w625 : gi τ5 62 = nI W := by rw [z5i 62 (by decide) (by decide) (by decide) (by decide) (by decide) (by decide) (by decide) (by decide), w62]
        by_cases h03 : tkS B n (k + 3) = 0
        · have hcu := cu5.2.2.1 h03
          obtain ⟨σ5, y1, y2, y3, y5, y4⟩ := kd_bad (F := F) hT hF 11 0 _ (k + 3) C4 (by rw [h03]; decide) (by rw [h03]; decide)
          have h505 : gi σ5 505 = nI (M + 1) := by
            rw [(y4 0).1 505 (by decide) (by decide) (by decide) (by decide)]; exact C4.2.2.2.2.2.2.1
          have hsv : Me_setValue F σ5 (nI M) (-1) = some (sa σ5 47 M (-1)) := by
            rw [Me_setValue, h505, if_neg (nI_ge (by omega) (by omega)), gd_t (inb_nI (by omega) (by omega)), nI_clamp (by omega), Me_setValue_15]
          refine ⟨0, sa σ5 47 M (-1), by rw [hclC, y1, bi_some, hsv, bv_some, if_pos (by decide)], Or.inl ⟨1, tkP B n (k + 3), _, Or.inl rfl, Or.inl ⟨rfl, by simp [zs, y2], by simp [zs, y3], frTC_tr frt04 (frTC_tr (frTC_K (y4 S)) ⟨fun j _ => by simp [zs], fun j hj => ?_, fun j => by simp [zs], fun j _ _ _ => by simp [zs], fun j => by simp [zs], fun j _ _ => by simp [zs], fun j _ => by simp [zs], fun j _ => by simp [zs]⟩)⟩, ?_, mkFS τ5 1 _ hcu.1 hcu.2 (frTM_M fm45) (fb1 23 (by decide) (by decide) (by decide) (by decide) (by decide) (by decide)) (fb1 16 (by decide) (by decide) (by decide) (by decide) (by decide) (by decide)) ⟨R, by omega, w485⟩⟩⟩
          · unfold exTa at hj
            have j1 : j ≠ 47 := by omega
            simp [zs, j1]
          · rw [hrd3, if_neg (by rw [hcu.1]; decide), Md_readWish_68, bv_some]
        · have hk3 := C4.2.1
          have hb3 : 3 * S ≤ tkP B n (k + 3) + 3 := by
            have b1 := hbn.2.1
            have b2 := tkP_add (k := k) hT 3 (by omega)
            omega
          have h85 : gi τ5 8 = 0 := (cu5.2.2.2.1 h03).1
          have S4 : gi (si (si σ2 106 (nI (k + 2))) 106 (nI (k + 3))) 306 = nI S := by
            simp only [zs]; rw [if_neg (by decide), if_neg (by decide), ic2 306 (by decide)]; exact w306
          obtain ⟨r, σ5, y1, y2, y3⟩ := rd_kind (F := F) hT hF C4 S4 (τ := τ5) (by rw [fb2]; funext i; rw [z4a 1 i (by omega) (by omega), m1]) (by rw [z5i 2 (by decide) (by decide) (by decide) (by decide) (by decide) (by decide) (by decide) (by decide), m2]) cu5 w485 (by rw [z5i 18 (by decide) (by decide) (by decide) (by decide) (by decide) (by decide) (by decide) (by decide), m18]) (by rw [z5i 49 (by decide) (by decide) (by decide) (by decide) (by decide) (by decide) (by decide) (by decide), w49]) h03 hb3 wR1 wRS
          have h505 : gi σ5 505 = nI (M + 1) := by
            rw [y2.1 505 (by decide) (by decide) (by decide) (by decide)]; exact C4.2.2.2.2.2.2.1
          have hsv : ∀ x : Int32, Me_setValue F σ5 (nI M) x = some (sa σ5 47 M x) := by
            intro x
            rw [Me_setValue, h505, if_neg (nI_ge (by omega) (by omega)), gd_t (inb_nI (by omega) (by omega)), nI_clamp (by omega), Me_setValue_15]
          have frv : ∀ x : Int32, frTC σ5 (sa σ5 47 M x) := by
            intro x
            refine ⟨fun j _ => by simp [zs], fun j hj => ?_, fun j => by simp [zs], fun j _ _ _ => by simp [zs], fun j => by simp [zs], fun j _ _ => by simp [zs], fun j _ => by simp [zs], fun j _ => by simp [zs]⟩
            unfold exTa at hj
            have j1 : j ≠ 47 := by omega
            simp [zs, j1]
          have hclD : Pa_parseTold F σ = if r < 0 then some ((0 : Int32), sa σ5 47 M r) else some ((1 : Int32), sa σ5 47 M r) := by
            rw [hclC, y1, bi_some, hsv, bv_some]
          have hrd4 : ∀ (z : Int32) (τx : zS), Md_readKind F τ5 = some (z, τx) → Md_readDecl F τ = some (si (sa τx 44 W z) 62 (gi τx 62 + 1)) := by
            intro z τx hz
            rw [hrd3, if_pos h85, hz, bi_some, w625, gd_t (inb_nI hW3 (by omega)), nI_clamp (by omega), Md_readWish_68, bv_some]
            simp only [zs]
          rcases y3 with ⟨⟨S', _, _⟩, f, p, τ6, u1, u2, u3, u4, u5, u6, u7⟩ | ⟨k', S', R', T, x, z, τ6, u1, u2, u3, u4, u5, u6, u7, u8, u9, u10, u11, u12, u13, u14, u15, u16, u17, u18⟩
          · have hFS : FS τ0 (si (sa τ6 44 W 0) 62 (gi τ6 62 + 1)) f p := by
              have w := mkFS τ6 f p u4 u5 (frTM_tr (frTM_M fm45) (frTM_K u3)) (by rw [u3.1 23 (by unfold exK; omega), fb1 23 (by decide) (by decide) (by decide) (by decide) (by decide) (by decide)]) (by rw [u3.1 16 (by unfold exK; omega), fb1 16 (by decide) (by decide) (by decide) (by decide) (by decide) (by decide)]) u6
              obtain ⟨w1, w2, w3, ⟨a', w4, w5⟩, ⟨N2, w6, w7⟩, R', w8, w9⟩ := w
              refine ⟨by simpa [zs] using w1, by simpa [zs] using w2, frTM_tr w3 ⟨fun j hj => ?_, fun j hj => ?_, fun j _ => by simp [zs], fun j _ _ _ _ _ => by simp [zs], fun _ => ⟨by simp [zs], by simp [zs]⟩, fun _ => by simp [zs]⟩, ⟨a', w4, by simpa [zs] using w5⟩, ⟨N2, w6, by simpa [zs] using w7⟩, R', w8, by simpa [zs] using w9⟩
              · simp only [zs]
              · unfold exMa at hj
                have j1 : j ≠ 44 := by omega
                simp [zs, j1]
            rcases u2 with ⟨d1, d2, d3⟩ | ⟨⟨x, hx, d1⟩, d2, kb, dC, dS, dp⟩
            · subst d1
              exact ⟨0, _, by rw [hclD, if_pos (by decide)], Or.inl ⟨f, p, _, u1, Or.inl ⟨rfl, by simp [zs, d2], by simp [zs, d3], frTC_tr frt04 (frTC_tr (frTC_K y2) (frv _))⟩, hrd4 0 τ6 u7, hFS⟩⟩
            · subst d1 d2
              have dC' : cS B n c 10 (sa σ5 47 M (nI x)) kb (M + 1) s := by
                obtain ⟨c1, c2, c3, c4', c5, c6, c7, c8⟩ := dC
                exact ⟨by simp [zs, c1], c2, by simp [zs, c3], by simpa [zs] using c4', by simp [zs, c5], by simp [zs, c6], by simp [zs, c7], by simp [zs, c8]⟩
              exact ⟨1, _, by rw [hclD, if_neg (nI_pos (by omega))], Or.inl ⟨1, p, _, u1, Or.inr ⟨rfl, rfl, frTC_tr frt04 (frTC_tr (frTC_K y2) (frv _)), kb, M + 1, s, dC', dS, dp⟩, hrd4 0 τ6 u7, hFS⟩⟩
          · subst u1
            refine ⟨1, sa σ5 47 M (nI x), by rw [hclD, if_neg (nI_pos (by omega))], Or.inr ⟨rfl, k', S', R', si (sa τ6 44 W (nI z)) 62 (gi τ6 62 + 1), by omega, hrd4 (nI z) τ6 u18, ?_⟩⟩
            obtain ⟨τ7, e7⟩ : ∃ τ7, τ7 = si (sa τ6 44 W (nI z)) 62 (gi τ6 62 + 1) := ⟨_, rfl⟩
            obtain ⟨σ6, e6⟩ : ∃ σ6, σ6 = sa σ5 47 M (nI x) := ⟨_, rfl⟩
            rw [← e7, ← e6]
            -- the class from the step at k + 1 on
            have cA : ∀ j i, (j = 23 ∨ j = 25 → i < S) → (j = 24 → i < S) → (43 ≤ j ∧ j ≤ 47 → i < M) → ga σ6 j i = ga σ j i := by
              intro j i q1 q2 q3
              rw [e6]
              simp only [at_sa]
              rw [if_neg (by omega), y2.2.1 j i q1 (fun w => ⟨q2 w, nI_m1 i (by have := q2 w; omega)⟩)]
              simp only [zs]
              rw [fc2.2.1 j i (by omega)]
              simp only [zs]
            have cB : ∀ j i, (j = 44 → i < M) → gb σ6 j i = gb σ j i := by
              intro j i q1
              rw [e6]
              simp only [at_sa]
              rw [y2.2.2.2.1 j]
              simp only [zs]
              rw [fc2.2.2.2.1 j i (by omega)]
              simp only [zs]
            have cI : ∀ j, j ≠ 106 → j ≠ 306 → j ≠ 505 → j ≠ 200 → j ≠ 201 → gi σ6 j = gi σ j := by
              intro j q1 q2 q3 q4 q5
              rw [e6]
              simp only [zs]
              rw [y2.1 j q1 q2 q4 q5]
              simp only [zs]
              rw [if_neg q1, if_neg q1, ic2 j q3]
              simp only [zs]
              rw [if_neg q1]
            have cm : (∀ j, mi σ6 j = mi σ j) ∧ (∀ j, ma σ6 j = ma σ j) ∧ (∀ j, mb σ6 j = mb σ j) := by
              refine ⟨fun j => ?_, fun j => ?_, fun j => ?_⟩
              · rw [e6]; simp only [zs]; rw [y2.2.2.2.2.2.1]; simp only [zs]
                by_cases w : j = 100 * 10 + 4
                · have w1 := C2.2.2.2.2.2.1
                  have w2 := h.1.1.1.2.2.2.2.2.1
                  rw [w, w1, w2]
                · rw [fc2.2.2.2.2.2.1 j w]; simp only [zs]
              · have hma : Me_add F (si σ 106 (nI (k + 1))) 4 (-1) = some σ2 := a1
                rw [e6]; simp only [zs]; rw [y2.2.2.2.2.2.2.1]; simp only [zs]
                exact (meadd_m hT jC1 hM6 a1).1 j
              · rw [e6]; simp only [zs]; rw [y2.2.2.2.2.2.2.2]; simp only [zs]
                exact (meadd_m hT jC1 hM6 a1).2 j
            have tA : ∀ j i, (10 ≤ j ∧ j ≤ 16 → i < M) → (j = 43 ∨ j = 44 → i < W) → (26 ≤ j ∧ j ≤ 29 → i < R) → j ≠ 31 → j ≠ 32 → ga τ7 j i = ga τ j i := by
              intro j i q1 q2 q3 q4 q5
              rw [e7]
              simp only [at_sa, at_si]
              rw [if_neg (by omega), u17.2.1 j i ⟨by omega, fun w => ⟨q3 (by omega), nI_m1 i (by have := q3 (by omega); omega)⟩, by omega⟩, fb2, z4a j i q1 (by omega), fr1.2.1]
            have tB : ∀ j i, (j = 11 → i < M) → (j = 42 → i < W) → gb τ7 j i = gb τ j i := by
              intro j i q1 q2
              rw [e7]
              simp only [at_sa, at_si]
              rw [u17.2.2.2.1 j, fb4, z4b j i q1 q2, fr1.2.2.2.1]
            have tI : ∀ j, j ≠ 3 → j ≠ 4 → j ≠ 5 → j ≠ 7 → j ≠ 8 → j ≠ 9 → j ≠ 18 → j ≠ 31 → j ≠ 32 → j ≠ 42 → j ≠ 48 → j ≠ 62 → gi τ7 j = gi τ j := by
              intro j q1 q2 q3 q4 q5 q6 q7 q8 q9 q10 q11 q12
              rw [e7]
              simp only [zs]
              rw [if_neg q12, u17.1 j (by unfold exK; omega), z5i j q8 q9 q1 q2 q3 q4 q5 q6, fr1.1 j q1 q2 q3 q4 q5 q6]
            have t31 : gi τ7 31 = nI (M + 1) := by
              rw [e7]; simp only [zs]
              rw [if_neg (by decide), u17.1 31 (by unfold exK; omega), fb1 31 (by decide) (by decide) (by decide) (by decide) (by decide) (by decide), fa1 31 (by decide) (by decide) (by decide) (by decide) (by decide) (by decide), et3, et2]
              simp [zs]
            have t62 : gi τ7 62 = nI (W + 1) := by
              rw [e7]; simp only [zs]
              rw [if_pos trivial, u17.1 62 (by unfold exK; omega), w625, nI_1]
            have cM43 : ga σ6 43 M = 4 ∧ gb σ6 44 M = tkN B n (k + 1) ∧ ga σ6 45 M = nI (tkP B n (k + 1)) ∧ ga σ6 46 M = -1 := by
              obtain ⟨g1, g2, g3, g4, g5⟩ := me2
              rw [e6]
              simp only [at_sa]
              rw [if_neg (by omega), if_neg (by omega), if_neg (by omega), y2.2.1 43 M (by omega) (by omega), y2.2.2.2.1 44, y2.2.1 45 M (by omega) (by omega), y2.2.1 46 M (by omega) (by omega)]
              simp only [zs]
              exact ⟨g1, g2, g3, g4⟩
            have tM : ga τ7 10 M = 4 ∧ gb τ7 11 M = tkN B n (k + 1) ∧ ga τ7 12 M = nI (tkP B n (k + 1)) ∧ ga τ7 13 M = -1 := by
              rw [e7]
              simp only [at_sa, at_si]
              rw [if_neg (by omega), if_neg (by omega), if_neg (by omega), u17.2.1 10 M (by unfold okK; omega), u17.2.2.2.1 11, u17.2.1 12 M (by unfold okK; omega), u17.2.1 13 M (by unfold okK; omega), fb2, fb4, fb2, fb2, fa2, fa4, fa2, fa2, et3, et2]
              simp [at_sa, at_sb, at_si]
            have tW : gb τ7 42 W = tkN B n (k + 1) ∧ ga τ7 43 W = nI (tkP B n (k + 1)) ∧ ga τ7 44 W = nI z := by
              rw [e7]
              simp only [at_sa, at_si]
              rw [if_neg (by omega), u17.2.2.2.1 42, u17.2.1 43 W (by unfold okK; omega), fb4, fb2, fa4, fa2, et3]
              simp [at_sa, at_sb, at_si]
            obtain ⟨⟨hJ, hL, hs, ha, hWK, g1, g2⟩, hbn', hDC⟩ := h
            obtain ⟨jC, jM, jme, js, jN, ja⟩ := hJ
            obtain ⟨n1, n2, n3, n31, n17, n16, n23, n18⟩ := jM
            obtain ⟨v62, v306, v48, v49, vR1, vRS, vall⟩ := hWK
            have ec : ∀ i, i ≤ M → c4 σ6 i = c4 σ i := fun i hi => c4_fr i (fun j hj => cA 43 j (by omega) (by omega) (by omega))
            have ecM : c4 σ6 (M + 1) = W + 1 := by
              show c4 σ6 M + (if ga σ6 43 M = 4 then 1 else 0) = _
              rw [if_pos cM43.1, ec M (Nat.le_refl _), hW, hc4]
            have hc4W : c4 σ M = W := by rw [hW, hc4]
            have frT67 : frTC σ0 σ6 := by rw [e6]; exact frTC_tr frt04 (frTC_tr (frTC_K y2) (frv _))
            have frT7 : frTM τ0 τ7 := by
              refine frTM_tr f2 (frTM_tr frt14 (frTM_tr (frTM_M fm45) (frTM_tr (frTM_K u17) ?_)))
              rw [e7]
              refine ⟨fun j hj => ?_, fun j hj => ?_, fun j _ => by simp [zs], fun j _ _ _ _ _ => by simp [zs], fun _ => ⟨by simp [zs], by simp [zs]⟩, fun _ => by simp [zs]⟩
              · unfold exMi at hj
                have j1 : j ≠ 62 := by omega
                simp [zs, j1]
              · unfold exMa at hj
                have j1 : j ≠ 44 := by omega
                simp [zs, j1]
            have q33 : ∀ i, ga τ7 33 i = ga τ 33 i := fun i => tA 33 i (by omega) (by omega) (by omega) (by decide) (by decide)
            have hkk : k + 4 ≤ k' := by omega
            have htk := tkP_add (k := k) hT (k' - k) (by omega)
            rw [show k + (k' - k) = k' by omega] at htk
            refine ⟨⟨⟨⟨?_, ⟨?_, ?_, ?_, t31, ?_, ?_, ?_, ?_⟩, fun i hi => ?_, js, jN, ja⟩, ⟨?_, ?_, ?_, hL.2.2.2⟩, hs, ha, ⟨by rw [t62, ecM], ?_, ?_, ?_, by omega, u16, fun i hi h4 => ?_⟩, frT67, frT7⟩, ⟨?_, u12, ?_⟩, ⟨?_, ?_, hDC.2.2.1, fun i hi => ?_⟩⟩, fun i hi => ?_, ⟨?_, ?_⟩, fun i hi hz => ?_, fun i hi => ?_, u11⟩
            · obtain ⟨c1, c2, c3, c4', c5, c6, c7, c8⟩ := u5
              rw [e6]
              exact ⟨by simp [zs, c1], c2, by simp [zs, c3], by simpa [zs] using c4', by simp [zs, c5], by simp [zs, c6], by simp [zs, c7], by simp [zs, c8]⟩
            · rw [← n1]; funext i; exact tA 1 i (by omega) (by omega) (by omega) (by decide) (by decide)
            · rw [tI 2 (by decide) (by decide) (by decide) (by decide) (by decide) (by decide) (by decide) (by decide) (by decide) (by decide) (by decide) (by decide), n2]
            · rw [e7]; exact curT_of u8 (by simp [zs]) (by simp [zs]) (by simp [zs]) (by simp [zs]) (by simp [zs]) (by simp [zs]) (by simp [zs])
            · rw [tI 17 (by decide) (by decide) (by decide) (by decide) (by decide) (by decide) (by decide) (by decide) (by decide) (by decide) (by decide) (by decide), n17]
            · rw [tI 16 (by decide) (by decide) (by decide) (by decide) (by decide) (by decide) (by decide) (by decide) (by decide) (by decide) (by decide) (by decide), n16]
            · rw [tI 23 (by decide) (by decide) (by decide) (by decide) (by decide) (by decide) (by decide) (by decide) (by decide) (by decide) (by decide) (by decide), n23]
            · rw [e7]; simp [zs, u9]
            · rcases Nat.lt_or_ge i M with w | w
              · have q := jme i w
                unfold meR at q ⊢
                rw [cA 43 i (by omega) (by omega) (by omega), cB 44 i (by omega), cA 45 i (by omega) (by omega) (by omega), cA 46 i (by omega) (by omega) (by omega), cA 47 i (by omega) (by omega) (by omega), tA 10 i (by omega) (by omega) (by omega) (by decide) (by decide), tB 11 i (by omega) (by omega), tA 12 i (by omega) (by omega) (by omega) (by decide) (by decide), tA 13 i (by omega) (by omega) (by omega) (by decide) (by decide), tA 15 i (by omega) (by omega) (by omega) (by decide) (by decide), tA 16 i (by omega) (by omega) (by omega) (by decide) (by decide)]
                exact q
              · have : i = M := by omega
                subst this
                unfold meR
                rw [cM43.1, cM43.2.1, cM43.2.2.1, cM43.2.2.2, tM.1, tM.2.1, tM.2.2.1, tM.2.2.2]
                exact ⟨rfl, rfl, by decide, Or.inl rfl, fun w => absurd w (by decide)⟩
            · refine ⟨by rw [cm.1]; exact hL.1.1, fun i hi h4 => ?_⟩
              rcases Nat.lt_or_ge i M with w | w
              · rw [cA 43 i (by omega) (by omega) (by omega)] at h4
                rw [cA 46 i (by omega) (by omega) (by omega)]
                exact hL.1.2 i w h4
              · have : i = M := by omega
                subst this
                exact absurd cM43.1 h4
            · exact cTL_fr (Nat.le_succ _) TL 0 0 (fun i _ => ⟨by rw [cm.2.1], by rw [cm.2.1]⟩) (fun i _ => ⟨by rw [cm.2.1], by rw [cm.2.2], by rw [cm.2.1], by rw [cm.2.1]⟩) (fun i hi => ⟨cA 43 i (by omega) (by omega) (by omega), cB 44 i (by omega), cA 46 i (by omega) (by omega) (by omega), cA 47 i (by omega) (by omega) (by omega)⟩) hL.2.1
            · exact mTL_fr (Nat.le_refl _) (fun i _ => ⟨q33 i, tA 41 i (by omega) (by omega) (by omega) (by decide) (by decide)⟩) (fun i _ => ⟨tA 2 i (by omega) (by omega) (by omega) (by decide) (by decide), tB 3 i (by omega) (by omega), tA 4 i (by omega) (by omega) (by omega) (by decide) (by decide), tA 5 i (by omega) (by omega) (by omega) (by decide) (by decide)⟩) TL 0 0 0 hL.2.2.2 (fun i _ => ⟨tA 7 i (by omega) (by omega) (by omega) (by decide) (by decide), tA 8 i (by omega) (by omega) (by omega) (by decide) (by decide), tA 9 i (by omega) (by omega) (by omega) (by decide) (by decide)⟩) hL.2.2.1
            · rw [e6]; simp [zs, u6]
            · rw [e7]; simp [zs, u10]
            · rw [tI 49 (by decide) (by decide) (by decide) (by decide) (by decide) (by decide) (by decide) (by decide) (by decide) (by decide) (by decide) (by decide), v49]
            · rcases Nat.lt_or_ge i M with w | w
              · rw [ec i (by omega)]
                rw [cA 43 i (by omega) (by omega) (by omega)] at h4
                have hlt := c4_lt M i w h4
                refine wiR_fr (vall i w h4) (cB 44 i (by omega)) (cA 45 i (by omega) (by omega) (by omega)) (cA 47 i (by omega) (by omega) (by omega)) (tB 42 _ (by omega) (by omega)) (tA 43 _ (by omega) (by omega) (by omega) (by decide) (by decide)) (tA 44 _ (by omega) (by omega) (by omega) (by decide) (by decide)) u7 u15 (fun i hi => ⟨cA 23 i (by omega) (by omega) (by omega), cA 24 i (by omega) (by omega) (by omega), cA 25 i (by omega) (by omega) (by omega)⟩) (fun i hi => ⟨tA 26 i (by omega) (by omega) (by omega) (by decide) (by decide), tA 27 i (by omega) (by omega) (by omega) (by decide) (by decide), tA 28 i (by omega) (by omega) (by omega) (by decide) (by decide), tA 29 i (by omega) (by omega) (by omega) (by decide) (by decide)⟩)
              · have : i = M := by omega
                subst this
                rw [ec i (Nat.le_refl _), hc4W]
                refine ⟨by rw [tW.1, cM43.2.1], by rw [tW.2.1, cM43.2.2.1], T, x, z, by rw [e6]; simp [at_sa], tW.2.2, ?_, ?_⟩
                · exact kdC_mono (σ := σ5) (by omega) (Nat.le_refl _) (fun j _ _ => ⟨by rw [e6]; simp [zs], by rw [e6]; simp [zs], by rw [e6]; simp [zs]⟩) T x u13
                · exact kdM_mono (τ := τ6) (by omega) (Nat.le_refl _) (fun j _ _ => ⟨by rw [e7]; simp [zs], by rw [e7]; simp [zs], by rw [e7]; simp [zs], by rw [e7]; simp [zs]⟩) T z u14
            · have w := mB_mono hT hmb2 (k' - (k + 2)) (by omega)
              rw [show k + 1 + 1 + (k' - (k + 2)) = k' by omega] at w
              exact w
            · rw [ecM]; have := hbn'.2.2; omega
            · rw [cI 400 (by decide) (by decide) (by decide) (by decide) (by decide), hDC.1]
            · rw [tI 52 (by decide) (by decide) (by decide) (by decide) (by decide) (by decide) (by decide) (by decide) (by decide) (by decide) (by decide) (by decide), hDC.2.1]
            · exact dcR_fr (hDC.2.2.2 i hi) (fun j hj => cA j i (by omega) (by omega) (by omega)) (cB 30 i (by omega)) (fun j _ => cB 33 _ (by omega)) (fun j hj => tA j i (by omega) (by omega) (by omega) (by omega) (by omega)) (tB 34 i (by omega) (by omega)) (fun j _ => tB 37 _ (by omega) (by omega))
            · obtain ⟨w1, w2⟩ := hAB i hi
              rw [tA 39 i (by omega) (by omega) (by omega) (by decide) (by decide), tA 40 i (by omega) (by omega) (by omega) (by decide) (by decide)]
              exact ⟨w1, w2⟩
            · rw [tI 66 (by decide) (by decide) (by decide) (by decide) (by decide) (by decide) (by decide) (by decide) (by decide) (by decide) (by decide) (by decide), hmc.1, mcT_fr (τ := τ) (τ' := τ7) (D := D) (fun i _ => q33 i) TL 0 hL.2.2.2]
            · rw [tI 67 (by decide) (by decide) (by decide) (by decide) (by decide) (by decide) (by decide) (by decide) (by decide) (by decide) (by decide) (by decide), hmc.2]
            · rw [q33] at hz
              exact hSY i hi hz
            · rw [cA 29 i (by omega) (by omega) (by omega), cA 32 i (by omega) (by omega) (by omega)]
              exact hCL i hi
      · obtain ⟨σ4, x1, x2, x3, x4⟩ := c_expect0 (F := F) hT C3 (x := 58) h58
        have hwr : Md_wrong F τ4 1 (nI (tkP B n (k + 2))) = some (si (si τ4 8 1) 9 (nI (tkP B n (k + 2)))) := by
          rw [Md_wrong, if_pos h84, Md_wrong_17]
        have hwant : Md_want F τ4 1001 = some (si (si τ4 8 1) 9 (nI (tkP B n (k + 2)))) := by
          rw [Md_want, sg.2 h58, bi_some, if_pos rfl, Md_cannot, h54, hwr, bv_some, bv_some, Md_want_19]
        have n8 : ¬ gi (si (si τ4 8 1) 9 (nI (tkP B n (k + 2)))) 8 = 0 := by simp [zs]
        refine ⟨0, σ4, by rw [hclB, x1, bi_some, if_pos rfl], Or.inl ⟨1, tkP B n (k + 2), _, Or.inl rfl, Or.inl ⟨rfl, x2, x3, frTC_tr frt03 (frTC_C x4)⟩, ?_, mkFS _ 1 (tkP B n (k + 2)) (by simp [zs]) (by simp [zs]) ⟨fun j hj => ?_, fun j _ => by simp [zs], fun j _ => by simp [zs], fun j _ _ _ _ _ => by simp [zs], fun w => absurd h84 w, fun w => absurd w n8⟩ (by simp [zs]) (by simp [zs]) ⟨R, by omega, by simp [zs, w48']⟩⟩⟩
        · rw [hrd2, hwant, bv_some, if_neg n8, Md_readWish_68, bv_some]
        · unfold exMi at hj
          have j1 : j ≠ 8 := by omega
          have j2 : j ≠ 9 := by omega
          simp [zs, j1, j2]
  · -- no name
    obtain ⟨⟨σ', r1, r2⟩, r3⟩ := TX_raise (F := F) hT X1 1 (by decide)
    have r1' : Pa_misfit F (si σ 106 (nI (k + 1))) = some (0, σ') := r1
    have hcl : Pa_parseTold F σ = some (0, σ') := by
      rw [hpt, if_neg hn, r1', bi_some]
      rfl
    by_cases h01 : tkS B n (k + 1) = 0
    · have hb := TX_bad hT X1 h01
      refine ⟨0, σ', hcl, Or.inl ⟨1, tkP B n (k + 1), τ1, Or.inl rfl, Or.inl ⟨rfl, r2⟩, ?_, hb⟩⟩
      rw [hrd, m_wantName0 (by rw [hb.1]; decide), bi_some, if_pos rfl]
    · obtain ⟨τ', r4, r5, _⟩ := r3 h01
      have h81 : gi τ1 8 = 0 := (hM1.2.2.1.2.2.2.1 h01).1
      have g4 : gi τ1 4 ≠ 1 := by rw [hM1.2.2.1.2.1]; exact fun z => hn ((tokM_big hB).1.mpr z)
      refine ⟨0, σ', hcl, Or.inl ⟨1, tkP B n (k + 1), τ', Or.inl rfl, Or.inl ⟨rfl, r2⟩, ?_, r5⟩⟩
      rw [hrd, (m_wantName (F := F) h81 1).2 g4 τ' r4, bi_some, if_pos rfl]
end T
