/-! read(): the statement. Own text. -/
section R
variable {F : Nat} {σ τ : zS}
theorem read_ok (hF : 20000 ≤ F) {n : Nat} (hB : byt (ga σ 19) n) (hl : gi σ 101 = nI n) (hB2 : ∀ i, i < n → ga σ 19 i = ga τ 1 i) (hl2 : gi τ 2 = nI n) (h25 : ga σ 25 0 = -1) : ∃ r σ' τ', Q_read F σ = some (r, σ') ∧ Md_read F τ = some (r, τ') ∧ kpC σ σ' ∧ kpM τ τ' ∧ gi σ' 101 = 0 ∧ gi τ' 2 = 0 ∧ (RDf σ' τ' r ∨ RDs σ' τ' r) := by
  obtain ⟨σa, τa, c, eC, eM, fC, fM, h307, h412, h10, hcase⟩ := text_ok (F := F) (σ := σ) (τ := si τ 0 0) (n := n) (by omega) hB hl (fun i hi => by rw [hB2 i hi]; simp [zs]) (by simp [zs, hl2])
  have hKI := rd_ki (F := F) h25 eC
  have hKJ : KJ τa := kj_Md_readText F _ _ eM
  have hLI : LI 0 τa := li_readText F _ _ eM
  have hAI : AI τa := ai_readText F _ _ eM
  have hDJ : DJ τa := dj_Md_readText F _ _ eM
  have hDP : DP τa := dp_Md_readText F _ _ eM
  have kC := kpC_R fC
  have kM := kpM_R fM
  obtain ⟨σb, hσb⟩ : ∃ x, x = si σa 101 0 := ⟨_, rfl⟩
  have sb : sx [101] [] σa σb := by rw [hσb]; exact sx_si (sx_rfl _ _ _) (by decide) _
  have kb : kpC σ σb := kpC_tr kC (kpC_sx sb (by decide))
  have b101 : gi σb 101 = 0 := by rw [hσb]; simp [zs]
  have eQ : Q_read F σ = bv (Ch_checkText F σb) (fun σ13 => QR F σ13) := by
    rw [Q_read, hσb]
    exact eC (fun σ11 => bv (Ch_checkText F (si σ11 101 0)) (fun σ13 => QR F σ13))
  have eR : Md_read F τ = if (gi τa 8) = 0 then (bv (Md_lookNames F τa (1 : Int32)) (fun σ4 => Md_read_21 F σ4)) else (Md_read_21 F τa) := by
    rw [Md_read, eM, bv_some]
  have hKJ2 := hKJ
  obtain ⟨R0, r48, _, r4000, r49, _⟩ := hKJ2
  obtain ⟨H0, m1, m2, m3, ⟨m4, m4'⟩, _⟩ := ini_M hKJ r48 r4000
  have hst0 : ∀ w, Sol H0 w → w 0 = iS := fun w hw => by rw [sol_noO m1.2.2.2.1 m2 hw m4, m4']
  have b25 : ga σb 25 0 = -1 := by
    obtain ⟨S, _, _, _, _, k1, _⟩ := hKI
    rw [sb.2.1 25 (by decide)]; exact k1
  have b307 : gi σb 307 = 1 := (sb.1 307 (by decide)).trans h307
  have b412 : gi σb 412 = 0 := (sb.1 412 (by decide)).trans h412
  -- behind a fault of sort 1 to 5
  have flt : gn H0 ≤ 3000 → ∀ (σ3 τ3 : zS) (f N : Nat), 1 ≤ f → f ≤ 5 → sx [200, 201] [37, 48] σb σ3 → sx [8, 9] [46, 47] τa τ3 → gi σ3 200 = nI f → gi τ3 8 = nI f → gi σ3 201 = gi τ3 9 → gi τa 16 = nI N → N ≤ 500 → Ch_checkText F σb = some σ3 → Md_read F τ = Md_read_54 F τ3 → ∃ r σ' τ', Q_read F σ = some (r, σ') ∧ Md_read F τ = some (r, τ') ∧ kpC σ σ' ∧ kpM τ τ' ∧ gi σ' 101 = 0 ∧ gi τ' 2 = 0 ∧ (RDf σ' τ' r ∨ RDs σ' τ' r) := by
    intro hgn σ3 τ3 f N f1 f5 s3 t3 q1 q2 q3 q4 q5 q6 q7
    have hne : gi σ3 200 ≠ 0 := by rw [q1]; exact nI_ne0 (by omega) (by omega)
    obtain ⟨τ', a1, a2, a3, a4, a5⟩ := rd_flt (F := F) (σ := σ3) (τ := τ3) (f := f) (N := N) (H := H0) hF ⟨f1, f5⟩ q1 q2 q3 ((t3.1 10 (by decide)).trans h10) ((s3.1 307 (by decide)).trans b307) (by rw [s3.2.1 25 (by decide)]; exact b25) (MS_sx t3 (by decide) (by decide) (by decide) (by decide) (by decide) m1) hgn hst0 ((t3.1 16 (by decide)).trans q4) q5 ((t3.1 49 (by decide)).trans r49)
    refine ⟨_, clr σ3, τ', ?_, by rw [q7]; exact a2, kpC_tr (kpC_tr kb (kpC_sx s3 (by decide))) (kpC_clr _), kpM_tr (kpM_tr kM (kpM_sx t3 (by decide) (by decide))) (kpM_sx a3 (by decide) (by decide)), ?_, a4, Or.inl a5⟩
    · rw [eQ, q6, bv_some, qr_flt hne]; exact a1
    · have : gi (clr σ3) 101 = gi σ3 101 := by unfold clr; simp [zs]
      rw [this, s3.1 101 (by decide)]; exact b101
  rcases hcase with ⟨f, p, hf, q1, q2, q3, q4, ⟨N2, hN2, q5⟩, R', hR', q6⟩ | ⟨z200, z8, z9, hT, M, D, S, R, TL, hX⟩
  · have hff : ∃ f' : Nat, f = nI f' ∧ 1 ≤ f' ∧ f' ≤ 2 := by
      rcases hf with z | z
      · exact ⟨1, z, by omega, by omega⟩
      · exact ⟨2, z, by omega, by omega⟩
    obtain ⟨f', e', f1, f2⟩ := hff
    have b200 : gi σb 200 = nI f' := (sb.1 200 (by decide)).trans (q1.trans e')
    have n8 : gi τa 8 ≠ 0 := by rw [q3, e']; exact nI_ne0 (by omega) (by omega)
    have hR0 : R0 = R' := (nI_eq (by omega) (by omega)).mp (r48.symm.trans q6)
    exact flt (by omega) σb τa f' N2 f1 (by omega) (sx_rfl _ _ _) (sx_rfl _ _ _) b200 (q3.trans e') (by rw [sb.1 201 (by decide), q2, q4]) q5 (by omega) (ck_flt hF (by rw [b200]; exact nI_ne0 (by omega) (by omega))) (by rw [eR, if_neg n8, md_21 n8])
  · have hXb : TXT (ga (si τ 0 0) 1) n c σb τa M D S R TL := by rw [hσb]; exact txt_101 hX
    obtain ⟨hnm, hS, hRS, hR1, hM6⟩ := txt_nm hT hXb
    have b200 : gi σb 200 = 0 := (sb.1 200 (by decide)).trans z200
    obtain ⟨N0, hN0, hN0'⟩ : ∃ N, gi τa 16 = nI N ∧ N ≤ 500 := by
      obtain ⟨σ0, τ0, k, s, N, a, ⟨⟨⟨⟨hC, hO, hme, hs, hN2, ha⟩, _⟩, _⟩, _⟩, _⟩ := hXb
      exact ⟨N, hO.2.2.2.2.2.1, by omega⟩
    have hDC : DC σb τa D := by
      obtain ⟨σ0, τ0, k, s, N, a, ⟨⟨_, _, hDC⟩, _⟩, _⟩ := hXb
      exact hDC
    obtain ⟨hSY, hCL⟩ : SY τa D TL ∧ CL σb D := by
      obtain ⟨σ0, τ0, k, s, N, a, ⟨_, _, _, hSY, hCL⟩, _⟩ := hXb
      exact ⟨hSY, hCL⟩
    have hgn0 : gn H0 ≤ 3000 := by
      obtain ⟨σ0, τ0, k, s, N, a, ⟨⟨⟨⟨hC, hO, hme, hs, hN2, ha⟩, ⟨⟨h7, how⟩, hcT, hmT, hso⟩, es, ea, hWK, _, _⟩, _, _⟩, _⟩, _⟩ := hXb
      have := (nI_eq (a := R0) (b := R) (by omega) (by omega)).mp (r48.symm.trans hWK.2.2.1)
      omega
    obtain ⟨σ3, τ3, n1, n2, n3⟩ := names_ok (F := F) (by omega) hnm b200 z8
    have n2' : Md_lookNames F τa 1 = some τ3 := n2
    have ft0 : ∀ s : zS, gi s 200 = 0 → Fa_isThere F s = some (0, s) := fun s hs => by rw [Fa_isThere, if_pos hs]; rfl
    have ft1 : ∀ s : zS, gi s 200 ≠ 0 → Fa_isThere F s = some (1, s) := fun s hs => by rw [Fa_isThere, if_neg hs]; rfl
    rcases n3 with ⟨e1, e2, hg⟩ | ⟨i, hi, e1, e2⟩
    · subst e1; subst e2
      obtain ⟨σ1, σ2, τ2, g1, g2, g3, g4, g5, g6, g7, g8⟩ := rings_ok (F := F) (by omega) hnm (fun i hi => by obtain ⟨so, q, it, _, _, _, _, _, _, _, _, _, _, _, _, _, w⟩ := hDC.2.2.2 i hi; exact w) b200 z8
      have eck : Ch_checkText F σ3 = bv (Ch_checkLacks F σ2) (fun σ1 => some σ1) := by
        rw [Ch_checkText, n1, bv_some, ft0 _ b200, bi_some]
        show (if (0 : Int32) = 0 then _ else _) = _
        rw [if_pos rfl, g1, bv_some, g2, bv_some, Ch_checkText_22]
      have erd : Md_read F τ = Md_read_32 F τ2 := by
        rw [eR, if_pos z8, n2', bv_some, Md_read_21, if_pos z8, g3, bv_some]
      rcases g8 with ⟨w1, w2, w3, w4⟩ | ⟨j, hj, w1, w2, w3, w4⟩
      · obtain ⟨σ4, τ4, t1, t2, t3⟩ := takes_ok (F := F) (by omega) (nmR_r hnm g4 g5) w1 w3
        have eck2 : Ch_checkText F σ3 = some σ4 := by rw [eck, t1, bv_some]
        have erd2 : Md_read F τ = Md_read_43 F τ4 := by rw [erd, Md_read_32, if_pos w3, t2, bv_some]
        rcases t3 with ⟨e1, e2, htk⟩ | ⟨i, hi, e1, e2⟩
        · subst e1; subst e2
          obtain ⟨Nn, hNn⟩ : ∃ x, x = cw (nbA σ3 D M) D := ⟨_, rfl⟩
          have hA : ∀ i j, nbA σ3 D M i j = true → i < D ∧ j < D := nbA_out M
          have hD : D ≤ 16 := hDC.2.2.1
          have htr : ∀ i k j, Nn i k = true → Nn k j = true → Nn i j = true := by
            intro i k j q1 q2
            rw [hNn] at q1 q2 ⊢
            exact cw_tr hA q1 q2
          obtain ⟨N, G, H, hGK⟩ := gk_0 (F := F) (by omega) hT hXb hLI hAI hDJ (KI_cg hKI (sb.1 306 (by decide)) (by rw [sb.2.1 23 (by decide)]) (by rw [sb.2.1 24 (by decide)]) (by rw [sb.2.1 25 (by decide)])) hKJ hg b307 z8 Nn
          obtain ⟨K, σ5, hKD, p1, p2, p3⟩ := forms_ok (F := F) (σ := σ4) (by omega) hA ((g4.1 400 (by decide)).trans hDC.1) hD ((g4.1 412 (by decide)).trans b412) g6
          rw [← hNn] at p2 p3 g7
          obtain ⟨p4, p5, p6, p7, p8⟩ := p2
          obtain ⟨g, v1, v2⟩ := so_start (F := F) (τ := τ4) (D := D) (N := Nn) (by omega) ((g5.1 52 (by decide)).trans hDC.2.1) hD
          obtain ⟨τ5, hτ5⟩ : ∃ x, x = sA (si τ4 71 0) 48 g := ⟨_, rfl⟩
          rw [← hτ5] at v1 v2
          have t5 : sx [8, 9, 71] [46, 47, 48] τ3 τ5 := by
            rw [hτ5]
            exact sx_sA (sx_si (sx_mono (by decide) (by decide) g5) (by decide) _) (by decide) _
          have s5 : sx [101, 200, 201, 412] [36, 37, 38, 39, 48] σ3 σ5 := sx_tr (sx_mono (by decide) (by decide) g4) (sx_mono (by decide) (by decide) p4)
          have c200 : gi σ5 200 = 0 := (p4.1 200 (by decide)).trans w1
          have c8 : gi τ5 8 = 0 := by rw [hτ5]; simp only [zs]; exact w3
          have hGK5 := GK_c0 hGK s5 c200 t5 c8
          have c46 : rwR τ5 46 Nn := by
            have : ga τ5 46 = ga τ4 46 := by rw [hτ5]; simp only [zs]; rfl
            unfold rwR; rw [this]; exact g7
          have nb5 : nbA σ5 D M = nbA σ3 D M := funext fun i => funext fun j => nbA_cg (s5.2.1 43 (by decide)) (s5.2.1 46 (by decide)) (s5.2.1 29 (by decide)) (sx_gb s5 44) (sx_gb s5 30) M i j
          obtain ⟨σ6, τ6, l1, l2, l3, l4⟩ := sl_all (F := F) (K := K) (D := D) (M := M) (N := N) (TL := TL) (S := S) (R := R) (Nn := Nn) hF hKD hD p3 htr K F F 0 σ5 τ5 G H (by omega) (by omega) (by omega) (by rw [nb5]; exact hNn) hGK5 ⟨p6, p8⟩ v2 (by rw [hτ5]; simp [zs]; rfl) c46
          have eQ2 : Q_read F σ = Q_read_81 F σ6 := by
            rw [eQ, eck2, bv_some, QR, ft0 _ w1, bi_some]
            show (if (0 : Int32) = 0 then _ else _) = _
            rw [if_pos rfl, p1, bv_some, So_solveText, ← nI_0, l1, bv_some]
          have eR2 : Md_read F τ = Md_read_54 F τ6 := by
            rw [erd2, Md_read_43, if_pos w3, v1, l2, bv_some]
          have k6 : kpC σ σ6 := kpC_tr (kpC_tr kb (kpC_sx s5 (by decide))) (kpC_fr l3)
          have k5 : kpM τ τ5 := kpM_tr kM (kpM_sx t5 (by decide) (by decide))
          have c101 : gi σ6 101 = 0 := by rw [l3.1 101 (by decide), p4.1 101 (by decide), g4.1 101 (by decide)]; exact b101
          have c16 : gi τ5 16 = nI N0 := (t5.1 16 (by decide)).trans hN0
          have c49 : gi τ5 49 = 0 := (t5.1 49 (by decide)).trans r49
          rcases l4 with ⟨G', H', y1, y2, y3, y4, y5⟩ | ⟨y1, ⟨G', y2, y3, y4, y4'⟩, y5, y6⟩
          · have hGK6 := y1
            obtain ⟨h1, h2, h3, h4, h5, ⟨lo, h6, h6a, h6b, h6c⟩, h7, h8, h9, q10, q11, q12, q13, q14, q15, q16, qWD⟩ := y1
            have hTS := h1
            obtain ⟨⟨a1, a2, a3⟩, _, _, _, _, ⟨_, _, _, l4', _, _, _⟩, ⟨_, _, i3, _, _, i6, i7⟩, _, _, j1⟩ := h1
            have bG : gn G' ≤ 1113 := by
              have e1 := cN_le (dnK Nn D K) D
              have e2 := wT_le (dnK Nn D K) TL
              omega
            have bH : gn H' ≤ 3000 := by
              have e1 := cN_le (dnK Nn D K) D
              have e2 := wA_le (dnK Nn D K) TL
              have e3 := cN_le (lfG τ6 (dnK Nn D K)) N
              omega
            obtain ⟨τ7, o1, o2, o3, o4, o5, o6⟩ := rd_sucM (F := F) (τ := τ6) (N := N) (H := H') hF h8 h3 i6
            have d400 : gi σ6 400 = nI D := a1.1
            have d52 : gi τ6 52 = nI D := a1.2.1
            have all : ∀ y, y < D → dnK Nn D K y = true := by
              intro y hy
              cases hh : gS Nn D K y with
              | none =>
                obtain ⟨i, hi⟩ := ld_ex htr hy hh
                rw [p3] at hi; cases hi
              | some x => unfold dnK; rw [hh]; simp [hy]
            have nb6 : nbA σ6 D M = nbA σ5 D M := funext fun i => funext fun j => nbA_cg (l3.2.1 43 (by decide)) (l3.2.1 46 (by decide)) (l3.2.1 29 (by decide)) (l3.2.2.1 44 (by decide)) (l3.2.2.1 30 (by decide)) M i j
            obtain ⟨Gb, b1, b2, b3, b4⟩ : ∃ Gb, CS (si σ6 306 (gi σ6 307)) Gb ∧ (noO Gb ∧ gn Gb ≤ 1113) ∧ (∀ y, y < D → dPr σ6 τ6 Gb H' y) ∧ WKD σ6 D Gb TL (fun y => decide (y < D)) := by
              by_cases hK : K = 0
              · subst hK
                have e0 : σ6 = σ5 := by
                  obtain ⟨F', hF'⟩ : ∃ F', F = F' + 1 := ⟨F - 1, by omega⟩
                  rw [show So_solveText_2 F F σ5 (nI 0) = So_solveText_2 F (F' + 1) σ5 (nI 0) from by rw [← hF'], So_solveText_2, So_solveText_b2, p6, if_pos (by decide)] at l1
                  exact (Option.some.inj l1).symm
                obtain ⟨Gb, b1, b2⟩ := CS_one (σ := σ6) (by rw [e0, p4.2.1 25 (by decide), g4.2.1 25 (by decide)]; exact b25)
                refine ⟨Gb, ?_, b2, fun y hy => ?_, fun o t nn As me _ ho => ?_⟩
                · rw [show gi σ6 307 = 1 from by rw [e0, p4.1 307 (by decide), g4.1 307 (by decide)]; exact b307]; exact b1
                · have := all y hy
                  unfold dnK at this
                  rw [show gS Nn D 0 y = none from rfl] at this
                  simp at this
                · have := all o (of_decide_eq_true ho)
                  unfold dnK at this
                  rw [show gS Nn D 0 o = none from rfl] at this
                  simp at this
              · have := h6c (by omega)
                subst this
                refine ⟨G', ?_, ⟨h4, bG⟩, fun y hy => q10 y (all y hy), fun o t nn As me hm ho h29 => ?_⟩
                · obtain ⟨u1, u2⟩ := h2
                  exact ⟨by rw [h6]; simp [zs], u2⟩
                · obtain ⟨x1, x2⟩ := qWD o t nn As me hm (all o (of_decide_eq_true ho)) h29
                  exact ⟨fun c hc hb => (x1 c hc hb).imp id (fun ⟨y, y1, y2, _⟩ => ⟨y, y1, y2, decide_eq_true y1⟩), x2⟩
            refine ⟨nI D, σ6, τ7, ?_, by rw [eR2, o1, d52], k6, kpM_tr (kpM_tr k5 (kpM_sx y3 (by decide) (by decide))) (kpM_sx o2 (by decide) (by decide)), c101, o3, Or.inr ⟨Gb, H', Nn, D, M, N, TL, K, rfl, TS_cg hTS ⟨fun _ _ => rfl, fun _ _ => rfl, fun _ _ => rfl, fun _ _ _ => rfl, fun _ _ _ => rfl, fun _ => rfl⟩ (trS_sx o2 (by decide) (by decide)), ?_, ?_, by rw [nb6, nb5]; exact hNn, hKD, p3, ?_, (o2.1 71 (by decide)).trans y5, (l3.1 412 (by decide)).trans p6, fun i hi x hx => by rw [l3.2.1 36 (by decide)]; exact p7 i hi x hx, ?_, ?_, h7, (o2.1 8 (by decide)).trans h8, ?_, ?_, b1, b2.1, b2.2, MS_sx o2 (by decide) (by decide) (by decide) (by decide) (by decide) h3, bH, h5, ⟨G', h2, fun y hy => dPr_cg (q10 y (all y hy)) (fun _ _ => rfl) rfl rfl (fun a ha => o2.2.1 a (by rcases ha with z | z | z <;> subst z <;> decide))⟩, h9, o4, o5, o6, ⟨b4, ?_, fun i hi => ?_⟩, fun y hy => dPr_cg (b3 y hy) (fun _ _ => rfl) rfl rfl (fun a ha => o2.2.1 a (by rcases ha with z | z | z <;> subst z <;> decide)), fun i hi => ?_⟩⟩
            · rw [eQ2, Q_read_81, ft0 _ h7, bi_some]
              show (if (0 : Int32) = 0 then _ else _) = _
              rw [if_pos rfl, d400]
            · intro i hi h33
              rw [o2.2.1 33 (by decide), y3.2.1 33 (by decide), t5.2.1 33 (by decide)] at h33
              exact hSY i hi h33
            · intro i hi
              rw [l3.2.1 29 (by decide), s5.2.1 29 (by decide), l3.2.1 32 (by decide), s5.2.1 32 (by decide)]
              exact hCL i hi
            · intro y hy
              rw [o2.2.1 48 (by decide)]; exact y4 y hy
            · intro i hi
              rw [l3.2.1 38 (by decide)]; exact p5 i hi
            · unfold rwR
              rw [o2.2.1 46 (by decide), y3.2.1 46 (by decide)]; exact c46
            · rw [o2.1 9 (by decide), y3.1 9 (by decide), show gi τ5 9 = gi τ4 9 from by rw [hτ5]; simp [zs], w4]; exact z9
            · rw [o2.1 10 (by decide), y3.1 10 (by decide), t5.1 10 (by decide)]; exact h10
            · have hpd := pds_ok (F := F) (by omega) hnm hDP hg
              intro y hy q hq hq3 i j hij hjq
              rw [l3.2.1 32 (by decide), s5.2.1 32 (by decide)] at hq
              rw [l3.2.2.1 33 (by decide), sx_gb s5]
              exact hpd y hy q hq hq3 i j hij hjq
            · exact tkO_cg (fun a ha => by rw [l3.2.1 a (by rcases ha with z | z | z | z <;> subst z <;> decide), p4.2.1 a (by rcases ha with z | z | z | z <;> subst z <;> decide)]) (fun a ha => by rw [l3.2.2.1 a (by omega), sx_gb p4]) (htk i hi)
            · obtain ⟨so, q, it, _, _, v3, _, _, _, _, _, _, _, v11, v12, _, _⟩ := hDC.2.2.2 i hi
              rw [l3.2.1 34 (by decide), s5.2.1 34 (by decide), o2.2.1 38 (by decide), y3.2.1 38 (by decide), t5.2.1 38 (by decide)]
              exact ⟨v11.trans v12.symm, it, v3, v11⟩
          · obtain ⟨p, H, x, y, d, x1, x2, x3, x4, x5, x6, x7, x8, x9, x10, x11, x12, x13, x14, x15⟩ := y1
            have hsix : six σ6 τ6 := ⟨p, H, x, y, d, x1, x2, x3, x4, x5, x6, x7, x8, x9, x10, x11, x12, x13, x14, x15⟩
            obtain ⟨τ7, a1, a2, a3, a4, a5, a6⟩ := rd_fltM (F := F) (τ := τ6) (f := 6) (N := N0) (H := H) hF ⟨by omega, by omega⟩ x3 x6 (by obtain ⟨R4, k1, k2⟩ := y6; have := (nI_eq (a := gn H) (b := R4) (by have := x6.2.2.1; omega) (by omega)).mp (x6.1.symm.trans k1); omega) x15 ((y5.1 16 (by decide)).trans c16) hN0' ((y5.1 49 (by decide)).trans c49)
            have hne : gi σ6 200 ≠ 0 := by rw [x1]; decide
            have e1 := rd_fltC (F := F) hne
            rw [x1] at e1
            have c1 : gi (clr σ6) 200 = gi σ6 200 := by unfold clr; simp [zs]
            have c2 : gi (clr σ6) 201 = gi σ6 201 := by unfold clr; simp [zs]
            have c3 : gi (clr σ6) 306 = gi σ6 306 := by unfold clr; simp [zs]
            have c4 : gi (clr σ6) 307 = gi σ6 307 := by unfold clr; simp [zs]
            have c5 : gi (clr σ6) 101 = gi σ6 101 := by unfold clr; simp [zs]
            refine ⟨_, clr σ6, τ7, by rw [eQ2]; exact e1, by rw [eR2]; exact a1, kpC_tr k6 (kpC_clr _), kpM_tr (kpM_tr k5 (kpM_sx y5 (by decide) (by decide))) (kpM_sx a2 (by decide) (by decide)), by rw [c5]; exact c101, a3, Or.inl ⟨6, by omega, by omega, rfl, by rw [c1]; exact x1, (a2.1 8 (by decide)).trans x3, by rw [c2, x2, a2.1 9 (by decide), x4], by unfold clr; simp [zs], by unfold clr; simp [zs], by unfold clr; simp [zs], a4, a5, fun z => absurd rfl z, fun _ => six_cg hsix ⟨c1, c2⟩ (fun x hx => ?_) a2, ⟨G', ?_, y3, y4'⟩, a6⟩⟩
            · rcases hx with z | z <;> subst z
              · exact ⟨by unfold clr; simp [zs], rfl⟩
              · exact ⟨by unfold clr; simp [zs], rfl⟩
            · have : CS (clr σ6) G' := by
                obtain ⟨o1, o2⟩ := y2
                exact ⟨c3.trans o1, o2⟩
              obtain ⟨o1, o2⟩ := this
              exact ⟨by rw [c4, y4]; simp [zs], o2⟩
        · have x8 : gi τ4 8 = 5 := by rw [e2]; simp [zs]
          exact flt hgn0 σ4 τ4 5 N0 (by omega) (by omega) (by rw [e1]; exact sx_si (sx_si g4 (by decide) _) (by decide) _) (by rw [e2]; exact sx_si (sx_si g5 (by decide) _) (by decide) _) (by rw [e1]; simp [zs]; rfl) x8 (by rw [e1, e2]; simp [zs]) hN0 hN0' eck2 (by rw [erd2, md_43 (by rw [x8]; decide)])
      · exact flt hgn0 σ2 τ2 4 N0 (by omega) (by omega) g4 g5 w1 w3 (w2.trans w4.symm) hN0 hN0' (by rw [eck, lacks_flt hF (by rw [w1]; decide), bv_some]) (by rw [erd, md_32 (by rw [w3]; decide)])
    · have x200 : gi σ3 200 = 3 := by rw [e1]; simp [zs]
      have x8 : gi τ3 8 = 3 := by rw [e2]; simp [zs]
      refine flt hgn0 σ3 τ3 3 N0 (by omega) (by omega) (by rw [e1]; exact sx_si (sx_si (sx_rfl _ _ _) (by decide) _) (by decide) _) (by rw [e2]; exact sx_si (sx_si (sx_rfl _ _ _) (by decide) _) (by decide) _) x200 x8 (by rw [e1, e2]; simp [zs]) hN0 hN0' ?_ (by rw [eR, if_pos z8, n2', bv_some, md_21 (by rw [x8]; decide)])
      rw [Ch_checkText, n1, bv_some, ft1 _ (by rw [x200]; decide), bi_some]
      show (if (1 : Int32) = 0 then _ else _) = _
      rw [if_neg (by decide), Ch_checkText_22, lacks_flt hF (by rw [x200]; decide), bv_some]
end R
