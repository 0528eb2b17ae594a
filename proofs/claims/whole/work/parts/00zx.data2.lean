/-! A text while it is read: the constructors of a data. Own text. -/
section T
variable {F : Nat} {B : Nat → Int32} {n c : Nat} {σ0 τ0 : zS} {o S R q : Nat}
theorem cons_loop (hT : tEnd B n c) (hF : 1300 ≤ F) : ∀ (d m m2 k M s N a it : Nat) (TL : List TR) (σ τ : zS), it + d = 6 → d + 1 < m → d + 1 < m2 → JD B n c σ0 τ0 σ τ k M s N a o S R TL 0 q it → MCp τ TL → tkS B n k ≠ 0 → ∃ r σ', Pa_parseCons_2 F m σ (nI it) = some (r, σ') ∧ ((∃ f p τ', (f = 1 ∨ f = 2) ∧ dmT B n c σ0 r σ' f p ∧ bv (Md_readCon F τ) (fun x => Md_readSides_71 F m2 x) = some τ' ∧ FS τ0 τ' f p ∧ gi τ' 32 = nI o) ∨ (r = 1 ∧ ∃ k' M' s' N' a' it' TL' τ', k < k' ∧ bv (Md_readCon F τ) (fun x => Md_readSides_71 F m2 x) = some τ' ∧ JD B n c σ0 τ0 σ' τ' k' M' s' N' a' o S R TL' 0 q it' ∧ MCp τ' TL' ∧ (∃ L, TL' = TL ++ L) ∧ ga τ' 33 = ga τ 33 ∧ tkS B n k' ≠ 0)) := by
  have hB := hT.1
  have hc := tE_c hT
  intro d
  induction d with
  | zero =>
    intro m m2 k M s N a it TL σ τ hit hm hm2 h hmc h0
    have h6 : it = 6 := by omega
    subst h6
    obtain ⟨ho, t36, t38, t33⟩ := JD_dc h
    obtain ⟨m, rfl⟩ : ∃ m', m = m' + 1 := ⟨m - 1, by omega⟩
    obtain ⟨m2, rfl⟩ : ∃ m', m2 = m' + 1 := ⟨m2 - 1, by omega⟩
    have hC := h.1.1.1.1
    have hM := h.1.1.1.2.1
    have g8 : gi τ 8 = 0 := (hM.2.2.1.2.2.2.1 h0).1
    have h32 := h.2.2.2.2.1
    have b1 : Pa_parseCons_2 F (m + 1) σ (nI 6) = bi (Ta_sort F σ) (fun r3 σ2 => if r3 = (2 : Int32) then (bi (Pa_tooMuch F σ2) (fun r13 σ12 => gd (isB r13) (some (r13, σ12)))) else (bi (Pa_misfit F σ2) (fun r17 σ16 => gd (isB r17) (some (r17, σ16))))) := by
      show Pa_parseCons_b2 F (Pa_parseCons_2 F m) σ (nI 6) = _
      rw [Pa_parseCons_b2, if_neg (by decide)]
      congr 1
    have fin : ∀ τ' : zS, gi τ' 8 ≠ 0 → Md_readSides_71 F (m2 + 1) τ' = some τ' := by
      intro τ' hz
      show Md_readSides_b71 F (Md_readSides_71 F m2) τ' = _
      rw [Md_readSides_b71, fs_isSign hz, bi_some, if_pos rfl]
    by_cases hk : tkS B n k = 2
    · obtain ⟨⟨σ', r1, r2⟩, r3⟩ := TX_raise (F := F) hT h.1 2 (by decide)
      obtain ⟨τ', r4, r5, r6⟩ := r3 h0
      have r1' : Pa_tooMuch F σ = some (0, σ') := r1
      have g4 : gi τ 4 = 1 := by rw [hM.2.2.1.2.1, hk]; decide
      refine ⟨0, σ', by rw [b1, c_sort hT hC, bi_some, if_pos hk, r1', bi_some]; rfl, Or.inl ⟨2, tkP B n k, τ', Or.inr rfl, Or.inl ⟨rfl, r2⟩, ?_, r5, by rw [r6, h32]⟩⟩
      rw [Md_readCon, (m_wantName (F := F) g8 1).1 g4, bi_some, if_neg (by decide), h32, gd_t (inb_nI (by omega) (by omega)), nI_clamp (by omega), t38, if_pos (show nI 6 = (6 : Int32) from rfl), r4, bv_some, bv_some, fin τ' (by rw [r5.1]; decide)]
    · obtain ⟨⟨σ', r1, r2⟩, r3⟩ := TX_raise (F := F) hT h.1 1 (by decide)
      obtain ⟨τ', r4, r5, r6⟩ := r3 h0
      have r1' : Pa_misfit F σ = some (0, σ') := r1
      have g4 : gi τ 4 ≠ 1 := by rw [hM.2.2.1.2.1]; exact fun z => hk ((tokM_big hB).1.mpr z)
      refine ⟨0, σ', by rw [b1, c_sort hT hC, bi_some, if_neg hk, r1', bi_some]; rfl, Or.inl ⟨1, tkP B n k, τ', Or.inl rfl, Or.inl ⟨rfl, r2⟩, ?_, r5, by rw [r6, h32]⟩⟩
      rw [Md_readCon, (m_wantName (F := F) g8 1).2 g4 τ' r4, bi_some, if_pos rfl, bv_some, fin τ' (by rw [r5.1]; decide)]
  | succ d ih =>
    intro m m2 k M s N a it TL σ τ hit hm hm2 h hmc h0
    obtain ⟨ho, t36, t38, t33⟩ := JD_dc h
    obtain ⟨m, rfl⟩ : ∃ m', m = m' + 1 := ⟨m - 1, by omega⟩
    obtain ⟨m2, rfl⟩ : ∃ m', m2 = m' + 1 := ⟨m2 - 1, by omega⟩
    have hC := h.1.1.1.1
    have hM := h.1.1.1.2.1
    have g8 : gi τ 8 = 0 := (hM.2.2.1.2.2.2.1 h0).1
    have h32 := h.2.2.2.2.1
    have h606 := h.2.2.2.1
    have h34 := h.2.2.2.2.2.2.2.1
    have nit : ¬ nI it = 6 := fun z => by have := (nI_eq (a := it) (b := 6) (by omega) (by omega)).mp z; omega
    have fin : ∀ (m2 : Nat) (τ' : zS), gi τ' 8 ≠ 0 → Md_readSides_71 F (m2 + 1) τ' = some τ' := by
      intro m2 τ' hz
      show Md_readSides_b71 F (Md_readSides_71 F m2) τ' = _
      rw [Md_readSides_b71, fs_isSign hz, bi_some, if_pos rfl]
    by_cases hk : tkS B n k = 2
    · obtain ⟨σ1, τ1, c1, c2, hJ1, frp1⟩ := op_con (F := F) hT hF h hk (by omega)
      have g4 : gi τ 4 = 1 := by rw [hM.2.2.1.2.1, hk]; decide
      have hmc1 : MCp τ1 TL := by
        constructor
        · rw [frp1.1, hmc.1, mcT_fr (τ := τ) (τ' := τ1) (D := o + 1) (fun i _ => by rw [frp1.2.2.2]) TL 0 h.1.1.2.1.2.2.2]
        · rw [frp1.2.1, hmc.2]
      have hcl : Pa_parseCons_2 F (m + 1) σ (nI it) = Pa_parseCons_76 F (Pa_parseCons_2 F m) F σ1 (nI it) (nI 0) := by
        show Pa_parseCons_b2 F (Pa_parseCons_2 F m) σ (nI it) = _
        rw [Pa_parseCons_b2, if_neg (show ¬ (6 : Int32) < nI it from nI_nlt (a := 6) (by omega) (by omega)), c_sort hT hC, bi_some, if_pos hk, if_neg nit, h606, gd_t (inb_nI (by omega) (by omega)), nI_clamp (by omega), h34, nI_1, c1]
        rfl
      have hrf : Md_readCon F τ = Md_readCon_56 F F τ1 := by
        rw [Md_readCon, (m_wantName (F := F) g8 1).1 g4, bi_some, if_neg (by decide), h32, gd_t (inb_nI (by omega) (by omega)), nI_clamp (by omega), t38, if_neg nit, nI_1, c2]
      obtain ⟨σ2, res⟩ := con_loop (F := F) hT hF (Pa_parseCons_2 F m) (nI it) (c - (k + 1)) F F (k + 1) (M + 1) s N a 0 TL σ1 τ1 rfl (by omega) (by omega) hJ1 hmc1 (Nat.zero_le _)
      rcases res with ⟨f, p, τ2, v1, v2, v3, v4, v5⟩ | ⟨k2, M2, s2, N2, a2, TL2, τ2, v1, v2, v3, v4, v5, ⟨L, v6⟩, v7, v8⟩
      · have href : bv (Md_readCon F τ) (fun x => Md_readSides_71 F (m2 + 1) x) = some τ2 := by
          rw [hrf, v3, bv_some, fin m2 τ2 (by rw [v4.1]; exact (f_pos v1).1)]
        rcases v2 with ⟨w1, w2⟩ | ⟨w1, w2⟩
        · exact ⟨0, σ2, by rw [hcl, w1], Or.inl ⟨f, p, τ2, v1, Or.inl ⟨rfl, w2⟩, href, v4, v5⟩⟩
        · refine ⟨1, σ2, ?_, Or.inl ⟨f, p, τ2, v1, w2, href, v4, v5⟩⟩
          rw [hcl, w1, Pa_parseCons_120, (dm_sort (F := F) hT w2).1, bi_some, if_neg (by decide)]
      · have hC2 := v4.1.1.1.1
        have hM2 := v4.1.1.1.2.1
        have sg := m_signO (F := F) hB hM2 v8 (y := 124) (by omega) (by omega)
        rw [show sgM (nI 124) = 124 by decide, show nI 124 = (124 : Int32) from rfl] at sg
        by_cases hb : tkS B n k2 = 124
        · -- one more
          obtain ⟨τ3, e3, fr3, cu3⟩ := m_nx (F := F) hB hF hM2 v8
          obtain ⟨s3, X3, fc3, fm3⟩ := TX_step (F := F) hT v4.1 (by rw [hb]; decide) v8 fr3 cu3
          have hJ3 := JD_step v4 X3 fc3 fm3
          have hk2 := tEnd_s hT hC2.2.1 (show tkS B n k2 ≠ 1 by rw [hb]; decide)
          have hcl2 : Pa_parseCons_2 F (m + 1) σ (nI it) = Pa_parseCons_2 F m (si σ2 106 (nI (k2 + 1))) (nI (it + 1)) := by
            rw [hcl, v2, Pa_parseCons_120, c_sort hT hC2, bi_some, if_pos hb, s3, bv_some, nI_1]
          have hrf2 : bv (Md_readCon F τ) (fun x => Md_readSides_71 F (m2 + 1) x) = bv (Md_readCon F τ3) (fun x => Md_readSides_71 F m2 x) := by
            rw [hrf, v3, bv_some]
            show Md_readSides_b71 F (Md_readSides_71 F m2) τ2 = _
            rw [Md_readSides_b71, sg.1 hb, bi_some, if_neg (by decide), e3, bv_some]
          have hmc3 : MCp τ3 TL2 := by
            have fp := frP_M fm3
            constructor
            · rw [fp.1, v5.1, mcT_fr (τ := τ2) (τ' := τ3) (D := o + 1) (fun i _ => by rw [fp.2.2.2]) TL2 0 v4.1.1.2.1.2.2.2]
            · rw [fp.2.1, v5.2]
          by_cases h03 : tkS B n (k2 + 1) = 0
          · obtain ⟨d1, d2⟩ := TX_dm hT X3 h03
            obtain ⟨⟨σ', r1, r2⟩, _⟩ := TX_raise (F := F) hT X3 1 (by decide)
            have r1' : Pa_misfit F (si σ2 106 (nI (k2 + 1))) = some (0, σ') := r1
            refine ⟨0, σ', ?_, Or.inl ⟨1, tkP B n (k2 + 1), τ3, Or.inl rfl, Or.inl ⟨rfl, r2⟩, ?_, d2, hJ3.2.2.2.2.1⟩⟩
            · obtain ⟨m, rfl⟩ : ∃ m', m = m' + 1 := ⟨m - 1, by omega⟩
              rw [hcl2]
              show Pa_parseCons_b2 F (Pa_parseCons_2 F m) _ (nI (it + 1)) = _
              rw [Pa_parseCons_b2, if_neg (show ¬ (6 : Int32) < nI (it + 1) from nI_nlt (a := 6) (by omega) (by omega)), c_sort hT X3.1.1.1, bi_some, if_neg (by rw [h03]; decide), r1', bi_some]
              rfl
            · obtain ⟨m2, rfl⟩ : ∃ m', m2 = m' + 1 := ⟨m2 - 1, by omega⟩
              rw [hrf2, Md_readCon, m_wantName0 (by rw [d2.1]; decide), bi_some, if_pos rfl, bv_some, fin m2 τ3 (by rw [d2.1]; decide)]
          · obtain ⟨r, σ', w1, w2⟩ := ih m m2 (k2 + 1) M2 s2 N2 a2 (it + 1) TL2 _ τ3 (by omega) (by omega) (by omega) hJ3 hmc3 h03
            refine ⟨r, σ', by rw [hcl2, w1], ?_⟩
            rcases w2 with ⟨f, p, τ', y1, y2, y3, y4, y5⟩ | ⟨y0, k', M', s', N', a', it', TL', τ', y1, y2, y3, y4, ⟨L', y5⟩, y6, y7⟩
            · exact Or.inl ⟨f, p, τ', y1, y2, by rw [hrf2, y3], y4, y5⟩
            · exact Or.inr ⟨y0, k', M', s', N', a', it', TL', τ', by omega, by rw [hrf2, y2], y3, y4, ⟨L ++ L', by rw [y5, v6]; simp⟩, by rw [y6, (frP_M fm3).2.2.2, v7, frp1.2.2.2], y7⟩
        · refine ⟨1, σ2, ?_, Or.inr ⟨rfl, k2, M2, s2, N2, a2, it + 1, TL2, τ2, by omega, ?_, v4, v5, ⟨L, v6⟩, by rw [v7, frp1.2.2.2], v8⟩⟩
          · rw [hcl, v2, Pa_parseCons_120, c_sort hT hC2, bi_some, if_neg hb]
          · rw [hrf, v3, bv_some]
            show Md_readSides_b71 F (Md_readSides_71 F m2) τ2 = _
            rw [Md_readSides_b71, sg.2 hb, bi_some, if_pos rfl]
    · obtain ⟨⟨σ', r1, r2⟩, r3⟩ := TX_raise (F := F) hT h.1 1 (by decide)
      obtain ⟨τ', r4, r5, r6⟩ := r3 h0
      have r1' : Pa_misfit F σ = some (0, σ') := r1
      have g4 : gi τ 4 ≠ 1 := by rw [hM.2.2.1.2.1]; exact fun z => hk ((tokM_big hB).1.mpr z)
      refine ⟨0, σ', ?_, Or.inl ⟨1, tkP B n k, τ', Or.inl rfl, Or.inl ⟨rfl, r2⟩, ?_, r5, by rw [r6, h32]⟩⟩
      · show Pa_parseCons_b2 F (Pa_parseCons_2 F m) σ (nI it) = _
        rw [Pa_parseCons_b2, if_neg (show ¬ (6 : Int32) < nI it from nI_nlt (a := 6) (by omega) (by omega)), c_sort hT hC, bi_some, if_neg hk, r1', bi_some]
        rfl
      · rw [Md_readCon, (m_wantName (F := F) g8 1).2 g4 τ' r4, bi_some, if_pos rfl, bv_some, fin m2 τ' (by rw [r5.1]; decide)]
/-- a data behind its head -/
theorem decl_data {σ τ : zS} {k M s N a : Nat} {TL : List TR} (hT : tEnd B n c) (hF : 1300 ≤ F) (h : JD B n c σ0 τ0 σ τ k M s N a o S R TL 0 0 0) (hsy : soL o 0 TL) (hmc : MCp τ TL) (hSY : SY τ o TL) : ∃ r σ', (∀ K : Int32 → zS → Option zS, bi (Pa_parseParams F σ) (fun r15 σ14 => if r15 = 0 then K 0 σ14 else (bi (Pa_expect F σ14 (61 : Int32)) (fun r19 σ18 => if r19 = 0 then K 0 σ18 else (bi (Pa_parseCons F σ18) (fun r23 σ22 => if r23 = 0 then K 0 σ22 else K 1 σ22))))) = K r σ') ∧ DG B n c σ0 τ0 k o S R r σ' (bv (Md_readSides F τ 0) (fun x => Md_readDecl_216 F x)) := by
  have hB := hT.1
  obtain ⟨ho, t36, t38, t33⟩ := JD_dc h
  obtain ⟨r1, σ1, e1, res1⟩ := par_loop (F := F) hT hF 0 3 F F k M 0 σ τ (by omega) (by omega) (by omega) h
  have hpar : Pa_parseParams F σ = some (r1, σ1) := e1
  rcases res1 with ⟨f, p, τ1, v1, v2, v3, v4, v5⟩ | ⟨v0, k1, M1, q1, τ1, v1, v2, v3, v4, v5⟩
  · have hpos := f_pos v1
    have hτ8 : gi τ1 8 ≠ 0 := by rw [v4.1]; exact hpos.1
    obtain ⟨τ2, w1, w2⟩ := fs_216 (F := F) v4 v5 (by omega)
    have href : bv (Md_readSides F τ 0) (fun x => Md_readDecl_216 F x) = some τ2 := by
      rw [Md_readSides, v3, Md_readSides_22, fs_want hτ8, bv_some, if_neg (by rw [v4.1]; exact hpos.2.2), bv_some, w1]
    by_cases hr : r1 = 0
    · subst hr
      refine ⟨0, σ1, fun K => by rw [hpar, bi_some, if_pos rfl], Or.inl ⟨f, p, τ2, v1, v2, href, w2⟩⟩
    · have hr1 : r1 = 1 := by
        rcases v2 with ⟨z, _⟩ | ⟨z, _⟩
        · exact absurd z hr
        · exact z
      subst hr1
      obtain ⟨σ2, x1, x2⟩ := dm_expect (F := F) hT v2 (x := 61) (by decide)
      refine ⟨0, σ2, fun K => by rw [hpar, bi_some, if_neg (by decide), x1, bi_some, if_pos rfl], Or.inl ⟨f, p, τ2, v1, Or.inl ⟨rfl, x2⟩, href, w2⟩⟩
  · subst v0
    have hw := op_want (F := F) hT hF v3.1 v4 (y := 61) (by omega) (by omega)
    rw [show sgM (nI 61) = 61 by decide, show nI 61 = (61 : Int32) from rfl] at hw
    by_cases hk : tkS B n k1 = 61
    · obtain ⟨τ2, x1, x2, x3, x4, x5⟩ := hw.1 hk
      have hJ2 := JD_step v3 x3 x4 x5
      have frp2 : frP τ τ2 := frP_tr v5 (frP_M x5)
      have hmc2 : MCp τ2 TL := by
        constructor
        · rw [frp2.1, hmc.1, mcT_fr (τ := τ) (τ' := τ2) (D := o) (fun i _ => by rw [frp2.2.2.2]) TL 0 hsy]
        · rw [frp2.2.1, hmc.2]
      by_cases h02 : tkS B n (k1 + 1) = 0
      · obtain ⟨d1, d2⟩ := TX_dm hT x3 h02
        obtain ⟨⟨σ', r1, r2⟩, _⟩ := TX_raise (F := F) hT x3 1 (by decide)
        have r1' : Pa_misfit F (si σ1 106 (nI (k1 + 1))) = some (0, σ') := r1
        obtain ⟨τ3, w1, w2⟩ := fs_216 (F := F) d2 hJ2.2.2.2.2.1 (by omega)
        obtain ⟨m, hm⟩ : ∃ m, F = m + 1 := ⟨F - 1, by omega⟩
        have hcons : Pa_parseCons F (si σ1 106 (nI (k1 + 1))) = some (0, σ') := by
          rw [Pa_parseCons, show Pa_parseCons_2 F F = Pa_parseCons_2 F (m + 1) by rw [← hm]]
          show Pa_parseCons_b2 F (Pa_parseCons_2 F m) _ 0 = _
          rw [Pa_parseCons_b2, if_neg (by decide), c_sort hT x3.1.1.1, bi_some, if_neg (by rw [h02]; decide), r1', bi_some]
          rfl
        refine ⟨0, σ', fun K => by rw [hpar, bi_some, if_neg (by decide), x1, bi_some, if_neg (by decide), hcons, bi_some, if_pos rfl], Or.inl ⟨1, tkP B n (k1 + 1), τ3, Or.inl rfl, Or.inl ⟨rfl, r2⟩, ?_, w2⟩⟩
        rw [Md_readSides, v2, Md_readSides_22, x2, bv_some, if_neg (by rw [d2.1]; decide), bv_some, w1]
      · obtain ⟨r, σ2, c1, c2⟩ := cons_loop (F := F) hT hF 6 F F (k1 + 1) M1 s N a 0 TL _ τ2 (by omega) (by omega) (by omega) hJ2 hmc2 h02
        have hcons : Pa_parseCons F (si σ1 106 (nI (k1 + 1))) = some (r, σ2) := c1
        have g82 : gi τ2 8 = 0 := (x3.1.1.2.1.2.2.1.2.2.2.1 h02).1
        have href0 : bv (Md_readSides F τ 0) (fun x => Md_readDecl_216 F x) = bv (bv (Md_readCon F τ2) (fun x => Md_readSides_71 F F x)) (fun x => Md_readDecl_216 F x) := by
          rw [Md_readSides, v2, Md_readSides_22, x2, bv_some, g82, if_pos (by decide), if_neg (by decide)]
        have hcl : ∀ K : Int32 → zS → Option zS, bi (Pa_parseParams F σ) (fun r15 σ14 => if r15 = 0 then K 0 σ14 else (bi (Pa_expect F σ14 (61 : Int32)) (fun r19 σ18 => if r19 = 0 then K 0 σ18 else (bi (Pa_parseCons F σ18) (fun r23 σ22 => if r23 = 0 then K 0 σ22 else K 1 σ22))))) = if r = 0 then K 0 σ2 else K 1 σ2 := by
          intro K
          rw [hpar, bi_some, if_neg (by decide), x1, bi_some, if_neg (by decide), hcons, bi_some]
        rcases c2 with ⟨f, p, τ3, u1, u2, u3, u4, u5⟩ | ⟨u0, k3, M3, s3, N3, a3, it3, TL3, τ3, u1, u2, u3, u4, ⟨L, u5⟩, u6, u7⟩
        · obtain ⟨τ4, w1, w2⟩ := fs_216 (F := F) u4 u5 (by omega)
          have href : bv (Md_readSides F τ 0) (fun x => Md_readDecl_216 F x) = some τ4 := by rw [href0, u3, bv_some, w1]
          rcases u2 with ⟨z1, z2⟩ | ⟨z1, z2, z3⟩
          · subst z1
            exact ⟨0, σ2, fun K => by rw [hcl, if_pos rfl], Or.inl ⟨f, p, τ4, u1, Or.inl ⟨rfl, z2⟩, href, w2⟩⟩
          · subst z1
            exact ⟨1, σ2, fun K => by rw [hcl, if_neg (by decide)], Or.inl ⟨f, p, τ4, u1, Or.inr ⟨rfl, z2, z3⟩, href, w2⟩⟩
        · subst u0
          obtain ⟨τ4, w1, w2, w3, w4⟩ := op_close (F := F) hT u3
          have href : bv (Md_readSides F τ 0) (fun x => Md_readDecl_216 F x) = some τ4 := by rw [href0, u2, bv_some, w1]
          have q33 : ga τ4 33 = ga τ 33 := by rw [w4.2.2.2, u6, frp2.2.2.2]
          refine ⟨1, σ2, fun K => by rw [hcl, if_neg (by decide)], Or.inr ⟨rfl, k3, M3, s3, N3, a3, TL3, τ4, by omega, href, w2, w3, ⟨?_, ?_⟩, SY_up hSY u5 (fun i _ => by rw [q33]) (Or.inl (by rw [q33, t33]; decide)), CL_up u3.2.2.2.2.2.2.2.2.2.2.2 u3.2.2.2.2.2.1 u3.2.2.2.2.2.2.1 (by omega) (fun z => absurd z (by decide)), u7⟩⟩
          · rw [w4.1, u4.1, mcT_fr (τ := τ3) (τ' := τ4) (D := o + 1) (fun i _ => by rw [w4.2.2.2]) TL3 0 u3.1.1.2.1.2.2.2]
          · rw [w4.2.1, u4.2]
    · obtain ⟨σ2, τ2, x1, x2, x3, x4, x5⟩ := hw.2 hk
      have h32' : gi τ2 32 = nI o := by rw [x5]; exact v3.2.2.2.2.1
      obtain ⟨τ3, w1, w2⟩ := fs_216 (F := F) x4 h32' (by omega)
      refine ⟨0, σ2, fun K => by rw [hpar, bi_some, if_neg (by decide), x1, bi_some, if_pos rfl], Or.inl ⟨1, tkP B n k1, τ3, Or.inl rfl, Or.inl ⟨rfl, x2⟩, ?_, w2⟩⟩
      rw [Md_readSides, v2, Md_readSides_22, x3, bv_some, if_neg (by rw [x4.1]; decide), bv_some, w1]
end T
