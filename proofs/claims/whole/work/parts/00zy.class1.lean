/-! A text while it is read: classes and their methods. Own text. -/
section T
variable {F : Nat} {B : Nat → Int32} {n c : Nat} {σ0 τ0 : zS} {o S R q : Nat}
/-- registers 66 and 67 of the reference play no part in JD -/
theorem JD_67 {σ τ : zS} {k M s N a so it : Nat} {TL : List TR} (h : JD B n c σ0 τ0 σ τ k M s N a o S R TL so q it) (x y : Int32) : JD B n c σ0 τ0 σ (si (si τ 67 x) 66 y) k M s N a o S R TL so q it := by
  obtain ⟨⟨hX, hb, hDC⟩, hAB, h39, h606, h32, h29, h32', h34, hso, hq3, hit, hCL⟩ := h
  have fE : frE (o + 1) τ (si (si τ 67 x) 66 y) := ⟨fun j _ _ j1 j2 => by simp [zs, j1, j2], fun j _ _ _ _ _ _ => by simp [zs], fun i _ => by simp [zs], fun j => by simp [zs], fun j _ _ => by simp [zs]⟩
  exact ⟨⟨TXn_dc hX (frD_rfl σ) fE (Nat.le_refl _), hb, DC_of hDC rfl (fun _ _ => rfl) (fun _ _ => rfl) (by simp [zs]) (fun j _ => by simp [zs]) (fun j _ => by simp [zs])⟩, fun i hi => by simp only [zs]; exact hAB i hi, by simp only [zs]; exact h39, h606, by simp [zs, h32], h29, h32', h34, hso, hq3, hit, hCL⟩
theorem op_meth {σ τ : zS} {k M s N a so it : Nat} {TL : List TR} (hT : tEnd B n c) (hF : 1300 ≤ F) (h : JD B n c σ0 τ0 σ τ k M s N a o S R TL so q it) (hk : tkS B n k = 3) (hit6 : it < 6) : ∃ σ' τ', (∀ K : zS → Option (Int32 × zS), bv (Me_add F (sa σ 34 o (nI (it + 1))) 2 (nI o)) (fun σ8 => bv (Ta_step F σ8) (fun σ10 => K σ10)) = K σ') ∧ (∀ K : zS → Option zS, bv (Md_tell F (sa τ 38 o (nI (it + 1))) 3 (-1)) (fun σ5 => bv (Md_next F (si (si σ5 67 (gi σ5 66)) 66 ((gi σ5 66) + (1 : Int32)))) (fun σ7 => K σ7)) = K τ') ∧ JD B n c σ0 τ0 σ' τ' (k + 1) (M + 1) s N a o S R TL so q (it + 1) ∧ gi τ' 66 = gi τ 66 + 1 ∧ gi τ' 67 = gi τ 66 ∧ ga τ' 33 = ga τ 33 ∧ ga τ' 41 = ga τ 41 := by
  have hB := hT.1
  have hb := h.1.2.1
  have hso := h.2.2.2.2.2.2.2.2.1
  have hq3 := h.2.2.2.2.2.2.2.2.2.1
  obtain ⟨σ1, τ1, t1, t2, X1, dc1, ec, ab1, p39, p606, p32, p29, p32', p34, pCL, frp⟩ := op_item0 (F := F) hT h (Or.inr hk) 2 (Or.inr rfl) hit6
  have h0 : tkS B n k ≠ 0 := by rw [hk]; decide
  obtain ⟨τm, em⟩ : ∃ τm, τm = si (si τ1 67 (gi τ1 66)) 66 (gi τ1 66 + 1) := ⟨_, rfl⟩
  have fE : frE (o + 1) τ1 τm := by
    rw [em]
    exact ⟨fun j _ _ j1 j2 => by simp [zs, j1, j2], fun j _ _ _ _ _ _ => by simp [zs], fun i _ => by simp [zs], fun j => by simp [zs], fun j _ _ => by simp [zs]⟩
  have Xm := TXn_dc X1 (frD_rfl σ1) fE (Nat.le_refl _)
  have dcm : DC σ1 τm (o + 1) := by
    rw [em]
    exact DC_of dc1 rfl (fun _ _ => rfl) (fun _ _ => rfl) (by simp [zs]) (fun j _ => by simp [zs]) (fun j _ => by simp [zs])
  obtain ⟨τ2, e2, fr2, cu2⟩ := m_nx (F := F) hB hF Xm.1.2.1 h0
  obtain ⟨s2, X2, fc2, fm2⟩ := TXn_step (F := F) hT Xm (by rw [hk]; decide) h0 fr2 cu2
  have c4e : c4 (si σ1 106 (nI (k + 1))) (M + 1) = c4 σ M := by rw [c4_fr (σ := σ1) (M + 1) (fun i _ => by simp [zs]), ec]
  have gm : ∀ j, ga τm j = ga τ1 j := fun j => by rw [em]; simp [zs]
  refine ⟨si σ1 106 (nI (k + 1)), τ2, fun K => by rw [t1, bv_some, s2, bv_some], fun K => by
    have t2' : Md_tell F (sa τ 38 o (nI (it + 1))) 3 (-1) = some τ1 := t2
    rw [t2', bv_some, ← em, e2, bv_some], ⟨⟨X2, (bnT_tell hT (Or.inr hk) hb c4e).2, DC_fr fc2 fm2 dcm⟩, ?_, by rw [fm2.2.1 39 o (by unfold okM; omega), gm, p39], by rw [fc2.1 606 (by decide) (by decide) (by decide) (by decide), p606], by rw [fm2.1 32 (by unfold exM; omega), em]; simp [zs, p32], by rw [fc2.2.1 29 o (by omega), p29], by rw [fc2.2.1 32 o (by omega), p32'], by rw [fc2.2.1 34 o (by omega), p34], hso, hq3, by omega, fun i hi => by rw [fc2.2.1 29 i (by omega), fc2.2.1 32 i (by omega)]; exact pCL i hi⟩, ?_, ?_, ?_, ?_⟩
  · exact AB_fr fm2 (fun i hi => by rw [gm, gm]; exact ab1 i hi)
  · rw [(frP_M fm2).1, em]; simp [zs, frp.1]
  · rw [(frP_M fm2).2.1, em]; simp [zs, frp.1]
  · rw [(frP_M fm2).2.2.2, gm, frp.2.2.2]
  · rw [(frP_M fm2).2.2.1, gm, frp.2.2.1]
theorem met_loop (hT : tEnd B n c) (hF : 1300 ≤ F) : ∀ (d m m2 k M s N a it : Nat) (TL : List TR) (σ τ : zS), it + d = 4 → d + 1 < m → d + 1 < m2 → JD B n c σ0 τ0 σ τ k M s N a o S R TL 2 q it → MCp τ TL → ∃ r σ', Pa_parseMethods_2 F m σ (nI it) = some (r, σ') ∧ ((∃ f p τ', (f = 1 ∨ f = 2) ∧ dmT B n c σ0 r σ' f p ∧ Md_readClass_19 F m2 τ = some τ' ∧ FS τ0 τ' f p ∧ gi τ' 32 = nI o) ∨ (r = 1 ∧ ∃ k' M' s' N' a' it' TL' τ', k ≤ k' ∧ Md_readClass_19 F m2 τ = Md_readClass_142 F τ' ∧ JD B n c σ0 τ0 σ' τ' k' M' s' N' a' o S R TL' 2 q it' ∧ MCp τ' TL' ∧ (∃ L, TL' = TL ++ L) ∧ ga τ' 33 = ga τ 33 ∧ tkS B n k' ≠ 0)) := by
  have hB := hT.1
  have hc := tE_c hT
  -- a token that begins no method
  have stop : ∀ (m m2 k M s N a it : Nat) (TL : List TR) (σ τ : zS), it ≤ 4 → JD B n c σ0 τ0 σ τ k M s N a o S R TL 2 q it → MCp τ TL → tkS B n k ≠ 3 → ∃ r σ', Pa_parseMethods_2 F (m + 1) σ (nI it) = some (r, σ') ∧ ((∃ f p τ', (f = 1 ∨ f = 2) ∧ dmT B n c σ0 r σ' f p ∧ Md_readClass_19 F (m2 + 1) τ = some τ' ∧ FS τ0 τ' f p ∧ gi τ' 32 = nI o) ∨ (r = 1 ∧ ∃ k' M' s' N' a' it' TL' τ', k ≤ k' ∧ Md_readClass_19 F (m2 + 1) τ = Md_readClass_142 F τ' ∧ JD B n c σ0 τ0 σ' τ' k' M' s' N' a' o S R TL' 2 q it' ∧ MCp τ' TL' ∧ (∃ L, TL' = TL ++ L) ∧ ga τ' 33 = ga τ 33 ∧ tkS B n k' ≠ 0)) := by
    intro m m2 k M s N a it TL σ τ hit h hmc hk
    have hC := h.1.1.1.1
    have hM := h.1.1.1.2.1
    have e1 : Pa_parseMethods_2 F (m + 1) σ (nI it) = some (1, σ) := by
      show Pa_parseMethods_b2 F (Pa_parseMethods_2 F m) σ (nI it) = _
      rw [Pa_parseMethods_b2, if_neg (show ¬ (4 : Int32) < nI it from nI_nlt (a := 4) (by omega) (by omega)), c_sort hT hC, bi_some, if_neg hk, Pa_parseMethods_125]
    have e2 : Md_readClass_19 F (m2 + 1) τ = Md_readClass_b19 F (Md_readClass_19 F m2) τ := rfl
    by_cases h0 : tkS B n k = 0
    · obtain ⟨d1, d2⟩ := TX_dm hT h.1 h0
      refine ⟨1, σ, e1, Or.inl ⟨1, tkP B n k, τ, Or.inl rfl, d1, ?_, d2, h.2.2.2.2.1⟩⟩
      rw [e2, Md_readClass_b19, if_neg (by rw [d2.1]; decide), Md_readClass_142, fs_want (by rw [d2.1]; decide), bv_some]
    · have g8 : gi τ 8 = 0 := (hM.2.2.1.2.2.2.1 h0).1
      have g4 : gi τ 4 ≠ 2 := by rw [hM.2.2.1.2.1]; exact fun z => hk ((tokM_big hB).2.1.mpr z)
      refine ⟨1, σ, e1, Or.inr ⟨rfl, k, M, s, N, a, it, TL, τ, Nat.le_refl _, ?_, h, hmc, ⟨[], by simp⟩, rfl, h0⟩⟩
      rw [e2, Md_readClass_b19, if_pos g8, if_neg g4]
  intro d
  induction d with
  | zero =>
    intro m m2 k M s N a it TL σ τ hit hm hm2 h hmc
    have h4 : it = 4 := by omega
    subst h4
    obtain ⟨ho, t36, t38, t33⟩ := JD_dc h
    obtain ⟨m, rfl⟩ : ∃ m', m = m' + 1 := ⟨m - 1, by omega⟩
    obtain ⟨m2, rfl⟩ : ∃ m', m2 = m' + 1 := ⟨m2 - 1, by omega⟩
    by_cases hk : tkS B n k = 3
    · have hC := h.1.1.1.1
      have hM := h.1.1.1.2.1
      have h0 : tkS B n k ≠ 0 := by rw [hk]; decide
      have g8 : gi τ 8 = 0 := (hM.2.2.1.2.2.2.1 h0).1
      have g4 : gi τ 4 = 2 := by rw [hM.2.2.1.2.1, hk]; decide
      have h32 := h.2.2.2.2.1
      obtain ⟨⟨σ', r1, r2⟩, r3⟩ := TX_raise (F := F) hT h.1 2 (by decide)
      obtain ⟨τ', r4, r5, r6⟩ := r3 h0
      have r1' : Pa_tooMuch F σ = some (0, σ') := r1
      refine ⟨0, σ', ?_, Or.inl ⟨2, tkP B n k, τ', Or.inr rfl, Or.inl ⟨rfl, r2⟩, ?_, r5, by rw [r6, h32]⟩⟩
      · show Pa_parseMethods_b2 F (Pa_parseMethods_2 F m) σ (nI 4) = _
        rw [Pa_parseMethods_b2, if_neg (by decide), c_sort hT hC, bi_some, if_pos hk, if_pos (show nI 4 = (4 : Int32) from rfl), r1', bi_some]
        rfl
      · show Md_readClass_b19 F (Md_readClass_19 F m2) τ = _
        rw [Md_readClass_b19, if_pos g8, if_pos g4, h32, gd_t (inb_nI (by omega) (by omega)), nI_clamp (by omega), t38, if_pos (show nI 4 = (4 : Int32) from rfl), r4, bv_some]
    · exact stop m m2 k M s N a 4 TL σ τ (by omega) h hmc hk
  | succ d ih =>
    intro m m2 k M s N a it TL σ τ hit hm hm2 h hmc
    obtain ⟨ho, t36, t38, t33⟩ := JD_dc h
    obtain ⟨m, rfl⟩ : ∃ m', m = m' + 1 := ⟨m - 1, by omega⟩
    obtain ⟨m2, rfl⟩ : ∃ m', m2 = m' + 1 := ⟨m2 - 1, by omega⟩
    by_cases hk : tkS B n k = 3
    · have hC := h.1.1.1.1
      have hM := h.1.1.1.2.1
      have h0 : tkS B n k ≠ 0 := by rw [hk]; decide
      have g8 : gi τ 8 = 0 := (hM.2.2.1.2.2.2.1 h0).1
      have g4 : gi τ 4 = 2 := by rw [hM.2.2.1.2.1, hk]; decide
      have h32 := h.2.2.2.2.1
      have h606 := h.2.2.2.1
      have h34 := h.2.2.2.2.2.2.2.1
      have nit : ¬ nI it = 4 := fun z => by have := (nI_eq (a := it) (b := 4) (by omega) (by omega)).mp z; omega
      obtain ⟨σ1, τ1, c1, c2, hJ1, p66, p67, p33, p41⟩ := op_meth (F := F) hT hF h hk (by omega)
      have b1 : Pa_parseMethods_2 F (m + 1) σ (nI it) = bi (Pa_expect F σ1 (58 : Int32)) (fun r13 σ12 => if r13 = 0 then (some ((0 : Int32), σ12)) else (gd (isRow (gr σ12 605)) (bi (Ro_beginTerm F σ12 (gr σ12 605) (gi σ12 606)) (fun r18 σ16 => if r18 = 0 then (some ((0 : Int32), σ16)) else (bi (Pa_parseType F 12 σ16 (0 : Int32)) (fun r22 σ21 => if r22 = 0 then (some ((0 : Int32), σ21)) else (bi (Pa_expect F σ21 (59 : Int32)) (fun r26 σ25 => if r26 = 0 then (some ((0 : Int32), σ25)) else (Pa_parseMethods_2 F m σ25 (nI (it + 1))))))))))) := by
        show Pa_parseMethods_b2 F (Pa_parseMethods_2 F m) σ (nI it) = _
        rw [Pa_parseMethods_b2, if_neg (show ¬ (4 : Int32) < nI it from nI_nlt (a := 4) (by omega) (by omega)), c_sort hT hC, bi_some, if_pos hk, if_neg nit, h606, gd_t (inb_nI (by omega) (by omega)), nI_clamp (by omega), h34, nI_1, c1]
        unfold Pa_parseMethods_111 Pa_parseMethods_112
        rw [nI_1]
        simp only [if_true, if_neg (show ¬ (1 : Int32) = 0 by decide)]
      have b2 : Md_readClass_19 F (m2 + 1) τ = bv (Md_want F τ1 (1001 : Int32)) (fun σ9 => if (gi σ9 8) ≤ 0 then (bi (Md_readType F σ9) (fun r13 σ12 => bv (Md_act F σ12 (1 : Int32) r13 (gi σ12 19)) (fun σ15 => bv (Md_want F (si σ15 67 (-1 : Int32)) (59 : Int32)) (fun σ17 => Md_readClass_19 F m2 σ17)))) else (some σ9)) := by
        show Md_readClass_b19 F (Md_readClass_19 F m2) τ = _
        rw [Md_readClass_b19, if_pos g8, if_pos g4, h32, gd_t (inb_nI (by omega) (by omega)), nI_clamp (by omega), t38, if_neg nit, nI_1, c2]
      by_cases h01 : tkS B n (k + 1) = 0
      · obtain ⟨d1, d2⟩ := TX_dm hT hJ1.1 h01
        obtain ⟨σ2, x1, x2⟩ := dm_expect (F := F) hT d1 (x := 58) (by decide)
        refine ⟨0, σ2, by rw [b1, x1, bi_some, if_pos rfl], Or.inl ⟨1, tkP B n (k + 1), τ1, Or.inl rfl, Or.inl ⟨rfl, x2⟩, ?_, d2, hJ1.2.2.2.2.1⟩⟩
        rw [b2, fs_want (by rw [d2.1]; decide), bv_some, if_neg (by rw [d2.1]; decide)]
      · have hw := op_want (F := F) hT hF hJ1.1 h01 (y := 58) (by omega) (by omega)
        rw [show sgM (nI 58) = 1001 by decide, show nI 58 = (58 : Int32) from rfl] at hw
        by_cases hk1 : tkS B n (k + 1) = 58
        · obtain ⟨τ2, x1, x2, x3, x4, x5⟩ := hw.1 hk1
          have hJ2 := JD_step hJ1 x3 x4 x5
          obtain ⟨g605, g606⟩ := JD_rg hJ2
          have fp := frP_M x5
          have hmcT : mcT τ2 TL = mcT τ TL := mcT_fr (D := o + 1) (fun i _ => by rw [fp.2.2.2, p33]) TL 0 h.1.1.2.1.2.2.2
          have hme2 : gi τ2 67 = (if 2 = 2 then nI (mcT τ2 TL) else -1) := by rw [if_pos rfl, fp.2.1, p67, hmc.1, hmcT]
          by_cases h02 : tkS B n (k + 2) = 0
          · obtain ⟨d1, d2⟩ := TX_dm hT x3 h02
            have hC2 := x3.1.1.1
            have hlen := len_lenT TL
            have hs2 := x3.1.2.2.1
            have hs3 := x3.1.1.2.2.2.1
            obtain ⟨σ2, bb1, bb2⟩ : ∃ σ2, Ro_beginTerm F (si σ1 106 (nI (k + 2))) 10 (nI o) = some (1, σ2) ∧ σ2 = ti (ta (ta (si σ1 106 (nI (k + 2))) 64 TL.length (nI s)) 65 TL.length (nI o)) 1007 (nI (TL.length + 1)) := by
              refine ⟨_, ?_, rfl⟩
              have h1007 : mi (si σ1 106 (nI (k + 2))) (100 * 10 + 7) = nI TL.length := x3.1.2.1.1.1
              have h1004 : mi (si σ1 106 (nI (k + 2))) (100 * 10 + 4) = nI s := hC2.2.2.2.2.2.1
              rw [Ro_beginTerm, gd_t (by decide), h1007, h1004, if_pos (show nI TL.length ≤ (200 : Int32) from nI_le (b := 200) (by omega) (by omega)), gd_t (inb_nI (by omega) (by omega)), nI_clamp (by omega), nI_1]
              rfl
            have hC3 : cS B n c 10 σ2 (k + 2) (M + 1) s := by
              obtain ⟨c1, c2, c3, c4', c5, c6, c7, c8⟩ := hC2
              rw [bb2]
              exact ⟨by simp only [zs] at c1 ⊢; simpa using c1, c2, by simp only [zs] at c3 ⊢; simpa using c3, by simpa only [zs] using c4', by simp only [zs] at c5 ⊢; exact c5, by simp only [zs] at c6 ⊢; simpa using c6, by simp only [zs] at c7 ⊢; simpa using c7, by simp only [zs] at c8 ⊢; simpa using c8⟩
            have fT1 : frTC (si σ1 106 (nI (k + 2))) σ2 := by
              rw [bb2]
              refine ⟨fun j _ => by simp [zs], fun j _ => by simp [zs], fun j => by simp [zs], fun j _ _ _ => by simp [zs], fun j => by simp [zs], fun j _ j2 => by simp [zs, j2], fun j hj => ?_, fun j _ => by simp [zs]⟩
              have j1 : j ≠ 64 := by omega
              have j2 : j ≠ 65 := by omega
              simp [zs, j1, j2]
            obtain ⟨σ3, y1, y2, y3, y4⟩ := ty_bad (F := F) hT (by decide) hF 11 0 σ2 (k + 2) (M + 1) s hC3 (by rw [h02]; unfold stO; decide)
            refine ⟨0, σ3, ?_, Or.inl ⟨1, tkP B n (k + 2), τ2, Or.inl rfl, Or.inl ⟨rfl, y2, y3, frTC_tr x3.1.2.2.2.2.2.1 (frTC_tr fT1 (frTC_C y4))⟩, ?_, d2, hJ2.2.2.2.2.1⟩⟩
            · rw [b1, x1, bi_some, if_neg (by decide), g605, gd_t (by decide), g606, bb1, bi_some, if_neg (by decide), y1, bi_some, if_pos rfl]
            · rw [b2, x2, bv_some, if_neg (by rw [d2.1]; decide)]
          · obtain ⟨σ2, e1, e2, e3⟩ := op_begin (F := F) hT hJ2 h02
            have hR := rd_type (F := F) hT (by decide) hF (by omega) e3
            obtain ⟨r, σ3, y1, y2⟩ := op_term hT hJ2 hme2 (fun z => absurd z (by decide)) e2 hR
            have g82 : gi τ2 8 = 0 := (x3.1.1.2.1.2.2.1.2.2.2.1 h02).1
            have hcl : Pa_parseMethods_2 F (m + 1) σ (nI it) = if r = 0 then some (0, σ3) else (bi (Pa_expect F σ3 (59 : Int32)) (fun r26 σ25 => if r26 = 0 then (some ((0 : Int32), σ25)) else (Pa_parseMethods_2 F m σ25 (nI (it + 1))))) := by
              rw [b1, x1, bi_some, if_neg (by decide), g605, gd_t (by decide), g606, e1, bi_some, if_neg (by decide), y1, bi_some]
            have hrf : Md_readClass_19 F (m2 + 1) τ = bi (Md_readType F τ2) (fun r13 σ12 => bv (Md_act F σ12 (1 : Int32) r13 (gi σ12 19)) (fun σ15 => bv (Md_want F (si σ15 67 (-1 : Int32)) (59 : Int32)) (fun σ17 => Md_readClass_19 F m2 σ17))) := by
              rw [b2, x2, bv_some, g82, if_pos (by decide)]
            rcases y2 with ⟨f, p, τ3, u1, u2, u3, u4, ⟨a3, u5, u5'⟩, u6⟩ | ⟨u0, k3, M3, s3, N3, a3, t, As, nn, τ3, u1, u2, u3, u4, u5, u6, u7⟩
            · have hact := m_act (F := F) (τ := τ3) (a := a3) u5' (by omega) 1 0 (gi τ3 19)
              have hFS : FS τ0 (si (si (sa (sa (sa τ3 7 a3 1) 8 a3 0) 9 a3 (gi τ3 19)) 23 (nI (a3 + 1))) 67 (-1)) f p := by
                obtain ⟨h1, h2, h3, _, ⟨N2, h5, h5'⟩, R', h6, h6'⟩ := u4
                refine ⟨by simp [zs, h1], by simp [zs, h2], frTM_tr h3 ⟨fun j hj => ?_, fun j hj => ?_, fun j _ => by simp [zs], fun j _ _ _ _ _ => by simp [zs], fun _ => ⟨by simp [zs], by simp [zs]⟩, fun _ => by simp [zs]⟩, ⟨a3 + 1, by omega, by simp [zs]⟩, ⟨N2, h5, by simp [zs, h5']⟩, R', h6, by simp [zs, h6']⟩
                · unfold exMi at hj
                  have j1 : j ≠ 23 := by omega
                  have j2 : j ≠ 67 := by omega
                  simp [zs, j1, j2]
                · unfold exMa at hj
                  have j1 : j ≠ 7 := by omega
                  have j2 : j ≠ 8 := by omega
                  have j3 : j ≠ 9 := by omega
                  simp [zs, j1, j2, j3]
              have h8f : gi (si (si (sa (sa (sa τ3 7 a3 1) 8 a3 0) 9 a3 (gi τ3 19)) 23 (nI (a3 + 1))) 67 (-1)) 8 ≠ 0 := by rw [hFS.1]; exact (f_pos u1).1
              have href : Md_readClass_19 F (m2 + 1) τ = some (si (si (sa (sa (sa τ3 7 a3 1) 8 a3 0) 9 a3 (gi τ3 19)) 23 (nI (a3 + 1))) 67 (-1)) := by
                obtain ⟨m2, rfl⟩ : ∃ m', m2 = m' + 1 := ⟨m2 - 1, by omega⟩
                rw [hrf, u3, bi_some, hact, bv_some, fs_want h8f, bv_some]
                show Md_readClass_b19 F (Md_readClass_19 F m2) _ = _
                rw [Md_readClass_b19, if_neg h8f, Md_readClass_142, fs_want h8f, bv_some]
              rcases u2 with ⟨z1, z2⟩ | ⟨z1, z2, z3⟩
              · subst z1
                exact ⟨0, σ3, by rw [hcl, if_pos rfl], Or.inl ⟨f, p, _, u1, Or.inl ⟨rfl, z2⟩, href, hFS, by simp [zs, u6]⟩⟩
              · subst z1
                obtain ⟨σ4, w1, w2⟩ := dm_expect (F := F) hT (Or.inr ⟨rfl, z2, z3⟩ : dmT B n c σ0 1 σ3 f p) (x := 59) (by decide)
                exact ⟨0, σ4, by rw [hcl, if_neg (by decide), w1, bi_some, if_pos rfl], Or.inl ⟨f, p, _, u1, Or.inl ⟨rfl, w2⟩, href, hFS, by simp [zs, u6]⟩⟩
            · subst u0
              rw [if_neg (by decide), if_neg (by decide)] at u7
              have hact := m_act (F := F) (τ := τ3) (a := a3) u6 u5 1 (nI nn) (gi τ3 19)
              obtain ⟨τ4, e4⟩ : ∃ τ4, τ4 = si (sa (sa (sa τ3 7 a3 1) 8 a3 (nI nn)) 9 a3 (gi τ3 19)) 23 (nI (a3 + 1)) := ⟨_, rfl⟩
              rw [← e4] at u7 hact
              have q33 : ga τ4 33 = ga τ 33 := by
                rw [e4]; simp only [zs]; rw [if_neg (by decide), if_neg (by decide), if_neg (by decide), u4.2.2.2, fp.2.2.2, p33]
              have h667 : gi τ4 66 = nI (mcT τ TL + 1) := by
                rw [e4]; simp only [zs]; rw [if_neg (by decide), u4.1, fp.1, p66, hmc.1, nI_1]
              have hJ5 : JD B n c σ0 τ0 σ3 (si τ4 67 (-1)) k3 M3 s3 N3 (a3 + 1) o S R (TL ++ [(o, t, nn, As, gi τ2 67)]) 2 q (it + 1) := by
                have w := JD_67 u7 (-1) (gi τ4 66)
                have e : si (si τ4 67 (-1)) 66 (gi τ4 66) = si τ4 67 (-1) := si_same _ (by simp [zs])
                rw [e] at w
                exact w
              have hmc5 : MCp (si τ4 67 (-1)) (TL ++ [(o, t, nn, As, gi τ2 67)]) := by
                constructor
                · have em : mcT (si τ4 67 (-1)) TL = mcT τ TL := mcT_fr (D := o + 1) (fun i _ => by simp only [zs]; rw [q33]) TL 0 h.1.1.2.1.2.2.2
                  rw [mcT_app, em]
                  simp only [mcT, zs]
                  rw [if_neg (by decide), if_pos (by rw [q33, t33]; decide), h667]
                · simp [zs]
              have hrf2 : Md_readClass_19 F (m2 + 1) τ = bv (Md_want F (si τ4 67 (-1 : Int32)) (59 : Int32)) (fun σ17 => Md_readClass_19 F m2 σ17) := by
                rw [hrf, u2, bi_some, hact, bv_some]
              by_cases h03 : tkS B n k3 = 0
              · obtain ⟨d1, d2⟩ := TX_dm hT hJ5.1 h03
                obtain ⟨σ4, w1, w2⟩ := dm_expect (F := F) hT d1 (x := 59) (by decide)
                refine ⟨0, σ4, by rw [hcl, if_neg (by decide), w1, bi_some, if_pos rfl], Or.inl ⟨1, tkP B n k3, si τ4 67 (-1), Or.inl rfl, Or.inl ⟨rfl, w2⟩, ?_, d2, hJ5.2.2.2.2.1⟩⟩
                obtain ⟨m2, rfl⟩ : ∃ m', m2 = m' + 1 := ⟨m2 - 1, by omega⟩
                rw [hrf2, fs_want (by rw [d2.1]; decide), bv_some]
                show Md_readClass_b19 F (Md_readClass_19 F m2) _ = _
                rw [Md_readClass_b19, if_neg (by rw [d2.1]; decide), Md_readClass_142, fs_want (by rw [d2.1]; decide), bv_some]
              · have hw5 := op_want (F := F) hT hF hJ5.1 h03 (y := 59) (by omega) (by omega)
                rw [show sgM (nI 59) = 59 by decide, show nI 59 = (59 : Int32) from rfl] at hw5
                by_cases hk3 : tkS B n k3 = 59
                · obtain ⟨τ6, z1, z2, z3, z4, z5⟩ := hw5.1 hk3
                  have hJ6 := JD_step hJ5 z3 z4 z5
                  have fp6 := frP_M z5
                  have hmc6 : MCp τ6 (TL ++ [(o, t, nn, As, gi τ2 67)]) := by
                    constructor
                    · rw [fp6.1, hmc5.1, mcT_fr (τ := si τ4 67 (-1)) (τ' := τ6) (D := o + 1) (fun i _ => by rw [fp6.2.2.2]) _ 0 hJ5.1.1.2.1.2.2.2]
                    · rw [fp6.2.1, hmc5.2]
                  obtain ⟨r, σ', w1, w2⟩ := ih m m2 (k3 + 1) M3 s3 N3 (a3 + 1) (it + 1) _ _ τ6 (by omega) (by omega) (by omega) hJ6 hmc6
                  refine ⟨r, σ', by rw [hcl, if_neg (by decide), z1, bi_some, if_neg (by decide), w1], ?_⟩
                  rcases w2 with ⟨f, p, τ', y1, y2, y3, y4, y5⟩ | ⟨y0, k', M', s', N', a', it', TL', τ', y1, y2, y3, y4, ⟨L', y5⟩, y6, y7⟩
                  · exact Or.inl ⟨f, p, τ', y1, y2, by rw [hrf2, z2, bv_some, y3], y4, y5⟩
                  · exact Or.inr ⟨y0, k', M', s', N', a', it', TL', τ', by omega, by rw [hrf2, z2, bv_some, y2], y3, y4, ⟨(o, t, nn, As, gi τ2 67) :: L', by rw [y5]; simp⟩, by rw [y6, fp6.2.2.2]; simp only [zs]; exact q33, y7⟩
                · obtain ⟨σ4, τ6, z1, z2, z3, z4, z5⟩ := hw5.2 hk3
                  refine ⟨0, σ4, by rw [hcl, if_neg (by decide), z1, bi_some, if_pos rfl], Or.inl ⟨1, tkP B n k3, τ6, Or.inl rfl, Or.inl ⟨rfl, z2⟩, ?_, z4, by rw [z5]; exact hJ5.2.2.2.2.1⟩⟩
                  obtain ⟨m2, rfl⟩ : ∃ m', m2 = m' + 1 := ⟨m2 - 1, by omega⟩
                  rw [hrf2, z3, bv_some]
                  show Md_readClass_b19 F (Md_readClass_19 F m2) _ = _
                  rw [Md_readClass_b19, if_neg (by rw [z4.1]; decide), Md_readClass_142, fs_want (by rw [z4.1]; decide), bv_some]
        · obtain ⟨σ2, τ2, x1, x2, x3, x4, x5⟩ := hw.2 hk1
          refine ⟨0, σ2, by rw [b1, x1, bi_some, if_pos rfl], Or.inl ⟨1, tkP B n (k + 1), τ2, Or.inl rfl, Or.inl ⟨rfl, x2⟩, ?_, x4, by rw [x5]; exact hJ1.2.2.2.2.1⟩⟩
          rw [b2, x3, bv_some, if_neg (by rw [x4.1]; decide)]
    · exact stop m m2 k M s N a it TL σ τ (by omega) h hmc hk
end T
