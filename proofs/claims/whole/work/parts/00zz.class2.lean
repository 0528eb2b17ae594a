/-! A text while it is read: a class. Own text. -/
section T
variable {F : Nat} {B : Nat → Int32} {n c : Nat} {σ0 τ0 : zS} {o S R : Nat}
/-- a class behind its head -/
theorem decl_class {σ τ : zS} {k M s N a : Nat} {TL : List TR} (hT : tEnd B n c) (hF : 1300 ≤ F) (h : JD B n c σ0 τ0 σ τ k M s N a o S R TL 2 0 0) (hsy : soL o 0 TL) (hmc : MCp τ TL) (hSY : SY τ o TL) : ∃ r σ', (∀ K : Int32 → zS → Option zS, bi (Pa_parseParam F σ) (fun r54 σ53 => if r54 = 0 then K 0 σ53 else (bi (Pa_expect F σ53 (123 : Int32)) (fun r58 σ57 => if r58 = 0 then K 0 σ57 else (bi (Pa_parseMethods F σ57) (fun r62 σ61 => if r62 = 0 then K 0 σ61 else (bi (Pa_expect F σ61 (125 : Int32)) (fun r66 σ65 => if r66 = 0 then K 0 σ65 else K 1 σ65))))))) = K r σ') ∧ DG B n c σ0 τ0 k o S R r σ' (bv (Md_readClass F τ) (fun x => Md_readDecl_216 F x)) := by
  have hB := hT.1
  obtain ⟨ho, t36, t38, t33⟩ := JD_dc h
  have hC := h.1.1.1.1
  have hM := h.1.1.1.2.1
  have h32 := h.2.2.2.2.1
  by_cases hk : tkS B n k = 3
  · have h0 : tkS B n k ≠ 0 := by rw [hk]; decide
    have g8 : gi τ 8 = 0 := (hM.2.2.1.2.2.2.1 h0).1
    have g4 : gi τ 4 = 2 := by rw [hM.2.2.1.2.1, hk]; decide
    obtain ⟨σ1, τ1, p1, p2, hJ1, frp1⟩ := (op_param (F := F) hT hF h hk).1 (by omega)
    have hrf : Md_readClass F τ = bv (Md_want F τ1 (123 : Int32)) (fun σ7 => Md_readClass_19 F F σ7) := by
      rw [Md_readClass, (m_wantName (F := F) g8 2).1 g4, bi_some, if_neg (by decide), p2, bv_some]
    have hcl : ∀ K : Int32 → zS → Option zS, bi (Pa_parseParam F σ) (fun r54 σ53 => if r54 = 0 then K 0 σ53 else (bi (Pa_expect F σ53 (123 : Int32)) (fun r58 σ57 => if r58 = 0 then K 0 σ57 else (bi (Pa_parseMethods F σ57) (fun r62 σ61 => if r62 = 0 then K 0 σ61 else (bi (Pa_expect F σ61 (125 : Int32)) (fun r66 σ65 => if r66 = 0 then K 0 σ65 else K 1 σ65))))))) = bi (Pa_expect F σ1 (123 : Int32)) (fun r58 σ57 => if r58 = 0 then K 0 σ57 else (bi (Pa_parseMethods F σ57) (fun r62 σ61 => if r62 = 0 then K 0 σ61 else (bi (Pa_expect F σ61 (125 : Int32)) (fun r66 σ65 => if r66 = 0 then K 0 σ65 else K 1 σ65))))) := by
      intro K
      rw [p1, bi_some, if_neg (by decide)]
    by_cases h01 : tkS B n (k + 1) = 0
    · obtain ⟨d1, d2⟩ := TX_dm hT hJ1.1 h01
      obtain ⟨σ2, x1, x2⟩ := dm_expect (F := F) hT d1 (x := 123) (by decide)
      obtain ⟨τ2, w1, w2⟩ := fs_216 (F := F) d2 hJ1.2.2.2.2.1 (by omega)
      refine ⟨0, σ2, fun K => by rw [hcl, x1, bi_some, if_pos rfl], Or.inl ⟨1, tkP B n (k + 1), τ2, Or.inl rfl, Or.inl ⟨rfl, x2⟩, ?_, w2⟩⟩
      obtain ⟨m, hm⟩ : ∃ m, F = m + 1 := ⟨F - 1, by omega⟩
      rw [hrf, fs_want (by rw [d2.1]; decide), bv_some, show Md_readClass_19 F F = Md_readClass_19 F (m + 1) by rw [← hm]]
      show bv (Md_readClass_b19 F (Md_readClass_19 F m) τ1) _ = _
      rw [Md_readClass_b19, if_neg (by rw [d2.1]; decide), Md_readClass_142, fs_want (by rw [d2.1]; decide), bv_some, bv_some, w1]
    · have hw := op_want (F := F) hT hF hJ1.1 h01 (y := 123) (by omega) (by omega)
      rw [show sgM (nI 123) = 123 by decide, show nI 123 = (123 : Int32) from rfl] at hw
      by_cases hk1 : tkS B n (k + 1) = 123
      · obtain ⟨τ2, x1, x2, x3, x4, x5⟩ := hw.1 hk1
        have hJ2 := JD_step hJ1 x3 x4 x5
        have frp2 : frP τ τ2 := frP_tr frp1 (frP_M x5)
        have hmc2 : MCp τ2 TL := by
          constructor
          · rw [frp2.1, hmc.1, mcT_fr (τ := τ) (τ' := τ2) (D := o) (fun i _ => by rw [frp2.2.2.2]) TL 0 hsy]
          · rw [frp2.2.1, hmc.2]
        obtain ⟨r, σ2, c1, c2⟩ := met_loop (F := F) hT hF 4 F F (k + 2) (M + 1) s N a 0 TL _ τ2 (by omega) (by omega) (by omega) hJ2 hmc2
        have hmet : Pa_parseMethods F (si σ1 106 (nI (k + 2))) = some (r, σ2) := c1
        have hcl2 : ∀ K : Int32 → zS → Option zS, bi (Pa_parseParam F σ) (fun r54 σ53 => if r54 = 0 then K 0 σ53 else (bi (Pa_expect F σ53 (123 : Int32)) (fun r58 σ57 => if r58 = 0 then K 0 σ57 else (bi (Pa_parseMethods F σ57) (fun r62 σ61 => if r62 = 0 then K 0 σ61 else (bi (Pa_expect F σ61 (125 : Int32)) (fun r66 σ65 => if r66 = 0 then K 0 σ65 else K 1 σ65))))))) = if r = 0 then K 0 σ2 else (bi (Pa_expect F σ2 (125 : Int32)) (fun r66 σ65 => if r66 = 0 then K 0 σ65 else K 1 σ65)) := by
          intro K
          rw [hcl, x1, bi_some, if_neg (by decide), hmet, bi_some]
        have hrf2 : Md_readClass F τ = Md_readClass_19 F F τ2 := by rw [hrf, x2, bv_some]
        rcases c2 with ⟨f, p, τ3, u1, u2, u3, u4, u5⟩ | ⟨u0, k3, M3, s3, N3, a3, it3, TL3, τ3, u1, u2, u3, u4, ⟨L, u5⟩, u6, u7⟩
        · obtain ⟨τ4, w1, w2⟩ := fs_216 (F := F) u4 u5 (by omega)
          have href : bv (Md_readClass F τ) (fun x => Md_readDecl_216 F x) = some τ4 := by rw [hrf2, u3, bv_some, w1]
          by_cases hr : r = 0
          · subst hr
            exact ⟨0, σ2, fun K => by rw [hcl2, if_pos rfl], Or.inl ⟨f, p, τ4, u1, u2, href, w2⟩⟩
          · have hr1 : r = 1 := by
              rcases u2 with ⟨z, _⟩ | ⟨z, _⟩
              · exact absurd z hr
              · exact z
            subst hr1
            obtain ⟨σ4, y1, y2⟩ := dm_expect (F := F) hT u2 (x := 125) (by decide)
            exact ⟨0, σ4, fun K => by rw [hcl2, if_neg (by decide), y1, bi_some, if_pos rfl], Or.inl ⟨f, p, τ4, u1, Or.inl ⟨rfl, y2⟩, href, w2⟩⟩
        · subst u0
          have hw3 := op_want (F := F) hT hF u3.1 u7 (y := 125) (by omega) (by omega)
          rw [show sgM (nI 125) = 125 by decide, show nI 125 = (125 : Int32) from rfl] at hw3
          by_cases hk3 : tkS B n k3 = 125
          · obtain ⟨τ4, z1, z2, z3, z4, z5⟩ := hw3.1 hk3
            have hJ4 := JD_step u3 z3 z4 z5
            obtain ⟨τ5, w1, w2, w3, w4⟩ := op_close (F := F) hT hJ4
            have fp4 := frP_M z5
            have href : bv (Md_readClass F τ) (fun x => Md_readDecl_216 F x) = some τ5 := by
              rw [hrf2, u2, Md_readClass_142, z2, bv_some, bv_some, w1]
            have q33 : ga τ5 33 = ga τ 33 := by rw [w4.2.2.2, fp4.2.2.2, u6, frp2.2.2.2]
            have hclf : ∀ K : Int32 → zS → Option zS, bi (Pa_parseParam F σ) (fun r54 σ53 => if r54 = 0 then K 0 σ53 else (bi (Pa_expect F σ53 (123 : Int32)) (fun r58 σ57 => if r58 = 0 then K 0 σ57 else (bi (Pa_parseMethods F σ57) (fun r62 σ61 => if r62 = 0 then K 0 σ61 else (bi (Pa_expect F σ61 (125 : Int32)) (fun r66 σ65 => if r66 = 0 then K 0 σ65 else K 1 σ65))))))) = K 1 (si σ2 106 (nI (k3 + 1))) := by
              intro K
              rw [hcl2, if_neg (by decide), z1, bi_some, if_neg (by decide)]
            by_cases h05 : tkS B n (k3 + 1) = 0
            · obtain ⟨d1, d2⟩ := TX_dm hT w2 h05
              exact ⟨1, _, hclf, Or.inl ⟨1, tkP B n (k3 + 1), τ5, Or.inl rfl, d1, href, d2⟩⟩
            · refine ⟨1, _, hclf, Or.inr ⟨rfl, k3 + 1, M3, s3, N3, a3, TL3, τ5, by omega, href, w2, w3, ⟨?_, ?_⟩, SY_up hSY u5 (fun i _ => by rw [q33]) (Or.inl (by rw [q33, t33]; decide)), CL_up hJ4.2.2.2.2.2.2.2.2.2.2.2 hJ4.2.2.2.2.2.1 hJ4.2.2.2.2.2.2.1 (by omega) (fun _ => rfl), h05⟩⟩
              · rw [w4.1, fp4.1, u4.1, mcT_fr (τ := τ3) (τ' := τ5) (D := o + 1) (fun i _ => by rw [w4.2.2.2, fp4.2.2.2]) TL3 0 u3.1.1.2.1.2.2.2]
              · rw [w4.2.1, fp4.2.1, u4.2]
          · obtain ⟨σ4, τ4, z1, z2, z3, z4, z5⟩ := hw3.2 hk3
            obtain ⟨τ5, w1, w2⟩ := fs_216 (F := F) (o := o) z4 (by rw [z5]; exact u3.2.2.2.2.1) (by omega)
            refine ⟨0, σ4, fun K => by rw [hcl2, if_neg (by decide), z1, bi_some, if_pos rfl], Or.inl ⟨1, tkP B n k3, τ5, Or.inl rfl, Or.inl ⟨rfl, z2⟩, ?_, w2⟩⟩
            rw [hrf2, u2, Md_readClass_142, z3, bv_some, bv_some, w1]
      · obtain ⟨σ2, τ2, x1, x2, x3, x4, x5⟩ := hw.2 hk1
        obtain ⟨τ3, w1, w2⟩ := fs_216 (F := F) (o := o) x4 (by rw [x5]; exact hJ1.2.2.2.2.1) (by omega)
        refine ⟨0, σ2, fun K => by rw [hcl, x1, bi_some, if_pos rfl], Or.inl ⟨1, tkP B n (k + 1), τ3, Or.inl rfl, Or.inl ⟨rfl, x2⟩, ?_, w2⟩⟩
        obtain ⟨m, hm⟩ : ∃ m, F = m + 1 := ⟨F - 1, by omega⟩
        rw [hrf, x3, bv_some, show Md_readClass_19 F F = Md_readClass_19 F (m + 1) by rw [← hm]]
        show bv (Md_readClass_b19 F (Md_readClass_19 F m) τ2) _ = _
        rw [Md_readClass_b19, if_neg (by rw [x4.1]; decide), Md_readClass_142, fs_want (by rw [x4.1]; decide), bv_some, bv_some, w1]
  · obtain ⟨⟨σ', r1, r2⟩, r3⟩ := TX_raise (F := F) hT h.1 1 (by decide)
    have r1' : Pa_misfit F σ = some (0, σ') := r1
    have hcl : ∀ K : Int32 → zS → Option zS, bi (Pa_parseParam F σ) (fun r54 σ53 => if r54 = 0 then K 0 σ53 else (bi (Pa_expect F σ53 (123 : Int32)) (fun r58 σ57 => if r58 = 0 then K 0 σ57 else (bi (Pa_parseMethods F σ57) (fun r62 σ61 => if r62 = 0 then K 0 σ61 else (bi (Pa_expect F σ61 (125 : Int32)) (fun r66 σ65 => if r66 = 0 then K 0 σ65 else K 1 σ65))))))) = K 0 σ' := by
      intro K
      have : Pa_parseParam F σ = some (0, σ') := by
        rw [Pa_parseParam, c_sort hT hC, bi_some, if_neg hk, r1', bi_some]; rfl
      rw [this, bi_some, if_pos rfl]
    by_cases h0 : tkS B n k = 0
    · obtain ⟨d1, d2⟩ := TX_dm hT h.1 h0
      obtain ⟨τ2, w1, w2⟩ := fs_216 (F := F) d2 h32 (by omega)
      refine ⟨0, σ', hcl, Or.inl ⟨1, tkP B n k, τ2, Or.inl rfl, Or.inl ⟨rfl, r2⟩, ?_, w2⟩⟩
      rw [Md_readClass, m_wantName0 (by rw [d2.1]; decide), bi_some, if_pos rfl, bv_some, w1]
    · obtain ⟨τ', r4, r5, r6⟩ := r3 h0
      have g8 : gi τ 8 = 0 := (hM.2.2.1.2.2.2.1 h0).1
      have g4 : gi τ 4 ≠ 2 := by rw [hM.2.2.1.2.1]; exact fun z => hk ((tokM_big hB).2.1.mpr z)
      obtain ⟨τ2, w1, w2⟩ := fs_216 (F := F) (o := o) r5 (by rw [r6]; exact h32) (by omega)
      refine ⟨0, σ', hcl, Or.inl ⟨1, tkP B n k, τ2, Or.inl rfl, Or.inl ⟨rfl, r2⟩, ?_, w2⟩⟩
      rw [Md_readClass, (m_wantName (F := F) g8 2).2 g4 τ' r4, bi_some, if_pos rfl, bv_some, w1]
end T
