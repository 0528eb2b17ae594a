/-! A text while it is read: declarations one by one. Own text. -/
section T
variable {F : Nat} {B : Nat → Int32} {n c : Nat} {σ0 τ0 : zS}
theorem JT_head {σ τ σ' τ' : zS} {k M s N a D S R k' M' so : Nat} {TL : List TR} (h : JT B n c σ0 τ0 σ τ k M s N a D S R TL) (hJ : JD B n c σ0 τ0 σ' τ' k' M' s N a D S R TL so 0 0) (h66 : gi τ' 66 = gi τ 66) (h67 : gi τ' 67 = gi τ 67) (h33 : ∀ i, i < D → ga τ' 33 i = ga τ 33 i) : soL D 0 TL ∧ MCp τ' TL ∧ SY τ' D TL := by
  obtain ⟨hX, hAB, hmc, hSY, hCL⟩ := h
  have hsy := hX.1.2.1.2.2.2
  refine ⟨hsy, ⟨by rw [h66, hmc.1, mcT_fr (τ := τ) (τ' := τ') (D := D) h33 TL 0 hsy], by rw [h67, hmc.2]⟩, fun i hi hz => ?_⟩
  rw [h33 i hi] at hz
  exact hSY i hi hz
theorem decl_ok {σ τ : zS} {k M s N a D S R : Nat} {TL : List TR} (hT : tEnd B n c) (hF : 1300 ≤ F) (h : JT B n c σ0 τ0 σ τ k M s N a D S R TL) (h0 : tkS B n k ≠ 0) (h1 : tkS B n k ≠ 1) : ∃ r σ', (∀ (rc15 : zS → Int32 → Int32 → Option zS) (x2 : Nat), x2 < 1200 → Pa_parseText_b15 F rc15 σ 1 (nI x2) = Pa_parseText_233 F rc15 σ' r (nI x2)) ∧ ((∃ f p τ', (f = 1 ∨ f = 2) ∧ dmT B n c σ0 r σ' f p ∧ Md_readDecl F τ = some τ' ∧ FS τ0 τ' f p) ∨ (r = 1 ∧ ∃ k' M' s' N' a' D' S' R' TL' τ', k < k' ∧ Md_readDecl F τ = some τ' ∧ JT B n c σ0 τ0 σ' τ' k' M' s' N' a' D' S' R' TL' ∧ tkS B n k' ≠ 0)) := by
  have hB := hT.1
  have hJT := h
  obtain ⟨hX, hAB, hmc, hSY, hCL⟩ := h
  have hC := hX.1.1.1
  have hM := hX.1.1.2.1
  have hb : ∀ (rc15 : zS → Int32 → Int32 → Option zS) (x2 : Nat), x2 < 1200 → ∀ o, Pa_parseText_b15 F rc15 σ 1 (nI x2) = o ↔ (bi (Ta_sort F σ) (fun r8 σ7 => if r8 = (4 : Int32) then (bi (Pa_parseHead F σ7 (0 : Int32)) (fun r11 σ10 => if r11 = 0 then (Pa_parseText_233 F rc15 σ10 0 (nI x2)) else (bi (Pa_parseParams F σ10) (fun r15 σ14 => if r15 = 0 then (Pa_parseText_233 F rc15 σ14 0 (nI x2)) else (bi (Pa_expect F σ14 (61 : Int32)) (fun r19 σ18 => if r19 = 0 then (Pa_parseText_233 F rc15 σ18 0 (nI x2)) else (bi (Pa_parseCons F σ18) (fun r23 σ22 => if r23 = 0 then (Pa_parseText_233 F rc15 σ22 0 (nI x2)) else (Pa_parseText_233 F rc15 σ22 1 (nI x2)))))))))) else if r8 = (5 : Int32) then (bi (Pa_parseHead F σ7 (1 : Int32)) (fun r28 σ27 => if r28 = 0 then (Pa_parseText_233 F rc15 σ27 0 (nI x2)) else (bi (Pa_parseParams F σ27) (fun r32 σ31 => if r32 = 0 then (Pa_parseText_233 F rc15 σ31 0 (nI x2)) else (bi (Pa_expect F σ31 (61 : Int32)) (fun r36 σ35 => if r36 = 0 then (Pa_parseText_233 F rc15 σ35 0 (nI x2)) else (gd (isRow (gr σ35 605)) (bi (Ro_beginTerm F σ35 (gr σ35 605) (gi σ35 606)) (fun r41 σ39 => if r41 = 0 then (Pa_parseText_233 F rc15 σ39 0 (nI x2)) else (bi (Pa_parseType F 12 σ39 (0 : Int32)) (fun r45 σ44 => if r45 = 0 then (Pa_parseText_233 F rc15 σ44 0 (nI x2)) else (Pa_parseText_233 F rc15 σ44 1 (nI x2))))))))))))) else if r8 = (6 : Int32) then (bi (Pa_parseHead F σ7 (2 : Int32)) (fun r50 σ49 => if r50 = 0 then (Pa_parseText_233 F rc15 σ49 0 (nI x2)) else (bi (Pa_parseParam F σ49) (fun r54 σ53 => if r54 = 0 then (Pa_parseText_233 F rc15 σ53 0 (nI x2)) else (bi (Pa_expect F σ53 (123 : Int32)) (fun r58 σ57 => if r58 = 0 then (Pa_parseText_233 F rc15 σ57 0 (nI x2)) else (bi (Pa_parseMethods F σ57) (fun r62 σ61 => if r62 = 0 then (Pa_parseText_233 F rc15 σ61 0 (nI x2)) else (bi (Pa_expect F σ61 (125 : Int32)) (fun r66 σ65 => if r66 = 0 then (Pa_parseText_233 F rc15 σ65 0 (nI x2)) else (Pa_parseText_233 F rc15 σ65 1 (nI x2)))))))))))) else if r8 = (7 : Int32) then (bi (Pa_parseTold F σ7) (fun r71 σ70 => Pa_parseText_233 F rc15 σ70 r71 (nI x2))) else (bi (Pa_misfit F σ7) (fun r75 σ74 => Pa_parseText_233 F rc15 σ74 r75 (nI x2))))) = o := by
    intro rc15 x2 hx o
    rw [Pa_parseText_b15, if_neg (show ¬ (1200 : Int32) ≤ nI x2 from nI_ge (b := 1200) hx (by omega)), if_neg (by decide), c_sort hT hC, bi_some, if_neg h1, c_sort hT hC, bi_some, bi_some]
    exact Iff.rfl
  -- the outcome of a declaration is what is asked for
  have fromDG : ∀ (so k0 : Nat) (r : Int32) (σ' : zS) (oq : Option zS), k ≤ k0 → DG B n c σ0 τ0 k0 D S R r σ' oq → Md_readDecl F τ = oq → ((∃ f p τ', (f = 1 ∨ f = 2) ∧ dmT B n c σ0 r σ' f p ∧ Md_readDecl F τ = some τ' ∧ FS τ0 τ' f p) ∨ (r = 1 ∧ ∃ k' M' s' N' a' D' S' R' TL' τ', k < k' ∧ Md_readDecl F τ = some τ' ∧ JT B n c σ0 τ0 σ' τ' k' M' s' N' a' D' S' R' TL' ∧ tkS B n k' ≠ 0)) := by
    intro so k0 r σ' oq hk0 hD e
    rcases hD with ⟨f, p, τ', u1, u2, u3, u4⟩ | ⟨u0, k', M', s', N', a', TL', τ', u1, u2, u3, u4, u5, u6, u7, u8⟩
    · exact Or.inl ⟨f, p, τ', u1, u2, by rw [e, u3], u4⟩
    · exact Or.inr ⟨u0, k', M', s', N', a', D + 1, S, R, TL', τ', by omega, by rw [e, u2], ⟨u3, u4, u5, u6, u7⟩, u8⟩
  by_cases k4 : tkS B n k = 4
  · rcases op_head (F := F) hT hF hX hAB hCL (so := 0) (by omega) k4 with ⟨σ', τ', f, p, u1, u2, u3, u4, u5⟩ | ⟨σ1, τ1, u1, u2, u3, u4, u5, u6, u7⟩
    · refine ⟨0, σ', fun rc15 x2 hx => ?_, Or.inl ⟨f, p, τ', u1, Or.inl ⟨rfl, u3⟩, u4, u5⟩⟩
      have u2' : Pa_parseHead F σ 0 = some (0, σ') := u2
      rw [hb rc15 x2 hx, c_sort hT hC, bi_some, if_pos k4, u2', bi_some, if_pos rfl]
    · obtain ⟨q1, q2, q3⟩ := JT_head hJT u3 u4 u5 u7
      obtain ⟨r, σ2, c1, c2⟩ := decl_data (F := F) hT hF u3 q1 q2 q3
      have u1' : Pa_parseHead F σ 0 = some (1, σ1) := u1
      refine ⟨r, σ2, fun rc15 x2 hx => ?_, fromDG 0 (k + 2) r σ2 _ (by omega) c2 u2⟩
      rw [hb rc15 x2 hx, c_sort hT hC, bi_some, if_pos k4, u1', bi_some, if_neg (by decide)]
      exact c1 (fun r σ => Pa_parseText_233 F rc15 σ r (nI x2))
  · by_cases k5 : tkS B n k = 5
    · rcases op_head (F := F) hT hF hX hAB hCL (so := 1) (by omega) k5 with ⟨σ', τ', f, p, u1, u2, u3, u4, u5⟩ | ⟨σ1, τ1, u1, u2, u3, u4, u5, u6, u7⟩
      · refine ⟨0, σ', fun rc15 x2 hx => ?_, Or.inl ⟨f, p, τ', u1, Or.inl ⟨rfl, u3⟩, u4, u5⟩⟩
        have u2' : Pa_parseHead F σ 1 = some (0, σ') := u2
        rw [hb rc15 x2 hx, c_sort hT hC, bi_some, if_neg k4, if_pos k5, u2', bi_some, if_pos rfl]
      · obtain ⟨q1, q2, q3⟩ := JT_head hJT u3 u4 u5 u7
        obtain ⟨r, σ2, c1, c2⟩ := decl_type (F := F) hT hF u3 q1 q2 q3
        have u1' : Pa_parseHead F σ 1 = some (1, σ1) := u1
        refine ⟨r, σ2, fun rc15 x2 hx => ?_, fromDG 1 (k + 2) r σ2 _ (by omega) c2 u2⟩
        rw [hb rc15 x2 hx, c_sort hT hC, bi_some, if_neg k4, if_pos k5, u1', bi_some, if_neg (by decide)]
        exact c1 (fun r σ => Pa_parseText_233 F rc15 σ r (nI x2))
    · by_cases k6 : tkS B n k = 6
      · rcases op_head (F := F) hT hF hX hAB hCL (so := 2) (by omega) k6 with ⟨σ', τ', f, p, u1, u2, u3, u4, u5⟩ | ⟨σ1, τ1, u1, u2, u3, u4, u5, u6, u7⟩
        · refine ⟨0, σ', fun rc15 x2 hx => ?_, Or.inl ⟨f, p, τ', u1, Or.inl ⟨rfl, u3⟩, u4, u5⟩⟩
          have u2' : Pa_parseHead F σ 2 = some (0, σ') := u2
          rw [hb rc15 x2 hx, c_sort hT hC, bi_some, if_neg k4, if_neg k5, if_pos k6, u2', bi_some, if_pos rfl]
        · obtain ⟨q1, q2, q3⟩ := JT_head hJT u3 u4 u5 u7
          obtain ⟨r, σ2, c1, c2⟩ := decl_class (F := F) hT hF u3 q1 q2 q3
          have u1' : Pa_parseHead F σ 2 = some (1, σ1) := u1
          refine ⟨r, σ2, fun rc15 x2 hx => ?_, fromDG 2 (k + 2) r σ2 _ (by omega) c2 u2⟩
          rw [hb rc15 x2 hx, c_sort hT hC, bi_some, if_neg k4, if_neg k5, if_pos k6, u1', bi_some, if_neg (by decide)]
          exact c1 (fun r σ => Pa_parseText_233 F rc15 σ r (nI x2))
      · by_cases k7 : tkS B n k = 7
        · obtain ⟨r, σ2, c1, c2⟩ := decl_told (F := F) hT hF hX hAB hmc hSY hCL k7
          refine ⟨r, σ2, fun rc15 x2 hx => ?_, ?_⟩
          · rw [hb rc15 x2 hx, c_sort hT hC, bi_some, if_neg k4, if_neg k5, if_neg k6, if_pos k7, c1, bi_some]
          · rcases c2 with u | ⟨u0, k', S', R', τ', u1, u2, u3, u4, u5, u6, u7, u8⟩
            · exact Or.inl u
            · exact Or.inr ⟨u0, k', M + 1, s, N, a, D, S', R', TL, τ', u1, u2, ⟨u3, u4, u5, u6, u7⟩, u8⟩
        · -- no word
          obtain ⟨⟨σ', r1, r2⟩, r3⟩ := TX_raise (F := F) hT hX 1 (by decide)
          obtain ⟨τ', r4, r5, r6⟩ := r3 h0
          have r1' : Pa_misfit F σ = some (0, σ') := r1
          refine ⟨0, σ', fun rc15 x2 hx => ?_, Or.inl ⟨1, tkP B n k, τ', Or.inl rfl, Or.inl ⟨rfl, r2⟩, ?_, r5⟩⟩
          · rw [hb rc15 x2 hx, c_sort hT hC, bi_some, if_neg k4, if_neg k5, if_neg k6, if_neg k7, r1', bi_some]
          · have f4 : gi τ 4 ≠ 3 := by
              rw [hM.2.2.1.2.1]
              intro z
              rcases (tokM_big hB).2.2.1.mpr z with w | w | w | w
              · exact k4 w
              · exact k5 w
              · exact k6 w
              · exact k7 w
            have h46 : ∀ x : Int32, Md_readDecl_46 F τ x = some τ' := by
              intro x
              rw [Md_readDecl_46, if_neg f4, Md_cannot, r4, bv_some, bv_some]
            rw [Md_readDecl]
            split
            · exact h46 _
            · split
              · exact h46 _
              · split
                · exact h46 _
                · exact h46 _
theorem tx_stop (F m : Nat) (σ : zS) (x : Int32) : Pa_parseText_15 F (m + 1) σ 0 x = some σ := by
  rw [Pa_parseText_15]
  by_cases w : (1200 : Int32) ≤ x
  · rw [Pa_parseText_b15, if_pos w, Pa_parseText_258]
  · rw [Pa_parseText_b15, if_neg w, if_pos rfl, Pa_parseText_258]
theorem tx_stopM {F : Nat} (m : Nat) (τ : zS) (h : gi τ 8 ≠ 0) : Md_readText_50 F (m + 1) τ = some τ := by
  rw [Md_readText_50, Md_readText_b50, if_neg h, Md_readText_78]
theorem text_loop (hT : tEnd B n c) (hF : 1300 ≤ F) : ∀ (d m m2 k M s N a D S R x2 : Nat) (TL : List TR) (σ τ : zS), c - k = d → d + 1 < m → d + 1 < m2 → JT B n c σ0 τ0 σ τ k M s N a D S R TL → x2 ≤ k → ∃ σ', Pa_parseText_15 F m σ 1 (nI x2) = some σ' ∧ ((∃ f p τ', (f = 1 ∨ f = 2) ∧ FC σ0 σ' f p ∧ Md_readText_50 F m2 τ = some τ' ∧ FS τ0 τ' f p) ∨ (∃ k' M' s' N' a' D' S' R' TL' τ', Md_readText_50 F m2 τ = some τ' ∧ JT B n c σ0 τ0 σ' τ' k' M' s' N' a' D' S' R' TL' ∧ tkS B n k' = 1)) := by
  have hB := hT.1
  have hc := tE_c hT
  intro d
  induction d using Nat.strongRecOn with
  | _ d ih =>
    intro m m2 k M s N a D S R x2 TL σ τ hd hm hm2 h hx2
    have hX := h.1
    have hC := hX.1.1.1
    have hM := hX.1.1.2.1
    have hkc := hC.2.1
    obtain ⟨m, rfl⟩ : ∃ m', m = m' + 1 := ⟨m - 1, by omega⟩
    obtain ⟨m2, rfl⟩ : ∃ m', m2 = m' + 1 := ⟨m2 - 1, by omega⟩
    have b1 : Pa_parseText_15 F (m + 1) σ 1 (nI x2) = Pa_parseText_b15 F (Pa_parseText_15 F m) σ 1 (nI x2) := by rw [Pa_parseText_15]
    have b2 : Md_readText_50 F (m2 + 1) τ = if (gi τ 8) = 0 then (if (gi τ 4) = (5 : Int32) then (Md_readText_78 F τ) else (bv (Md_readDecl F τ) (fun σ3 => bv (Md_want F σ3 (59 : Int32)) (fun σ5 => Md_readText_50 F m2 σ5)))) else (Md_readText_78 F τ) := by rw [Md_readText_50, Md_readText_b50]
    by_cases h1 : tkS B n k = 1
    · -- the end
      refine ⟨σ, ?_, Or.inr ⟨k, M, s, N, a, D, S, R, TL, τ, ?_, h, h1⟩⟩
      · by_cases w : (1200 : Int32) ≤ nI x2
        · rw [b1, Pa_parseText_b15, if_pos w, Pa_parseText_258]
        · rw [b1, Pa_parseText_b15, if_neg w, if_neg (by decide), c_sort hT hC, bi_some, if_pos h1, Pa_parseText_258]
      · have g8 : gi τ 8 = 0 := (hM.2.2.1.2.2.2.1 (by rw [h1]; decide)).1
        have g4 : gi τ 4 = 5 := by rw [hM.2.2.1.2.1, h1]; decide
        rw [b2, if_pos g8, if_pos g4]; rfl
    · have hk := tEnd_s hT hkc h1
      by_cases h0 : tkS B n k = 0
      · -- a bad token
        obtain ⟨d1, d2⟩ := TX_dm hT hX h0
        obtain ⟨⟨σ', r1, r2⟩, _⟩ := TX_raise (F := F) hT hX 1 (by decide)
        have r1' : Pa_misfit F σ = some (0, σ') := r1
        obtain ⟨m, rfl⟩ : ∃ m', m = m' + 1 := ⟨m - 1, by omega⟩
        refine ⟨σ', ?_, Or.inl ⟨1, tkP B n k, τ, Or.inl rfl, r2, ?_, d2⟩⟩
        · rw [b1, Pa_parseText_b15, if_neg (show ¬ (1200 : Int32) ≤ nI x2 from nI_ge (b := 1200) (by omega) (by omega)), if_neg (by decide), c_sort hT hC, bi_some, if_neg h1, c_sort hT hC, bi_some, if_neg (by rw [h0]; decide), if_neg (by rw [h0]; decide), if_neg (by rw [h0]; decide), if_neg (by rw [h0]; decide), r1', bi_some, Pa_parseText_233, if_pos rfl, Pa_parseText_250, Pa_parseText_251, tx_stop]
        · rw [b2, if_neg (by rw [d2.1]; decide)]; rfl
      · obtain ⟨r, σ1, c1, c2⟩ := decl_ok (F := F) hT hF h h0 h1
        have hcl := c1 (Pa_parseText_15 F m) x2 (by omega)
        have g8 : gi τ 8 = 0 := (hM.2.2.1.2.2.2.1 h0).1
        have g4 : gi τ 4 ≠ 5 := by
          rw [hM.2.2.1.2.1]
          intro z
          rcases (tokM_big hB).2.2.2.mpr z with w | w
          · exact h0 w
          · exact h1 w
        have hrf : Md_readText_50 F (m2 + 1) τ = bv (Md_readDecl F τ) (fun σ3 => bv (Md_want F σ3 (59 : Int32)) (fun σ5 => Md_readText_50 F m2 σ5)) := by
          rw [b2, if_pos g8, if_neg g4]
        obtain ⟨m, rfl⟩ : ∃ m', m = m' + 1 := ⟨m - 1, by omega⟩
        obtain ⟨m2, rfl⟩ : ∃ m', m2 = m' + 1 := ⟨m2 - 1, by omega⟩
        have h233 : ∀ σx : zS, Pa_parseText_233 F (Pa_parseText_15 F (m + 1)) σx 0 (nI x2) = some σx := by
          intro σx
          rw [Pa_parseText_233, if_pos rfl, Pa_parseText_250, Pa_parseText_251, tx_stop]
        have h233' : ∀ σx : zS, Pa_parseText_233 F (Pa_parseText_15 F (m + 1)) σx 1 (nI x2) = bi (Pa_expect F σx (59 : Int32)) (fun r3 σ2 => if r3 = 0 then some σ2 else (Pa_parseText_15 F (m + 1) σ2 1 (nI (x2 + 1)))) := by
          intro σx
          rw [Pa_parseText_233, if_neg (by decide)]
          congr 1
          funext r3 σ2
          by_cases w : r3 = 0
          · rw [if_pos w, if_pos w, Pa_parseText_250, Pa_parseText_251, tx_stop]
          · rw [if_neg w, if_neg w, Pa_parseText_251, nI_1]
        rcases c2 with ⟨f, p, τ', u1, u2, u3, u4⟩ | ⟨u0, k', M', s', N', a', D', S', R', TL', τ', u1, u2, u3, u4⟩
        · have h8' : gi τ' 8 ≠ 0 := by rw [u4.1]; exact (f_pos u1).1
          have href : Md_readText_50 F (m2 + 1 + 1) τ = some τ' := by
            rw [hrf, u3, bv_some, fs_want h8', bv_some]
            exact tx_stopM m2 τ' h8'
          by_cases hr : r = 0
          · subst hr
            refine ⟨σ1, by rw [b1, hcl, h233], Or.inl ⟨f, p, τ', u1, ?_, href, u4⟩⟩
            rcases u2 with ⟨_, w⟩ | ⟨w, _⟩
            · exact w
            · exact absurd w (by decide)
          · have hr1 : r = 1 := by
              rcases u2 with ⟨w, _⟩ | ⟨w, _⟩
              · exact absurd w hr
              · exact w
            subst hr1
            obtain ⟨σ2, y1, y2⟩ := dm_expect (F := F) hT u2 (x := 59) (by decide)
            exact ⟨σ2, by rw [b1, hcl, h233', y1, bi_some, if_pos rfl], Or.inl ⟨f, p, τ', u1, y2, href, u4⟩⟩
        · subst u0
          have hw := op_want (F := F) hT hF u3.1 u4 (y := 59) (by omega) (by omega)
          rw [show sgM (nI 59) = 59 by decide, show nI 59 = (59 : Int32) from rfl] at hw
          by_cases h59 : tkS B n k' = 59
          · obtain ⟨τ2, z1, z2, z3, z4, z5⟩ := hw.1 h59
            have fp := frP_M z5
            have hJ2 : JT B n c σ0 τ0 (si σ1 106 (nI (k' + 1))) τ2 (k' + 1) M' s' N' a' D' S' R' TL' := by
              obtain ⟨_, q1, q2, q3, q4⟩ := u3
              refine ⟨z3, AB_fr z5 q1, ⟨by rw [fp.1, q2.1, mcT_fr (τ := τ') (τ' := τ2) (D := D') (fun i _ => by rw [fp.2.2.2]) TL' 0 z3.1.2.1.2.2.2], by rw [fp.2.1, q2.2]⟩, fun i hi hz => ?_, fun i hi => ?_⟩
              · rw [fp.2.2.2] at hz; exact q3 i hi hz
              · rw [z4.2.1 29 i (by omega), z4.2.1 32 i (by omega)]; exact q4 i hi
            obtain ⟨σ', w1, w2⟩ := ih (c - (k' + 1)) (by omega) (m + 1) (m2 + 1) (k' + 1) M' s' N' a' D' S' R' (x2 + 1) TL' _ τ2 rfl (by omega) (by omega) hJ2 (by omega)
            refine ⟨σ', by rw [b1, hcl, h233', z1, bi_some, if_neg (by decide), w1], ?_⟩
            have e2 : Md_readText_50 F (m2 + 1 + 1) τ = Md_readText_50 F (m2 + 1) τ2 := by rw [hrf, u2, bv_some, z2, bv_some]
            rcases w2 with ⟨f, p, τ3, v1, v2, v3, v4⟩ | ⟨k2, M2, s2, N2, a2, D2, S2, R2, TL2, τ3, v1, v2, v3⟩
            · exact Or.inl ⟨f, p, τ3, v1, v2, by rw [e2, v3], v4⟩
            · exact Or.inr ⟨k2, M2, s2, N2, a2, D2, S2, R2, TL2, τ3, by rw [e2, v1], v2, v3⟩
          · obtain ⟨σ2, τ2, z1, z2, z3, z4, z5⟩ := hw.2 h59
            have h8' : gi τ2 8 ≠ 0 := by rw [z4.1]; decide
            refine ⟨σ2, by rw [b1, hcl, h233', z1, bi_some, if_pos rfl], Or.inl ⟨1, tkP B n k', τ2, Or.inl rfl, z2, ?_, z4⟩⟩
            rw [hrf, u2, bv_some, z3, bv_some]
            exact tx_stopM m2 τ2 h8'
end T
