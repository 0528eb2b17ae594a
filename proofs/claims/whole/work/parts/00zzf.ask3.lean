/-! Types that are asked: what both have read. Own text. -/
/-- one type that was asked, in both -/
def AT (σ τ : zS) (lo hi : Nat) (o : Int32) (s0 M0 a0 : Nat) (t : TE) (nn : Nat) (As : List AE) : Prop := okT t ∧ rwL σ 11 s0 (hdT t :: tlT t) ∧ nd τ o (-1) lo hi t nn As ∧ acL τ a0 As ∧ lvA σ (-1) M0 t ∧ As.length + 1 ≤ lnT t
/-- what both hold in common behind it -/
def AC (σ τ : zS) (N0 M s N a T : Nat) : Prop := gi σ 200 = 0 ∧ gi τ 8 = 0 ∧ gi τ 9 = -3 ∧ gi σ 505 = nI M ∧ gi τ 31 = nI M ∧ M ≤ 600 ∧ (∀ i, i < M → meR σ τ i) ∧ mi σ 1104 = nI s ∧ mi σ 1107 = nI T ∧ s ≤ 200 ∧ gi τ 16 = nI N ∧ N ≤ N0 + 2 * s ∧ N0 ≤ N ∧ gi τ 23 = nI a ∧ a ≤ s ∧ LI N0 τ ∧ AI τ
/-- a fault of both -/
def AF (σ τ : zS) : Prop := ∃ f p, (f = 1 ∨ f = 2) ∧ gi σ 200 = f ∧ gi σ 201 = nI p ∧ gi τ 8 = f ∧ gi τ 9 = nI p ∧ (∃ a, a ≤ 400 ∧ gi τ 23 = nI a) ∧ ∃ N2, N2 ≤ 999 ∧ gi τ 16 = nI N2
/-- what does not depend on the outcome -/
def AX (σ τ σ' τ' : zS) (N0 R0 : Nat) : Prop := frA σ σ' ∧ frB N0 τ τ' ∧ gi σ' 306 = gi σ 307 ∧ gi τ' 48 = nI R0 ∧ (∀ i, i < R0 → ga τ' 29 i = ga τ 58 i) ∧ gi τ' 10 = 0
theorem ask1 {F : Nat} {σ τ : zS} {n N0 R0 : Nat} (hF : 5000 ≤ F) (hB : byt (ga σ 19) n) (hl : gi σ 101 = nI n) (hB2 : ∀ i, i < n → ga σ 19 i = ga τ 1 i) (hl2 : gi τ 2 = nI n) (hN0 : gi τ 89 = nI N0) (hN1 : N0 ≤ 500) (hR0 : gi τ 88 = nI R0) (hR1 : R0 ≤ 4000) : ∃ σ' τ' rr, (∀ K : zS → Option (Int32 × zS), bv (Fa_clear F σ) (fun σ1 => bv (Me_clear F σ1) (fun σ3 => gd (isRow 11) (bv (Ro_clear F σ3 11) (fun σ5 => bv (Ki_dropAsked F σ5) (fun σ8 => bv (Ta_scan F σ8) (fun σ10 => bv (Pa_parseTypes F σ10 11 1) (fun σ12 => K σ12))))))) = K σ') ∧ Md_readAsked F τ 0 = Md_readAsked_93 F τ' rr ∧ AX σ τ σ' τ' N0 R0 ∧ (AF σ' τ' ∨ ∃ M s N a t nn As, AC σ' τ' N0 M s N a 1 ∧ AT σ' τ' N0 N (-1) 0 0 0 t nn As ∧ s = lnT t ∧ a = As.length ∧ M = (lvs t).length ∧ ma σ' 70 0 = 0 ∧ ma σ' 71 0 = -1 ∧ rr = nI nn) := by
  obtain ⟨σs, τb, c, hT, hch, hrf, hC, hM, h606, h32, h67, h10, h9, h48, h29, h29', h306, h1107, h70, h71, fA, fB⟩ := ask_start (F := F) hF hB hl hB2 hl2 hN0 hR0 hR1
  have hBB := hT.1
  have hch1 := fun K => hch K 1
  have hrf1 := hrf 0
  have h37 : ∀ (σ : zS) (x : Int32), Pa_parseTypes_37 F σ 1 x = Pa_parseTypes_94 F σ x := by
    intro σ x
    obtain ⟨m, hm⟩ : ∃ m, F = m + 1 := ⟨F - 1, by omega⟩
    rw [Pa_parseTypes_37, show Pa_parseTypes_41 F F = Pa_parseTypes_41 F (m + 1) by rw [← hm], Pa_parseTypes_41, Pa_parseTypes_b41, if_pos (by decide)]
  have h36 : ∀ σ : zS, Pa_parseTypes_36 F σ 1 = some σ := by
    intro σ
    rw [Pa_parseTypes_36, h37, Pa_parseTypes_94, if_pos rfl]
    rfl
  have mkAX : ∀ (σ' τ' : zS) (M s N a : Nat), frC 11 M s σs σ' → frM 0 N a M τb τ' → N0 ≤ N → AX σ τ σ' τ' N0 R0 := by
    intro σ' τ' M s N a g1 g2 g3
    refine ⟨frA_C fA g1, frB_M fB g2 g3, by rw [g1.1 306 (by decide) (by decide) (by decide) (by decide), h306], by rw [g2.1 48 (by unfold exM; omega), h48], fun i hi => by rw [g2.2.1 29 i (by unfold okM; omega), h29 i hi], by rw [g2.1 10 (by unfold exM; omega), h10]⟩
  have hLb : LI N0 τb := ⟨N0, 0, hM.2.2.2.2.2.1, hM.2.2.2.1, by omega, by omega, fun n n1 n2 => by omega⟩
  have hAb : AI τb := ⟨N0, 0, hM.2.2.2.2.2.1, hM.2.2.2.2.2.2.1, by omega, by omega, fun a ha => by omega⟩
  by_cases h0 : tkS (ga τ 1) n 0 = 0
  · obtain ⟨σ', t1, t2, t3, t4⟩ := ty_bad (F := F) hT (by decide) (by omega) 11 0 σs 0 0 0 hC (by rw [h0]; unfold stO; decide)
    have hcu := hM.2.2.1.2.2.1 h0
    obtain ⟨τ', y1, y2, y3⟩ := fs_readType (F := F) (by omega) (τ := τb) (by rw [hcu.1]; decide)
    refine ⟨σ', τ', 0, fun K => by rw [hch1, t1, bi_some, if_pos rfl, h36, bv_some], ?_, mkAX σ' τ' 0 0 N0 0 t4 (y2 N0 0 0) (Nat.le_refl _), Or.inl ⟨1, tkP (ga τ 1) n 0, Or.inl rfl, t2, t3, by rw [y3 8 (by decide), hcu.1], by rw [y3 9 (by decide), hcu.2], ⟨0, by omega, by rw [y3 23 (by decide)]; exact hM.2.2.2.2.2.2.1⟩, N0, by omega, by rw [y3 16 (by decide)]; exact hM.2.2.2.2.2.1⟩⟩
    rw [hrf1, y1, bi_some, if_pos rfl, Md_readAsked_74, if_neg (by rw [y3 8 (by decide), hcu.1]; decide)]
  · have hJO : JO (ga τ 1) n c 11 N0 σs τb 0 0 0 N0 0 := ⟨hC, hM, h0, fun i hi => absurd hi (Nat.not_lt_zero _), ⟨by omega, fun _ => by omega⟩, by omega, by omega, by omega, Or.inl (by rw [h32, h606])⟩
    obtain ⟨r, σ1, e1, fr1, res⟩ := rd_type (F := F) hT (by decide) (by omega) hN1 hJO
    rcases res with ⟨f, p, τ1, u1, u2, u3, u4⟩ | ⟨u0, k', M', s', N', a', t, As, nn, τ1, u1, u2, u3, u4, u5, u6, u7, u8, u9, u10, u11, u12, u13, u14, u15, u16, u17, u18, u19⟩
    · obtain ⟨v1, v2, v3, ⟨a', v4, v4'⟩, N2, v5, v6⟩ := u3
      have href : Md_readAsked F τ 0 = Md_readAsked_93 F τ1 0 := by
        rw [hrf1, u4, bi_some, if_pos rfl, Md_readAsked_74, if_neg (by rw [v2]; exact (f_pos u1).1)]
      rcases u2 with ⟨d1, d2, d3⟩ | ⟨d1, d2, kb, Mb, sb, dC, _, _, _, _, dS, dp⟩
      · subst d1
        exact ⟨σ1, τ1, 0, fun K => by rw [hch1, e1, bi_some, if_pos rfl, h36, bv_some], href, mkAX σ1 τ1 0 0 N0 0 fr1 v1 (Nat.le_refl _), Or.inl ⟨f, p, u1, d2, d3, v2, v3, ⟨a', v4, v4'⟩, N2, by omega, v6⟩⟩
      · subst d1 d2
        obtain ⟨σ2, t1, t2, t3, t4⟩ := c_misfit (F := F) hT dC
        refine ⟨σ2, τ1, 0, fun K => ?_, href, mkAX σ2 τ1 0 0 N0 0 (frC_tr fr1 t4 (Nat.zero_le _) (Nat.zero_le _)) v1 (Nat.le_refl _), Or.inl ⟨1, p, u1, t2, by rw [dp]; exact t3, v2, v3, ⟨a', v4, v4'⟩, N2, by omega, v6⟩⟩
        rw [hch1, e1, bi_some, if_neg (by decide), h37, Pa_parseTypes_94, if_neg (by decide), c_sort hT dC, bi_some, if_neg (by rw [dS]; decide), t1, bi_some, Pa_parseTypes_114, bv_some]
    · subst u0
      have hend := a_end (F := F) hT u4 (nI nn)
      have htp := tkP_le (ga τ 1) n k'
      by_cases hk : tkS (ga τ 1) n k' = 1
      · obtain ⟨w1, w2⟩ := hend.1 hk
        obtain ⟨oC, oM, one, ome, omb, os, oN, oa, oow⟩ := u4
        have g8 : gi τ1 8 = 0 := (oM.2.2.1.2.2.2.1 one).1
        have g8b : gi τb 8 = 0 := (hM.2.2.1.2.2.2.1 h0).1
        rw [h32, h67] at u13
        rw [h606] at u16
        refine ⟨σ1, τ1, nI nn, fun K => by rw [hch1, e1, bi_some, if_neg (by decide), h37, w1, bv_some], by rw [hrf1, u19, bi_some, if_pos rfl, w2], mkAX σ1 τ1 0 0 N0 0 fr1 u5 (Nat.le_refl _), Or.inr ⟨M', s', N', a', t, nn, As, ⟨oC.2.2.2.2.2.2.2, g8, by rw [u5.2.2.2.2.2 g8, h9 g8b], oC.2.2.2.2.2.2.1, oM.2.2.2.1, by have := omb.1; have := hBB.1; omega, ome, oC.2.2.2.2.2.1, by rw [fr1.2.2.2.2.2.1 1107 (by decide), h1107], os, oM.2.2.2.2.2.1, oN, u10, oM.2.2.2.2.2.2.1, oa, li_readType F τb hLb _ _ u19, ai_readType F τb hAb _ _ u19⟩, ⟨u6, u12, u13, u14, u16, u9⟩, by omega, by omega, by omega, ?_, ?_, rfl⟩⟩
        · rw [fr1.2.2.2.2.2.2.1 70 0 (by unfold rA; omega), h70]; rfl
        · rw [fr1.2.2.2.2.2.2.1 71 0 (by unfold rA; omega), h71]
      · obtain ⟨σ2, τ2, w1, w2, w3, w4, w5, w6, w7, w9, w8⟩ := hend.2 hk
        obtain ⟨oC, oM, one, ome, omb, os, oN, oa, oow⟩ := u4
        refine ⟨σ2, τ2, nI nn, fun K => by rw [hch1, e1, bi_some, if_neg (by decide), h37, w1, bv_some], by rw [hrf1, u19, bi_some, if_pos rfl, w5], mkAX σ2 τ2 0 0 N0 0 (frC_tr fr1 w4 (Nat.zero_le _) (Nat.zero_le _)) (frM_tr u5 (w8 0 N' a' M') (Nat.le_refl _) u10 (by omega) u3) (Nat.le_refl _), Or.inl ⟨1, tkP (ga τ 1) n k', Or.inl rfl, w2, w3, w6, w7, ⟨a', by omega, ?_⟩, N', by omega, ?_⟩⟩
        · rw [w9 23 (by decide) (by decide)]; exact oM.2.2.2.2.2.2.1
        · rw [w9 16 (by decide) (by decide)]; exact oM.2.2.2.2.2.1
