/-! Both readers side by side: types and ones as a whole. Own text. -/
section J
variable {F : Nat} {B : Nat → Int32} {n c X N0 : Nat} {h : Int32}
theorem ty_bad (hT : tEnd B n c) (hX : isRow X = true) (hF : 1300 ≤ F) (d : Nat) (x : Int32) (σ : zS) (k M s : Nat) (hC : cS B n c X σ k M s) (hst : ¬ stO (tkS B n k)) : ∃ σ', Pa_parseType F (d + 1) σ x = some (0, σ') ∧ gi σ' 200 = 1 ∧ gi σ' 201 = nI (tkP B n k) ∧ frC X M s σ σ' := by
  obtain ⟨σ', t1, t2⟩ := c_some0 (F := F) hT hX hC hst (Pa_parseType F d) x
  refine ⟨σ', ?_, t2⟩
  obtain ⟨m, rfl⟩ : ∃ m', F = m' + 1 := ⟨F - 1, by omega⟩
  show Pa_parseType_b2 (m + 1) _ (Pa_parseType_2 (m + 1) _ m) σ x 0 = _
  rw [Pa_parseType_b2, if_neg (by decide), hC.2.2.2.2.1, gd_t hX, t1, bi_some, if_pos rfl]
theorem ty_all (hT : tEnd B n c) (hX : isRow X = true) (hF : 1300 ≤ F) (hN0 : N0 ≤ 500) : ∀ (d L : Nat), L ≤ 8 → 9 ≤ d + L → (∀ σ τ k M s N a, JR B n c X N0 σ τ k M s N a L → ¬ (L = 0 ∧ h = 3) → ga τ 19 L = -1 → ga τ 23 L = -1 → ga τ 24 L = -1 → ga τ 25 L = -1 → TyR F B n c X N0 h σ τ k M s N a L (Pa_parseType F d σ (nI L))) := by
  intro d
  induction d with
  | zero => intro L hL hd; omega
  | succ d ih =>
    intro L hL hd σ τ k M s N a hJ hh3 v19 v23 v24 v25
    have hO : ∀ σ τ k M s N a, JR B n c X N0 σ τ k M s N a L → stO (tkS B n k) → lvO τ L → OneR F B n c X N0 h σ τ k M s N a L (Pa_parseOne_m F (Pa_parseType F d) σ (nI L)) := by
      intro σ τ k M s N a hJ hst hv
      have hh : ¬ (L = 0 ∧ h = 3 ∧ ¬ ga τ 19 0 < 0) := fun z => hh3 ⟨z.1, z.2.1⟩
      by_cases hs : nmT (tkS B n k)
      · exact one_leaf hT hX hF hN0 hJ hL hs hv hh _
      · have hs2 : tkS B n k = 40 ∨ tkS B n k = 91 := by
          unfold stO at hst
          unfold nmT at hs
          rcases hst with q | q | q | q
          · exact absurd (Or.inl q) hs
          · exact absurd (Or.inr q) hs
          · exact Or.inl q
          · exact Or.inr q
        refine one_brk hT hX hF hN0 hJ hL hs2 hv hh _ (fun qL σ τ k M s N a hJ w19 w23 w24 w25 => ih (L + 1) (by omega) (by omega) σ τ k M s N a hJ (fun z => by omega) w19 w23 w24 w25) (fun qL σ k M s hC hs0 => ?_)
        obtain ⟨d', rfl⟩ : ∃ d', d = d' + 1 := ⟨d - 1, by omega⟩
        exact ty_bad hT hX hF d' _ σ k M s hC (by rw [hs0]; unfold stO; decide)
    have hc := tE_c hT
    obtain ⟨r, σ', q1, q2, q3⟩ := ty_loop (h := h) hT hX hF hN0 hL hh3 hO (pr := gi τ 32) (me := gi τ 67) (lo := N) (c - k) F k M s N a 0 σ τ [] (-1) (ga τ 20 L) (ga τ 21 L) (ga τ 22 L) (-1) (-1) (-1) [] rfl (by omega) hJ ⟨v19, rfl, rfl, rfl, v23, v24, v25⟩ (by decide) (Or.inl ⟨rfl, rfl, rfl, rfl⟩) (Nat.le_refl _) rfl rfl (by omega)
    refine ⟨r, σ', q1, q2, ?_⟩
    rcases q3 with u | ⟨u0, kf, Mf, sf, Nf, af, T, Asf, nnf, τf, u1, u2, u3, u4, u5, u6, u7, u8, u9, u10, u11, u12, u13, u14, u15, u16, u17, v1, v2, u18, u19, u20, u21, u22⟩
    · exact Or.inl u
    · right
      refine ⟨u0, kf, Mf, sf, Nf, af, T, Asf, nnf, τf, u1, u2, u3, u4, u5, u6, u7, u8, u10 rfl, u11, u13 rfl, u14, ?_, u16, u17, v1, v2, u18, ?_, u20, u21, u22⟩
      · exact u15
      · rw [u19, if_pos (by decide)]
end J
