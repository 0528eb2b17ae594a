/-! The states at the start. Own text. -/
theorem RL_st {σ τ : zS} (h1 : ∀ r, r ≠ 306 → r ≠ 307 → gi σ r = 0) (h2 : gi σ 306 = 1 ∧ gi σ 307 = 1) (h3 : ga σ 25 0 = -1) (h4 : ∀ j, mi σ j = 0) (h5 : gr σ 10 = 17 ∧ gr σ 11 = 18 ∧ gr σ 901 = 12 ∧ gr σ 902 = 13 ∧ gr σ 903 = 14) (t1 : ∀ r, r ≠ 9 → r ≠ 48 → r ≠ 88 → gi τ r = 0) (t2 : gi τ 9 = -3 ∧ gi τ 48 = 1 ∧ gi τ 88 = 1) (t3 : ga τ 26 0 = 1 ∧ ga τ 29 0 = 0 ∧ ga τ 58 0 = 0) : RL σ τ := by
  obtain ⟨G, hG⟩ : ∃ G : SG, G = ⟨1, fun _ => 1, fun _ => 0, fun _ => 0, fun k => k⟩ := ⟨_, rfl⟩
  sorry
