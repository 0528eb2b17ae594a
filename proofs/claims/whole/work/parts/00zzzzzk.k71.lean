/-! A question: what lies below it. Own text. -/
/-- what a text leaves for questions -/
def BS (σ τ : zS) (D : Nat) (G H : SG) (N0 : Nat) : Prop :=
  CS (si σ 306 (gi σ 307)) G ∧ noO G ∧ gn G ≤ 1113 ∧ MS (sA (si τ 48 (gi τ 88)) 29 (ga τ 58)) H ∧ gn H ≤ 3000 ∧ (∀ w, Sol H w → w 0 = iS) ∧ (0 < D → noO H) ∧ (∀ y, y < D → dPr σ τ G H y) ∧ gi τ 89 = nI N0 ∧ N0 ≤ 500 ∧ gi τ 49 = 0 ∧ fTy σ 4812404 D 0 = -1 ∧ dcN σ τ D ∧ dcO σ D
section K
variable {F : Nat} {σ τ σ' τ' : zS} {D N0 R0 : Nat} {G H : SG}
theorem bs_88 (h : BS σ τ D G H N0) : gi τ 88 = nI (gn H) := by
  have := h.2.2.2.1.1
  simp [zs] at this
  exact this
theorem bs_307 (h : BS σ τ D G H N0) : gi σ 307 = nI (gn G) := by
  have := h.1.1
  simp [zs] at this
  exact this
/-- the stores when a question has been read -/
theorem ax_st (h : BS σ τ D G H N0) (hx : AX σ τ σ' τ' N0 (gn H)) : CS σ' G ∧ MS τ' H := by
  obtain ⟨x1, x2, x3, x4, x5, x6⟩ := hx
  have e307 := bs_307 h
  obtain ⟨⟨c1, c2, c3, c4, c5, c6, c7⟩, h2, h3, ⟨m1, m2, m3, m4, m5⟩, _⟩ := h
  refine ⟨⟨by rw [x3]; exact e307, c2, c3, c4, c5, c6, fun k hk => ?_⟩, x4, m2, m3, m4, fun k hk => ?_⟩
  · rw [x1.2.1 25 (by decide) (by decide) (by decide), x1.2.1 23 (by decide) (by decide) (by decide), x1.2.1 24 (by decide) (by decide) (by decide)]
    exact c7 k hk
  · obtain ⟨q1, q2, q3⟩ := m5 k hk
    refine ⟨?_, ?_, fun z => ⟨?_, ?_⟩⟩
    · rw [x2.2.1 26 k (by omega) (by decide) (by decide)]; exact q1
    · rw [x5 k hk]
      have : ga (sA (si τ 48 (gi τ 88)) 29 (ga τ 58)) 29 k = ga τ 58 k := by simp [zs]
      rw [← this]; exact q2
    · rw [x2.2.1 27 k (by omega) (by decide) (by decide)]; exact (q3 z).1
    · rw [x2.2.1 28 k (by omega) (by decide) (by decide)]; exact (q3 z).2
/-- and the kinds of a text's names there -/
theorem ax_KA (h : BS σ τ D G H N0) (hx : AX σ τ σ' τ' N0 (gn H)) : ∃ KA : Nat → TE, (∀ y, y < D → ∃ k, ga σ' 40 y = nI k ∧ rp G (fun _ => False) (fun z => z) k (KA y)) ∧ (∀ y, y < D → ∃ k, ga τ' 49 y = nI k ∧ rp H (fun _ => False) (fun z => z) k (KA y)) := by
  obtain ⟨x1, x2, x3, x4, x5, x6⟩ := hx
  obtain ⟨hC, h2, h3, hM, h5, h6, h7, h8, _⟩ := h
  have hwG := hC.2.2.2.2.2.1
  have hwH := hM.2.2.2.1
  have ex : ∀ y, ∃ T : TE, y < D → ∃ k k', ga σ 40 y = nI k ∧ ga τ 49 y = nI k' ∧ pairT G H k k' ∧ ∀ α, ev α T = gT G k := by
    intro y
    by_cases hy : y < D
    · obtain ⟨⟨k, k', a1, a2, a3⟩, _⟩ := h8 y hy
      obtain ⟨T, hT⟩ := pairT_TE hwG h2 a3
      exact ⟨T, fun _ => ⟨k, k', a1, a2, a3, hT⟩⟩
    · exact ⟨.var 0, fun z => absurd z hy⟩
  obtain ⟨KA, hKA⟩ := Classical.axiomOfChoice ex
  refine ⟨KA, fun y hy => ?_, fun y hy => ?_⟩
  · obtain ⟨k, k', a1, a2, a3, a4⟩ := hKA y hy
    exact ⟨k, by rw [x1.2.1 40 (by decide) (by decide) (by decide)]; exact a1, rp_clo hwG h2 a3.1 a4 _ _⟩
  · obtain ⟨k, k', a1, a2, a3, a4⟩ := hKA y hy
    exact ⟨k', by rw [x2.2.1 49 y (by omega) (by decide) (by decide)]; exact a2, rp_clo hwH (h7 (by omega)) a3.2.1 (fun α => by rw [a4 α]; exact a3.2.2.1) _ _⟩
theorem ax_dc (h : BS σ τ D G H N0) (hx : AX σ τ σ' τ' N0 (gn H)) : dcN σ' τ' D ∧ dcO σ' D ∧ fTy σ' 4812404 D 0 = -1 := by
  obtain ⟨x1, x2, x3, x4, x5, x6⟩ := hx
  obtain ⟨_, _, _, _, _, _, _, _, _, _, _, h12, h13, h14⟩ := h
  have e29 : ga σ' 29 = ga σ 29 := x1.2.1 29 (by decide) (by decide) (by decide)
  have e32 : ga σ' 32 = ga σ 32 := x1.2.1 32 (by decide) (by decide) (by decide)
  have e400 : gi σ' 400 = gi σ 400 := x1.1 400 (by unfold exAi; omega)
  refine ⟨dcN_cg e400 (x2.1 52 (by unfold exAm exM; omega)) (fun a ha => x1.2.1 a (by omega) (by omega) (by omega)) (fun a ha => x1.2.2.2.1 a (by omega) (by omega)) (fun a ha => funext fun i => x2.2.1 a i (by omega) (by omega) (by omega)) (fun a ha => funext fun i => x2.2.2.2 a i (by omega) (by omega)) h13, dcO_cg h14 e400 e29 e32, ?_⟩
  rw [fTy_cg e29 (x1.2.2.2.1 30 (by decide) (by decide))]
  exact h12
end K
