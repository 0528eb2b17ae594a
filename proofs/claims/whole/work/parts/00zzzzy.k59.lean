/-! read(): both answer alike. Own text. -/
section R
variable {F : Nat} {σ τ : zS}
theorem rd_sucM (hF : 20000 ≤ F) {N : Nat} {H : SG} (h8 : gi τ 8 = 0) (hM : MS τ H) (h16 : gi τ 16 = nI N) : ∃ τ', Md_read_54 F τ = some (gi τ 52, τ') ∧ sx [2, 88, 89] [58] τ τ' ∧ gi τ' 2 = 0 ∧ gi τ' 88 = nI (gn H) ∧ (∀ k, k < gn H → ga τ' 58 k = ga τ' 29 k) ∧ gi τ' 89 = nI N := by
  obtain ⟨τ1, hτ1⟩ : ∃ x, x = si (si (si τ 2 0) 88 (nI (gn H))) 89 (nI N) := ⟨_, rfl⟩
  have s1 : sx [2, 88, 89] [58] τ τ1 := by rw [hτ1]; exact sx_si (sx_si (sx_si (sx_rfl _ _ _) (by decide) _) (by decide) _) (by decide) _
  have h48 : gi τ1 48 = nI (gn H) := (s1.1 48 (by decide)).trans hM.1
  obtain ⟨fc, c1, c2⟩ := copyB (F := F) (τ := τ1) hF hM.2.2.1 h48
  have s2 : sx [2, 88, 89] [58] τ (sA τ1 58 fc) := sx_sA s1 (by decide) _
  refine ⟨sA τ1 58 fc, ?_, s2, by rw [hτ1]; simp [zs], by rw [hτ1]; simp [zs], fun k hk => ?_, by rw [hτ1]; simp [zs]⟩
  · have e1 : si (si (si τ 2 0) 88 (gi (si τ 2 0) 48)) 89 (gi (si τ 2 0) 16) = τ1 := by
      have q1 : gi (si τ 2 0) 48 = nI (gn H) := by simp only [zs]; exact hM.1
      have q2 : gi (si τ 2 0) 16 = nI N := by simp only [zs]; exact h16
      rw [q1, q2, hτ1]
    have e8 : gi (sA τ1 58 fc) 8 = 0 := (s2.1 8 (by decide)).trans h8
    have e48 : gi (si τ 2 0) 48 = gi τ1 48 := by rw [hτ1]; simp [zs]
    rw [Md_read_54, h8, if_pos (by decide), Md_read_76, e1, e48, c1, bv_some, e8, if_pos (by decide), Md_read_128, s2.1 52 (by decide)]
  · have e58 : ga (sA τ1 58 fc) 58 = fc := by simp only [zs, if_true]
    have e29 : ga (sA τ1 58 fc) 29 = ga τ1 29 := by simp only [zs]; rfl
    rw [e58, e29]; exact c2 k hk
theorem nmR_r {σ' τ' : zS} {D M : Nat} (h : nmR σ τ D M true) (hs : sx [200, 201] [37, 48] σ σ') (ht : sx [8, 9] [46, 47] τ τ') : nmR σ' τ' D M true := by
  obtain ⟨a1, a2, a3, a4, a5, a6, a7⟩ := h
  refine ⟨dcN_cg (hs.1 400 (by decide)) (ht.1 52 (by decide)) (fun a ha => hs.2.1 a (by rcases ha with z | z | z <;> subst z <;> decide)) (fun a _ => sx_gb hs a) (fun a ha => ht.2.1 a (by rcases ha with z | z | z <;> subst z <;> decide)) (fun a _ => sx_gb ht a) a1, (hs.1 505 (by decide)).trans a2, (ht.1 31 (by decide)).trans a3, a4, fun i hi => ?_, fun z i hi hn => ?_, fun z => by cases z⟩
  · have := a5 i hi
    unfold meR at this ⊢
    rw [sx_gb ht, sx_gb hs, ht.2.1 12 (by decide), ht.2.1 10 (by decide), ht.2.1 13 (by decide), ht.2.1 15 (by decide), ht.2.1 16 (by decide), hs.2.1 45 (by decide), hs.2.1 43 (by decide), hs.2.1 46 (by decide), hs.2.1 47 (by decide)]
    exact this
  · rw [hs.2.1 43 (by decide)] at hn
    rw [hs.2.1 46 (by decide)]
    exact a6 rfl i hi hn
theorem dPr_cg {σ' τ' : zS} {G H : SG} {y : Nat} (h : dPr σ τ G H y) (h1 : ∀ a, a = 40 ∨ a = 41 ∨ a = 35 → ga σ' a = ga σ a) (h2 : ga σ' 32 = ga σ 32) (h2' : ga σ' 29 = ga σ 29) (h3 : ∀ a, a = 49 ∨ a = 50 ∨ a = 52 → ga τ' a = ga τ a) : dPr σ' τ' G H y := by
  have eq : qN σ' y = qN σ y := by unfold qN; rw [h2]
  unfold dPr at h ⊢
  rw [eq, h1 40 (by omega), h1 41 (by omega), h1 35 (by omega), h3 49 (by omega), h3 50 (by omega), h3 52 (by omega)]
  exact h
end R
