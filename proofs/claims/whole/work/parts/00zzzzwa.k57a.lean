/-! What a text that is well leaves besides. Own text. -/
def PDs (σ : zS) (D : Nat) : Prop := ∀ y, y < D → ∀ q, ga σ 32 y = nI q → q ≤ 3 → ∀ i j, i < j → j < q → gb σ 33 (3 * y + i) ≠ gb σ 33 (3 * y + j)
section N
variable {σ : zS} {D : Nat}
theorem tkO_cg {σ' : zS} {i : Nat} (ha : ∀ a, a = 43 ∨ a = 29 ∨ a = 32 ∨ a = 47 → ga σ' a = ga σ a) (hb : ∀ a, a = 44 ∨ a = 30 → gb σ' a = gb σ a) (h : tkO σ D i) : tkO σ' D i := by
  unfold tkO at h ⊢
  rw [ha 43 (by simp), ha 29 (by simp), ha 32 (by simp), ha 47 (by simp), hb 44 (by simp), fTy_cg (ha 29 (by simp)) (hb 30 (by simp))]
  exact h
end N
