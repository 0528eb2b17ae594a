/-! The reference's next(). Own text. -/
section NX
variable {F : Nat} {τ : zS} {n : Nat}
/-- blanks are stepped over -/
theorem nx_blank (hB : byt (ga τ 1) n) (hl : gi τ 2 = nI n) : ∀ (d a m : Nat), n - a = d → d < m → a ≤ n → ∃ m', Md_next_0 F m (si τ 3 (nI a)) = Md_next_0 F (m' + 1) (si τ 3 (nI (sk (ga τ 1) n a))) := by
  have hn := hB.1
  intro d
  induction d with
  | zero =>
    intro a m hd hm ha
    obtain ⟨m, rfl⟩ : ∃ m', m = m' + 1 := ⟨m - 1, by omega⟩
    rw [sk_stop (by omega)]
    exact ⟨m, rfl⟩
  | succ d ih =>
    intro a m hd hm ha
    obtain ⟨m, rfl⟩ : ∃ m', m = m' + 1 := ⟨m - 1, by omega⟩
    by_cases c : blB (ga τ 1 a) = true
    · rw [sk_step (by omega) c]
      have e3 : gi (si τ 3 (nI a)) 3 = nI a := by simp only [zs, if_true]
      have hb : Md_byteAt F (si τ 3 (nI a)) (nI a) = some (ga τ 1 a, si τ 3 (nI a)) := by
        have := byteAt_in (F := F) (σ := si τ 3 (nI a)) (n := n) (i := a) (by simp [zs, hl]) hn (by omega)
        rw [this]
        simp only [zs]
      have hstep : Md_next_0 F (m + 1) (si τ 3 (nI a)) = Md_next_0 F m (si τ 3 (nI (a + 1))) := by
        show Md_next_b0 F (Md_next_0 F m) (si τ 3 (nI a)) = _
        rw [Md_next_b0, e3, hb, bi_some]
        unfold Md_next_26
        rw [e3, nI_1, si_si]
        by_cases c1 : ga τ 1 a = 32
        · rw [if_pos c1]
        · rw [if_neg c1, hb, bi_some]
          have c2 : ga τ 1 a = 10 := by
            unfold blB at c
            simpa [c1] using c
          rw [if_pos c2, e3, nI_1, si_si]
      rw [hstep]
      exact ih (a + 1) m (by omega) (by omega) (by omega)
    · rw [sk_stop (fun z => c z.2)]
      exact ⟨m, rfl⟩
/-- the state at a token's first byte, its place noted -/
def nxA (τ : zS) (p : Nat) : zS := si (si τ 3 (nI p)) 5 (nI p)
theorem nxA_zs (p : Nat) : gi (nxA τ p) 3 = nI p ∧ gi (nxA τ p) 5 = nI p ∧ (∀ j, j ≠ 3 → j ≠ 5 → gi (nxA τ p) j = gi τ j) ∧ (∀ j, ga (nxA τ p) j = ga τ j) ∧ ∀ j, gl (nxA τ p) j = gl τ j := by
  unfold nxA
  refine ⟨by simp [zs], by simp [zs], fun j h1 h2 => by simp [zs, h1, h2], fun j => by simp [zs], fun j => by simp [zs]⟩
/-- next() at the end of the tape -/
theorem nx_end (hB : byt (ga τ 1) n) (hl : gi τ 2 = nI n) (h8 : gi τ 8 = 0) (hF : 1300 ≤ F) {a : Nat} (ha : a ≤ n) (h3 : gi τ 3 = nI a) (hp : sk (ga τ 1) n a = n) : Md_next F τ = some (si (nxA τ n) 4 5) := by
  have hn := hB.1
  obtain ⟨m', e⟩ := nx_blank (F := F) hB hl (n - a) a F rfl (by omega) ha
  rw [si_same τ h3] at e
  rw [Md_next, e, hp]
  show Md_next_b0 F (Md_next_0 F m') (si τ 3 (nI n)) = _
  have e3 : gi (si τ 3 (nI n)) 3 = nI n := by simp only [zs, if_true]
  have hb : Md_byteAt F (si τ 3 (nI n)) (nI n) = some (-1, si τ 3 (nI n)) := byteAt_out (by simp [zs, hl]) (Nat.le_refl _) (by omega)
  have hb2 : Md_byteAt F (si (si τ 3 (nI n)) 5 (nI n)) (nI n) = some (-1, si (si τ 3 (nI n)) 5 (nI n)) := byteAt_out (by simp [zs, hl]) (Nat.le_refl _) (by omega)
  rw [Md_next_b0, e3, hb, bi_some, if_neg (by decide), e3, hb, bi_some, if_neg (by decide), e3, hb2, bi_some]
  have g8 : ¬ 0 < gi (si (si τ 3 (nI n)) 5 (nI n)) 8 := by simp [zs, h8]
  rw [if_neg g8, if_neg (by decide), Md_next_67]
  rfl
end NX
