/-! Parameters of one declaration have names of their own. Own text. -/
section N
variable {F : Nat} {σ τ : zS} {D M : Nat}
theorem good_3 (hF : 1300 ≤ F) (hn : nmR σ τ D M true) {i : Nat} (hi : i < M) (h : Ch_isBadName F σ (nI i) = some (0, σ)) (hr : ga σ 43 i = 3) : wTo σ i i 0 = false := by
  have hM := hn.2.2.2.1
  have hw := (told_loop (F := F) hn hi i F 0 (by omega) (by omega)).1
  rw [nI_0] at hw
  rw [Ch_isBadName, gd_t (inb_nI (by omega) (by omega)), nI_clamp (by omega), hr, if_neg (by decide), if_neg (by decide), if_neg (by decide), if_pos rfl, Me_wasTold, hw, bi_some] at h
  cases hc : wTo σ i i 0 with
  | false => rfl
  | true =>
    rw [hc] at h
    exact absurd (lgb h) (by decide)
theorem wTo_no3 {m : Nat} : ∀ (d i : Nat), wTo σ m d i = false → ∀ j, i ≤ j → j < i + d → ga σ 43 j = ga σ 43 m → ga σ 46 j = ga σ 46 m → gb σ 44 j ≠ gb σ 44 m := by
  intro d
  induction d with
  | zero => intro i _ j h1 h2; omega
  | succ d ih =>
    intro i h j h1 h2 h3 h4 h5
    rw [wTo, Bool.or_eq_false_iff] at h
    by_cases e : j = i
    · subst e
      have := h.1
      simp [h3, h4, h5] at this
    · exact ih (i + 1) h.2 j (by omega) (by omega) h3 h4 h5
theorem pds_ok (hF : 1300 ≤ F) (hn : nmR σ τ D M true) (hp : DP τ) (hg : ∀ i, i < M → Ch_isBadName F σ (nI i) = some (0, σ)) : PDs σ D := by
  intro y hy q hq hq3 i j hij hjq
  have hD := hn.1.2.2.1
  have hM := hn.2.2.2.1
  obtain ⟨so, q', b1, b2, b3, b4, b5, b6, b7, b8, b9⟩ := hn.1.2.2.2 y hy
  have eq : q' = q := (nI_eq (by omega) (by omega)).mp (b7.symm.trans hq)
  subst eq
  obtain ⟨D', M', a1, a2, a3, a4, a5⟩ := hp
  have eD : D' = D := (nI_eq (by omega) (by omega)).mp (a1.symm.trans hn.1.2.1)
  have eM : M' = M := (nI_eq (by omega) (by omega)).mp (a2.symm.trans hn.2.2.1)
  subst eD; subst eM
  obtain ⟨q2, c1, c2, c3⟩ := a5 y hy
  have eq2 : q2 = q' := (nI_eq (by omega) (by omega)).mp (c2.symm.trans b8)
  subst eq2
  obtain ⟨m, m1, m2, m3, m4, m5⟩ := c3 j hjq
  obtain ⟨m', n1, n2, n3, n4⟩ := m5 i hij
  have me := hn.2.2.2.2.1
  have role : ∀ k, k < M' → ga τ 10 k = 1 → ga τ 13 k = nI y → ga σ 43 k = 3 ∧ ga σ 46 k = nI y := by
    intro k hk h1 h2
    obtain ⟨e1, e2, e3, e4, _⟩ := me k hk
    rw [h1] at e3
    refine ⟨(rlM_iff _).1.mp e3.symm, ?_⟩
    rcases e4 with z | ⟨_, z⟩
    · rw [← z]; exact h2
    · rw [h2] at z; exact absurd z (nI_pos (by omega))
  obtain ⟨r1, r2⟩ := role m m1 m2 m3
  obtain ⟨s1, s2⟩ := role m' (by omega) n2 n3
  have := wTo_no3 m 0 (good_3 hF hn m1 (hg m m1) r1) m' (Nat.zero_le _) (by omega) (by rw [s1, r1]) (by rw [s2, r2])
  rw [← (me m' (by omega)).1, ← (me m m1).1, n4, m4, b9 i (by omega), b9 j hjq] at this
  exact this
end N
