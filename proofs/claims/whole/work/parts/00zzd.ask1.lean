/-! Types that are asked: both readers. Own text. -/
theorem md_copy {F : Nat} {x0 x1 : Nat} (h0 : isUp x0 = true) (h1 : isUp x1 = true) (hne : x0 ≠ x1) {n : Nat} (hn : n ≤ 4000) : ∀ (d m i : Nat) (τ : zS), n - i = d → d < m → i ≤ n → ∃ f, Md_copy_2 F m τ x0 x1 (nI n) (nI i) = some (sA τ x1 f) ∧ (∀ j, i ≤ j → j < n → f j = ga τ x0 j) ∧ (∀ j, (j < i ∨ n ≤ j) → f j = ga τ x1 j) := by
  intro d
  induction d with
  | zero =>
    intro m i τ hd hm hi
    obtain ⟨m, rfl⟩ : ∃ m', m = m' + 1 := ⟨m - 1, by omega⟩
    have : i = n := by omega
    subst this
    refine ⟨ga τ x1, ?_, fun j j1 j2 => by omega, fun j _ => rfl⟩
    rw [Md_copy_2, Md_copy_b2, if_pos (nI_le (Nat.le_refl _) (by omega)), sA_self]
  | succ d ih =>
    intro m i τ hd hm hi
    obtain ⟨m, rfl⟩ : ∃ m', m = m' + 1 := ⟨m - 1, by omega⟩
    obtain ⟨f, e1, e2, e3⟩ := ih m (i + 1) (sa τ x1 i (ga τ x0 i)) (by omega) (by omega) (by omega)
    refine ⟨f, ?_, fun j j1 j2 => ?_, fun j hj => ?_⟩
    · rw [Md_copy_2, Md_copy_b2, if_neg (nI_ge (by omega) (by omega)), gd_t h0, gd_t (inb_nI (by omega) (by omega)), gd_t h1, nI_clamp (by omega), nI_1, e1]
      unfold sa
      rw [sA_sA]
    · rcases Nat.eq_or_lt_of_le j1 with w | w
      · subst w
        rw [e3 i (by omega)]
        simp [at_sa]
      · rw [e2 j (by omega) j2]
        simp only [at_sa]
        rw [if_neg (by omega)]
    · rw [e3 j (by omega)]
      simp only [at_sa]
      rw [if_neg (by omega)]
theorem fs_readType {F : Nat} (hF : 1300 ≤ F) {τ : zS} (h8 : gi τ 8 ≠ 0) : ∃ τ', Md_readType F τ = some (0, τ') ∧ (∀ N a M, frM 0 N a M τ τ') ∧ (∀ j, j ≠ 42 → gi τ' j = gi τ j) := by
  have e42 : gi (si τ 42 (-1)) 42 + 1 = nI 0 := by simp [zs]; decide
  obtain ⟨τ1, e1⟩ : ∃ τ1, τ1 = sa (sa (sa (sa (sa (sa (si (si τ 42 (-1)) 42 (nI 0)) 17 0 0) 18 0 (gi τ 5)) 19 0 (-1)) 23 0 (-1)) 24 0 (-1)) 25 0 (-1) := ⟨_, rfl⟩
  have ho : Md_open F (si τ 42 (-1)) 0 = some τ1 := by
    have e5 : gi (si τ 42 (-1)) 5 = gi τ 5 := by simp [zs]
    rw [Md_open, e42, e5, gd_t (inb_nI (by omega) (by omega)), nI_clamp (by omega), e1]
  have h81 : gi τ1 8 ≠ 0 := by rw [e1]; simp [zs]; exact h8
  refine ⟨τ1, ?_, fun N a M => ⟨fun j hj => ?_, fun j i hji => ?_, fun j _ => by rw [e1]; simp [zs], fun j i _ _ => by rw [e1]; simp [zs], fun _ => ⟨by rw [e1]; simp [zs], by rw [e1]; simp [zs]⟩, fun _ => by rw [e1]; simp [zs]⟩, fun j hj => by rw [e1]; simp [zs, hj]⟩
  · obtain ⟨m, hm⟩ : ∃ m, F = m + 1 := ⟨F - 1, by omega⟩
    rw [Md_readType, Md_readOpen, ho, bv_some, show Md_readOpen_10 F F = Md_readOpen_10 F (m + 1) by rw [← hm], ro_end m 0 h81, bi_some]
  · unfold exM at hj
    have j1 : j ≠ 42 := by omega
    rw [e1]; simp [zs, j1]
  · unfold okM at hji
    rw [e1]
    simp only [at_sa, at_si]
    rw [if_neg (by omega), if_neg (by omega), if_neg (by omega), if_neg (by omega), if_neg (by omega), if_neg (by omega)]
section A
variable {F : Nat} {B : Nat → Int32} {n c N0 : Nat}
/-- a term more in the row of what is asked -/
theorem a_begin {σ : zS} {k M s T : Nat} (hC : cS B n c 11 σ k M s) (hT : mi σ 1107 = nI T) (hT2 : T ≤ 200) (hs : s ≤ 200) (w : Int32) : ∃ σ1, Ro_beginTerm F σ 11 w = some (1, σ1) ∧ cS B n c 11 σ1 k M s ∧ mi σ1 1107 = nI (T + 1) ∧ ma σ1 70 T = nI s ∧ ma σ1 71 T = w ∧ (∀ i, i ≠ T → ma σ1 70 i = ma σ 70 i ∧ ma σ1 71 i = ma σ 71 i) ∧ (∀ j, j ≠ 70 → j ≠ 71 → ma σ1 j = ma σ j) ∧ (∀ j, j ≠ 1107 → mi σ1 j = mi σ j) ∧ (∀ j, gi σ1 j = gi σ j) ∧ (∀ j, ga σ1 j = ga σ j) ∧ (∀ j, gb σ1 j = gb σ j) ∧ (∀ j, gl σ1 j = gl σ j) ∧ (∀ j, gr σ1 j = gr σ j) ∧ (∀ j, mb σ1 j = mb σ j) := by
  obtain ⟨c1, c2, c3, c4', c5, c6, c7, c8⟩ := hC
  refine ⟨ti (ta (ta σ 70 T (nI s)) 71 T w) 1107 (nI (T + 1)), ?_, ⟨by simp [zs, c1], c2, by simp [zs, c3], by simpa only [zs] using c4', by simp [zs, c5], by simp only [zs] at c6 ⊢; simpa using c6, by simp [zs, c7], by simp [zs, c8]⟩, by simp [zs], by simp only [zs]; simp [up_at], by simp only [zs]; simp [up_at], fun i hi => by simp only [zs]; simp [up_at, hi], fun j j1 j2 => by simp [zs, j1, j2], fun j j1 => by simp [zs, j1], fun j => by simp [zs], fun j => by simp [zs], fun j => by simp [zs], fun j => by simp [zs], fun j => by simp [zs], fun j => by simp [zs]⟩
  have h1107 : mi σ (100 * 11 + 7) = nI T := hT
  have h1104 : mi σ (100 * 11 + 4) = nI s := c6
  rw [Ro_beginTerm, gd_t (by decide), h1107, h1104, if_pos (show nI T ≤ (200 : Int32) from nI_le (b := 200) hT2 (by omega)), gd_t (inb_nI (by omega) (by omega)), nI_clamp (by omega), nI_1]
  rfl
/-- the end of what is asked: nothing may follow -/
theorem a_end {σ τ : zS} {k M s N a : Nat} (hT : tEnd B n c) (hJ : JO B n c 11 N0 σ τ k M s N a) (r : Int32) : (tkS B n k = 1 → Pa_parseTypes_94 F σ 1 = some σ ∧ Md_readAsked_74 F τ r = Md_readAsked_93 F τ r) ∧ (tkS B n k ≠ 1 → ∃ σ' τ', Pa_parseTypes_94 F σ 1 = some σ' ∧ gi σ' 200 = 1 ∧ gi σ' 201 = nI (tkP B n k) ∧ frC 11 M s σ σ' ∧ Md_readAsked_74 F τ r = Md_readAsked_93 F τ' r ∧ gi τ' 8 = 1 ∧ gi τ' 9 = nI (tkP B n k) ∧ (∀ j, j ≠ 8 → j ≠ 9 → gi τ' j = gi τ j) ∧ ∀ Lv N a M, frM Lv N a M τ τ') := by
  have hB := hT.1
  obtain ⟨hC, hM, hne, _⟩ := hJ
  have g8 : gi τ 8 = 0 := (hM.2.2.1.2.2.2.1 hne).1
  constructor
  · intro h1
    have g4 : gi τ 4 = 5 := by rw [hM.2.2.1.2.1, h1]; decide
    refine ⟨?_, by rw [Md_readAsked_74, if_pos g8, if_pos g4]⟩
    rw [Pa_parseTypes_94, if_neg (by decide), c_sort hT hC, bi_some, if_pos h1]
    rfl
  · intro h1
    have g4 : gi τ 4 ≠ 5 := by
      rw [hM.2.2.1.2.1]
      intro z
      rcases (tokM_big hB).2.2.2.mpr z with w | w
      · exact hne w
      · exact h1 w
    obtain ⟨σ', t1, t2, t3, t4⟩ := c_misfit (F := F) hT hC
    have g5 : gi τ 5 = nI (tkP B n k) := hM.2.2.1.1
    refine ⟨σ', si (si τ 8 1) 9 (nI (tkP B n k)), ?_, t2, t3, t4, ?_, by simp [zs], by simp [zs], fun j j1 j2 => by simp [zs, j1, j2], fun Lv N a M => ?_⟩
    · rw [Pa_parseTypes_94, if_neg (by decide), c_sort hT hC, bi_some, if_neg h1, t1, bi_some]
      rfl
    · have w1 := (m_wrong (F := F) (L := 0) (N := 0) (a := 0) (M := 0) g8 (f := 1) (p := nI (tkP B n k)) (by decide)).1
      rw [Md_readAsked_74, if_pos g8, if_neg g4, Md_cannot, g5, w1, bv_some, bv_some]
    · exact (m_wrong (F := F) (L := Lv) (N := N) (a := a) (M := M) g8 (f := 1) (p := nI (tkP B n k)) (by decide)).2
end A
