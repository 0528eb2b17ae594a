/-! The class's parser: mentions and rows. Own text. -/
section PC
variable {F : Nat} {B : Nat → Int32} {n c X : Nat} {σ : zS} {k M s : Nat}
/-- a mention as the class has it -/
def meE (σ : zS) (i : Nat) (r : Int32) (v : Int64) (p o w : Int32) : Prop := ga σ 43 i = r ∧ gb σ 44 i = v ∧ ga σ 45 i = p ∧ ga σ 46 i = o ∧ ga σ 47 i = w
theorem meE_fr {σ σ' : zS} {X M s i : Nat} {r : Int32} {v : Int64} {p o w : Int32} (h : frC X M s σ σ') (hi : i < M) (e : meE σ i r v p o w) : meE σ' i r v p o w := by
  obtain ⟨_, a2, _, a4, _⟩ := h
  obtain ⟨e1, e2, e3, e4, e5⟩ := e
  exact ⟨(a2 43 i (by omega)).trans e1, (a4 44 i (by omega)).trans e2, (a2 45 i (by omega)).trans e3, (a2 46 i (by omega)).trans e4, (a2 47 i (by omega)).trans e5⟩
theorem c_meadd (hT : tEnd B n c) (h : cS B n c X σ k M s) (hM : M < 600) (r o : Int32) : ∃ σ', Me_add F σ r o = some σ' ∧ cS B n c X σ' k (M + 1) s ∧ frC X M s σ σ' ∧ meE σ' M r (tkN B n k) (nI (tkP B n k)) o 0 ∧ (∀ j, j ≠ 505 → gi σ' j = gi σ j) := by
  have hc := tE_c hT
  have hh := h
  obtain ⟨h1, h2, h3, h4, h5, h6, h7, h8⟩ := h
  have g1 : cS B n c X (sa σ 43 M r) k M s := ⟨by simp [zs, h1], h2, by simp [zs, h3], by simpa [zs] using h4, by simp [zs, h5], by simp [zs, h6], by simp [zs, h7], by simp [zs, h8]⟩
  have g2 : cS B n c X (sb (sa σ 43 M r) 44 M (tkN B n k)) k M s := ⟨by simp [zs, h1], h2, by simp [zs, h3], by simpa [zs] using h4, by simp [zs, h5], by simp [zs, h6], by simp [zs, h7], by simp [zs, h8]⟩
  refine ⟨si (sa (sa (sa (sb (sa σ 43 M r) 44 M (tkN B n k)) 45 M (nI (tkP B n k))) 46 M o) 47 M 0) 505 (nI (M + 1)), ?_, ⟨by simp [zs, h1], h2, by simp [zs, h3], by simpa [zs] using h4, by simp [zs, h5], by simp [zs, h6], by simp [zs], by simp [zs, h8]⟩, ?_, ?_, ?_⟩
  · rw [Me_add, h7, if_neg (show ¬ (600 : Int32) ≤ nI M from nI_ge (b := 600) hM (by omega)), nI_clamp (by omega), gd_t (inb_nI hM (by omega)), c_name hT g1, bi_some, c_start hT g2, bi_some]
    have e1 : gi (sa σ 43 M r) 505 = nI M := g1.2.2.2.2.2.2.1
    have e2 : gi (sb (sa σ 43 M r) 44 M (tkN B n k)) 505 = nI M := g2.2.2.2.2.2.2.1
    rw [e1, e2, nI_clamp (by omega), gd_t (inb_nI hM (by omega)), gd_t (inb_nI hM (by omega)), Me_add_76, nI_1]
  · refine ⟨fun j _ j1 _ _ => by simp [zs, j1], ?_, fun j => by simp [zs], ?_, fun j => by simp [zs], fun j _ => by simp [zs], fun j i _ => by simp [zs], fun j i _ => by simp [zs]⟩
    · intro j i hj
      simp only [zs]
      by_cases q : j < 43 ∨ 47 < j
      · rw [if_neg (by omega), if_neg (by omega), if_neg (by omega), if_neg (by omega)]
      · have hi : i ≠ M := by omega
        split
        · subst_vars; simp [up_at, hi]
        · split
          · subst_vars; simp [up_at, hi]
          · split
            · subst_vars; simp [up_at, hi]
            · split
              · subst_vars; simp [up_at, hi]
              · rfl
    · intro j i hj
      simp only [zs]
      split
      · have hi : i ≠ M := by omega
        subst_vars; simp [upL_at, hi]
      · rfl
  · refine ⟨by simp [zs, up_at], by simp [zs, upL_at], by simp [zs, up_at], by simp [zs, up_at], by simp [zs, up_at]⟩
  · intro j hj; simp [zs, hj]
theorem c_roadd (hX : isRow X = true) (h : cS B n c X σ k M s) (hs : s < 200) (x : Int32) (v : Int64) (w p : Nat) : ∃ σ', Ro_add F σ X x v (nI w) (nI p) = some (1, σ') ∧ cS B n c X σ' k M (s + 1) ∧ frC X M s σ σ' ∧ rw1 σ' X s (x, v, w, p) ∧ (∀ j, gi σ' j = gi σ j) ∧ (∀ j, ga σ' j = ga σ j) ∧ (∀ j, gb σ' j = gb σ j) := by
  obtain ⟨h1, h2, h3, h4, h5, h6, h7, h8⟩ := h
  have n01 : rA X 0 ≠ rA X 2 := rA_ne (by decide)
  have n03 : rA X 0 ≠ rA X 3 := rA_ne (by decide)
  have n23 : rA X 2 ≠ rA X 3 := rA_ne (by decide)
  refine ⟨ti (ta (ta (tb (ta σ (rA X 0) s x) (rA X 1) s v) (rA X 2) s (nI w)) (rA X 3) s (nI p)) (100 * X + 4) (nI (s + 1)), ?_, ⟨by simp [zs, h1], h2, by simp [zs, h3], by simpa [zs] using h4, by simp [zs, h5], by simp [zs], by simp [zs, h7], by simp [zs, h8]⟩, ?_, ?_, fun j => by simp [zs], fun j => by simp [zs], fun j => by simp [zs]⟩
  · rw [Ro_add, gd_t hX, h6, if_pos (show nI s < (200 : Int32) from nI_lt (b := 200) hs (by omega)), gd_t (inb_nI hs (by omega)), nI_clamp (by omega), nI_1]
  · refine ⟨fun j _ _ _ _ => by simp [zs], fun j i _ => by simp [zs], fun j => by simp [zs], fun j i _ => by simp [zs], fun j => by simp [zs], fun j hj => by simp [zs, hj], ?_, ?_⟩
    · intro j i hj
      simp only [zs]
      by_cases q : j < rA X 0 ∨ rA X 3 < j
      · have r2 : rA X 2 = rA X 0 + 2 := by unfold rA; omega
        have r3 : rA X 3 = rA X 0 + 3 := by unfold rA; omega
        rw [if_neg (by omega), if_neg (by omega), if_neg (by omega)]
      · have hi : i ≠ s := by omega
        split
        · subst_vars; simp [up_at, hi, n01, n03, n23, n01.symm, n03.symm, n23.symm, zs]
        · split
          · subst_vars; simp [up_at, hi, n01, n03, n23, n01.symm, n03.symm, n23.symm, zs]
          · split
            · subst_vars; simp [up_at, hi, zs]
            · rfl
    · intro j i hj
      simp only [zs]
      split
      · have hi : i ≠ s := by omega
        subst_vars; simp [upL_at, hi]
      · rfl
  · refine ⟨by simp [zs, up_at, n01, n03], by simp [zs, upL_at], by simp [zs, up_at, n23], by simp [zs, up_at]⟩
theorem c_roful (hX : isRow X = true) (h : cS B n c X σ k M 200) (x : Int32) (v : Int64) (w p : Int32) : Ro_add F σ X x v w p = some (0, σ) := by
  obtain ⟨h1, h2, h3, h4, h5, h6, h7, h8⟩ := h
  rw [Ro_add, gd_t hX, h6, if_neg (by decide)]
theorem c_isFull (hX : isRow X = true) (h : cS B n c X σ k M s) (hs : s ≤ 200) : (s < 200 → Ro_isFull F σ X = some (0, σ)) ∧ (s = 200 → Ro_isFull F σ X = some (1, σ)) := by
  obtain ⟨h1, h2, h3, h4, h5, h6, h7, h8⟩ := h
  constructor
  · intro q
    rw [Ro_isFull, gd_t hX, h6, if_pos (show nI s < (200 : Int32) from nI_lt (b := 200) q (by omega))]
    rfl
  · intro q
    subst q
    rw [Ro_isFull, gd_t hX, h6, if_neg (by decide)]
    rfl
theorem c_setVal (h : cS B n c X σ k M s) (hM : M ≤ 600) {m : Nat} (hm : m < M) (w : Int32) : ∃ σ', Me_setValue F σ (nI m) w = some σ' ∧ cS B n c X σ' k M s ∧ frC X m s σ σ' ∧ ga σ' 47 m = w ∧ (∀ j, j ≠ 47 → ga σ' j = ga σ j) ∧ (∀ i, i ≠ m → ga σ' 47 i = ga σ 47 i) ∧ (∀ j, gb σ' j = gb σ j) ∧ (∀ j, ma σ' j = ma σ j) ∧ (∀ j, mb σ' j = mb σ j) ∧ (∀ j, gi σ' j = gi σ j) := by
  obtain ⟨h1, h2, h3, h4, h5, h6, h7, h8⟩ := h
  refine ⟨sa σ 47 m w, ?_, ⟨by simp [zs, h1], h2, by simp [zs, h3], by simpa [zs] using h4, by simp [zs, h5], by simp [zs, h6], by simp [zs, h7], by simp [zs, h8]⟩, ?_, by simp [zs, up_at], fun j hj => by simp [zs, hj], fun i hi => by simp [zs, up_at, hi], fun j => by simp [zs], fun j => by simp [zs], fun j => by simp [zs], fun j => by simp [zs]⟩
  · rw [Me_setValue, h7, if_neg (nI_ge hm (by omega)), gd_t (inb_nI (by omega) (by omega)), nI_clamp (by omega), Me_setValue_15]
  · refine ⟨fun j _ _ _ _ => by simp [zs], ?_, fun j => by simp [zs], fun j i _ => by simp [zs], fun j => by simp [zs], fun j hj => by simp [zs], fun j i _ => by simp [zs], fun j i _ => by simp [zs]⟩
    intro j i hj
    simp only [zs]
    split
    · have hi : i ≠ m := by omega
      subst_vars; simp [up_at, hi]
    · rfl
end PC
