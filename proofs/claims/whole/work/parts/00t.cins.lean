/-! The class's parser: an arrow put in. Own text. -/
section PC
variable {F : Nat} {B : Nat → Int32} {n c X : Nat} {σ : zS} {k M s : Nat}
theorem c_insert (hX : isRow X = true) (h : cS B n c X σ k M s) (hs : s < 200) {st : Nat} {e : QE} {l : List QE} (hst : st + 1 + l.length = s) (hr : rwL σ X st (e :: l)) : ∃ σ', Ro_insertArrow F σ X (nI st) = some σ' ∧ cS B n c X σ' k M (s + 1) ∧ frC X M st σ σ' ∧ rwL σ' X st ((45, 0, 2, e.2.2.2) :: e :: l) ∧ (∀ j, gi σ' j = gi σ j) ∧ (∀ j, ga σ' j = ga σ j) ∧ (∀ j, gb σ' j = gb σ j) := by
  have hf := (c_isFull (F := F) hX h (by omega)).1 hs
  obtain ⟨h1, h2, h3, h4, h5, h6, h7, h8⟩ := h
  have n02 : rA X 0 ≠ rA X 2 := rA_ne (by decide)
  have n03 : rA X 0 ≠ rA X 3 := rA_ne (by decide)
  have n23 : rA X 2 ≠ rA X 3 := rA_ne (by decide)
  have es : nI s - nI st = nI (s - st) := pk_sub (by omega)
  have c1 : (nI st).toNatClampNeg = st := nI_clamp (by omega)
  have c2 : (nI (st + 1)).toNatClampNeg = st + 1 := nI_clamp (by omega)
  have c3 : (nI (s - st)).toNatClampNeg = s - st := nI_clamp (by omega)
  have hg : cpG (nI st) (nI (st + 1)) (nI (s - st)) 200 200 = true := by
    have d1 : ¬ nI st < 0 := nI_pos (by omega)
    have d2 : ¬ nI (st + 1) < 0 := nI_pos (by omega)
    have d3 : ¬ nI (s - st) < 0 := nI_pos (by omega)
    simp only [cpG, c1, c2, c3, d1, d2, d3, Bool.and_eq_true, decide_eq_true_eq]
    refine ⟨by decide, by decide, by decide, ?_, ?_⟩ <;> omega
  have hp : (0 : Int32) < nI (s - st) := by
    have := nI_lt (a := 0) (b := s - st) (by omega) (by omega)
    rwa [nI_0] at this
  obtain ⟨σ', eσ⟩ : ∃ σ', Ro_insertArrow F σ X (nI st) = some σ' ∧ σ' = ti (ta (tb (ta (tA (tA (tB (tA σ (rA X 0) (va_cpy (ma σ (rA X 0)) (ma σ (rA X 0)) st (st + 1) (s - st))) (rA X 1) (va_cpy (mb σ (rA X 1)) (mb σ (rA X 1)) st (st + 1) (s - st))) (rA X 2) (va_cpy (ma σ (rA X 2)) (ma σ (rA X 2)) st (st + 1) (s - st))) (rA X 3) (va_cpy (ma σ (rA X 3)) (ma σ (rA X 3)) st (st + 1) (s - st))) (rA X 0) st 45) (rA X 1) st 0) (rA X 2) st 2) (100 * X + 4) (nI (s + 1)) := by
    refine ⟨_, ?_, rfl⟩
    rw [Ro_insertArrow, gd_t hX, hf, bi_some, if_pos rfl, h6, es, if_pos hp, nI_1, gd_t hg, gd_t (inb_nI (by omega) (by omega)), c1, c2, c3, nI_1]
    simp only [zs, n02.symm, n03.symm, n23.symm, if_false]
  obtain ⟨eσ, rfl⟩ := eσ
  refine ⟨_, eσ, ⟨by simp [zs, h1], h2, by simp [zs, h3], by simpa [zs] using h4, by simp [zs, h5], by simp [zs], by simp [zs, h7], by simp [zs, h8]⟩, ?_, ?_, fun j => by simp [zs], fun j => by simp [zs], fun j => by simp [zs]⟩
  · refine ⟨fun j _ _ _ _ => by simp [zs], fun j i _ => by simp [zs], fun j => by simp [zs], fun j i _ => by simp [zs], fun j => by simp [zs], fun j hj => by simp [zs, hj], ?_, ?_⟩
    · intro j i hj
      have r2 : rA X 2 = rA X 0 + 2 := by unfold rA; omega
      have r3 : rA X 3 = rA X 0 + 3 := by unfold rA; omega
      by_cases q : j < rA X 0 ∨ rA X 3 < j
      · have q0 : j ≠ rA X 0 := by omega
        have q2 : j ≠ rA X 2 := by omega
        have q3 : j ≠ rA X 3 := by omega
        simp [zs, q0, q2, q3]
      · have hi : i ≠ st := by omega
        have hv : ¬ (st + 1 ≤ i ∧ i < st + 1 + (s - st)) := by omega
        by_cases q0 : j = rA X 0
        · subst q0; simp [zs, up_at, hi, n02, n03, va_cpy, hv]
        · by_cases q2 : j = rA X 2
          · subst q2; simp [zs, up_at, hi, n02.symm, n23, va_cpy, hv]
          · by_cases q3 : j = rA X 3
            · subst q3; simp [zs, n03.symm, n23.symm, va_cpy, hv]
            · simp [zs, q0, q2, q3]
    · intro j i hj
      by_cases q1 : j = rA X 1
      · have hi : i ≠ st := by omega
        have hv : ¬ (st + 1 ≤ i ∧ i < st + 1 + (s - st)) := by omega
        subst q1; simp [zs, upL_at, hi, va_cpy, hv]
      · simp [zs, q1]
  · have key : ∀ (l : List QE) (i : Nat), st ≤ i → i + l.length ≤ s → rwL σ X i l → rwL (ti (ta (tb (ta (tA (tA (tB (tA σ (rA X 0) (va_cpy (ma σ (rA X 0)) (ma σ (rA X 0)) st (st + 1) (s - st))) (rA X 1) (va_cpy (mb σ (rA X 1)) (mb σ (rA X 1)) st (st + 1) (s - st))) (rA X 2) (va_cpy (ma σ (rA X 2)) (ma σ (rA X 2)) st (st + 1) (s - st))) (rA X 3) (va_cpy (ma σ (rA X 3)) (ma σ (rA X 3)) st (st + 1) (s - st))) (rA X 0) st 45) (rA X 1) st 0) (rA X 2) st 2) (100 * X + 4) (nI (s + 1))) X (i + 1) l := by
      intro l
      induction l with
      | nil => intro i _ _ _; trivial
      | cons e l ih =>
        intro i i1 i2 g
        simp only [List.length_cons] at i2
        obtain ⟨⟨g1, g2, g3, g4⟩, g5⟩ := g
        refine ⟨?_, ih (i + 1) (by omega) (by omega) g5⟩
        have hi : i + 1 ≠ st := by omega
        have hv : st + 1 ≤ i + 1 ∧ i + 1 < st + 1 + (s - st) := by omega
        have hj : st + (i + 1 - (st + 1)) = i := by omega
        refine ⟨?_, ?_, ?_, ?_⟩
        · simp only [zs, n02, n03, if_true, if_false, up_at, hi, va_cpy, hv, hj, g1, and_self]
        · simp only [zs, if_true, upL_at, if_neg hi, va_cpy, if_pos hv, hj, g2]
        · simp only [zs, n02.symm, n23, if_true, if_false, up_at, hi, va_cpy, hv, hj, g3, and_self]
        · simp only [zs, n03.symm, n23.symm, if_true, if_false, va_cpy, hv, hj, g4, and_self]
    refine ⟨?_, key (e :: l) st (Nat.le_refl _) (by simp only [List.length_cons]; omega) hr⟩
    obtain ⟨⟨g1, g2, g3, g4⟩, g5⟩ := hr
    have hv : ¬ (st + 1 ≤ st ∧ st < st + 1 + (s - st)) := by omega
    refine ⟨?_, ?_, ?_, ?_⟩
    · simp [zs, n02, up_at]
    · simp [zs, upL_at]
    · simp only [zs, up_at, if_true]; rfl
    · simp only [zs, n03.symm, n23.symm, if_true, if_false, va_cpy, if_neg hv]; exact g4
end PC
