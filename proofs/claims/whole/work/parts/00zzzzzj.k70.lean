/-! A question: faults ahead of solving. Own text. -/
section K
variable {F : Nat} {σ τ : zS} {D M : Nat} {rr : Int32}
theorem tt_flt (h : gi σ 200 ≠ 0) (f : Nat) (x1 x2 : Int32) : Q_takeTypes_64 F (f + 1) σ x1 x2 = some (0, σ) := by
  have ft : Fa_isThere F σ = some (1, σ) := by rw [Fa_isThere, if_neg h]; rfl
  have e97 : Q_takeTypes_97 F σ = some (0, σ) := by
    rw [Q_takeTypes_97, ft, bi_some]
    rfl
  rw [Q_takeTypes_64, Q_takeTypes_b64]
  by_cases c : x1 ≤ x2
  · rw [if_pos c, e97]
  · rw [if_neg c, ft, bi_some]
    show (if (1 : Int32) = 0 then _ else _) = _
    rw [if_neg (by decide), e97]
theorem tt_end (h : gi σ 200 = 0) {x1 x2 : Int32} (hx : x1 ≤ x2) (f : Nat) : Q_takeTypes_64 F (f + 1) σ x1 x2 = some (1, σ) := by
  have ft : Fa_isThere F σ = some (0, σ) := by rw [Fa_isThere, if_pos h]; rfl
  rw [Q_takeTypes_64, Q_takeTypes_b64, if_pos hx, Q_takeTypes_97, ft, bi_some]
  rfl
theorem tt_step (h : gi σ 200 = 0) {x1 x2 : Int32} (hx : ¬ x1 ≤ x2) (f : Nat) : Q_takeTypes_64 F (f + 1) σ x1 x2 = bv (So_solveAsked F σ 11 x2) (fun σ6 => Q_takeTypes_64 F f σ6 x1 (x2 + 1)) := by
  have ft : Fa_isThere F σ = some (0, σ) := by rw [Fa_isThere, if_pos h]; rfl
  rw [Q_takeTypes_64, Q_takeTypes_b64, if_neg hx, ft, bi_some]
  show (if (0 : Int32) = 0 then _ else _) = _
  rw [if_pos rfl]
theorem ra_flt (hF : 20000 ≤ F) (h : gi τ 8 ≠ 0) : Md_readAsked_93 F τ rr = some (rr, si τ 2 0) ∧ Md_readAsked_105 F τ rr = some (rr, si τ 2 0) ∧ Md_readAsked_116 F τ rr = some (rr, si τ 2 0) := by
  obtain ⟨F', hF'⟩ : ∃ F', F = F' + 1 := ⟨F - 1, by omega⟩
  have e3 : Md_readAsked_116 F τ rr = some (rr, si τ 2 0) := by
    have e161 : Md_readAsked_161 F τ rr = some (rr, si τ 2 0) := by
      rw [Md_readAsked_161, ← nI_0]
      exact lp_end (by omega) h
    rw [Md_readAsked_116, show Md_readAsked_121 F F τ rr (gi τ 89) = Md_readAsked_121 F (F' + 1) τ rr (gi τ 89) from by rw [← hF'], Md_readAsked_121, Md_readAsked_b121]
    by_cases c : gi τ 16 ≤ gi τ 89
    · rw [if_pos c, e161]
    · rw [if_neg c, if_neg h, e161]
  have e2 : Md_readAsked_105 F τ rr = some (rr, si τ 2 0) := by rw [Md_readAsked_105, if_neg h, e3]
  exact ⟨by rw [Md_readAsked_93, if_neg h, e2], e2, e3⟩
theorem good_5f {inT : Bool} (hF : 1300 ≤ F) (hn : nmR σ τ D M inT) {i : Nat} (hi : i < M) (h : Ch_isBadName F σ (nI i) = some (0, σ)) (hr : ga σ 43 i = 5) : gb σ 44 i = 4812404 ∨ fTy σ (gb σ 44 i) D 0 ≠ -1 := by
  have hM := hn.2.2.2.1
  by_cases c : gb σ 44 i = 4812404
  · exact Or.inl c
  · refine Or.inr (fun z => ?_)
    rw [Ch_isBadName, gd_t (inb_nI (by omega) (by omega)), nI_clamp (by omega), hr, if_neg (by decide), if_neg (by decide), if_neg (by decide), if_neg (by decide), if_neg (by decide), if_pos rfl, if_neg (fun y => c ((lgc _ _).mp y)), (findT (F := F) (by omega) hn.1 (gb σ 44 i)).1, bi_some, z] at h
    have h' : (if (0 : Int32) ≤ -1 then Ch_isBadName_136 F σ else Ch_isBadName_137 F σ (1 : Int32)) = some (0, σ) := h
    rw [if_neg (by decide), Ch_isBadName_137] at h'
    exact absurd (lgb h') (by decide)
/-- names and synonyms of a question -/
theorem ask_chk (hF : 20000 ≤ F) (hn : nmR σ τ D M false) (h200 : gi σ 200 = 0) (h8 : gi τ 8 = 0) : (Ch_checkTypes F σ = some σ ∧ Md_readAsked_93 F τ rr = Md_readAsked_116 F τ rr ∧ (∀ i, i < M → Ch_isBadName F σ (nI i) = some (0, σ)) ∧ ∀ i, i < M → tkO σ D i) ∨ (∃ f p σ' τ', (f = 3 ∨ f = 5) ∧ σ' = si (si σ 200 f) 201 p ∧ τ' = si (si τ 8 f) 9 p ∧ Ch_checkTypes F σ = some σ' ∧ Md_readAsked_93 F τ rr = some (rr, si τ' 2 0)) := by
  obtain ⟨σ1, τ1, a1, a2, a3⟩ := names_ok (F := F) (by omega) hn h200 h8
  have a2' : Md_lookNames F τ 0 = some τ1 := a2
  rcases a3 with ⟨e1, e2, hg⟩ | ⟨i, hi, e1, e2⟩
  · subst e1; subst e2
    obtain ⟨σ2, τ2, b1, b2, b3⟩ := takes_ok (F := F) (by omega) hn h200 h8
    rcases b3 with ⟨e1, e2, ht⟩ | ⟨i, hi, e1, e2⟩
    · subst e1; subst e2
      exact Or.inl ⟨by rw [Ch_checkTypes, a1, bv_some, b1, bv_some], by rw [Md_readAsked_93, if_pos h8, a2', bv_some, Md_readAsked_105, if_pos h8, b2, bv_some], hg, ht⟩
    · have n8 : gi τ2 8 ≠ 0 := by rw [e2]; simp [zs]
      refine Or.inr ⟨5, _, σ2, τ2, Or.inr rfl, e1, e2, by rw [Ch_checkTypes, a1, bv_some, b1, bv_some], ?_⟩
      rw [Md_readAsked_93, if_pos h8, a2', bv_some, Md_readAsked_105, if_pos h8, b2, bv_some]
      exact (ra_flt hF n8).2.2
  · have n8 : gi τ1 8 ≠ 0 := by rw [e2]; simp [zs]
    have n2 : gi σ1 200 ≠ 0 := by rw [e1]; simp [zs]
    refine Or.inr ⟨3, _, σ1, τ1, Or.inl rfl, e1, e2, by rw [Ch_checkTypes, a1, bv_some, lacks_flt hF n2, bv_some], ?_⟩
    rw [Md_readAsked_93, if_pos h8, a2', bv_some]
    exact (ra_flt hF n8).2.1
end K
