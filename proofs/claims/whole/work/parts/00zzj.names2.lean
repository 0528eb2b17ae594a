/-! Faults 3 and 5: the loops of both. Own text. -/
section N
variable {F : Nat} {σ τ : zS} {D M : Nat} {inT : Bool}
theorem fa_there : Fa_isThere F σ = some (if gi σ 200 = 0 then 0 else 1, σ) := by
  unfold Fa_isThere
  by_cases h : gi σ 200 = 0
  · rw [if_pos h, if_pos h]; rfl
  · rw [if_neg h, if_neg h]; rfl
theorem names_loop (hF : 1300 ≤ F) (h : nmR σ τ D M inT) (h200 : gi σ 200 = 0) (h8 : gi τ 8 = 0) (x : Int32) (hx : x = if inT = true then 1 else 0) : ∀ (d f m : Nat), m + d = M → d + 1 < f → ∃ σ' τ', Ch_checkNames_2 F f σ (nI m) = some σ' ∧ Md_lookNames_2 F f τ x (nI m) = some τ' ∧ ((σ' = σ ∧ τ' = τ ∧ ∀ i, m ≤ i → i < M → Ch_isBadName F σ (nI i) = some (0, σ)) ∨ (∃ i, i < M ∧ σ' = si (si σ 200 3) 201 (ga σ 45 i) ∧ τ' = si (si τ 8 3) 9 (ga σ 45 i))) := by
  have hh := h
  obtain ⟨h1, h2, h2', h3', h4, h5, h6⟩ := h
  intro d
  induction d with
  | zero =>
    intro f m hm hf
    obtain ⟨f, rfl⟩ : ∃ f', f = f' + 1 := ⟨f - 1, by omega⟩
    refine ⟨σ, τ, ?_, ?_, Or.inl ⟨rfl, rfl, fun i i1 i2 => by omega⟩⟩
    · rw [Ch_checkNames_2, Ch_checkNames_b2, h2, if_pos (nI_le (by omega) (by omega))]; rfl
    · rw [Md_lookNames_2, Md_lookNames_b2, h2', if_pos (nI_le (by omega) (by omega))]; rfl
  | succ d ih =>
    intro f m hm hf
    obtain ⟨f, rfl⟩ : ∃ f', f = f' + 1 := ⟨f - 1, by omega⟩
    have cm : (nI m).toNatClampNeg = m := nI_clamp (by omega)
    obtain ⟨b, b1, b2⟩ := badN (F := F) hF hh (m := m) (by omega)
    have e1 : Ch_checkNames_2 F (f + 1) σ (nI m) = if (if b = true then (1 : Int32) else 0) = 0 then Ch_checkNames_2 F f σ (nI (m + 1)) else Ch_checkNames_2 F f (si (si σ 200 3) 201 (ga σ 45 m)) (nI (m + 1)) := by
      rw [Ch_checkNames_2, Ch_checkNames_b2, h2, if_neg (nI_ge (by omega) (by omega)), fa_there, if_pos h200, bi_some, if_pos rfl, b1, bi_some, gd_t (inb_nI (by omega) (by omega)), cm, Fa_raise, bv_some, Ch_checkNames_48, Ch_checkNames_48, nI_1]
    rw [← hx] at b2
    have e2 : Md_lookNames_2 F (f + 1) τ x (nI m) = if (if b = true then (1 : Int32) else 0) = 0 then Md_lookNames_2 F f τ x (nI (m + 1)) else Md_lookNames_2 F f (si (si τ 8 3) 9 (ga σ 45 m)) x (nI (m + 1)) := by
      rw [Md_lookNames_2, Md_lookNames_b2, h2', if_neg (nI_ge (by omega) (by omega)), if_pos h8, b2, bi_some, gd_t (inb_nI (by omega) (by omega)), cm, Md_wrong, if_pos h8, Md_wrong_17, bv_some, Md_lookNames_37, Md_lookNames_37, nI_1, (h4 m (by omega)).2.1]
    cases b with
    | false =>
      rw [show (if false = true then (1 : Int32) else 0) = 0 by decide, if_pos rfl] at e1 e2
      obtain ⟨σ', τ', w1, w2, w3⟩ := ih f (m + 1) (by omega) (by omega)
      refine ⟨σ', τ', by rw [e1, w1], by rw [e2, w2], ?_⟩
      rcases w3 with ⟨y1, y2, y3⟩ | y
      · refine Or.inl ⟨y1, y2, fun i i1 i2 => ?_⟩
        rcases Nat.eq_or_lt_of_le i1 with z | z
        · subst z; exact b1
        · exact y3 i (by omega) i2
      · exact Or.inr y
    | true =>
      rw [show (if true = true then (1 : Int32) else 0) = 1 by decide, if_neg (show ¬ (1 : Int32) = 0 by decide)] at e1 e2
      obtain ⟨f, rfl⟩ : ∃ f', f = f' + 1 := ⟨f - 1, by omega⟩
      refine ⟨_, _, ?_, ?_, Or.inr ⟨m, by omega, rfl, rfl⟩⟩
      · have g505 : gi (si (si σ 200 3) 201 (ga σ 45 m)) 505 = nI M := by simp [zs, h2]
        have g200 : ¬ gi (si (si σ 200 3) 201 (ga σ 45 m)) 200 = 0 := by simp [zs]
        rw [e1, Ch_checkNames_2, Ch_checkNames_b2, g505]
        by_cases z : nI M ≤ nI (m + 1)
        · rw [if_pos z]; rfl
        · rw [if_neg z, fa_there, if_neg g200, bi_some, if_neg (by decide)]; rfl
      · have g31 : gi (si (si τ 8 3) 9 (ga σ 45 m)) 31 = nI M := by simp [zs, h2']
        have g8 : ¬ gi (si (si τ 8 3) 9 (ga σ 45 m)) 8 = 0 := by simp [zs]
        rw [e2, Md_lookNames_2, Md_lookNames_b2, g31]
        by_cases z : nI M ≤ nI (m + 1)
        · rw [if_pos z]; rfl
        · rw [if_neg z, if_neg g8]; rfl
theorem names_ok (hF : 1300 ≤ F) (h : nmR σ τ D M inT) (h200 : gi σ 200 = 0) (h8 : gi τ 8 = 0) : ∃ σ' τ', Ch_checkNames F σ = some σ' ∧ Md_lookNames F τ (if inT = true then 1 else 0) = some τ' ∧ ((σ' = σ ∧ τ' = τ ∧ ∀ i, i < M → Ch_isBadName F σ (nI i) = some (0, σ)) ∨ (∃ i, i < M ∧ σ' = si (si σ 200 3) 201 (ga σ 45 i) ∧ τ' = si (si τ 8 3) 9 (ga σ 45 i))) := by
  obtain ⟨σ', τ', w1, w2, w3⟩ := names_loop (F := F) hF h h200 h8 _ rfl M F 0 (by omega) (by have := h.2.2.2.1; omega)
  refine ⟨σ', τ', w1, w2, ?_⟩
  rcases w3 with ⟨y1, y2, y3⟩ | y
  · exact Or.inl ⟨y1, y2, fun i i1 => y3 i (Nat.zero_le _) i1⟩
  · exact Or.inr y
/-- with a fault there the class's loops do nothing -/
theorem names_flt (hF : 1300 ≤ F) (h200 : gi σ 200 ≠ 0) : Ch_checkNames F σ = some σ ∧ Ch_checkLacks F σ = some σ := by
  obtain ⟨m, hm⟩ : ∃ m, F = m + 1 := ⟨F - 1, by omega⟩
  constructor
  · rw [Ch_checkNames, show Ch_checkNames_2 F F = Ch_checkNames_2 F (m + 1) by rw [← hm], Ch_checkNames_2, Ch_checkNames_b2]
    by_cases z : gi σ 505 ≤ 0
    · rw [if_pos z]; rfl
    · rw [if_neg z, fa_there, if_neg h200, bi_some, if_neg (by decide)]; rfl
  · rw [Ch_checkLacks, show Ch_checkLacks_2 F F = Ch_checkLacks_2 F (m + 1) by rw [← hm], Ch_checkLacks_2, Ch_checkLacks_b2]
    by_cases z : gi σ 505 ≤ 0
    · rw [if_pos z]; rfl
    · rw [if_neg z, fa_there, if_neg h200, bi_some, if_neg (by decide)]; rfl
end N
