/-! The reference's applications have nodes of their own, in the order of its acts: kept by all that reads. Written by program, but for the rows by hand. Own text. -/
def AI (τ : zS) : Prop := ∃ N A : Nat, gi τ 16 = nI N ∧ gi τ 23 = nI A ∧ N ≤ 1000 ∧ A ≤ 1600 ∧ ∀ a, a < A → ga τ 7 a = 0 → ∃ x, ga τ 8 a = nI x ∧ x < N ∧ ∀ b, b < a → ga τ 7 b = 0 → ∃ y, ga τ 8 b = nI y ∧ y < x
section L
variable {P : zS → Prop} {τ : zS}
theorem AI_cg {τ' : zS} (h : AI τ) (h1 : gi τ' 16 = gi τ 16) (h2 : gi τ' 23 = gi τ 23) (h3 : ga τ' 7 = ga τ 7) (h4 : ga τ' 8 = ga τ 8) : AI τ' := by
  obtain ⟨N, A, a1, a2, a3, a4, a5⟩ := h
  refine ⟨N, A, h1.trans a1, h2.trans a2, a3, a4, fun a ha => ?_⟩
  rw [h3, h4]
  exact a5 a ha
theorem AI_si {r : Nat} {v : Int32} (h : AI τ) (hr : r ≠ 16 ∧ r ≠ 23) : AI (si τ r v) :=
  AI_cg h (by simp only [zs, if_neg (fun z : 16 = r => hr.1 z.symm)]) (by simp only [zs, if_neg (fun z : 23 = r => hr.2 z.symm)]) (by simp only [zs]) (by simp only [zs])
theorem AI_sa {a i : Nat} {v : Int32} (h : AI τ) (hr : a ≠ 7 ∧ a ≠ 8) : AI (sa τ a i v) :=
  AI_cg h (by simp only [zs]) (by simp only [zs]) (by simp only [zs, if_neg (fun z : 7 = a => hr.1 z.symm)]) (by simp only [zs, if_neg (fun z : 8 = a => hr.2 z.symm)])
theorem AI_sb {a i : Nat} {v : Int64} (h : AI τ) : AI (sb τ a i v) :=
  AI_cg h (by simp only [zs]) (by simp only [zs]) (by simp only [zs]) (by simp only [zs])
theorem AI_sl {r : Nat} {v : Int64} (h : AI τ) : AI (sl τ r v) :=
  AI_cg h (by simp only [zs]) (by simp only [zs]) (by simp only [zs]) (by simp only [zs])
theorem ai_wrong_17 (F : Nat) (σ : zS) (h : AI σ) : pq (AI) (Md_wrong_17 F σ) := by
  unfold Md_wrong_17
  repeat' (first | assumption | (with_reducible apply pq_ite) | (with_reducible apply pp_ite) | (with_reducible apply pq_gd) | (with_reducible apply pp_gd) | (with_reducible apply pq_bv) | (with_reducible apply pp_bv) | (with_reducible apply pq_bi) | (with_reducible apply pp_bi) | (with_reducible apply pq_some) | (with_reducible apply pp_some) | (with_reducible apply AI_si) | (with_reducible apply AI_sa) | (with_reducible apply AI_sb) | (with_reducible apply AI_sl) | decide | (intro _))
theorem ai_wrong (F : Nat) (σ : zS) (x1 : Int32) (x2 : Int32) (h : AI σ) : pq (AI) (Md_wrong F σ x1 x2) := by
  unfold Md_wrong
  repeat' (first | assumption | (with_reducible apply ai_wrong_17) | (with_reducible apply pq_ite) | (with_reducible apply pp_ite) | (with_reducible apply pq_gd) | (with_reducible apply pp_gd) | (with_reducible apply pq_bv) | (with_reducible apply pp_bv) | (with_reducible apply pq_bi) | (with_reducible apply pp_bi) | (with_reducible apply pq_some) | (with_reducible apply pp_some) | (with_reducible apply AI_si) | (with_reducible apply AI_sa) | (with_reducible apply AI_sb) | (with_reducible apply AI_sl) | decide | (intro _))
theorem ai_byteAt_18 (F : Nat) (σ : zS) (s0 : Int32) (h : AI σ) : pp (AI) (Md_byteAt_18 F σ s0) := by
  unfold Md_byteAt_18
  repeat' (first | assumption | (with_reducible apply pq_ite) | (with_reducible apply pp_ite) | (with_reducible apply pq_gd) | (with_reducible apply pp_gd) | (with_reducible apply pq_bv) | (with_reducible apply pp_bv) | (with_reducible apply pq_bi) | (with_reducible apply pp_bi) | (with_reducible apply pq_some) | (with_reducible apply pp_some) | (with_reducible apply AI_si) | (with_reducible apply AI_sa) | (with_reducible apply AI_sb) | (with_reducible apply AI_sl) | decide | (intro _))
theorem ai_byteAt (F : Nat) (σ : zS) (x1 : Int32) (h : AI σ) : pp (AI) (Md_byteAt F σ x1) := by
  unfold Md_byteAt
  repeat' (first | assumption | (with_reducible apply ai_byteAt_18) | (with_reducible apply pq_ite) | (with_reducible apply pp_ite) | (with_reducible apply pq_gd) | (with_reducible apply pp_gd) | (with_reducible apply pq_bv) | (with_reducible apply pp_bv) | (with_reducible apply pq_bi) | (with_reducible apply pp_bi) | (with_reducible apply pq_some) | (with_reducible apply pp_some) | (with_reducible apply AI_si) | (with_reducible apply AI_sa) | (with_reducible apply AI_sb) | (with_reducible apply AI_sl) | decide | (intro _))
theorem ai_isUpper_17 (F : Nat) (σ : zS) (s0 : Int32) (h : AI σ) : pp (AI) (Md_isUpper_17 F σ s0) := by
  unfold Md_isUpper_17
  repeat' (first | assumption | (with_reducible apply pq_ite) | (with_reducible apply pp_ite) | (with_reducible apply pq_gd) | (with_reducible apply pp_gd) | (with_reducible apply pq_bv) | (with_reducible apply pp_bv) | (with_reducible apply pq_bi) | (with_reducible apply pp_bi) | (with_reducible apply pq_some) | (with_reducible apply pp_some) | (with_reducible apply AI_si) | (with_reducible apply AI_sa) | (with_reducible apply AI_sb) | (with_reducible apply AI_sl) | decide | (intro _))
theorem ai_isUpper_16 (F : Nat) (σ : zS) (h : AI σ) : pp (AI) (Md_isUpper_16 F σ) := by
  unfold Md_isUpper_16
  repeat' (first | assumption | (with_reducible apply ai_isUpper_17) | (with_reducible apply pq_ite) | (with_reducible apply pp_ite) | (with_reducible apply pq_gd) | (with_reducible apply pp_gd) | (with_reducible apply pq_bv) | (with_reducible apply pp_bv) | (with_reducible apply pq_bi) | (with_reducible apply pp_bi) | (with_reducible apply pq_some) | (with_reducible apply pp_some) | (with_reducible apply AI_si) | (with_reducible apply AI_sa) | (with_reducible apply AI_sb) | (with_reducible apply AI_sl) | decide | (intro _))
theorem ai_isUpper (F : Nat) (σ : zS) (x0 : Int32) (h : AI σ) : pp (AI) (Md_isUpper F σ x0) := by
  unfold Md_isUpper
  repeat' (first | assumption | (with_reducible apply ai_isUpper_16) | (with_reducible apply ai_isUpper_17) | (with_reducible apply pq_ite) | (with_reducible apply pp_ite) | (with_reducible apply pq_gd) | (with_reducible apply pp_gd) | (with_reducible apply pq_bv) | (with_reducible apply pp_bv) | (with_reducible apply pq_bi) | (with_reducible apply pp_bi) | (with_reducible apply pq_some) | (with_reducible apply pp_some) | (with_reducible apply AI_si) | (with_reducible apply AI_sa) | (with_reducible apply AI_sb) | (with_reducible apply AI_sl) | decide | (intro _))
theorem ai_isLower_17 (F : Nat) (σ : zS) (s0 : Int32) (h : AI σ) : pp (AI) (Md_isLower_17 F σ s0) := by
  unfold Md_isLower_17
  repeat' (first | assumption | (with_reducible apply pq_ite) | (with_reducible apply pp_ite) | (with_reducible apply pq_gd) | (with_reducible apply pp_gd) | (with_reducible apply pq_bv) | (with_reducible apply pp_bv) | (with_reducible apply pq_bi) | (with_reducible apply pp_bi) | (with_reducible apply pq_some) | (with_reducible apply pp_some) | (with_reducible apply AI_si) | (with_reducible apply AI_sa) | (with_reducible apply AI_sb) | (with_reducible apply AI_sl) | decide | (intro _))
theorem ai_isLower_16 (F : Nat) (σ : zS) (h : AI σ) : pp (AI) (Md_isLower_16 F σ) := by
  unfold Md_isLower_16
  repeat' (first | assumption | (with_reducible apply ai_isLower_17) | (with_reducible apply pq_ite) | (with_reducible apply pp_ite) | (with_reducible apply pq_gd) | (with_reducible apply pp_gd) | (with_reducible apply pq_bv) | (with_reducible apply pp_bv) | (with_reducible apply pq_bi) | (with_reducible apply pp_bi) | (with_reducible apply pq_some) | (with_reducible apply pp_some) | (with_reducible apply AI_si) | (with_reducible apply AI_sa) | (with_reducible apply AI_sb) | (with_reducible apply AI_sl) | decide | (intro _))
theorem ai_isLower (F : Nat) (σ : zS) (x0 : Int32) (h : AI σ) : pp (AI) (Md_isLower F σ x0) := by
  unfold Md_isLower
  repeat' (first | assumption | (with_reducible apply ai_isLower_16) | (with_reducible apply ai_isLower_17) | (with_reducible apply pq_ite) | (with_reducible apply pp_ite) | (with_reducible apply pq_gd) | (with_reducible apply pp_gd) | (with_reducible apply pq_bv) | (with_reducible apply pp_bv) | (with_reducible apply pq_bi) | (with_reducible apply pp_bi) | (with_reducible apply pq_some) | (with_reducible apply pp_some) | (with_reducible apply AI_si) | (with_reducible apply AI_sa) | (with_reducible apply AI_sb) | (with_reducible apply AI_sl) | decide | (intro _))
theorem ai_isOf_31 (F : Nat) (σ : zS) (s0 : Int32) (h : AI σ) : pp (AI) (Md_isOf_31 F σ s0) := by
  unfold Md_isOf_31
  repeat' (first | assumption | (with_reducible apply pq_ite) | (with_reducible apply pp_ite) | (with_reducible apply pq_gd) | (with_reducible apply pp_gd) | (with_reducible apply pq_bv) | (with_reducible apply pp_bv) | (with_reducible apply pq_bi) | (with_reducible apply pp_bi) | (with_reducible apply pq_some) | (with_reducible apply pp_some) | (with_reducible apply AI_si) | (with_reducible apply AI_sa) | (with_reducible apply AI_sb) | (with_reducible apply AI_sl) | decide | (intro _))
theorem ai_isOf_26 (F : Nat) (σ : zS) (h : AI σ) : pp (AI) (Md_isOf_26 F σ) := by
  unfold Md_isOf_26
  repeat' (first | assumption | (with_reducible apply ai_isOf_31) | (with_reducible apply pq_ite) | (with_reducible apply pp_ite) | (with_reducible apply pq_gd) | (with_reducible apply pp_gd) | (with_reducible apply pq_bv) | (with_reducible apply pp_bv) | (with_reducible apply pq_bi) | (with_reducible apply pp_bi) | (with_reducible apply pq_some) | (with_reducible apply pp_some) | (with_reducible apply AI_si) | (with_reducible apply AI_sa) | (with_reducible apply AI_sb) | (with_reducible apply AI_sl) | decide | (intro _))
theorem ai_isOf_30 (F : Nat) (σ : zS) (h : AI σ) : pp (AI) (Md_isOf_30 F σ) := by
  unfold Md_isOf_30
  repeat' (first | assumption | (with_reducible apply ai_isOf_31) | (with_reducible apply pq_ite) | (with_reducible apply pp_ite) | (with_reducible apply pq_gd) | (with_reducible apply pp_gd) | (with_reducible apply pq_bv) | (with_reducible apply pp_bv) | (with_reducible apply pq_bi) | (with_reducible apply pp_bi) | (with_reducible apply pq_some) | (with_reducible apply pp_some) | (with_reducible apply AI_si) | (with_reducible apply AI_sa) | (with_reducible apply AI_sb) | (with_reducible apply AI_sl) | decide | (intro _))
theorem ai_isOf (F : Nat) (σ : zS) (x0 : Int32) (h : AI σ) : pp (AI) (Md_isOf F σ x0) := by
  unfold Md_isOf
  repeat' (first | assumption | (with_reducible apply ai_isUpper) | (with_reducible apply ai_isLower) | (with_reducible apply ai_isOf_30) | (with_reducible apply ai_isOf_26) | (with_reducible apply pq_ite) | (with_reducible apply pp_ite) | (with_reducible apply pq_gd) | (with_reducible apply pp_gd) | (with_reducible apply pq_bv) | (with_reducible apply pp_bv) | (with_reducible apply pq_bi) | (with_reducible apply pp_bi) | (with_reducible apply pq_some) | (with_reducible apply pp_some) | (with_reducible apply AI_si) | (with_reducible apply AI_sa) | (with_reducible apply AI_sb) | (with_reducible apply AI_sl) | decide | (intro _))
theorem ai_name_172 (F : Nat) (σ : zS) (h : AI σ) : pq (AI) (Md_name_172 F σ) := by
  unfold Md_name_172
  repeat' (first | assumption | (with_reducible apply pq_ite) | (with_reducible apply pp_ite) | (with_reducible apply pq_gd) | (with_reducible apply pp_gd) | (with_reducible apply pq_bv) | (with_reducible apply pp_bv) | (with_reducible apply pq_bi) | (with_reducible apply pp_bi) | (with_reducible apply pq_some) | (with_reducible apply pp_some) | (with_reducible apply AI_si) | (with_reducible apply AI_sa) | (with_reducible apply AI_sb) | (with_reducible apply AI_sl) | decide | (intro _))
theorem ai_name_149 (F : Nat) (σ : zS) (x2 : Int32) (s1 : Int32) (h : AI σ) : pq (AI) (Md_name_149 F σ x2 s1) := by
  unfold Md_name_149
  repeat' (first | assumption | (with_reducible apply ai_name_172) | (with_reducible apply ai_wrong) | (with_reducible apply pq_ite) | (with_reducible apply pp_ite) | (with_reducible apply pq_gd) | (with_reducible apply pp_gd) | (with_reducible apply pq_bv) | (with_reducible apply pp_bv) | (with_reducible apply pq_bi) | (with_reducible apply pp_bi) | (with_reducible apply pq_some) | (with_reducible apply pp_some) | (with_reducible apply AI_si) | (with_reducible apply AI_sa) | (with_reducible apply AI_sb) | (with_reducible apply AI_sl) | decide | (intro _))
theorem ai_name_148 (F : Nat) (σ : zS) (x2 : Int32) (h : AI σ) : pq (AI) (Md_name_148 F σ x2) := by
  unfold Md_name_148
  repeat' (first | assumption | (with_reducible apply ai_name_149) | (with_reducible apply pq_ite) | (with_reducible apply pp_ite) | (with_reducible apply pq_gd) | (with_reducible apply pp_gd) | (with_reducible apply pq_bv) | (with_reducible apply pp_bv) | (with_reducible apply pq_bi) | (with_reducible apply pp_bi) | (with_reducible apply pq_some) | (with_reducible apply pp_some) | (with_reducible apply AI_si) | (with_reducible apply AI_sa) | (with_reducible apply AI_sb) | (with_reducible apply AI_sl) | decide | (intro _))
theorem ai_name_144 (F : Nat) (σ : zS) (x2 : Int32) (h : AI σ) : pq (AI) (Md_name_144 F σ x2) := by
  unfold Md_name_144
  repeat' (first | assumption | (with_reducible apply ai_name_149) | (with_reducible apply pq_ite) | (with_reducible apply pp_ite) | (with_reducible apply pq_gd) | (with_reducible apply pp_gd) | (with_reducible apply pq_bv) | (with_reducible apply pp_bv) | (with_reducible apply pq_bi) | (with_reducible apply pp_bi) | (with_reducible apply pq_some) | (with_reducible apply pp_some) | (with_reducible apply AI_si) | (with_reducible apply AI_sa) | (with_reducible apply AI_sb) | (with_reducible apply AI_sl) | decide | (intro _))
theorem ai_name_128 (F : Nat) (σ : zS) (x2 : Int32) (h : AI σ) : pq (AI) (Md_name_128 F σ x2) := by
  unfold Md_name_128
  repeat' (first | assumption | (with_reducible apply ai_name_144) | (with_reducible apply ai_name_148) | (with_reducible apply pq_ite) | (with_reducible apply pp_ite) | (with_reducible apply pq_gd) | (with_reducible apply pp_gd) | (with_reducible apply pq_bv) | (with_reducible apply pp_bv) | (with_reducible apply pq_bi) | (with_reducible apply pp_bi) | (with_reducible apply pq_some) | (with_reducible apply pp_some) | (with_reducible apply AI_si) | (with_reducible apply AI_sa) | (with_reducible apply AI_sb) | (with_reducible apply AI_sl) | decide | (intro _))
theorem ai_name_112 (F : Nat) (σ : zS) (x2 : Int32) (h : AI σ) : pq (AI) (Md_name_112 F σ x2) := by
  unfold Md_name_112
  repeat' (first | assumption | (with_reducible apply ai_name_144) | (with_reducible apply ai_name_128) | (with_reducible apply pq_ite) | (with_reducible apply pp_ite) | (with_reducible apply pq_gd) | (with_reducible apply pp_gd) | (with_reducible apply pq_bv) | (with_reducible apply pp_bv) | (with_reducible apply pq_bi) | (with_reducible apply pp_bi) | (with_reducible apply pq_some) | (with_reducible apply pp_some) | (with_reducible apply AI_si) | (with_reducible apply AI_sa) | (with_reducible apply AI_sb) | (with_reducible apply AI_sl) | decide | (intro _))
theorem ai_name_96 (F : Nat) (σ : zS) (x2 : Int32) (h : AI σ) : pq (AI) (Md_name_96 F σ x2) := by
  unfold Md_name_96
  repeat' (first | assumption | (with_reducible apply ai_name_144) | (with_reducible apply ai_name_112) | (with_reducible apply pq_ite) | (with_reducible apply pp_ite) | (with_reducible apply pq_gd) | (with_reducible apply pp_gd) | (with_reducible apply pq_bv) | (with_reducible apply pp_bv) | (with_reducible apply pq_bi) | (with_reducible apply pp_bi) | (with_reducible apply pq_some) | (with_reducible apply pp_some) | (with_reducible apply AI_si) | (with_reducible apply AI_sa) | (with_reducible apply AI_sb) | (with_reducible apply AI_sl) | decide | (intro _))
theorem ai_name_52 (F : Nat) (rc7 : zS → Int32 → Int32 → Option zS) (σ : zS) (x1 : Int32) (x2 : Int32) (s1 : Int64) (hrc7 : ∀ y0 y1 y2, AI y0 → pq (AI) (rc7 y0 y1 y2)) (h : AI σ) : pq (AI) (Md_name_52 F rc7 σ x1 x2 s1) := by
  unfold Md_name_52
  repeat' (first | assumption | (with_reducible apply hrc7) | (with_reducible apply pq_ite) | (with_reducible apply pp_ite) | (with_reducible apply pq_gd) | (with_reducible apply pp_gd) | (with_reducible apply pq_bv) | (with_reducible apply pp_bv) | (with_reducible apply pq_bi) | (with_reducible apply pp_bi) | (with_reducible apply pq_some) | (with_reducible apply pp_some) | (with_reducible apply AI_si) | (with_reducible apply AI_sa) | (with_reducible apply AI_sb) | (with_reducible apply AI_sl) | decide | (intro _))
theorem ai_name_b7 (F : Nat) (rc7 : zS → Int32 → Int32 → Option zS) (σ : zS) (x1 : Int32) (x2 : Int32) (hrc7 : ∀ y0 y1 y2, AI y0 → pq (AI) (rc7 y0 y1 y2)) (h : AI σ) : pq (AI) (Md_name_b7 F rc7 σ x1 x2) := by
  unfold Md_name_b7
  repeat' (first | assumption | (with_reducible apply hrc7) | (with_reducible apply ai_byteAt) | (with_reducible apply ai_isOf) | (with_reducible apply ai_name_144) | (with_reducible apply ai_name_96) | (with_reducible apply ai_name_149) | (with_reducible apply ai_name_52) | (with_reducible apply pq_ite) | (with_reducible apply pp_ite) | (with_reducible apply pq_gd) | (with_reducible apply pp_gd) | (with_reducible apply pq_bv) | (with_reducible apply pp_bv) | (with_reducible apply pq_bi) | (with_reducible apply pp_bi) | (with_reducible apply pq_some) | (with_reducible apply pp_some) | (with_reducible apply AI_si) | (with_reducible apply AI_sa) | (with_reducible apply AI_sb) | (with_reducible apply AI_sl) | decide | (intro _))
theorem ai_name_7 (F : Nat) : ∀ (n : Nat) (a0 : zS) (a1 : Int32) (a2 : Int32), AI a0 → pq (AI) (Md_name_7 F n a0 a1 a2)
  | 0, _, _, _, _ => pq_none
  | n + 1, a0, a1, a2, h => ai_name_b7 F (Md_name_7 F n) a0 a1 a2  (ai_name_7 F  n) h
theorem ai_name (F : Nat) (σ : zS) (x1 : Int32) (h : AI σ) : pq (AI) (Md_name F σ x1) := by
  unfold Md_name
  repeat' (first | assumption | (with_reducible apply ai_name_7) | (with_reducible apply pq_ite) | (with_reducible apply pp_ite) | (with_reducible apply pq_gd) | (with_reducible apply pp_gd) | (with_reducible apply pq_bv) | (with_reducible apply pp_bv) | (with_reducible apply pq_bi) | (with_reducible apply pp_bi) | (with_reducible apply pq_some) | (with_reducible apply pp_some) | (with_reducible apply AI_si) | (with_reducible apply AI_sa) | (with_reducible apply AI_sb) | (with_reducible apply AI_sl) | decide | (intro _))
theorem ai_next_26 (F : Nat) (rc0 : zS → Option zS) (σ : zS) (hrc0 : ∀ y0, AI y0 → pq (AI) (rc0 y0)) (h : AI σ) : pq (AI) (Md_next_26 F rc0 σ) := by
  unfold Md_next_26
  repeat' (first | assumption | (with_reducible apply hrc0) | (with_reducible apply pq_ite) | (with_reducible apply pp_ite) | (with_reducible apply pq_gd) | (with_reducible apply pp_gd) | (with_reducible apply pq_bv) | (with_reducible apply pp_bv) | (with_reducible apply pq_bi) | (with_reducible apply pp_bi) | (with_reducible apply pq_some) | (with_reducible apply pp_some) | (with_reducible apply AI_si) | (with_reducible apply AI_sa) | (with_reducible apply AI_sb) | (with_reducible apply AI_sl) | decide | (intro _))
theorem ai_next_67 (F : Nat) (σ : zS) (h : AI σ) : pq (AI) (Md_next_67 F σ) := by
  unfold Md_next_67
  repeat' (first | assumption | (with_reducible apply pq_ite) | (with_reducible apply pp_ite) | (with_reducible apply pq_gd) | (with_reducible apply pp_gd) | (with_reducible apply pq_bv) | (with_reducible apply pp_bv) | (with_reducible apply pq_bi) | (with_reducible apply pp_bi) | (with_reducible apply pq_some) | (with_reducible apply pp_some) | (with_reducible apply AI_si) | (with_reducible apply AI_sa) | (with_reducible apply AI_sb) | (with_reducible apply AI_sl) | decide | (intro _))
theorem ai_next_87 (F : Nat) (σ : zS) (x1 : Int32) (h : AI σ) : pq (AI) (Md_next_87 F σ x1) := by
  unfold Md_next_87
  repeat' (first | assumption | (with_reducible apply ai_isUpper) | (with_reducible apply ai_name) | (with_reducible apply pq_ite) | (with_reducible apply pp_ite) | (with_reducible apply pq_gd) | (with_reducible apply pp_gd) | (with_reducible apply pq_bv) | (with_reducible apply pp_bv) | (with_reducible apply pq_bi) | (with_reducible apply pp_bi) | (with_reducible apply pq_some) | (with_reducible apply pp_some) | (with_reducible apply AI_si) | (with_reducible apply AI_sa) | (with_reducible apply AI_sb) | (with_reducible apply AI_sl) | decide | (intro _))
theorem ai_next_271 (F : Nat) (σ : zS) (h : AI σ) : pq (AI) (Md_next_271 F σ) := by
  unfold Md_next_271
  repeat' (first | assumption | (with_reducible apply pq_ite) | (with_reducible apply pp_ite) | (with_reducible apply pq_gd) | (with_reducible apply pp_gd) | (with_reducible apply pq_bv) | (with_reducible apply pp_bv) | (with_reducible apply pq_bi) | (with_reducible apply pp_bi) | (with_reducible apply pq_some) | (with_reducible apply pp_some) | (with_reducible apply AI_si) | (with_reducible apply AI_sa) | (with_reducible apply AI_sb) | (with_reducible apply AI_sl) | decide | (intro _))
theorem ai_next_237 (F : Nat) (σ : zS) (x1 : Int32) (s0 : Int32) (h : AI σ) : pq (AI) (Md_next_237 F σ x1 s0) := by
  unfold Md_next_237
  repeat' (first | assumption | (with_reducible apply ai_wrong) | (with_reducible apply ai_next_271) | (with_reducible apply pq_ite) | (with_reducible apply pp_ite) | (with_reducible apply pq_gd) | (with_reducible apply pp_gd) | (with_reducible apply pq_bv) | (with_reducible apply pp_bv) | (with_reducible apply pq_bi) | (with_reducible apply pp_bi) | (with_reducible apply pq_some) | (with_reducible apply pp_some) | (with_reducible apply AI_si) | (with_reducible apply AI_sa) | (with_reducible apply AI_sb) | (with_reducible apply AI_sl) | decide | (intro _))
theorem ai_next_232 (F : Nat) (σ : zS) (x1 : Int32) (h : AI σ) : pq (AI) (Md_next_232 F σ x1) := by
  unfold Md_next_232
  repeat' (first | assumption | (with_reducible apply ai_next_237) | (with_reducible apply pq_ite) | (with_reducible apply pp_ite) | (with_reducible apply pq_gd) | (with_reducible apply pp_gd) | (with_reducible apply pq_bv) | (with_reducible apply pp_bv) | (with_reducible apply pq_bi) | (with_reducible apply pp_bi) | (with_reducible apply pq_some) | (with_reducible apply pp_some) | (with_reducible apply AI_si) | (with_reducible apply AI_sa) | (with_reducible apply AI_sb) | (with_reducible apply AI_sl) | decide | (intro _))
theorem ai_next_166 (F : Nat) (σ : zS) (x1 : Int32) (h : AI σ) : pq (AI) (Md_next_166 F σ x1) := by
  unfold Md_next_166
  repeat' (first | assumption | (with_reducible apply ai_next_232) | (with_reducible apply ai_next_237) | (with_reducible apply pq_ite) | (with_reducible apply pp_ite) | (with_reducible apply pq_gd) | (with_reducible apply pp_gd) | (with_reducible apply pq_bv) | (with_reducible apply pp_bv) | (with_reducible apply pq_bi) | (with_reducible apply pp_bi) | (with_reducible apply pq_some) | (with_reducible apply pp_some) | (with_reducible apply AI_si) | (with_reducible apply AI_sa) | (with_reducible apply AI_sb) | (with_reducible apply AI_sl) | decide | (intro _))
theorem ai_next_152 (F : Nat) (σ : zS) (s1 : Int32) (h : AI σ) : pq (AI) (Md_next_152 F σ s1) := by
  unfold Md_next_152
  repeat' (first | assumption | (with_reducible apply pq_ite) | (with_reducible apply pp_ite) | (with_reducible apply pq_gd) | (with_reducible apply pp_gd) | (with_reducible apply pq_bv) | (with_reducible apply pp_bv) | (with_reducible apply pq_bi) | (with_reducible apply pp_bi) | (with_reducible apply pq_some) | (with_reducible apply pp_some) | (with_reducible apply AI_si) | (with_reducible apply AI_sa) | (with_reducible apply AI_sb) | (with_reducible apply AI_sl) | decide | (intro _))
theorem ai_next_136 (F : Nat) (σ : zS) (x1 : Int32) (h : AI σ) : pq (AI) (Md_next_136 F σ x1) := by
  unfold Md_next_136
  repeat' (first | assumption | (with_reducible apply ai_next_152) | (with_reducible apply pq_ite) | (with_reducible apply pp_ite) | (with_reducible apply pq_gd) | (with_reducible apply pp_gd) | (with_reducible apply pq_bv) | (with_reducible apply pp_bv) | (with_reducible apply pq_bi) | (with_reducible apply pp_bi) | (with_reducible apply pq_some) | (with_reducible apply pp_some) | (with_reducible apply AI_si) | (with_reducible apply AI_sa) | (with_reducible apply AI_sb) | (with_reducible apply AI_sl) | decide | (intro _))
theorem ai_next_124 (F : Nat) (σ : zS) (x1 : Int32) (x2 : Int32) (h : AI σ) : pq (AI) (Md_next_124 F σ x1 x2) := by
  unfold Md_next_124
  repeat' (first | assumption | (with_reducible apply ai_next_136) | (with_reducible apply ai_next_166) | (with_reducible apply pq_ite) | (with_reducible apply pp_ite) | (with_reducible apply pq_gd) | (with_reducible apply pp_gd) | (with_reducible apply pq_bv) | (with_reducible apply pp_bv) | (with_reducible apply pq_bi) | (with_reducible apply pp_bi) | (with_reducible apply pq_some) | (with_reducible apply pp_some) | (with_reducible apply AI_si) | (with_reducible apply AI_sa) | (with_reducible apply AI_sb) | (with_reducible apply AI_sl) | decide | (intro _))
theorem ai_next_b0 (F : Nat) (rc0 : zS → Option zS) (σ : zS) (hrc0 : ∀ y0, AI y0 → pq (AI) (rc0 y0)) (h : AI σ) : pq (AI) (Md_next_b0 F rc0 σ) := by
  unfold Md_next_b0
  repeat' (first | assumption | (with_reducible apply hrc0) | (with_reducible apply ai_byteAt) | (with_reducible apply ai_next_26) | (with_reducible apply ai_next_67) | (with_reducible apply ai_isUpper) | (with_reducible apply ai_isLower) | (with_reducible apply ai_next_136) | (with_reducible apply ai_next_124) | (with_reducible apply ai_next_87) | (with_reducible apply pq_ite) | (with_reducible apply pp_ite) | (with_reducible apply pq_gd) | (with_reducible apply pp_gd) | (with_reducible apply pq_bv) | (with_reducible apply pp_bv) | (with_reducible apply pq_bi) | (with_reducible apply pp_bi) | (with_reducible apply pq_some) | (with_reducible apply pp_some) | (with_reducible apply AI_si) | (with_reducible apply AI_sa) | (with_reducible apply AI_sb) | (with_reducible apply AI_sl) | decide | (intro _))
theorem ai_next_0 (F : Nat) : ∀ (n : Nat) (a0 : zS), AI a0 → pq (AI) (Md_next_0 F n a0)
  | 0, _, _ => pq_none
  | n + 1, a0, h => ai_next_b0 F (Md_next_0 F n) a0  (ai_next_0 F  n) h
theorem ai_next (F : Nat) (σ : zS) (h : AI σ) : pq (AI) (Md_next F σ) := by
  unfold Md_next
  repeat' (first | assumption | (with_reducible apply ai_next_0) | (with_reducible apply pq_ite) | (with_reducible apply pp_ite) | (with_reducible apply pq_gd) | (with_reducible apply pp_gd) | (with_reducible apply pq_bv) | (with_reducible apply pp_bv) | (with_reducible apply pq_bi) | (with_reducible apply pp_bi) | (with_reducible apply pq_some) | (with_reducible apply pp_some) | (with_reducible apply AI_si) | (with_reducible apply AI_sa) | (with_reducible apply AI_sb) | (with_reducible apply AI_sl) | decide | (intro _))
theorem ai_isSign_28 (F : Nat) (σ : zS) (s0 : Int32) (h : AI σ) : pp (AI) (Md_isSign_28 F σ s0) := by
  unfold Md_isSign_28
  repeat' (first | assumption | (with_reducible apply pq_ite) | (with_reducible apply pp_ite) | (with_reducible apply pq_gd) | (with_reducible apply pp_gd) | (with_reducible apply pq_bv) | (with_reducible apply pp_bv) | (with_reducible apply pq_bi) | (with_reducible apply pp_bi) | (with_reducible apply pq_some) | (with_reducible apply pp_some) | (with_reducible apply AI_si) | (with_reducible apply AI_sa) | (with_reducible apply AI_sb) | (with_reducible apply AI_sl) | decide | (intro _))
theorem ai_isSign_27 (F : Nat) (σ : zS) (h : AI σ) : pp (AI) (Md_isSign_27 F σ) := by
  unfold Md_isSign_27
  repeat' (first | assumption | (with_reducible apply ai_isSign_28) | (with_reducible apply pq_ite) | (with_reducible apply pp_ite) | (with_reducible apply pq_gd) | (with_reducible apply pp_gd) | (with_reducible apply pq_bv) | (with_reducible apply pp_bv) | (with_reducible apply pq_bi) | (with_reducible apply pp_bi) | (with_reducible apply pq_some) | (with_reducible apply pp_some) | (with_reducible apply AI_si) | (with_reducible apply AI_sa) | (with_reducible apply AI_sb) | (with_reducible apply AI_sl) | decide | (intro _))
theorem ai_isSign (F : Nat) (σ : zS) (x1 : Int32) (h : AI σ) : pp (AI) (Md_isSign F σ x1) := by
  unfold Md_isSign
  repeat' (first | assumption | (with_reducible apply ai_isSign_28) | (with_reducible apply ai_isSign_27) | (with_reducible apply pq_ite) | (with_reducible apply pp_ite) | (with_reducible apply pq_gd) | (with_reducible apply pp_gd) | (with_reducible apply pq_bv) | (with_reducible apply pp_bv) | (with_reducible apply pq_bi) | (with_reducible apply pp_bi) | (with_reducible apply pq_some) | (with_reducible apply pp_some) | (with_reducible apply AI_si) | (with_reducible apply AI_sa) | (with_reducible apply AI_sb) | (with_reducible apply AI_sl) | decide | (intro _))
theorem ai_cannot (F : Nat) (σ : zS) (h : AI σ) : pq (AI) (Md_cannot F σ) := by
  unfold Md_cannot
  repeat' (first | assumption | (with_reducible apply ai_wrong) | (with_reducible apply pq_ite) | (with_reducible apply pp_ite) | (with_reducible apply pq_gd) | (with_reducible apply pp_gd) | (with_reducible apply pq_bv) | (with_reducible apply pp_bv) | (with_reducible apply pq_bi) | (with_reducible apply pp_bi) | (with_reducible apply pq_some) | (with_reducible apply pp_some) | (with_reducible apply AI_si) | (with_reducible apply AI_sa) | (with_reducible apply AI_sb) | (with_reducible apply AI_sl) | decide | (intro _))
theorem ai_want_19 (F : Nat) (σ : zS) (h : AI σ) : pq (AI) (Md_want_19 F σ) := by
  unfold Md_want_19
  repeat' (first | assumption | (with_reducible apply pq_ite) | (with_reducible apply pp_ite) | (with_reducible apply pq_gd) | (with_reducible apply pp_gd) | (with_reducible apply pq_bv) | (with_reducible apply pp_bv) | (with_reducible apply pq_bi) | (with_reducible apply pp_bi) | (with_reducible apply pq_some) | (with_reducible apply pp_some) | (with_reducible apply AI_si) | (with_reducible apply AI_sa) | (with_reducible apply AI_sb) | (with_reducible apply AI_sl) | decide | (intro _))
theorem ai_want (F : Nat) (σ : zS) (x1 : Int32) (h : AI σ) : pq (AI) (Md_want F σ x1) := by
  unfold Md_want
  repeat' (first | assumption | (with_reducible apply ai_isSign) | (with_reducible apply ai_cannot) | (with_reducible apply ai_want_19) | (with_reducible apply ai_next) | (with_reducible apply pq_ite) | (with_reducible apply pp_ite) | (with_reducible apply pq_gd) | (with_reducible apply pp_gd) | (with_reducible apply pq_bv) | (with_reducible apply pp_bv) | (with_reducible apply pq_bi) | (with_reducible apply pp_bi) | (with_reducible apply pq_some) | (with_reducible apply pp_some) | (with_reducible apply AI_si) | (with_reducible apply AI_sa) | (with_reducible apply AI_sb) | (with_reducible apply AI_sl) | decide | (intro _))
theorem ai_tell (F : Nat) (σ : zS) (x1 : Int32) (x2 : Int32) (h : AI σ) : pq (AI) (Md_tell F σ x1 x2) := by
  unfold Md_tell
  repeat' (first | assumption | (with_reducible apply pq_ite) | (with_reducible apply pp_ite) | (with_reducible apply pq_gd) | (with_reducible apply pp_gd) | (with_reducible apply pq_bv) | (with_reducible apply pp_bv) | (with_reducible apply pq_bi) | (with_reducible apply pp_bi) | (with_reducible apply pq_some) | (with_reducible apply pp_some) | (with_reducible apply AI_si) | (with_reducible apply AI_sa) | (with_reducible apply AI_sb) | (with_reducible apply AI_sl) | decide | (intro _))
theorem ai_act (F : Nat) (σ : zS) (x1 : Int32) (x2 : Int32) (x3 : Int32) (h : AI σ) (hx : x1 ≠ 0) : pq AI (Md_act F σ x1 x2 x3) := by
  obtain ⟨N, A, a1, a2, a3, a4, a5⟩ := h
  intro τ' e
  rw [Md_act, a2] at e
  obtain ⟨e1, e2⟩ := gd_s e
  have hM := inb_lt (by omega) e1
  rw [nI_clamp (by omega)] at e2
  cases e2
  have k7 : ∀ i, ga (si (sa (sa (sa σ 7 A x1) 8 A x2) 9 A x3) 23 (nI A + 1)) 7 i = if i = A then x1 else ga σ 7 i := fun i => by simp [zs, up_at]
  have k8 : ∀ i, ga (si (sa (sa (sa σ 7 A x1) 8 A x2) 9 A x3) 23 (nI A + 1)) 8 i = if i = A then x2 else ga σ 8 i := fun i => by simp [zs, up_at]
  refine ⟨N, A + 1, by simp [zs, a1], by simp [zs, nI_1], a3, by omega, fun a ha h7 => ?_⟩
  rw [k7] at h7
  by_cases en : a = A
  · rw [if_pos en] at h7; exact absurd h7 hx
  · rw [if_neg en] at h7
    obtain ⟨x, b1, b2, b3⟩ := a5 a (by omega) h7
    refine ⟨x, by rw [k8, if_neg en]; exact b1, b2, fun b hb h7' => ?_⟩
    rw [k7, if_neg (by omega)] at h7'
    obtain ⟨y, c1, c2⟩ := b3 b hb h7'
    exact ⟨y, by rw [k8, if_neg (by omega)]; exact c1, c2⟩
theorem ai_node (F : Nat) (σ : zS) (x1 : Int32) (x2 : Int32) (x3 : Int32) (h : AI σ) : pp AI (Md_node F σ x1 x2 x3) := by
  obtain ⟨N, A, a1, a2, a3, a4, a5⟩ := h
  intro r τ' e
  rw [Md_node, a1] at e
  obtain ⟨e1, e2⟩ := gd_s e
  have hN := inb_lt (by omega) e1
  rw [nI_clamp (by omega)] at e2
  cases e2
  refine ⟨N + 1, A, by simp [zs, nI_1], by simp [zs, a2], by omega, a4, fun a ha h7 => ?_⟩
  obtain ⟨x, b1, b2, b3⟩ := a5 a ha (by simpa [zs] using h7)
  exact ⟨x, by simpa [zs] using b1, by omega, fun b hb h7' => by
    obtain ⟨y, c1, c2⟩ := b3 b hb (by simpa [zs] using h7')
    exact ⟨y, by simpa [zs] using c1, c2⟩⟩
theorem ai_count_29 (F : Nat) (σ : zS) (h : AI σ) : pq (AI) (Md_count_29 F σ) := by
  unfold Md_count_29
  repeat' (first | assumption | (with_reducible apply pq_ite) | (with_reducible apply pp_ite) | (with_reducible apply pq_gd) | (with_reducible apply pp_gd) | (with_reducible apply pq_bv) | (with_reducible apply pp_bv) | (with_reducible apply pq_bi) | (with_reducible apply pp_bi) | (with_reducible apply pq_some) | (with_reducible apply pp_some) | (with_reducible apply AI_si) | (with_reducible apply AI_sa) | (with_reducible apply AI_sb) | (with_reducible apply AI_sl) | decide | (intro _))
theorem ai_count (F : Nat) (σ : zS) (h : AI σ) : pq (AI) (Md_count F σ) := by
  unfold Md_count
  repeat' (first | assumption | (with_reducible apply ai_count_29) | (with_reducible apply ai_wrong) | (with_reducible apply pq_ite) | (with_reducible apply pp_ite) | (with_reducible apply pq_gd) | (with_reducible apply pp_gd) | (with_reducible apply pq_bv) | (with_reducible apply pp_bv) | (with_reducible apply pq_bi) | (with_reducible apply pp_bi) | (with_reducible apply pq_some) | (with_reducible apply pp_some) | (with_reducible apply AI_si) | (with_reducible apply AI_sa) | (with_reducible apply AI_sb) | (with_reducible apply AI_sl) | decide | (intro _))
theorem ai_deeper_28 (F : Nat) (σ : zS) (h : AI σ) : pq (AI) (Md_deeper_28 F σ) := by
  unfold Md_deeper_28
  repeat' (first | assumption | (with_reducible apply pq_ite) | (with_reducible apply pp_ite) | (with_reducible apply pq_gd) | (with_reducible apply pp_gd) | (with_reducible apply pq_bv) | (with_reducible apply pp_bv) | (with_reducible apply pq_bi) | (with_reducible apply pp_bi) | (with_reducible apply pq_some) | (with_reducible apply pp_some) | (with_reducible apply AI_si) | (with_reducible apply AI_sa) | (with_reducible apply AI_sb) | (with_reducible apply AI_sl) | decide | (intro _))
theorem ai_deeper (F : Nat) (σ : zS) (h : AI σ) : pq (AI) (Md_deeper F σ) := by
  unfold Md_deeper
  repeat' (first | assumption | (with_reducible apply ai_deeper_28) | (with_reducible apply ai_wrong) | (with_reducible apply pq_ite) | (with_reducible apply pp_ite) | (with_reducible apply pq_gd) | (with_reducible apply pp_gd) | (with_reducible apply pq_bv) | (with_reducible apply pp_bv) | (with_reducible apply pq_bi) | (with_reducible apply pp_bi) | (with_reducible apply pq_some) | (with_reducible apply pp_some) | (with_reducible apply AI_si) | (with_reducible apply AI_sa) | (with_reducible apply AI_sb) | (with_reducible apply AI_sl) | decide | (intro _))
theorem ai_canBegin_46 (F : Nat) (σ : zS) (s0 : Int32) (h : AI σ) : pp (AI) (Md_canBegin_46 F σ s0) := by
  unfold Md_canBegin_46
  repeat' (first | assumption | (with_reducible apply pq_ite) | (with_reducible apply pp_ite) | (with_reducible apply pq_gd) | (with_reducible apply pp_gd) | (with_reducible apply pq_bv) | (with_reducible apply pp_bv) | (with_reducible apply pq_bi) | (with_reducible apply pp_bi) | (with_reducible apply pq_some) | (with_reducible apply pp_some) | (with_reducible apply AI_si) | (with_reducible apply AI_sa) | (with_reducible apply AI_sb) | (with_reducible apply AI_sl) | decide | (intro _))
theorem ai_canBegin_45 (F : Nat) (σ : zS) (h : AI σ) : pp (AI) (Md_canBegin_45 F σ) := by
  unfold Md_canBegin_45
  repeat' (first | assumption | (with_reducible apply ai_canBegin_46) | (with_reducible apply pq_ite) | (with_reducible apply pp_ite) | (with_reducible apply pq_gd) | (with_reducible apply pp_gd) | (with_reducible apply pq_bv) | (with_reducible apply pp_bv) | (with_reducible apply pq_bi) | (with_reducible apply pp_bi) | (with_reducible apply pq_some) | (with_reducible apply pp_some) | (with_reducible apply AI_si) | (with_reducible apply AI_sa) | (with_reducible apply AI_sb) | (with_reducible apply AI_sl) | decide | (intro _))
theorem ai_canBegin_41 (F : Nat) (σ : zS) (h : AI σ) : pp (AI) (Md_canBegin_41 F σ) := by
  unfold Md_canBegin_41
  repeat' (first | assumption | (with_reducible apply ai_canBegin_46) | (with_reducible apply pq_ite) | (with_reducible apply pp_ite) | (with_reducible apply pq_gd) | (with_reducible apply pp_gd) | (with_reducible apply pq_bv) | (with_reducible apply pp_bv) | (with_reducible apply pq_bi) | (with_reducible apply pp_bi) | (with_reducible apply pq_some) | (with_reducible apply pp_some) | (with_reducible apply AI_si) | (with_reducible apply AI_sa) | (with_reducible apply AI_sb) | (with_reducible apply AI_sl) | decide | (intro _))
theorem ai_canBegin (F : Nat) (σ : zS) (h : AI σ) : pp (AI) (Md_canBegin F σ) := by
  unfold Md_canBegin
  repeat' (first | assumption | (with_reducible apply ai_canBegin_41) | (with_reducible apply ai_isSign) | (with_reducible apply ai_canBegin_45) | (with_reducible apply pq_ite) | (with_reducible apply pp_ite) | (with_reducible apply pq_gd) | (with_reducible apply pp_gd) | (with_reducible apply pq_bv) | (with_reducible apply pp_bv) | (with_reducible apply pq_bi) | (with_reducible apply pp_bi) | (with_reducible apply pq_some) | (with_reducible apply pp_some) | (with_reducible apply AI_si) | (with_reducible apply AI_sa) | (with_reducible apply AI_sb) | (with_reducible apply AI_sl) | decide | (intro _))
theorem ai_open (F : Nat) (σ : zS) (x1 : Int32) (h : AI σ) : pq (AI) (Md_open F σ x1) := by
  unfold Md_open
  repeat' (first | assumption | (with_reducible apply pq_ite) | (with_reducible apply pp_ite) | (with_reducible apply pq_gd) | (with_reducible apply pp_gd) | (with_reducible apply pq_bv) | (with_reducible apply pp_bv) | (with_reducible apply pq_bi) | (with_reducible apply pp_bi) | (with_reducible apply pq_some) | (with_reducible apply pp_some) | (with_reducible apply AI_si) | (with_reducible apply AI_sa) | (with_reducible apply AI_sb) | (with_reducible apply AI_sl) | decide | (intro _))
theorem ai_addOne_98 (F : Nat) (σ : zS) (x1 : Int32) (x3 : Int32) (h : AI σ) : pq AI (Md_addOne_98 F σ x1 x3) := by
  unfold Md_addOne_98
  refine pq_gd (fun τ' e => ?_)
  obtain ⟨N, A, a1, a2, a3, a4, a5⟩ := h
  obtain ⟨r, σ1, e1, e2⟩ := bi_s e
  rw [Md_node, a1] at e1
  obtain ⟨g1, g2⟩ := gd_s e1
  have hN := inb_lt (by omega) g1
  rw [nI_clamp (by omega)] at g2
  have er : nI N + 1 - 1 = nI N := by rw [nI_1, Int32.sub_eq_add_neg, ← nI_1, Int32.add_assoc, show (1 : Int32) + (-1) = 0 from rfl, Int32.add_zero]
  rw [er] at g2
  cases g2
  obtain ⟨g3, e3⟩ := gd_s e2
  obtain ⟨σ6, e4, e5⟩ := bv_s e3
  have h42 : gi (si (sa (sa (sa σ 2 N 2) 4 N (ga σ 19 (gi σ 42).toNatClampNeg)) 5 N x1) 16 (nI N + 1)) 42 = gi σ 42 := by simp [zs]
  rw [h42] at e4
  have hv : ∀ s, ga (sa s 19 (gi σ 42).toNatClampNeg (nI N)) 19 (gi σ 42).toNatClampNeg = nI N := fun s => by simp [zs, up_at]
  rw [hv, Md_act] at e4
  obtain ⟨g4, e6⟩ := gd_s e4
  have h23 : gi (sa (si (sa (sa (sa σ 2 N 2) 4 N (ga σ 19 (gi σ 42).toNatClampNeg)) 5 N x1) 16 (nI N + 1)) 19 (gi σ 42).toNatClampNeg (nI N)) 23 = nI A := by simp [zs, a2]
  rw [h23] at g4 e6
  have hA := inb_lt (by omega) g4
  rw [nI_clamp (by omega)] at e6
  cases e6
  obtain ⟨_, e7⟩ := gd_s e5
  cases e7
  refine ⟨N + 1, A + 1, by simp [zs, nI_1], by simp [zs, nI_1], by omega, by omega, fun a ha h7 => ?_⟩
  simp only [zs, if_true] at h7 ⊢
  skip
  by_cases en : a = A
  · subst en
    refine ⟨N, by simp [up_at], by omega, fun b hb h7' => ?_⟩
    simp [zs, up_at, show ¬ b = a by omega] at h7'
    obtain ⟨y, c1, c2, _⟩ := a5 b (by omega) h7'
    exact ⟨y, by simp [zs, up_at, show ¬ b = a by omega, c1], c2⟩
  · simp [zs, up_at, en] at h7
    obtain ⟨x, b1, b2, b3⟩ := a5 a (by omega) h7
    refine ⟨x, by simp [zs, up_at, en, b1], by omega, fun b hb h7' => ?_⟩
    simp [zs, up_at, show ¬ b = A by omega] at h7'
    obtain ⟨y, c1, c2⟩ := b3 b hb h7'
    exact ⟨y, by simp [zs, up_at, show ¬ b = A by omega, c1], c2⟩
theorem ai_addOne_85 (F : Nat) (σ : zS) (s1 : Int32) (s2 : Int32) (h : AI σ) : pq (AI) (Md_addOne_85 F σ s1 s2) := by
  unfold Md_addOne_85
  repeat' (first | assumption | (with_reducible apply pq_ite) | (with_reducible apply pp_ite) | (with_reducible apply pq_gd) | (with_reducible apply pp_gd) | (with_reducible apply pq_bv) | (with_reducible apply pp_bv) | (with_reducible apply pq_bi) | (with_reducible apply pp_bi) | (with_reducible apply pq_some) | (with_reducible apply pp_some) | (with_reducible apply AI_si) | (with_reducible apply AI_sa) | (with_reducible apply AI_sb) | (with_reducible apply AI_sl) | decide | (intro _))
theorem ai_addOne (F : Nat) (σ : zS) (x1 : Int32) (x2 : Int32) (x3 : Int32) (h : AI σ) : pq (AI) (Md_addOne F σ x1 x2 x3) := by
  unfold Md_addOne
  repeat' (first | assumption | (with_reducible apply ai_addOne_98) | (with_reducible apply ai_addOne_85) | (with_reducible apply pq_ite) | (with_reducible apply pp_ite) | (with_reducible apply pq_gd) | (with_reducible apply pp_gd) | (with_reducible apply pq_bv) | (with_reducible apply pp_bv) | (with_reducible apply pq_bi) | (with_reducible apply pp_bi) | (with_reducible apply pq_some) | (with_reducible apply pp_some) | (with_reducible apply AI_si) | (with_reducible apply AI_sa) | (with_reducible apply AI_sb) | (with_reducible apply AI_sl) | decide | (intro _))
theorem ai_endSome_137 (F : Nat) (σ : zS) (x2 : Int32) (h : AI σ) : pq (AI) (Md_endSome_137 F σ x2) := by
  unfold Md_endSome_137
  repeat' (first | assumption | (with_reducible apply pq_ite) | (with_reducible apply pp_ite) | (with_reducible apply pq_gd) | (with_reducible apply pp_gd) | (with_reducible apply pq_bv) | (with_reducible apply pp_bv) | (with_reducible apply pq_bi) | (with_reducible apply pp_bi) | (with_reducible apply pq_some) | (with_reducible apply pp_some) | (with_reducible apply AI_si) | (with_reducible apply AI_sa) | (with_reducible apply AI_sb) | (with_reducible apply AI_sl) | decide | (intro _))
theorem ai_endSome_100 (F : Nat) (σ : zS) (x1 : Int32) (s1 : Int32) (s2 : Int32) (h : AI σ) : pq (AI) (Md_endSome_100 F σ x1 s1 s2) := by
  unfold Md_endSome_100
  repeat' (first | assumption | (with_reducible apply ai_node) | (with_reducible apply ai_endSome_137) | (with_reducible apply pq_ite) | (with_reducible apply pp_ite) | (with_reducible apply pq_gd) | (with_reducible apply pp_gd) | (with_reducible apply pq_bv) | (with_reducible apply pp_bv) | (with_reducible apply pq_bi) | (with_reducible apply pp_bi) | (with_reducible apply pq_some) | (with_reducible apply pp_some) | (with_reducible apply AI_si) | (with_reducible apply AI_sa) | (with_reducible apply AI_sb) | (with_reducible apply AI_sl) | decide | (intro _))
theorem ai_endSome_35 (F : Nat) (σ : zS) (h : AI σ) : pq (AI) (Md_endSome_35 F σ) := by
  unfold Md_endSome_35
  repeat' (first | assumption | (with_reducible apply ai_endSome_100) | (with_reducible apply pq_ite) | (with_reducible apply pp_ite) | (with_reducible apply pq_gd) | (with_reducible apply pp_gd) | (with_reducible apply pq_bv) | (with_reducible apply pp_bv) | (with_reducible apply pq_bi) | (with_reducible apply pp_bi) | (with_reducible apply pq_some) | (with_reducible apply pp_some) | (with_reducible apply AI_si) | (with_reducible apply AI_sa) | (with_reducible apply AI_sb) | (with_reducible apply AI_sl) | decide | (intro _))
theorem ai_endSome (F : Nat) (σ : zS) (h : AI σ) : pq (AI) (Md_endSome F σ) := by
  unfold Md_endSome
  repeat' (first | assumption | (with_reducible apply ai_endSome_35) | (with_reducible apply pq_ite) | (with_reducible apply pp_ite) | (with_reducible apply pq_gd) | (with_reducible apply pp_gd) | (with_reducible apply pq_bv) | (with_reducible apply pp_bv) | (with_reducible apply pq_bi) | (with_reducible apply pp_bi) | (with_reducible apply pq_some) | (with_reducible apply pp_some) | (with_reducible apply AI_si) | (with_reducible apply AI_sa) | (with_reducible apply AI_sb) | (with_reducible apply AI_sl) | decide | (intro _))
theorem ai_beginOne_115 (F : Nat) (σ : zS) (h : AI σ) : pq (AI) (Md_beginOne_115 F σ) := by
  unfold Md_beginOne_115
  repeat' (first | assumption | (with_reducible apply pq_ite) | (with_reducible apply pp_ite) | (with_reducible apply pq_gd) | (with_reducible apply pp_gd) | (with_reducible apply pq_bv) | (with_reducible apply pp_bv) | (with_reducible apply pq_bi) | (with_reducible apply pp_bi) | (with_reducible apply pq_some) | (with_reducible apply pp_some) | (with_reducible apply AI_si) | (with_reducible apply AI_sa) | (with_reducible apply AI_sb) | (with_reducible apply AI_sl) | decide | (intro _))
theorem ai_beginOne_100 (F : Nat) (σ : zS) (x1 : Int32) (x2 : Int32) (x3 : Int32) (s1 : Int32) (h : AI σ) : pq (AI) (Md_beginOne_100 F σ x1 x2 x3 s1) := by
  unfold Md_beginOne_100
  repeat' (first | assumption | (with_reducible apply ai_tell) | (with_reducible apply ai_next) | (with_reducible apply ai_addOne) | (with_reducible apply ai_beginOne_115) | (with_reducible apply pq_ite) | (with_reducible apply pp_ite) | (with_reducible apply pq_gd) | (with_reducible apply pp_gd) | (with_reducible apply pq_bv) | (with_reducible apply pp_bv) | (with_reducible apply pq_bi) | (with_reducible apply pp_bi) | (with_reducible apply pq_some) | (with_reducible apply pp_some) | (with_reducible apply AI_si) | (with_reducible apply AI_sa) | (with_reducible apply AI_sb) | (with_reducible apply AI_sl) | decide | (intro _))
theorem ai_beginOne_84 (F : Nat) (σ : zS) (x1 : Int32) (x2 : Int32) (s0 : Int32) (h : AI σ) : pq (AI) (Md_beginOne_84 F σ x1 x2 s0) := by
  unfold Md_beginOne_84
  repeat' (first | assumption | (with_reducible apply ai_beginOne_100) | (with_reducible apply pq_ite) | (with_reducible apply pp_ite) | (with_reducible apply pq_gd) | (with_reducible apply pp_gd) | (with_reducible apply pq_bv) | (with_reducible apply pp_bv) | (with_reducible apply pq_bi) | (with_reducible apply pp_bi) | (with_reducible apply pq_some) | (with_reducible apply pp_some) | (with_reducible apply AI_si) | (with_reducible apply AI_sa) | (with_reducible apply AI_sb) | (with_reducible apply AI_sl) | decide | (intro _))
theorem ai_beginOne_46 (F : Nat) (σ : zS) (x1 : Int32) (s1 : Int32) (h : AI σ) : pq (AI) (Md_beginOne_46 F σ x1 s1) := by
  unfold Md_beginOne_46
  repeat' (first | assumption | (with_reducible apply ai_node) | (with_reducible apply ai_beginOne_84) | (with_reducible apply pq_ite) | (with_reducible apply pp_ite) | (with_reducible apply pq_gd) | (with_reducible apply pp_gd) | (with_reducible apply pq_bv) | (with_reducible apply pp_bv) | (with_reducible apply pq_bi) | (with_reducible apply pp_bi) | (with_reducible apply pq_some) | (with_reducible apply pp_some) | (with_reducible apply AI_si) | (with_reducible apply AI_sa) | (with_reducible apply AI_sb) | (with_reducible apply AI_sl) | decide | (intro _))
theorem ai_beginOne_21 (F : Nat) (σ : zS) (x1 : Int32) (h : AI σ) : pq (AI) (Md_beginOne_21 F σ x1) := by
  unfold Md_beginOne_21
  repeat' (first | assumption | (with_reducible apply ai_count) | (with_reducible apply ai_beginOne_46) | (with_reducible apply ai_beginOne_115) | (with_reducible apply pq_ite) | (with_reducible apply pp_ite) | (with_reducible apply pq_gd) | (with_reducible apply pp_gd) | (with_reducible apply pq_bv) | (with_reducible apply pp_bv) | (with_reducible apply pq_bi) | (with_reducible apply pp_bi) | (with_reducible apply pq_some) | (with_reducible apply pp_some) | (with_reducible apply AI_si) | (with_reducible apply AI_sa) | (with_reducible apply AI_sb) | (with_reducible apply AI_sl) | decide | (intro _))
theorem ai_beginOne_166 (F : Nat) (σ : zS) (h : AI σ) : pq (AI) (Md_beginOne_166 F σ) := by
  unfold Md_beginOne_166
  repeat' (first | assumption | (with_reducible apply pq_ite) | (with_reducible apply pp_ite) | (with_reducible apply pq_gd) | (with_reducible apply pp_gd) | (with_reducible apply pq_bv) | (with_reducible apply pp_bv) | (with_reducible apply pq_bi) | (with_reducible apply pp_bi) | (with_reducible apply pq_some) | (with_reducible apply pp_some) | (with_reducible apply AI_si) | (with_reducible apply AI_sa) | (with_reducible apply AI_sb) | (with_reducible apply AI_sl) | decide | (intro _))
theorem ai_beginOne_159 (F : Nat) (σ : zS) (s1 : Int32) (h : AI σ) : pq (AI) (Md_beginOne_159 F σ s1) := by
  unfold Md_beginOne_159
  repeat' (first | assumption | (with_reducible apply ai_open) | (with_reducible apply ai_next) | (with_reducible apply ai_beginOne_166) | (with_reducible apply pq_ite) | (with_reducible apply pp_ite) | (with_reducible apply pq_gd) | (with_reducible apply pp_gd) | (with_reducible apply pq_bv) | (with_reducible apply pp_bv) | (with_reducible apply pq_bi) | (with_reducible apply pp_bi) | (with_reducible apply pq_some) | (with_reducible apply pp_some) | (with_reducible apply AI_si) | (with_reducible apply AI_sa) | (with_reducible apply AI_sb) | (with_reducible apply AI_sl) | decide | (intro _))
theorem ai_beginOne_142 (F : Nat) (σ : zS) (x2 : Int32) (h : AI σ) : pq (AI) (Md_beginOne_142 F σ x2) := by
  unfold Md_beginOne_142
  repeat' (first | assumption | (with_reducible apply ai_beginOne_159) | (with_reducible apply ai_beginOne_166) | (with_reducible apply pq_ite) | (with_reducible apply pp_ite) | (with_reducible apply pq_gd) | (with_reducible apply pp_gd) | (with_reducible apply pq_bv) | (with_reducible apply pp_bv) | (with_reducible apply pq_bi) | (with_reducible apply pp_bi) | (with_reducible apply pq_some) | (with_reducible apply pp_some) | (with_reducible apply AI_si) | (with_reducible apply AI_sa) | (with_reducible apply AI_sb) | (with_reducible apply AI_sl) | decide | (intro _))
theorem ai_beginOne (F : Nat) (σ : zS) (h : AI σ) : pq (AI) (Md_beginOne F σ) := by
  unfold Md_beginOne
  repeat' (first | assumption | (with_reducible apply ai_beginOne_21) | (with_reducible apply ai_deeper) | (with_reducible apply ai_isSign) | (with_reducible apply ai_beginOne_142) | (with_reducible apply ai_count) | (with_reducible apply pq_ite) | (with_reducible apply pp_ite) | (with_reducible apply pq_gd) | (with_reducible apply pp_gd) | (with_reducible apply pq_bv) | (with_reducible apply pp_bv) | (with_reducible apply pq_bi) | (with_reducible apply pp_bi) | (with_reducible apply pq_some) | (with_reducible apply pp_some) | (with_reducible apply AI_si) | (with_reducible apply AI_sa) | (with_reducible apply AI_sb) | (with_reducible apply AI_sl) | decide | (intro _))
theorem ai_closeOne_109 (F : Nat) (σ : zS) (x3 : Int32) (s1 : Int32) (h : AI σ) : pq (AI) (Md_closeOne_109 F σ x3 s1) := by
  unfold Md_closeOne_109
  repeat' (first | assumption | (with_reducible apply ai_addOne) | (with_reducible apply pq_ite) | (with_reducible apply pp_ite) | (with_reducible apply pq_gd) | (with_reducible apply pp_gd) | (with_reducible apply pq_bv) | (with_reducible apply pp_bv) | (with_reducible apply pq_bi) | (with_reducible apply pp_bi) | (with_reducible apply pq_some) | (with_reducible apply pp_some) | (with_reducible apply AI_si) | (with_reducible apply AI_sa) | (with_reducible apply AI_sb) | (with_reducible apply AI_sl) | decide | (intro _))
theorem ai_closeOne_70 (F : Nat) (σ : zS) (x1 : Int32) (x2 : Int32) (x3 : Int32) (s1 : Int32) (h : AI σ) : pq (AI) (Md_closeOne_70 F σ x1 x2 x3 s1) := by
  unfold Md_closeOne_70
  repeat' (first | assumption | (with_reducible apply ai_want) | (with_reducible apply ai_closeOne_109) | (with_reducible apply ai_node) | (with_reducible apply pq_ite) | (with_reducible apply pp_ite) | (with_reducible apply pq_gd) | (with_reducible apply pp_gd) | (with_reducible apply pq_bv) | (with_reducible apply pp_bv) | (with_reducible apply pq_bi) | (with_reducible apply pp_bi) | (with_reducible apply pq_some) | (with_reducible apply pp_some) | (with_reducible apply AI_si) | (with_reducible apply AI_sa) | (with_reducible apply AI_sb) | (with_reducible apply AI_sl) | decide | (intro _))
theorem ai_closeOne_58 (F : Nat) (σ : zS) (x1 : Int32) (x2 : Int32) (x3 : Int32) (h : AI σ) : pq (AI) (Md_closeOne_58 F σ x1 x2 x3) := by
  unfold Md_closeOne_58
  repeat' (first | assumption | (with_reducible apply ai_closeOne_70) | (with_reducible apply pq_ite) | (with_reducible apply pp_ite) | (with_reducible apply pq_gd) | (with_reducible apply pp_gd) | (with_reducible apply pq_bv) | (with_reducible apply pp_bv) | (with_reducible apply pq_bi) | (with_reducible apply pp_bi) | (with_reducible apply pq_some) | (with_reducible apply pp_some) | (with_reducible apply AI_si) | (with_reducible apply AI_sa) | (with_reducible apply AI_sb) | (with_reducible apply AI_sl) | decide | (intro _))
theorem ai_closeOne_18 (F : Nat) (σ : zS) (s0 : Int32) (h : AI σ) : pq (AI) (Md_closeOne_18 F σ s0) := by
  unfold Md_closeOne_18
  repeat' (first | assumption | (with_reducible apply ai_closeOne_58) | (with_reducible apply ai_act) | (with_reducible apply pq_ite) | (with_reducible apply pp_ite) | (with_reducible apply pq_gd) | (with_reducible apply pp_gd) | (with_reducible apply pq_bv) | (with_reducible apply pp_bv) | (with_reducible apply pq_bi) | (with_reducible apply pp_bi) | (with_reducible apply pq_some) | (with_reducible apply pp_some) | (with_reducible apply AI_si) | (with_reducible apply AI_sa) | (with_reducible apply AI_sb) | (with_reducible apply AI_sl) | decide | (intro _))
theorem ai_closeOne (F : Nat) (σ : zS) (h : AI σ) : pq (AI) (Md_closeOne F σ) := by
  unfold Md_closeOne
  repeat' (first | assumption | (with_reducible apply ai_closeOne_18) | (with_reducible apply pq_ite) | (with_reducible apply pp_ite) | (with_reducible apply pq_gd) | (with_reducible apply pp_gd) | (with_reducible apply pq_bv) | (with_reducible apply pp_bv) | (with_reducible apply pq_bi) | (with_reducible apply pp_bi) | (with_reducible apply pq_some) | (with_reducible apply pp_some) | (with_reducible apply AI_si) | (with_reducible apply AI_sa) | (with_reducible apply AI_sb) | (with_reducible apply AI_sl) | decide | (intro _))
theorem ai_readOpen_185 (F : Nat) (rc10 : zS → Int32 → Option (Int32 × zS)) (σ : zS) (x1 : Int32) (hrc10 : ∀ y0 y1, AI y0 → pp (AI) (rc10 y0 y1)) (h : AI σ) : pp (AI) (Md_readOpen_185 F rc10 σ x1) := by
  unfold Md_readOpen_185
  repeat' (first | assumption | (with_reducible apply hrc10) | (with_reducible apply ai_closeOne) | (with_reducible apply pq_ite) | (with_reducible apply pp_ite) | (with_reducible apply pq_gd) | (with_reducible apply pp_gd) | (with_reducible apply pq_bv) | (with_reducible apply pp_bv) | (with_reducible apply pq_bi) | (with_reducible apply pp_bi) | (with_reducible apply pq_some) | (with_reducible apply pp_some) | (with_reducible apply AI_si) | (with_reducible apply AI_sa) | (with_reducible apply AI_sb) | (with_reducible apply AI_sl) | decide | (intro _))
theorem ai_readOpen_55 (F : Nat) (rc10 : zS → Int32 → Option (Int32 × zS)) (σ : zS) (x1 : Int32) (hrc10 : ∀ y0 y1, AI y0 → pp (AI) (rc10 y0 y1)) (h : AI σ) : pp (AI) (Md_readOpen_55 F rc10 σ x1) := by
  unfold Md_readOpen_55
  repeat' (first | assumption | (with_reducible apply hrc10) | (with_reducible apply ai_canBegin) | (with_reducible apply ai_isSign) | (with_reducible apply ai_endSome) | (with_reducible apply ai_readOpen_185) | (with_reducible apply ai_act) | (with_reducible apply ai_count) | (with_reducible apply ai_next) | (with_reducible apply ai_cannot) | (with_reducible apply ai_beginOne) | (with_reducible apply pq_ite) | (with_reducible apply pp_ite) | (with_reducible apply pq_gd) | (with_reducible apply pp_gd) | (with_reducible apply pq_bv) | (with_reducible apply pp_bv) | (with_reducible apply pq_bi) | (with_reducible apply pp_bi) | (with_reducible apply pq_some) | (with_reducible apply pp_some) | (with_reducible apply AI_si) | (with_reducible apply AI_sa) | (with_reducible apply AI_sb) | (with_reducible apply AI_sl) | decide | (intro _))
theorem ai_readOpen_b10 (F : Nat) (rc10 : zS → Int32 → Option (Int32 × zS)) (σ : zS) (x1 : Int32) (hrc10 : ∀ y0 y1, AI y0 → pp (AI) (rc10 y0 y1)) (h : AI σ) : pp (AI) (Md_readOpen_b10 F rc10 σ x1) := by
  unfold Md_readOpen_b10
  repeat' (first | assumption | (with_reducible apply hrc10) | (with_reducible apply ai_readOpen_55) | (with_reducible apply pq_ite) | (with_reducible apply pp_ite) | (with_reducible apply pq_gd) | (with_reducible apply pp_gd) | (with_reducible apply pq_bv) | (with_reducible apply pp_bv) | (with_reducible apply pq_bi) | (with_reducible apply pp_bi) | (with_reducible apply pq_some) | (with_reducible apply pp_some) | (with_reducible apply AI_si) | (with_reducible apply AI_sa) | (with_reducible apply AI_sb) | (with_reducible apply AI_sl) | decide | (intro _))
theorem ai_readOpen_10 (F : Nat) : ∀ (n : Nat) (a0 : zS) (a1 : Int32), AI a0 → pp (AI) (Md_readOpen_10 F n a0 a1)
  | 0, _, _, _ => pp_none
  | n + 1, a0, a1, h => ai_readOpen_b10 F (Md_readOpen_10 F n) a0 a1  (ai_readOpen_10 F  n) h
theorem ai_readOpen (F : Nat) (σ : zS) (x1 : Int32) (h : AI σ) : pp (AI) (Md_readOpen F σ x1) := by
  unfold Md_readOpen
  repeat' (first | assumption | (with_reducible apply ai_open) | (with_reducible apply ai_readOpen_10) | (with_reducible apply pq_ite) | (with_reducible apply pp_ite) | (with_reducible apply pq_gd) | (with_reducible apply pp_gd) | (with_reducible apply pq_bv) | (with_reducible apply pp_bv) | (with_reducible apply pq_bi) | (with_reducible apply pp_bi) | (with_reducible apply pq_some) | (with_reducible apply pp_some) | (with_reducible apply AI_si) | (with_reducible apply AI_sa) | (with_reducible apply AI_sb) | (with_reducible apply AI_sl) | decide | (intro _))
theorem ai_readOne (F : Nat) (σ : zS) (h : AI σ) : pp (AI) (Md_readOne F σ) := by
  unfold Md_readOne
  repeat' (first | assumption | (with_reducible apply ai_readOpen) | (with_reducible apply pq_ite) | (with_reducible apply pp_ite) | (with_reducible apply pq_gd) | (with_reducible apply pp_gd) | (with_reducible apply pq_bv) | (with_reducible apply pp_bv) | (with_reducible apply pq_bi) | (with_reducible apply pp_bi) | (with_reducible apply pq_some) | (with_reducible apply pp_some) | (with_reducible apply AI_si) | (with_reducible apply AI_sa) | (with_reducible apply AI_sb) | (with_reducible apply AI_sl) | decide | (intro _))
theorem ai_readType (F : Nat) (σ : zS) (h : AI σ) : pp (AI) (Md_readType F σ) := by
  unfold Md_readType
  repeat' (first | assumption | (with_reducible apply ai_readOpen) | (with_reducible apply pq_ite) | (with_reducible apply pp_ite) | (with_reducible apply pq_gd) | (with_reducible apply pp_gd) | (with_reducible apply pq_bv) | (with_reducible apply pp_bv) | (with_reducible apply pq_bi) | (with_reducible apply pp_bi) | (with_reducible apply pq_some) | (with_reducible apply pp_some) | (with_reducible apply AI_si) | (with_reducible apply AI_sa) | (with_reducible apply AI_sb) | (with_reducible apply AI_sl) | decide | (intro _))
theorem ai_newKind (F : Nat) (σ : zS) (x1 : Int32) (x2 : Int32) (x3 : Int32) (h : AI σ) : pp (AI) (Md_newKind F σ x1 x2 x3) := by
  unfold Md_newKind
  repeat' (first | assumption | (with_reducible apply pq_ite) | (with_reducible apply pp_ite) | (with_reducible apply pq_gd) | (with_reducible apply pp_gd) | (with_reducible apply pq_bv) | (with_reducible apply pp_bv) | (with_reducible apply pq_bi) | (with_reducible apply pp_bi) | (with_reducible apply pq_some) | (with_reducible apply pp_some) | (with_reducible apply AI_si) | (with_reducible apply AI_sa) | (with_reducible apply AI_sb) | (with_reducible apply AI_sl) | decide | (intro _))
theorem ai_top_b2 (F : Nat) (rc2 : zS → Int32 → Option (Int32 × zS)) (σ : zS) (x2 : Int32) (hrc2 : ∀ y0 y1, AI y0 → pp (AI) (rc2 y0 y1)) (h : AI σ) : pp (AI) (Md_top_b2 F rc2 σ x2) := by
  unfold Md_top_b2
  repeat' (first | assumption | (with_reducible apply hrc2) | (with_reducible apply pq_ite) | (with_reducible apply pp_ite) | (with_reducible apply pq_gd) | (with_reducible apply pp_gd) | (with_reducible apply pq_bv) | (with_reducible apply pp_bv) | (with_reducible apply pq_bi) | (with_reducible apply pp_bi) | (with_reducible apply pq_some) | (with_reducible apply pp_some) | (with_reducible apply AI_si) | (with_reducible apply AI_sa) | (with_reducible apply AI_sb) | (with_reducible apply AI_sl) | decide | (intro _))
theorem ai_top_2 (F : Nat) : ∀ (n : Nat) (a0 : zS) (a1 : Int32), AI a0 → pp (AI) (Md_top_2 F n a0 a1)
  | 0, _, _, _ => pp_none
  | n + 1, a0, a1, h => ai_top_b2 F (Md_top_2 F n) a0 a1  (ai_top_2 F  n) h
theorem ai_top (F : Nat) (σ : zS) (x1 : Int32) (h : AI σ) : pp (AI) (Md_top F σ x1) := by
  unfold Md_top
  repeat' (first | assumption | (with_reducible apply ai_top_2) | (with_reducible apply pq_ite) | (with_reducible apply pp_ite) | (with_reducible apply pq_gd) | (with_reducible apply pp_gd) | (with_reducible apply pq_bv) | (with_reducible apply pp_bv) | (with_reducible apply pq_bi) | (with_reducible apply pp_bi) | (with_reducible apply pq_some) | (with_reducible apply pp_some) | (with_reducible apply AI_si) | (with_reducible apply AI_sa) | (with_reducible apply AI_sb) | (with_reducible apply AI_sl) | decide | (intro _))
theorem ai_addPart_86 (F : Nat) (σ : zS) (x3 : Int32) (h : AI σ) : pq (AI) (Md_addPart_86 F σ x3) := by
  unfold Md_addPart_86
  repeat' (first | assumption | (with_reducible apply pq_ite) | (with_reducible apply pp_ite) | (with_reducible apply pq_gd) | (with_reducible apply pp_gd) | (with_reducible apply pq_bv) | (with_reducible apply pp_bv) | (with_reducible apply pq_bi) | (with_reducible apply pp_bi) | (with_reducible apply pq_some) | (with_reducible apply pp_some) | (with_reducible apply AI_si) | (with_reducible apply AI_sa) | (with_reducible apply AI_sb) | (with_reducible apply AI_sl) | decide | (intro _))
theorem ai_addPart_57 (F : Nat) (σ : zS) (x1 : Int32) (x2 : Int32) (s1 : Int32) (s2 : Int32) (h : AI σ) : pq (AI) (Md_addPart_57 F σ x1 x2 s1 s2) := by
  unfold Md_addPart_57
  repeat' (first | assumption | (with_reducible apply ai_newKind) | (with_reducible apply ai_addPart_86) | (with_reducible apply pq_ite) | (with_reducible apply pp_ite) | (with_reducible apply pq_gd) | (with_reducible apply pp_gd) | (with_reducible apply pq_bv) | (with_reducible apply pp_bv) | (with_reducible apply pq_bi) | (with_reducible apply pp_bi) | (with_reducible apply pq_some) | (with_reducible apply pp_some) | (with_reducible apply AI_si) | (with_reducible apply AI_sa) | (with_reducible apply AI_sb) | (with_reducible apply AI_sl) | decide | (intro _))
theorem ai_addPart (F : Nat) (σ : zS) (x1 : Int32) (h : AI σ) : pq (AI) (Md_addPart F σ x1) := by
  unfold Md_addPart
  repeat' (first | assumption | (with_reducible apply ai_addPart_57) | (with_reducible apply pq_ite) | (with_reducible apply pp_ite) | (with_reducible apply pq_gd) | (with_reducible apply pp_gd) | (with_reducible apply pq_bv) | (with_reducible apply pp_bv) | (with_reducible apply pq_bi) | (with_reducible apply pp_bi) | (with_reducible apply pq_some) | (with_reducible apply pp_some) | (with_reducible apply AI_si) | (with_reducible apply AI_sa) | (with_reducible apply AI_sb) | (with_reducible apply AI_sl) | decide | (intro _))
theorem ai_openKind (F : Nat) (σ : zS) (h : AI σ) : pq (AI) (Md_openKind F σ) := by
  unfold Md_openKind
  repeat' (first | assumption | (with_reducible apply pq_ite) | (with_reducible apply pp_ite) | (with_reducible apply pq_gd) | (with_reducible apply pp_gd) | (with_reducible apply pq_bv) | (with_reducible apply pp_bv) | (with_reducible apply pq_bi) | (with_reducible apply pp_bi) | (with_reducible apply pq_some) | (with_reducible apply pp_some) | (with_reducible apply AI_si) | (with_reducible apply AI_sa) | (with_reducible apply AI_sb) | (with_reducible apply AI_sl) | decide | (intro _))
theorem ai_readKind_76 (F : Nat) (rc11 : zS → Int32 → Option (Int32 × zS)) (σ : zS) (x1 : Int32) (hrc11 : ∀ y0 y1, AI y0 → pp (AI) (rc11 y0 y1)) (h : AI σ) : pp (AI) (Md_readKind_76 F rc11 σ x1) := by
  unfold Md_readKind_76
  repeat' (first | assumption | (with_reducible apply hrc11) | (with_reducible apply ai_isSign) | (with_reducible apply ai_want) | (with_reducible apply ai_addPart) | (with_reducible apply ai_next) | (with_reducible apply ai_cannot) | (with_reducible apply pq_ite) | (with_reducible apply pp_ite) | (with_reducible apply pq_gd) | (with_reducible apply pp_gd) | (with_reducible apply pq_bv) | (with_reducible apply pp_bv) | (with_reducible apply pq_bi) | (with_reducible apply pp_bi) | (with_reducible apply pq_some) | (with_reducible apply pp_some) | (with_reducible apply AI_si) | (with_reducible apply AI_sa) | (with_reducible apply AI_sb) | (with_reducible apply AI_sl) | decide | (intro _))
theorem ai_readKind_48 (F : Nat) (rc11 : zS → Int32 → Option (Int32 × zS)) (σ : zS) (x1 : Int32) (hrc11 : ∀ y0 y1, AI y0 → pp (AI) (rc11 y0 y1)) (h : AI σ) : pp (AI) (Md_readKind_48 F rc11 σ x1) := by
  unfold Md_readKind_48
  repeat' (first | assumption | (with_reducible apply hrc11) | (with_reducible apply ai_readKind_76) | (with_reducible apply ai_isSign) | (with_reducible apply ai_deeper) | (with_reducible apply ai_next) | (with_reducible apply ai_openKind) | (with_reducible apply pq_ite) | (with_reducible apply pp_ite) | (with_reducible apply pq_gd) | (with_reducible apply pp_gd) | (with_reducible apply pq_bv) | (with_reducible apply pp_bv) | (with_reducible apply pq_bi) | (with_reducible apply pp_bi) | (with_reducible apply pq_some) | (with_reducible apply pp_some) | (with_reducible apply AI_si) | (with_reducible apply AI_sa) | (with_reducible apply AI_sb) | (with_reducible apply AI_sl) | decide | (intro _))
theorem ai_readKind_b11 (F : Nat) (rc11 : zS → Int32 → Option (Int32 × zS)) (σ : zS) (x1 : Int32) (hrc11 : ∀ y0 y1, AI y0 → pp (AI) (rc11 y0 y1)) (h : AI σ) : pp (AI) (Md_readKind_b11 F rc11 σ x1) := by
  unfold Md_readKind_b11
  repeat' (first | assumption | (with_reducible apply hrc11) | (with_reducible apply ai_readKind_48) | (with_reducible apply ai_isSign) | (with_reducible apply ai_addPart) | (with_reducible apply ai_next) | (with_reducible apply pq_ite) | (with_reducible apply pp_ite) | (with_reducible apply pq_gd) | (with_reducible apply pp_gd) | (with_reducible apply pq_bv) | (with_reducible apply pp_bv) | (with_reducible apply pq_bi) | (with_reducible apply pp_bi) | (with_reducible apply pq_some) | (with_reducible apply pp_some) | (with_reducible apply AI_si) | (with_reducible apply AI_sa) | (with_reducible apply AI_sb) | (with_reducible apply AI_sl) | decide | (intro _))
theorem ai_readKind_11 (F : Nat) : ∀ (n : Nat) (a0 : zS) (a1 : Int32), AI a0 → pp (AI) (Md_readKind_11 F n a0 a1)
  | 0, _, _, _ => pp_none
  | n + 1, a0, a1, h => ai_readKind_b11 F (Md_readKind_11 F n) a0 a1  (ai_readKind_11 F  n) h
theorem ai_readKind (F : Nat) (σ : zS) (h : AI σ) : pp (AI) (Md_readKind F σ) := by
  unfold Md_readKind
  repeat' (first | assumption | (with_reducible apply ai_openKind) | (with_reducible apply ai_readKind_11) | (with_reducible apply pq_ite) | (with_reducible apply pp_ite) | (with_reducible apply pq_gd) | (with_reducible apply pp_gd) | (with_reducible apply pq_bv) | (with_reducible apply pp_bv) | (with_reducible apply pq_bi) | (with_reducible apply pp_bi) | (with_reducible apply pq_some) | (with_reducible apply pp_some) | (with_reducible apply AI_si) | (with_reducible apply AI_sa) | (with_reducible apply AI_sb) | (with_reducible apply AI_sl) | decide | (intro _))
theorem ai_begin (F : Nat) (σ : zS) (h : AI σ) : pq (AI) (Md_begin F σ) := by
  unfold Md_begin
  repeat' (first | assumption | (with_reducible apply ai_next) | (with_reducible apply pq_ite) | (with_reducible apply pp_ite) | (with_reducible apply pq_gd) | (with_reducible apply pp_gd) | (with_reducible apply pq_bv) | (with_reducible apply pp_bv) | (with_reducible apply pq_bi) | (with_reducible apply pp_bi) | (with_reducible apply pq_some) | (with_reducible apply pp_some) | (with_reducible apply AI_si) | (with_reducible apply AI_sa) | (with_reducible apply AI_sb) | (with_reducible apply AI_sl) | decide | (intro _))
theorem ai_wantName_15 (F : Nat) (σ : zS) (h : AI σ) : pp (AI) (Md_wantName_15 F σ) := by
  unfold Md_wantName_15
  repeat' (first | assumption | (with_reducible apply ai_cannot) | (with_reducible apply pq_ite) | (with_reducible apply pp_ite) | (with_reducible apply pq_gd) | (with_reducible apply pp_gd) | (with_reducible apply pq_bv) | (with_reducible apply pp_bv) | (with_reducible apply pq_bi) | (with_reducible apply pp_bi) | (with_reducible apply pq_some) | (with_reducible apply pp_some) | (with_reducible apply AI_si) | (with_reducible apply AI_sa) | (with_reducible apply AI_sb) | (with_reducible apply AI_sl) | decide | (intro _))
theorem ai_wantName (F : Nat) (σ : zS) (x1 : Int32) (h : AI σ) : pp (AI) (Md_wantName F σ x1) := by
  unfold Md_wantName
  repeat' (first | assumption | (with_reducible apply ai_wantName_15) | (with_reducible apply pq_ite) | (with_reducible apply pp_ite) | (with_reducible apply pq_gd) | (with_reducible apply pp_gd) | (with_reducible apply pq_bv) | (with_reducible apply pp_bv) | (with_reducible apply pq_bi) | (with_reducible apply pp_bi) | (with_reducible apply pq_some) | (with_reducible apply pp_some) | (with_reducible apply AI_si) | (with_reducible apply AI_sa) | (with_reducible apply AI_sb) | (with_reducible apply AI_sl) | decide | (intro _))
theorem ai_readParam (F : Nat) (σ : zS) (h : AI σ) : pq (AI) (Md_readParam F σ) := by
  unfold Md_readParam
  repeat' (first | assumption | (with_reducible apply ai_wrong) | (with_reducible apply ai_tell) | (with_reducible apply ai_next) | (with_reducible apply pq_ite) | (with_reducible apply pp_ite) | (with_reducible apply pq_gd) | (with_reducible apply pp_gd) | (with_reducible apply pq_bv) | (with_reducible apply pp_bv) | (with_reducible apply pq_bi) | (with_reducible apply pp_bi) | (with_reducible apply pq_some) | (with_reducible apply pp_some) | (with_reducible apply AI_si) | (with_reducible apply AI_sa) | (with_reducible apply AI_sb) | (with_reducible apply AI_sl) | decide | (intro _))
theorem ai_readClass_142 (F : Nat) (σ : zS) (h : AI σ) : pq (AI) (Md_readClass_142 F σ) := by
  unfold Md_readClass_142
  repeat' (first | assumption | (with_reducible apply ai_want) | (with_reducible apply pq_ite) | (with_reducible apply pp_ite) | (with_reducible apply pq_gd) | (with_reducible apply pp_gd) | (with_reducible apply pq_bv) | (with_reducible apply pp_bv) | (with_reducible apply pq_bi) | (with_reducible apply pp_bi) | (with_reducible apply pq_some) | (with_reducible apply pp_some) | (with_reducible apply AI_si) | (with_reducible apply AI_sa) | (with_reducible apply AI_sb) | (with_reducible apply AI_sl) | decide | (intro _))
theorem ai_readClass_b19 (F : Nat) (rc19 : zS → Option zS) (σ : zS) (hrc19 : ∀ y0, AI y0 → pq (AI) (rc19 y0)) (h : AI σ) : pq (AI) (Md_readClass_b19 F rc19 σ) := by
  unfold Md_readClass_b19
  repeat' (first | assumption | (with_reducible apply hrc19) | (with_reducible apply ai_wrong) | (with_reducible apply ai_tell) | (with_reducible apply ai_next) | (with_reducible apply ai_want) | (with_reducible apply ai_readType) | (with_reducible apply ai_act) | (with_reducible apply ai_readClass_142) | (with_reducible apply pq_ite) | (with_reducible apply pp_ite) | (with_reducible apply pq_gd) | (with_reducible apply pp_gd) | (with_reducible apply pq_bv) | (with_reducible apply pp_bv) | (with_reducible apply pq_bi) | (with_reducible apply pp_bi) | (with_reducible apply pq_some) | (with_reducible apply pp_some) | (with_reducible apply AI_si) | (with_reducible apply AI_sa) | (with_reducible apply AI_sb) | (with_reducible apply AI_sl) | decide | (intro _))
theorem ai_readClass_19 (F : Nat) : ∀ (n : Nat) (a0 : zS), AI a0 → pq (AI) (Md_readClass_19 F n a0)
  | 0, _, _ => pq_none
  | n + 1, a0, h => ai_readClass_b19 F (Md_readClass_19 F n) a0  (ai_readClass_19 F  n) h
theorem ai_readClass (F : Nat) (σ : zS) (h : AI σ) : pq (AI) (Md_readClass F σ) := by
  unfold Md_readClass
  repeat' (first | assumption | (with_reducible apply ai_wantName) | (with_reducible apply ai_readParam) | (with_reducible apply ai_want) | (with_reducible apply ai_readClass_19) | (with_reducible apply pq_ite) | (with_reducible apply pp_ite) | (with_reducible apply pq_gd) | (with_reducible apply pp_gd) | (with_reducible apply pq_bv) | (with_reducible apply pp_bv) | (with_reducible apply pq_bi) | (with_reducible apply pp_bi) | (with_reducible apply pq_some) | (with_reducible apply pp_some) | (with_reducible apply AI_si) | (with_reducible apply AI_sa) | (with_reducible apply AI_sb) | (with_reducible apply AI_sl) | decide | (intro _))
theorem ai_readCon_b56 (F : Nat) (rc56 : zS → Option zS) (σ : zS) (hrc56 : ∀ y0, AI y0 → pq (AI) (rc56 y0)) (h : AI σ) : pq (AI) (Md_readCon_b56 F rc56 σ) := by
  unfold Md_readCon_b56
  repeat' (first | assumption | (with_reducible apply hrc56) | (with_reducible apply ai_canBegin) | (with_reducible apply ai_readOne) | (with_reducible apply ai_act) | (with_reducible apply pq_ite) | (with_reducible apply pp_ite) | (with_reducible apply pq_gd) | (with_reducible apply pp_gd) | (with_reducible apply pq_bv) | (with_reducible apply pp_bv) | (with_reducible apply pq_bi) | (with_reducible apply pp_bi) | (with_reducible apply pq_some) | (with_reducible apply pp_some) | (with_reducible apply AI_si) | (with_reducible apply AI_sa) | (with_reducible apply AI_sb) | (with_reducible apply AI_sl) | decide | (intro _))
theorem ai_readCon_56 (F : Nat) : ∀ (n : Nat) (a0 : zS), AI a0 → pq (AI) (Md_readCon_56 F n a0)
  | 0, _, _ => pq_none
  | n + 1, a0, h => ai_readCon_b56 F (Md_readCon_56 F n) a0  (ai_readCon_56 F  n) h
theorem ai_readCon (F : Nat) (σ : zS) (h : AI σ) : pq (AI) (Md_readCon F σ) := by
  unfold Md_readCon
  repeat' (first | assumption | (with_reducible apply ai_wantName) | (with_reducible apply ai_wrong) | (with_reducible apply ai_tell) | (with_reducible apply ai_next) | (with_reducible apply ai_readCon_56) | (with_reducible apply pq_ite) | (with_reducible apply pp_ite) | (with_reducible apply pq_gd) | (with_reducible apply pp_gd) | (with_reducible apply pq_bv) | (with_reducible apply pp_bv) | (with_reducible apply pq_bi) | (with_reducible apply pp_bi) | (with_reducible apply pq_some) | (with_reducible apply pp_some) | (with_reducible apply AI_si) | (with_reducible apply AI_sa) | (with_reducible apply AI_sb) | (with_reducible apply AI_sl) | decide | (intro _))
theorem ai_readSides_b71 (F : Nat) (rc71 : zS → Option zS) (σ : zS) (hrc71 : ∀ y0, AI y0 → pq (AI) (rc71 y0)) (h : AI σ) : pq (AI) (Md_readSides_b71 F rc71 σ) := by
  unfold Md_readSides_b71
  repeat' (first | assumption | (with_reducible apply hrc71) | (with_reducible apply ai_isSign) | (with_reducible apply ai_next) | (with_reducible apply ai_readCon) | (with_reducible apply pq_ite) | (with_reducible apply pp_ite) | (with_reducible apply pq_gd) | (with_reducible apply pp_gd) | (with_reducible apply pq_bv) | (with_reducible apply pp_bv) | (with_reducible apply pq_bi) | (with_reducible apply pp_bi) | (with_reducible apply pq_some) | (with_reducible apply pp_some) | (with_reducible apply AI_si) | (with_reducible apply AI_sa) | (with_reducible apply AI_sb) | (with_reducible apply AI_sl) | decide | (intro _))
theorem ai_readSides_71 (F : Nat) : ∀ (n : Nat) (a0 : zS), AI a0 → pq (AI) (Md_readSides_71 F n a0)
  | 0, _, _ => pq_none
  | n + 1, a0, h => ai_readSides_b71 F (Md_readSides_71 F n) a0  (ai_readSides_71 F  n) h
theorem ai_readSides_22 (F : Nat) (σ : zS) (x1 : Int32) (h : AI σ) : pq (AI) (Md_readSides_22 F σ x1) := by
  unfold Md_readSides_22
  repeat' (first | assumption | (with_reducible apply ai_want) | (with_reducible apply ai_readType) | (with_reducible apply ai_act) | (with_reducible apply ai_readCon) | (with_reducible apply ai_readSides_71) | (with_reducible apply pq_ite) | (with_reducible apply pp_ite) | (with_reducible apply pq_gd) | (with_reducible apply pp_gd) | (with_reducible apply pq_bv) | (with_reducible apply pp_bv) | (with_reducible apply pq_bi) | (with_reducible apply pp_bi) | (with_reducible apply pq_some) | (with_reducible apply pp_some) | (with_reducible apply AI_si) | (with_reducible apply AI_sa) | (with_reducible apply AI_sb) | (with_reducible apply AI_sl) | decide | (intro _))
theorem ai_readSides_b0 (F : Nat) (rc0 : zS → Int32 → Option zS) (σ : zS) (x1 : Int32) (hrc0 : ∀ y0 y1, AI y0 → pq (AI) (rc0 y0 y1)) (h : AI σ) : pq (AI) (Md_readSides_b0 F rc0 σ x1) := by
  unfold Md_readSides_b0
  repeat' (first | assumption | (with_reducible apply hrc0) | (with_reducible apply ai_readParam) | (with_reducible apply ai_readSides_22) | (with_reducible apply pq_ite) | (with_reducible apply pp_ite) | (with_reducible apply pq_gd) | (with_reducible apply pp_gd) | (with_reducible apply pq_bv) | (with_reducible apply pp_bv) | (with_reducible apply pq_bi) | (with_reducible apply pp_bi) | (with_reducible apply pq_some) | (with_reducible apply pp_some) | (with_reducible apply AI_si) | (with_reducible apply AI_sa) | (with_reducible apply AI_sb) | (with_reducible apply AI_sl) | decide | (intro _))
theorem ai_readSides_0 (F : Nat) : ∀ (n : Nat) (a0 : zS) (a1 : Int32), AI a0 → pq (AI) (Md_readSides_0 F n a0 a1)
  | 0, _, _, _ => pq_none
  | n + 1, a0, a1, h => ai_readSides_b0 F (Md_readSides_0 F n) a0 a1  (ai_readSides_0 F  n) h
theorem ai_readSides (F : Nat) (σ : zS) (x1 : Int32) (h : AI σ) : pq (AI) (Md_readSides F σ x1) := by
  unfold Md_readSides
  repeat' (first | assumption | (with_reducible apply ai_readSides_0) | (with_reducible apply pq_ite) | (with_reducible apply pp_ite) | (with_reducible apply pq_gd) | (with_reducible apply pp_gd) | (with_reducible apply pq_bv) | (with_reducible apply pp_bv) | (with_reducible apply pq_bi) | (with_reducible apply pp_bi) | (with_reducible apply pq_some) | (with_reducible apply pp_some) | (with_reducible apply AI_si) | (with_reducible apply AI_sa) | (with_reducible apply AI_sb) | (with_reducible apply AI_sl) | decide | (intro _))
theorem ai_readWish_68 (F : Nat) (σ : zS) (h : AI σ) : pq (AI) (Md_readWish_68 F σ) := by
  unfold Md_readWish_68
  repeat' (first | assumption | (with_reducible apply pq_ite) | (with_reducible apply pp_ite) | (with_reducible apply pq_gd) | (with_reducible apply pp_gd) | (with_reducible apply pq_bv) | (with_reducible apply pp_bv) | (with_reducible apply pq_bi) | (with_reducible apply pp_bi) | (with_reducible apply pq_some) | (with_reducible apply pp_some) | (with_reducible apply AI_si) | (with_reducible apply AI_sa) | (with_reducible apply AI_sb) | (with_reducible apply AI_sl) | decide | (intro _))
theorem ai_readWish (F : Nat) (σ : zS) (h : AI σ) : pq (AI) (Md_readWish F σ) := by
  unfold Md_readWish
  repeat' (first | assumption | (with_reducible apply ai_tell) | (with_reducible apply ai_next) | (with_reducible apply ai_want) | (with_reducible apply ai_readKind) | (with_reducible apply ai_readWish_68) | (with_reducible apply pq_ite) | (with_reducible apply pp_ite) | (with_reducible apply pq_gd) | (with_reducible apply pp_gd) | (with_reducible apply pq_bv) | (with_reducible apply pp_bv) | (with_reducible apply pq_bi) | (with_reducible apply pp_bi) | (with_reducible apply pq_some) | (with_reducible apply pp_some) | (with_reducible apply AI_si) | (with_reducible apply AI_sa) | (with_reducible apply AI_sb) | (with_reducible apply AI_sl) | decide | (intro _))
theorem ai_readDecl_216 (F : Nat) (σ : zS) (h : AI σ) : pq (AI) (Md_readDecl_216 F σ) := by
  unfold Md_readDecl_216
  repeat' (first | assumption | (with_reducible apply pq_ite) | (with_reducible apply pp_ite) | (with_reducible apply pq_gd) | (with_reducible apply pp_gd) | (with_reducible apply pq_bv) | (with_reducible apply pp_bv) | (with_reducible apply pq_bi) | (with_reducible apply pp_bi) | (with_reducible apply pq_some) | (with_reducible apply pp_some) | (with_reducible apply AI_si) | (with_reducible apply AI_sa) | (with_reducible apply AI_sb) | (with_reducible apply AI_sl) | decide | (intro _))
theorem ai_readDecl_46 (F : Nat) (σ : zS) (s0 : Int32) (h : AI σ) : pq (AI) (Md_readDecl_46 F σ s0) := by
  unfold Md_readDecl_46
  repeat' (first | assumption | (with_reducible apply ai_next) | (with_reducible apply ai_wantName) | (with_reducible apply ai_readWish) | (with_reducible apply ai_wrong) | (with_reducible apply ai_tell) | (with_reducible apply ai_readClass) | (with_reducible apply ai_readDecl_216) | (with_reducible apply ai_readSides) | (with_reducible apply ai_cannot) | (with_reducible apply pq_ite) | (with_reducible apply pp_ite) | (with_reducible apply pq_gd) | (with_reducible apply pp_gd) | (with_reducible apply pq_bv) | (with_reducible apply pp_bv) | (with_reducible apply pq_bi) | (with_reducible apply pp_bi) | (with_reducible apply pq_some) | (with_reducible apply pp_some) | (with_reducible apply AI_si) | (with_reducible apply AI_sa) | (with_reducible apply AI_sb) | (with_reducible apply AI_sl) | decide | (intro _))
theorem ai_readDecl (F : Nat) (σ : zS) (h : AI σ) : pq (AI) (Md_readDecl F σ) := by
  unfold Md_readDecl
  repeat' (first | assumption | (with_reducible apply ai_readDecl_46) | (with_reducible apply pq_ite) | (with_reducible apply pp_ite) | (with_reducible apply pq_gd) | (with_reducible apply pp_gd) | (with_reducible apply pq_bv) | (with_reducible apply pp_bv) | (with_reducible apply pq_bi) | (with_reducible apply pp_bi) | (with_reducible apply pq_some) | (with_reducible apply pp_some) | (with_reducible apply AI_si) | (with_reducible apply AI_sa) | (with_reducible apply AI_sb) | (with_reducible apply AI_sl) | decide | (intro _))
theorem ai_readText_78 (F : Nat) (σ : zS) (h : AI σ) : pq (AI) (Md_readText_78 F σ) := by
  unfold Md_readText_78
  repeat' (first | assumption | (with_reducible apply pq_ite) | (with_reducible apply pp_ite) | (with_reducible apply pq_gd) | (with_reducible apply pp_gd) | (with_reducible apply pq_bv) | (with_reducible apply pp_bv) | (with_reducible apply pq_bi) | (with_reducible apply pp_bi) | (with_reducible apply pq_some) | (with_reducible apply pp_some) | (with_reducible apply AI_si) | (with_reducible apply AI_sa) | (with_reducible apply AI_sb) | (with_reducible apply AI_sl) | decide | (intro _))
theorem ai_readText_b50 (F : Nat) (rc50 : zS → Option zS) (σ : zS) (hrc50 : ∀ y0, AI y0 → pq (AI) (rc50 y0)) (h : AI σ) : pq (AI) (Md_readText_b50 F rc50 σ) := by
  unfold Md_readText_b50
  repeat' (first | assumption | (with_reducible apply hrc50) | (with_reducible apply ai_readText_78) | (with_reducible apply ai_readDecl) | (with_reducible apply ai_want) | (with_reducible apply pq_ite) | (with_reducible apply pp_ite) | (with_reducible apply pq_gd) | (with_reducible apply pp_gd) | (with_reducible apply pq_bv) | (with_reducible apply pp_bv) | (with_reducible apply pq_bi) | (with_reducible apply pp_bi) | (with_reducible apply pq_some) | (with_reducible apply pp_some) | (with_reducible apply AI_si) | (with_reducible apply AI_sa) | (with_reducible apply AI_sb) | (with_reducible apply AI_sl) | decide | (intro _))
theorem ai_readText_50 (F : Nat) : ∀ (n : Nat) (a0 : zS), AI a0 → pq (AI) (Md_readText_50 F n a0)
  | 0, _, _ => pq_none
  | n + 1, a0, h => ai_readText_b50 F (Md_readText_50 F n) a0  (ai_readText_50 F  n) h
theorem ai_readText (F : Nat) (σ : zS) : pq AI (Md_readText F σ) := by
  unfold Md_readText
  have h0 : AI (si (si (si (si (si (si (si σ 52 (0 : Int32)) 62 (0 : Int32)) 66 (0 : Int32)) 31 (0 : Int32)) 23 (0 : Int32)) 16 (0 : Int32)) 48 (0 : Int32)) := ⟨0, 0, by simp [zs]; rfl, by simp [zs]; rfl, by omega, by omega, fun n n1 => by omega⟩
  refine pq_bi (ai_newKind F _ _ _ _ h0) (fun r τ' h1 => ?_)
  refine pq_bv (ai_begin F _ (AI_si h1 (by decide))) (fun τ'' h2 => ?_)
  exact ai_readText_50 F F τ'' h2
end L
