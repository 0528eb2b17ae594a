/-! Each parameter has been told, in order: kept by all that reads a text. Written by program, but for the rows by hand. Own text. -/
def DP (τ : zS) : Prop := ∃ D M : Nat, gi τ 52 = nI D ∧ gi τ 31 = nI M ∧ D ≤ 17 ∧ M ≤ 1400 ∧ ∀ i, i < D → ∃ q, q ≤ 3 ∧ ga τ 36 i = nI q ∧ ∀ j, j < q → ∃ m, m < M ∧ ga τ 10 m = 1 ∧ ga τ 13 m = nI i ∧ gb τ 11 m = gb τ 37 (3 * i + j) ∧ ∀ j', j' < j → ∃ m', m' < m ∧ ga τ 10 m' = 1 ∧ ga τ 13 m' = nI i ∧ gb τ 11 m' = gb τ 37 (3 * i + j')
def DQ (τ : zS) : Prop := ∃ D M : Nat, gi τ 52 = nI D ∧ gi τ 31 = nI M ∧ D ≤ 17 ∧ M ≤ 1400 ∧ (∃ i0, i0 < D ∧ gi τ 32 = nI i0) ∧ ∀ i, i < D → ∃ q, q ≤ 3 ∧ ga τ 36 i = nI q ∧ ∀ j, j < q → ∃ m, m < M ∧ ga τ 10 m = 1 ∧ ga τ 13 m = nI i ∧ gb τ 11 m = gb τ 37 (3 * i + j) ∧ ∀ j', j' < j → ∃ m', m' < m ∧ ga τ 10 m' = 1 ∧ ga τ 13 m' = nI i ∧ gb τ 11 m' = gb τ 37 (3 * i + j')
theorem DQ_DP {τ : zS} (h : DQ τ) : DP τ := by
  obtain ⟨D, M, a1, a2, a3, a4, _, a5⟩ := h
  exact ⟨D, M, a1, a2, a3, a4, a5⟩
theorem pq_im {P Q : zS → Prop} (hPQ : ∀ {s}, P s → Q s) {o : Option zS} (h : pq P o) : pq Q o := fun s hs => hPQ (h s hs)
section L
variable {σ : zS}
theorem DP_cg {τ' : zS} (h : DP σ) (h1 : gi τ' 52 = gi σ 52) (h2 : gi τ' 31 = gi σ 31) (h3 : ga τ' 10 = ga σ 10) (h3' : ga τ' 13 = ga σ 13) (h3'' : ga τ' 36 = ga σ 36) (h4 : gb τ' 11 = gb σ 11) (h5 : gb τ' 37 = gb σ 37) : DP τ' := by
  unfold DP
  rw [h1, h2, h3, h3', h3'', h4, h5]
  exact h
theorem DQ_cg {τ' : zS} (h : DQ σ) (h0 : gi τ' 32 = gi σ 32) (h1 : gi τ' 52 = gi σ 52) (h2 : gi τ' 31 = gi σ 31) (h3 : ga τ' 10 = ga σ 10) (h3' : ga τ' 13 = ga σ 13) (h3'' : ga τ' 36 = ga σ 36) (h4 : gb τ' 11 = gb σ 11) (h5 : gb τ' 37 = gb σ 37) : DQ τ' := by
  unfold DQ
  rw [h0, h1, h2, h3, h3', h3'', h4, h5]
  exact h
theorem DP_si {r : Nat} {v : Int32} (h : DP σ) (hr : r ≠ 52 ∧ r ≠ 31) : DP (si σ r v) :=
  DP_cg h (by simp only [zs, if_neg (fun z : 52 = r => hr.1 z.symm)]) (by simp only [zs, if_neg (fun z : 31 = r => hr.2 z.symm)]) rfl rfl rfl rfl rfl
theorem DP_sa {a i : Nat} {v : Int32} (h : DP σ) (hr : a ≠ 10 ∧ a ≠ 13 ∧ a ≠ 36) : DP (sa σ a i v) :=
  DP_cg h rfl rfl (by simp only [zs, if_neg (fun z : 10 = a => hr.1 z.symm)]) (by simp only [zs, if_neg (fun z : 13 = a => hr.2.1 z.symm)]) (by simp only [zs, if_neg (fun z : 36 = a => hr.2.2 z.symm)]) rfl rfl
theorem DP_sb {a i : Nat} {v : Int64} (h : DP σ) (hr : a ≠ 11 ∧ a ≠ 37) : DP (sb σ a i v) :=
  DP_cg h rfl rfl rfl rfl rfl (by simp only [zs, if_neg (fun z : 11 = a => hr.1 z.symm)]) (by simp only [zs, if_neg (fun z : 37 = a => hr.2 z.symm)])
theorem DP_sl {r : Nat} {v : Int64} (h : DP σ) : DP (sl σ r v) := h
theorem DQ_si {r : Nat} {v : Int32} (h : DQ σ) (hr : r ≠ 52 ∧ r ≠ 31 ∧ r ≠ 32) : DQ (si σ r v) :=
  DQ_cg h (by simp only [zs, if_neg (fun z : 32 = r => hr.2.2 z.symm)]) (by simp only [zs, if_neg (fun z : 52 = r => hr.1 z.symm)]) (by simp only [zs, if_neg (fun z : 31 = r => hr.2.1 z.symm)]) rfl rfl rfl rfl rfl
theorem DQ_sa {a i : Nat} {v : Int32} (h : DQ σ) (hr : a ≠ 10 ∧ a ≠ 13 ∧ a ≠ 36) : DQ (sa σ a i v) :=
  DQ_cg h rfl rfl rfl (by simp only [zs, if_neg (fun z : 10 = a => hr.1 z.symm)]) (by simp only [zs, if_neg (fun z : 13 = a => hr.2.1 z.symm)]) (by simp only [zs, if_neg (fun z : 36 = a => hr.2.2 z.symm)]) rfl rfl
theorem DQ_sb {a i : Nat} {v : Int64} (h : DQ σ) (hr : a ≠ 11 ∧ a ≠ 37) : DQ (sb σ a i v) :=
  DQ_cg h rfl rfl rfl rfl rfl rfl (by simp only [zs, if_neg (fun z : 11 = a => hr.1 z.symm)]) (by simp only [zs, if_neg (fun z : 37 = a => hr.2 z.symm)])
theorem DQ_sl {r : Nat} {v : Int64} (h : DQ σ) : DQ (sl σ r v) := h
theorem dq_Md_wrong_17 (F : Nat) (σ : zS) (h : DQ σ) : pq (DQ) (Md_wrong_17 F σ) := by
  unfold Md_wrong_17
  repeat' (first | assumption | (with_reducible apply pq_ite) | (with_reducible apply pp_ite) | (with_reducible apply pq_gd) | (with_reducible apply pp_gd) | (with_reducible apply pq_bv) | (with_reducible apply pp_bv) | (with_reducible apply pq_bi) | (with_reducible apply pp_bi) | (with_reducible apply pq_some) | (with_reducible apply pp_some) | (with_reducible apply DQ_si) | (with_reducible apply DQ_sa) | (with_reducible apply DQ_sb) | (with_reducible apply DQ_sl) | decide | (intro _))
theorem dq_Md_wrong (F : Nat) (σ : zS) (x1 : Int32) (x2 : Int32) (h : DQ σ) : pq (DQ) (Md_wrong F σ x1 x2) := by
  unfold Md_wrong
  repeat' (first | assumption | (with_reducible apply dq_Md_wrong_17) | (with_reducible apply pq_ite) | (with_reducible apply pp_ite) | (with_reducible apply pq_gd) | (with_reducible apply pp_gd) | (with_reducible apply pq_bv) | (with_reducible apply pp_bv) | (with_reducible apply pq_bi) | (with_reducible apply pp_bi) | (with_reducible apply pq_some) | (with_reducible apply pp_some) | (with_reducible apply DQ_si) | (with_reducible apply DQ_sa) | (with_reducible apply DQ_sb) | (with_reducible apply DQ_sl) | decide | (intro _))
theorem dq_Md_byteAt_18 (F : Nat) (σ : zS) (s0 : Int32) (h : DQ σ) : pp (DQ) (Md_byteAt_18 F σ s0) := by
  unfold Md_byteAt_18
  repeat' (first | assumption | (with_reducible apply pq_ite) | (with_reducible apply pp_ite) | (with_reducible apply pq_gd) | (with_reducible apply pp_gd) | (with_reducible apply pq_bv) | (with_reducible apply pp_bv) | (with_reducible apply pq_bi) | (with_reducible apply pp_bi) | (with_reducible apply pq_some) | (with_reducible apply pp_some) | (with_reducible apply DQ_si) | (with_reducible apply DQ_sa) | (with_reducible apply DQ_sb) | (with_reducible apply DQ_sl) | decide | (intro _))
theorem dq_Md_byteAt (F : Nat) (σ : zS) (x1 : Int32) (h : DQ σ) : pp (DQ) (Md_byteAt F σ x1) := by
  unfold Md_byteAt
  repeat' (first | assumption | (with_reducible apply dq_Md_byteAt_18) | (with_reducible apply pq_ite) | (with_reducible apply pp_ite) | (with_reducible apply pq_gd) | (with_reducible apply pp_gd) | (with_reducible apply pq_bv) | (with_reducible apply pp_bv) | (with_reducible apply pq_bi) | (with_reducible apply pp_bi) | (with_reducible apply pq_some) | (with_reducible apply pp_some) | (with_reducible apply DQ_si) | (with_reducible apply DQ_sa) | (with_reducible apply DQ_sb) | (with_reducible apply DQ_sl) | decide | (intro _))
theorem dq_Md_isUpper_17 (F : Nat) (σ : zS) (s0 : Int32) (h : DQ σ) : pp (DQ) (Md_isUpper_17 F σ s0) := by
  unfold Md_isUpper_17
  repeat' (first | assumption | (with_reducible apply pq_ite) | (with_reducible apply pp_ite) | (with_reducible apply pq_gd) | (with_reducible apply pp_gd) | (with_reducible apply pq_bv) | (with_reducible apply pp_bv) | (with_reducible apply pq_bi) | (with_reducible apply pp_bi) | (with_reducible apply pq_some) | (with_reducible apply pp_some) | (with_reducible apply DQ_si) | (with_reducible apply DQ_sa) | (with_reducible apply DQ_sb) | (with_reducible apply DQ_sl) | decide | (intro _))
theorem dq_Md_isUpper_16 (F : Nat) (σ : zS) (h : DQ σ) : pp (DQ) (Md_isUpper_16 F σ) := by
  unfold Md_isUpper_16
  repeat' (first | assumption | (with_reducible apply dq_Md_isUpper_17) | (with_reducible apply pq_ite) | (with_reducible apply pp_ite) | (with_reducible apply pq_gd) | (with_reducible apply pp_gd) | (with_reducible apply pq_bv) | (with_reducible apply pp_bv) | (with_reducible apply pq_bi) | (with_reducible apply pp_bi) | (with_reducible apply pq_some) | (with_reducible apply pp_some) | (with_reducible apply DQ_si) | (with_reducible apply DQ_sa) | (with_reducible apply DQ_sb) | (with_reducible apply DQ_sl) | decide | (intro _))
theorem dq_Md_isUpper (F : Nat) (σ : zS) (x0 : Int32) (h : DQ σ) : pp (DQ) (Md_isUpper F σ x0) := by
  unfold Md_isUpper
  repeat' (first | assumption | (with_reducible apply dq_Md_isUpper_16) | (with_reducible apply dq_Md_isUpper_17) | (with_reducible apply pq_ite) | (with_reducible apply pp_ite) | (with_reducible apply pq_gd) | (with_reducible apply pp_gd) | (with_reducible apply pq_bv) | (with_reducible apply pp_bv) | (with_reducible apply pq_bi) | (with_reducible apply pp_bi) | (with_reducible apply pq_some) | (with_reducible apply pp_some) | (with_reducible apply DQ_si) | (with_reducible apply DQ_sa) | (with_reducible apply DQ_sb) | (with_reducible apply DQ_sl) | decide | (intro _))
theorem dq_Md_isLower_17 (F : Nat) (σ : zS) (s0 : Int32) (h : DQ σ) : pp (DQ) (Md_isLower_17 F σ s0) := by
  unfold Md_isLower_17
  repeat' (first | assumption | (with_reducible apply pq_ite) | (with_reducible apply pp_ite) | (with_reducible apply pq_gd) | (with_reducible apply pp_gd) | (with_reducible apply pq_bv) | (with_reducible apply pp_bv) | (with_reducible apply pq_bi) | (with_reducible apply pp_bi) | (with_reducible apply pq_some) | (with_reducible apply pp_some) | (with_reducible apply DQ_si) | (with_reducible apply DQ_sa) | (with_reducible apply DQ_sb) | (with_reducible apply DQ_sl) | decide | (intro _))
theorem dq_Md_isLower_16 (F : Nat) (σ : zS) (h : DQ σ) : pp (DQ) (Md_isLower_16 F σ) := by
  unfold Md_isLower_16
  repeat' (first | assumption | (with_reducible apply dq_Md_isLower_17) | (with_reducible apply pq_ite) | (with_reducible apply pp_ite) | (with_reducible apply pq_gd) | (with_reducible apply pp_gd) | (with_reducible apply pq_bv) | (with_reducible apply pp_bv) | (with_reducible apply pq_bi) | (with_reducible apply pp_bi) | (with_reducible apply pq_some) | (with_reducible apply pp_some) | (with_reducible apply DQ_si) | (with_reducible apply DQ_sa) | (with_reducible apply DQ_sb) | (with_reducible apply DQ_sl) | decide | (intro _))
theorem dq_Md_isLower (F : Nat) (σ : zS) (x0 : Int32) (h : DQ σ) : pp (DQ) (Md_isLower F σ x0) := by
  unfold Md_isLower
  repeat' (first | assumption | (with_reducible apply dq_Md_isLower_16) | (with_reducible apply dq_Md_isLower_17) | (with_reducible apply pq_ite) | (with_reducible apply pp_ite) | (with_reducible apply pq_gd) | (with_reducible apply pp_gd) | (with_reducible apply pq_bv) | (with_reducible apply pp_bv) | (with_reducible apply pq_bi) | (with_reducible apply pp_bi) | (with_reducible apply pq_some) | (with_reducible apply pp_some) | (with_reducible apply DQ_si) | (with_reducible apply DQ_sa) | (with_reducible apply DQ_sb) | (with_reducible apply DQ_sl) | decide | (intro _))
theorem dq_Md_isOf_31 (F : Nat) (σ : zS) (s0 : Int32) (h : DQ σ) : pp (DQ) (Md_isOf_31 F σ s0) := by
  unfold Md_isOf_31
  repeat' (first | assumption | (with_reducible apply pq_ite) | (with_reducible apply pp_ite) | (with_reducible apply pq_gd) | (with_reducible apply pp_gd) | (with_reducible apply pq_bv) | (with_reducible apply pp_bv) | (with_reducible apply pq_bi) | (with_reducible apply pp_bi) | (with_reducible apply pq_some) | (with_reducible apply pp_some) | (with_reducible apply DQ_si) | (with_reducible apply DQ_sa) | (with_reducible apply DQ_sb) | (with_reducible apply DQ_sl) | decide | (intro _))
theorem dq_Md_isOf_26 (F : Nat) (σ : zS) (h : DQ σ) : pp (DQ) (Md_isOf_26 F σ) := by
  unfold Md_isOf_26
  repeat' (first | assumption | (with_reducible apply dq_Md_isOf_31) | (with_reducible apply pq_ite) | (with_reducible apply pp_ite) | (with_reducible apply pq_gd) | (with_reducible apply pp_gd) | (with_reducible apply pq_bv) | (with_reducible apply pp_bv) | (with_reducible apply pq_bi) | (with_reducible apply pp_bi) | (with_reducible apply pq_some) | (with_reducible apply pp_some) | (with_reducible apply DQ_si) | (with_reducible apply DQ_sa) | (with_reducible apply DQ_sb) | (with_reducible apply DQ_sl) | decide | (intro _))
theorem dq_Md_isOf_30 (F : Nat) (σ : zS) (h : DQ σ) : pp (DQ) (Md_isOf_30 F σ) := by
  unfold Md_isOf_30
  repeat' (first | assumption | (with_reducible apply dq_Md_isOf_31) | (with_reducible apply pq_ite) | (with_reducible apply pp_ite) | (with_reducible apply pq_gd) | (with_reducible apply pp_gd) | (with_reducible apply pq_bv) | (with_reducible apply pp_bv) | (with_reducible apply pq_bi) | (with_reducible apply pp_bi) | (with_reducible apply pq_some) | (with_reducible apply pp_some) | (with_reducible apply DQ_si) | (with_reducible apply DQ_sa) | (with_reducible apply DQ_sb) | (with_reducible apply DQ_sl) | decide | (intro _))
theorem dq_Md_isOf (F : Nat) (σ : zS) (x0 : Int32) (h : DQ σ) : pp (DQ) (Md_isOf F σ x0) := by
  unfold Md_isOf
  repeat' (first | assumption | (with_reducible apply dq_Md_isUpper) | (with_reducible apply dq_Md_isLower) | (with_reducible apply dq_Md_isOf_30) | (with_reducible apply dq_Md_isOf_26) | (with_reducible apply pq_ite) | (with_reducible apply pp_ite) | (with_reducible apply pq_gd) | (with_reducible apply pp_gd) | (with_reducible apply pq_bv) | (with_reducible apply pp_bv) | (with_reducible apply pq_bi) | (with_reducible apply pp_bi) | (with_reducible apply pq_some) | (with_reducible apply pp_some) | (with_reducible apply DQ_si) | (with_reducible apply DQ_sa) | (with_reducible apply DQ_sb) | (with_reducible apply DQ_sl) | decide | (intro _))
theorem dq_Md_name_172 (F : Nat) (σ : zS) (h : DQ σ) : pq (DQ) (Md_name_172 F σ) := by
  unfold Md_name_172
  repeat' (first | assumption | (with_reducible apply pq_ite) | (with_reducible apply pp_ite) | (with_reducible apply pq_gd) | (with_reducible apply pp_gd) | (with_reducible apply pq_bv) | (with_reducible apply pp_bv) | (with_reducible apply pq_bi) | (with_reducible apply pp_bi) | (with_reducible apply pq_some) | (with_reducible apply pp_some) | (with_reducible apply DQ_si) | (with_reducible apply DQ_sa) | (with_reducible apply DQ_sb) | (with_reducible apply DQ_sl) | decide | (intro _))
theorem dq_Md_name_149 (F : Nat) (σ : zS) (x2 : Int32) (s1 : Int32) (h : DQ σ) : pq (DQ) (Md_name_149 F σ x2 s1) := by
  unfold Md_name_149
  repeat' (first | assumption | (with_reducible apply dq_Md_name_172) | (with_reducible apply dq_Md_wrong) | (with_reducible apply pq_ite) | (with_reducible apply pp_ite) | (with_reducible apply pq_gd) | (with_reducible apply pp_gd) | (with_reducible apply pq_bv) | (with_reducible apply pp_bv) | (with_reducible apply pq_bi) | (with_reducible apply pp_bi) | (with_reducible apply pq_some) | (with_reducible apply pp_some) | (with_reducible apply DQ_si) | (with_reducible apply DQ_sa) | (with_reducible apply DQ_sb) | (with_reducible apply DQ_sl) | decide | (intro _))
theorem dq_Md_name_148 (F : Nat) (σ : zS) (x2 : Int32) (h : DQ σ) : pq (DQ) (Md_name_148 F σ x2) := by
  unfold Md_name_148
  repeat' (first | assumption | (with_reducible apply dq_Md_name_149) | (with_reducible apply pq_ite) | (with_reducible apply pp_ite) | (with_reducible apply pq_gd) | (with_reducible apply pp_gd) | (with_reducible apply pq_bv) | (with_reducible apply pp_bv) | (with_reducible apply pq_bi) | (with_reducible apply pp_bi) | (with_reducible apply pq_some) | (with_reducible apply pp_some) | (with_reducible apply DQ_si) | (with_reducible apply DQ_sa) | (with_reducible apply DQ_sb) | (with_reducible apply DQ_sl) | decide | (intro _))
theorem dq_Md_name_144 (F : Nat) (σ : zS) (x2 : Int32) (h : DQ σ) : pq (DQ) (Md_name_144 F σ x2) := by
  unfold Md_name_144
  repeat' (first | assumption | (with_reducible apply dq_Md_name_149) | (with_reducible apply pq_ite) | (with_reducible apply pp_ite) | (with_reducible apply pq_gd) | (with_reducible apply pp_gd) | (with_reducible apply pq_bv) | (with_reducible apply pp_bv) | (with_reducible apply pq_bi) | (with_reducible apply pp_bi) | (with_reducible apply pq_some) | (with_reducible apply pp_some) | (with_reducible apply DQ_si) | (with_reducible apply DQ_sa) | (with_reducible apply DQ_sb) | (with_reducible apply DQ_sl) | decide | (intro _))
theorem dq_Md_name_128 (F : Nat) (σ : zS) (x2 : Int32) (h : DQ σ) : pq (DQ) (Md_name_128 F σ x2) := by
  unfold Md_name_128
  repeat' (first | assumption | (with_reducible apply dq_Md_name_144) | (with_reducible apply dq_Md_name_148) | (with_reducible apply pq_ite) | (with_reducible apply pp_ite) | (with_reducible apply pq_gd) | (with_reducible apply pp_gd) | (with_reducible apply pq_bv) | (with_reducible apply pp_bv) | (with_reducible apply pq_bi) | (with_reducible apply pp_bi) | (with_reducible apply pq_some) | (with_reducible apply pp_some) | (with_reducible apply DQ_si) | (with_reducible apply DQ_sa) | (with_reducible apply DQ_sb) | (with_reducible apply DQ_sl) | decide | (intro _))
theorem dq_Md_name_112 (F : Nat) (σ : zS) (x2 : Int32) (h : DQ σ) : pq (DQ) (Md_name_112 F σ x2) := by
  unfold Md_name_112
  repeat' (first | assumption | (with_reducible apply dq_Md_name_144) | (with_reducible apply dq_Md_name_128) | (with_reducible apply pq_ite) | (with_reducible apply pp_ite) | (with_reducible apply pq_gd) | (with_reducible apply pp_gd) | (with_reducible apply pq_bv) | (with_reducible apply pp_bv) | (with_reducible apply pq_bi) | (with_reducible apply pp_bi) | (with_reducible apply pq_some) | (with_reducible apply pp_some) | (with_reducible apply DQ_si) | (with_reducible apply DQ_sa) | (with_reducible apply DQ_sb) | (with_reducible apply DQ_sl) | decide | (intro _))
theorem dq_Md_name_96 (F : Nat) (σ : zS) (x2 : Int32) (h : DQ σ) : pq (DQ) (Md_name_96 F σ x2) := by
  unfold Md_name_96
  repeat' (first | assumption | (with_reducible apply dq_Md_name_144) | (with_reducible apply dq_Md_name_112) | (with_reducible apply pq_ite) | (with_reducible apply pp_ite) | (with_reducible apply pq_gd) | (with_reducible apply pp_gd) | (with_reducible apply pq_bv) | (with_reducible apply pp_bv) | (with_reducible apply pq_bi) | (with_reducible apply pp_bi) | (with_reducible apply pq_some) | (with_reducible apply pp_some) | (with_reducible apply DQ_si) | (with_reducible apply DQ_sa) | (with_reducible apply DQ_sb) | (with_reducible apply DQ_sl) | decide | (intro _))
theorem dq_Md_name_52 (F : Nat) (rc7 : zS → Int32 → Int32 → Option zS) (σ : zS) (x1 : Int32) (x2 : Int32) (s1 : Int64) (hrc7 : ∀ y0 y1 y2, DQ y0 → pq (DQ) (rc7 y0 y1 y2)) (h : DQ σ) : pq (DQ) (Md_name_52 F rc7 σ x1 x2 s1) := by
  unfold Md_name_52
  repeat' (first | assumption | (with_reducible apply hrc7) | (with_reducible apply pq_ite) | (with_reducible apply pp_ite) | (with_reducible apply pq_gd) | (with_reducible apply pp_gd) | (with_reducible apply pq_bv) | (with_reducible apply pp_bv) | (with_reducible apply pq_bi) | (with_reducible apply pp_bi) | (with_reducible apply pq_some) | (with_reducible apply pp_some) | (with_reducible apply DQ_si) | (with_reducible apply DQ_sa) | (with_reducible apply DQ_sb) | (with_reducible apply DQ_sl) | decide | (intro _))
theorem dq_Md_name_b7 (F : Nat) (rc7 : zS → Int32 → Int32 → Option zS) (σ : zS) (x1 : Int32) (x2 : Int32) (hrc7 : ∀ y0 y1 y2, DQ y0 → pq (DQ) (rc7 y0 y1 y2)) (h : DQ σ) : pq (DQ) (Md_name_b7 F rc7 σ x1 x2) := by
  unfold Md_name_b7
  repeat' (first | assumption | (with_reducible apply hrc7) | (with_reducible apply dq_Md_byteAt) | (with_reducible apply dq_Md_isOf) | (with_reducible apply dq_Md_name_144) | (with_reducible apply dq_Md_name_96) | (with_reducible apply dq_Md_name_149) | (with_reducible apply dq_Md_name_52) | (with_reducible apply pq_ite) | (with_reducible apply pp_ite) | (with_reducible apply pq_gd) | (with_reducible apply pp_gd) | (with_reducible apply pq_bv) | (with_reducible apply pp_bv) | (with_reducible apply pq_bi) | (with_reducible apply pp_bi) | (with_reducible apply pq_some) | (with_reducible apply pp_some) | (with_reducible apply DQ_si) | (with_reducible apply DQ_sa) | (with_reducible apply DQ_sb) | (with_reducible apply DQ_sl) | decide | (intro _))
theorem dq_Md_name_7 (F : Nat) : ∀ (n : Nat) (a0 : zS) (a1 : Int32) (a2 : Int32), DQ a0 → pq (DQ) (Md_name_7 F n a0 a1 a2)
  | 0, _, _, _, _ => pq_none
  | n + 1, a0, a1, a2, h => dq_Md_name_b7 F (Md_name_7 F n) a0 a1 a2  (dq_Md_name_7 F  n) h
theorem dq_Md_name (F : Nat) (σ : zS) (x1 : Int32) (h : DQ σ) : pq (DQ) (Md_name F σ x1) := by
  unfold Md_name
  repeat' (first | assumption | (with_reducible apply dq_Md_name_7) | (with_reducible apply pq_ite) | (with_reducible apply pp_ite) | (with_reducible apply pq_gd) | (with_reducible apply pp_gd) | (with_reducible apply pq_bv) | (with_reducible apply pp_bv) | (with_reducible apply pq_bi) | (with_reducible apply pp_bi) | (with_reducible apply pq_some) | (with_reducible apply pp_some) | (with_reducible apply DQ_si) | (with_reducible apply DQ_sa) | (with_reducible apply DQ_sb) | (with_reducible apply DQ_sl) | decide | (intro _))
theorem dq_Md_next_26 (F : Nat) (rc0 : zS → Option zS) (σ : zS) (hrc0 : ∀ y0, DQ y0 → pq (DQ) (rc0 y0)) (h : DQ σ) : pq (DQ) (Md_next_26 F rc0 σ) := by
  unfold Md_next_26
  repeat' (first | assumption | (with_reducible apply hrc0) | (with_reducible apply pq_ite) | (with_reducible apply pp_ite) | (with_reducible apply pq_gd) | (with_reducible apply pp_gd) | (with_reducible apply pq_bv) | (with_reducible apply pp_bv) | (with_reducible apply pq_bi) | (with_reducible apply pp_bi) | (with_reducible apply pq_some) | (with_reducible apply pp_some) | (with_reducible apply DQ_si) | (with_reducible apply DQ_sa) | (with_reducible apply DQ_sb) | (with_reducible apply DQ_sl) | decide | (intro _))
theorem dq_Md_next_67 (F : Nat) (σ : zS) (h : DQ σ) : pq (DQ) (Md_next_67 F σ) := by
  unfold Md_next_67
  repeat' (first | assumption | (with_reducible apply pq_ite) | (with_reducible apply pp_ite) | (with_reducible apply pq_gd) | (with_reducible apply pp_gd) | (with_reducible apply pq_bv) | (with_reducible apply pp_bv) | (with_reducible apply pq_bi) | (with_reducible apply pp_bi) | (with_reducible apply pq_some) | (with_reducible apply pp_some) | (with_reducible apply DQ_si) | (with_reducible apply DQ_sa) | (with_reducible apply DQ_sb) | (with_reducible apply DQ_sl) | decide | (intro _))
theorem dq_Md_next_87 (F : Nat) (σ : zS) (x1 : Int32) (h : DQ σ) : pq (DQ) (Md_next_87 F σ x1) := by
  unfold Md_next_87
  repeat' (first | assumption | (with_reducible apply dq_Md_isUpper) | (with_reducible apply dq_Md_name) | (with_reducible apply pq_ite) | (with_reducible apply pp_ite) | (with_reducible apply pq_gd) | (with_reducible apply pp_gd) | (with_reducible apply pq_bv) | (with_reducible apply pp_bv) | (with_reducible apply pq_bi) | (with_reducible apply pp_bi) | (with_reducible apply pq_some) | (with_reducible apply pp_some) | (with_reducible apply DQ_si) | (with_reducible apply DQ_sa) | (with_reducible apply DQ_sb) | (with_reducible apply DQ_sl) | decide | (intro _))
theorem dq_Md_next_271 (F : Nat) (σ : zS) (h : DQ σ) : pq (DQ) (Md_next_271 F σ) := by
  unfold Md_next_271
  repeat' (first | assumption | (with_reducible apply pq_ite) | (with_reducible apply pp_ite) | (with_reducible apply pq_gd) | (with_reducible apply pp_gd) | (with_reducible apply pq_bv) | (with_reducible apply pp_bv) | (with_reducible apply pq_bi) | (with_reducible apply pp_bi) | (with_reducible apply pq_some) | (with_reducible apply pp_some) | (with_reducible apply DQ_si) | (with_reducible apply DQ_sa) | (with_reducible apply DQ_sb) | (with_reducible apply DQ_sl) | decide | (intro _))
theorem dq_Md_next_237 (F : Nat) (σ : zS) (x1 : Int32) (s0 : Int32) (h : DQ σ) : pq (DQ) (Md_next_237 F σ x1 s0) := by
  unfold Md_next_237
  repeat' (first | assumption | (with_reducible apply dq_Md_wrong) | (with_reducible apply dq_Md_next_271) | (with_reducible apply pq_ite) | (with_reducible apply pp_ite) | (with_reducible apply pq_gd) | (with_reducible apply pp_gd) | (with_reducible apply pq_bv) | (with_reducible apply pp_bv) | (with_reducible apply pq_bi) | (with_reducible apply pp_bi) | (with_reducible apply pq_some) | (with_reducible apply pp_some) | (with_reducible apply DQ_si) | (with_reducible apply DQ_sa) | (with_reducible apply DQ_sb) | (with_reducible apply DQ_sl) | decide | (intro _))
theorem dq_Md_next_232 (F : Nat) (σ : zS) (x1 : Int32) (h : DQ σ) : pq (DQ) (Md_next_232 F σ x1) := by
  unfold Md_next_232
  repeat' (first | assumption | (with_reducible apply dq_Md_next_237) | (with_reducible apply pq_ite) | (with_reducible apply pp_ite) | (with_reducible apply pq_gd) | (with_reducible apply pp_gd) | (with_reducible apply pq_bv) | (with_reducible apply pp_bv) | (with_reducible apply pq_bi) | (with_reducible apply pp_bi) | (with_reducible apply pq_some) | (with_reducible apply pp_some) | (with_reducible apply DQ_si) | (with_reducible apply DQ_sa) | (with_reducible apply DQ_sb) | (with_reducible apply DQ_sl) | decide | (intro _))
theorem dq_Md_next_166 (F : Nat) (σ : zS) (x1 : Int32) (h : DQ σ) : pq (DQ) (Md_next_166 F σ x1) := by
  unfold Md_next_166
  repeat' (first | assumption | (with_reducible apply dq_Md_next_232) | (with_reducible apply dq_Md_next_237) | (with_reducible apply pq_ite) | (with_reducible apply pp_ite) | (with_reducible apply pq_gd) | (with_reducible apply pp_gd) | (with_reducible apply pq_bv) | (with_reducible apply pp_bv) | (with_reducible apply pq_bi) | (with_reducible apply pp_bi) | (with_reducible apply pq_some) | (with_reducible apply pp_some) | (with_reducible apply DQ_si) | (with_reducible apply DQ_sa) | (with_reducible apply DQ_sb) | (with_reducible apply DQ_sl) | decide | (intro _))
theorem dq_Md_next_152 (F : Nat) (σ : zS) (s1 : Int32) (h : DQ σ) : pq (DQ) (Md_next_152 F σ s1) := by
  unfold Md_next_152
  repeat' (first | assumption | (with_reducible apply pq_ite) | (with_reducible apply pp_ite) | (with_reducible apply pq_gd) | (with_reducible apply pp_gd) | (with_reducible apply pq_bv) | (with_reducible apply pp_bv) | (with_reducible apply pq_bi) | (with_reducible apply pp_bi) | (with_reducible apply pq_some) | (with_reducible apply pp_some) | (with_reducible apply DQ_si) | (with_reducible apply DQ_sa) | (with_reducible apply DQ_sb) | (with_reducible apply DQ_sl) | decide | (intro _))
theorem dq_Md_next_136 (F : Nat) (σ : zS) (x1 : Int32) (h : DQ σ) : pq (DQ) (Md_next_136 F σ x1) := by
  unfold Md_next_136
  repeat' (first | assumption | (with_reducible apply dq_Md_next_152) | (with_reducible apply pq_ite) | (with_reducible apply pp_ite) | (with_reducible apply pq_gd) | (with_reducible apply pp_gd) | (with_reducible apply pq_bv) | (with_reducible apply pp_bv) | (with_reducible apply pq_bi) | (with_reducible apply pp_bi) | (with_reducible apply pq_some) | (with_reducible apply pp_some) | (with_reducible apply DQ_si) | (with_reducible apply DQ_sa) | (with_reducible apply DQ_sb) | (with_reducible apply DQ_sl) | decide | (intro _))
theorem dq_Md_next_124 (F : Nat) (σ : zS) (x1 : Int32) (x2 : Int32) (h : DQ σ) : pq (DQ) (Md_next_124 F σ x1 x2) := by
  unfold Md_next_124
  repeat' (first | assumption | (with_reducible apply dq_Md_next_136) | (with_reducible apply dq_Md_next_166) | (with_reducible apply pq_ite) | (with_reducible apply pp_ite) | (with_reducible apply pq_gd) | (with_reducible apply pp_gd) | (with_reducible apply pq_bv) | (with_reducible apply pp_bv) | (with_reducible apply pq_bi) | (with_reducible apply pp_bi) | (with_reducible apply pq_some) | (with_reducible apply pp_some) | (with_reducible apply DQ_si) | (with_reducible apply DQ_sa) | (with_reducible apply DQ_sb) | (with_reducible apply DQ_sl) | decide | (intro _))
theorem dq_Md_next_b0 (F : Nat) (rc0 : zS → Option zS) (σ : zS) (hrc0 : ∀ y0, DQ y0 → pq (DQ) (rc0 y0)) (h : DQ σ) : pq (DQ) (Md_next_b0 F rc0 σ) := by
  unfold Md_next_b0
  repeat' (first | assumption | (with_reducible apply hrc0) | (with_reducible apply dq_Md_byteAt) | (with_reducible apply dq_Md_next_26) | (with_reducible apply dq_Md_next_67) | (with_reducible apply dq_Md_isUpper) | (with_reducible apply dq_Md_isLower) | (with_reducible apply dq_Md_next_136) | (with_reducible apply dq_Md_next_124) | (with_reducible apply dq_Md_next_87) | (with_reducible apply pq_ite) | (with_reducible apply pp_ite) | (with_reducible apply pq_gd) | (with_reducible apply pp_gd) | (with_reducible apply pq_bv) | (with_reducible apply pp_bv) | (with_reducible apply pq_bi) | (with_reducible apply pp_bi) | (with_reducible apply pq_some) | (with_reducible apply pp_some) | (with_reducible apply DQ_si) | (with_reducible apply DQ_sa) | (with_reducible apply DQ_sb) | (with_reducible apply DQ_sl) | decide | (intro _))
theorem dq_Md_next_0 (F : Nat) : ∀ (n : Nat) (a0 : zS), DQ a0 → pq (DQ) (Md_next_0 F n a0)
  | 0, _, _ => pq_none
  | n + 1, a0, h => dq_Md_next_b0 F (Md_next_0 F n) a0  (dq_Md_next_0 F  n) h
theorem dq_Md_next (F : Nat) (σ : zS) (h : DQ σ) : pq (DQ) (Md_next F σ) := by
  unfold Md_next
  repeat' (first | assumption | (with_reducible apply dq_Md_next_0) | (with_reducible apply pq_ite) | (with_reducible apply pp_ite) | (with_reducible apply pq_gd) | (with_reducible apply pp_gd) | (with_reducible apply pq_bv) | (with_reducible apply pp_bv) | (with_reducible apply pq_bi) | (with_reducible apply pp_bi) | (with_reducible apply pq_some) | (with_reducible apply pp_some) | (with_reducible apply DQ_si) | (with_reducible apply DQ_sa) | (with_reducible apply DQ_sb) | (with_reducible apply DQ_sl) | decide | (intro _))
theorem dq_Md_isSign_28 (F : Nat) (σ : zS) (s0 : Int32) (h : DQ σ) : pp (DQ) (Md_isSign_28 F σ s0) := by
  unfold Md_isSign_28
  repeat' (first | assumption | (with_reducible apply pq_ite) | (with_reducible apply pp_ite) | (with_reducible apply pq_gd) | (with_reducible apply pp_gd) | (with_reducible apply pq_bv) | (with_reducible apply pp_bv) | (with_reducible apply pq_bi) | (with_reducible apply pp_bi) | (with_reducible apply pq_some) | (with_reducible apply pp_some) | (with_reducible apply DQ_si) | (with_reducible apply DQ_sa) | (with_reducible apply DQ_sb) | (with_reducible apply DQ_sl) | decide | (intro _))
theorem dq_Md_isSign_27 (F : Nat) (σ : zS) (h : DQ σ) : pp (DQ) (Md_isSign_27 F σ) := by
  unfold Md_isSign_27
  repeat' (first | assumption | (with_reducible apply dq_Md_isSign_28) | (with_reducible apply pq_ite) | (with_reducible apply pp_ite) | (with_reducible apply pq_gd) | (with_reducible apply pp_gd) | (with_reducible apply pq_bv) | (with_reducible apply pp_bv) | (with_reducible apply pq_bi) | (with_reducible apply pp_bi) | (with_reducible apply pq_some) | (with_reducible apply pp_some) | (with_reducible apply DQ_si) | (with_reducible apply DQ_sa) | (with_reducible apply DQ_sb) | (with_reducible apply DQ_sl) | decide | (intro _))
theorem dq_Md_isSign (F : Nat) (σ : zS) (x1 : Int32) (h : DQ σ) : pp (DQ) (Md_isSign F σ x1) := by
  unfold Md_isSign
  repeat' (first | assumption | (with_reducible apply dq_Md_isSign_28) | (with_reducible apply dq_Md_isSign_27) | (with_reducible apply pq_ite) | (with_reducible apply pp_ite) | (with_reducible apply pq_gd) | (with_reducible apply pp_gd) | (with_reducible apply pq_bv) | (with_reducible apply pp_bv) | (with_reducible apply pq_bi) | (with_reducible apply pp_bi) | (with_reducible apply pq_some) | (with_reducible apply pp_some) | (with_reducible apply DQ_si) | (with_reducible apply DQ_sa) | (with_reducible apply DQ_sb) | (with_reducible apply DQ_sl) | decide | (intro _))
theorem dq_Md_cannot (F : Nat) (σ : zS) (h : DQ σ) : pq (DQ) (Md_cannot F σ) := by
  unfold Md_cannot
  repeat' (first | assumption | (with_reducible apply dq_Md_wrong) | (with_reducible apply pq_ite) | (with_reducible apply pp_ite) | (with_reducible apply pq_gd) | (with_reducible apply pp_gd) | (with_reducible apply pq_bv) | (with_reducible apply pp_bv) | (with_reducible apply pq_bi) | (with_reducible apply pp_bi) | (with_reducible apply pq_some) | (with_reducible apply pp_some) | (with_reducible apply DQ_si) | (with_reducible apply DQ_sa) | (with_reducible apply DQ_sb) | (with_reducible apply DQ_sl) | decide | (intro _))
theorem dq_Md_want_19 (F : Nat) (σ : zS) (h : DQ σ) : pq (DQ) (Md_want_19 F σ) := by
  unfold Md_want_19
  repeat' (first | assumption | (with_reducible apply pq_ite) | (with_reducible apply pp_ite) | (with_reducible apply pq_gd) | (with_reducible apply pp_gd) | (with_reducible apply pq_bv) | (with_reducible apply pp_bv) | (with_reducible apply pq_bi) | (with_reducible apply pp_bi) | (with_reducible apply pq_some) | (with_reducible apply pp_some) | (with_reducible apply DQ_si) | (with_reducible apply DQ_sa) | (with_reducible apply DQ_sb) | (with_reducible apply DQ_sl) | decide | (intro _))
theorem dq_Md_want (F : Nat) (σ : zS) (x1 : Int32) (h : DQ σ) : pq (DQ) (Md_want F σ x1) := by
  unfold Md_want
  repeat' (first | assumption | (with_reducible apply dq_Md_isSign) | (with_reducible apply dq_Md_cannot) | (with_reducible apply dq_Md_want_19) | (with_reducible apply dq_Md_next) | (with_reducible apply pq_ite) | (with_reducible apply pp_ite) | (with_reducible apply pq_gd) | (with_reducible apply pp_gd) | (with_reducible apply pq_bv) | (with_reducible apply pp_bv) | (with_reducible apply pq_bi) | (with_reducible apply pp_bi) | (with_reducible apply pq_some) | (with_reducible apply pp_some) | (with_reducible apply DQ_si) | (with_reducible apply DQ_sa) | (with_reducible apply DQ_sb) | (with_reducible apply DQ_sl) | decide | (intro _))
theorem dq_Md_tell (F : Nat) (σ : zS) (x1 : Int32) (x2 : Int32) (h : DQ σ) : pq DQ (Md_tell F σ x1 x2) := by
  obtain ⟨D, M, a1, a2, a3, a4, ⟨i0, b1, b2⟩, a5⟩ := h
  intro τ' e
  rw [Md_tell, a2] at e
  obtain ⟨e1, e2⟩ := gd_s e
  have hM := inb_lt (by omega) e1
  rw [nI_clamp (by omega)] at e2
  cases e2
  refine ⟨D, M + 1, by simp [zs, a1], by simp [zs, nI_1], a3, by omega, ⟨i0, b1, by simp [zs, b2]⟩, fun i hi => ?_⟩
  obtain ⟨q, q1, q2, q3⟩ := a5 i hi
  refine ⟨q, q1, by simp [zs, q2], fun j hj => ?_⟩
  obtain ⟨m, m1, m2, m3, m4, m5⟩ := q3 j hj
  refine ⟨m, by omega, by simp [zs, up_at, show ¬ m = M by omega, m2], by simp [zs, up_at, show ¬ m = M by omega, m3], by simp [zs, upL_at, show ¬ m = M by omega, m4], fun j' hj' => ?_⟩
  obtain ⟨m', n1, n2, n3, n4⟩ := m5 j' hj'
  exact ⟨m', n1, by simp [zs, up_at, show ¬ m' = M by omega, n2], by simp [zs, up_at, show ¬ m' = M by omega, n3], by simp [zs, upL_at, show ¬ m' = M by omega, n4]⟩
theorem dq_Md_act (F : Nat) (σ : zS) (x1 : Int32) (x2 : Int32) (x3 : Int32) (h : DQ σ) : pq (DQ) (Md_act F σ x1 x2 x3) := by
  unfold Md_act
  repeat' (first | assumption | (with_reducible apply pq_ite) | (with_reducible apply pp_ite) | (with_reducible apply pq_gd) | (with_reducible apply pp_gd) | (with_reducible apply pq_bv) | (with_reducible apply pp_bv) | (with_reducible apply pq_bi) | (with_reducible apply pp_bi) | (with_reducible apply pq_some) | (with_reducible apply pp_some) | (with_reducible apply DQ_si) | (with_reducible apply DQ_sa) | (with_reducible apply DQ_sb) | (with_reducible apply DQ_sl) | decide | (intro _))
theorem dq_Md_node (F : Nat) (σ : zS) (x1 : Int32) (x2 : Int32) (x3 : Int32) (h : DQ σ) : pp (DQ) (Md_node F σ x1 x2 x3) := by
  unfold Md_node
  repeat' (first | assumption | (with_reducible apply pq_ite) | (with_reducible apply pp_ite) | (with_reducible apply pq_gd) | (with_reducible apply pp_gd) | (with_reducible apply pq_bv) | (with_reducible apply pp_bv) | (with_reducible apply pq_bi) | (with_reducible apply pp_bi) | (with_reducible apply pq_some) | (with_reducible apply pp_some) | (with_reducible apply DQ_si) | (with_reducible apply DQ_sa) | (with_reducible apply DQ_sb) | (with_reducible apply DQ_sl) | decide | (intro _))
theorem dq_Md_count_29 (F : Nat) (σ : zS) (h : DQ σ) : pq (DQ) (Md_count_29 F σ) := by
  unfold Md_count_29
  repeat' (first | assumption | (with_reducible apply pq_ite) | (with_reducible apply pp_ite) | (with_reducible apply pq_gd) | (with_reducible apply pp_gd) | (with_reducible apply pq_bv) | (with_reducible apply pp_bv) | (with_reducible apply pq_bi) | (with_reducible apply pp_bi) | (with_reducible apply pq_some) | (with_reducible apply pp_some) | (with_reducible apply DQ_si) | (with_reducible apply DQ_sa) | (with_reducible apply DQ_sb) | (with_reducible apply DQ_sl) | decide | (intro _))
theorem dq_Md_count (F : Nat) (σ : zS) (h : DQ σ) : pq (DQ) (Md_count F σ) := by
  unfold Md_count
  repeat' (first | assumption | (with_reducible apply dq_Md_count_29) | (with_reducible apply dq_Md_wrong) | (with_reducible apply pq_ite) | (with_reducible apply pp_ite) | (with_reducible apply pq_gd) | (with_reducible apply pp_gd) | (with_reducible apply pq_bv) | (with_reducible apply pp_bv) | (with_reducible apply pq_bi) | (with_reducible apply pp_bi) | (with_reducible apply pq_some) | (with_reducible apply pp_some) | (with_reducible apply DQ_si) | (with_reducible apply DQ_sa) | (with_reducible apply DQ_sb) | (with_reducible apply DQ_sl) | decide | (intro _))
theorem dq_Md_deeper_28 (F : Nat) (σ : zS) (h : DQ σ) : pq (DQ) (Md_deeper_28 F σ) := by
  unfold Md_deeper_28
  repeat' (first | assumption | (with_reducible apply pq_ite) | (with_reducible apply pp_ite) | (with_reducible apply pq_gd) | (with_reducible apply pp_gd) | (with_reducible apply pq_bv) | (with_reducible apply pp_bv) | (with_reducible apply pq_bi) | (with_reducible apply pp_bi) | (with_reducible apply pq_some) | (with_reducible apply pp_some) | (with_reducible apply DQ_si) | (with_reducible apply DQ_sa) | (with_reducible apply DQ_sb) | (with_reducible apply DQ_sl) | decide | (intro _))
theorem dq_Md_deeper (F : Nat) (σ : zS) (h : DQ σ) : pq (DQ) (Md_deeper F σ) := by
  unfold Md_deeper
  repeat' (first | assumption | (with_reducible apply dq_Md_deeper_28) | (with_reducible apply dq_Md_wrong) | (with_reducible apply pq_ite) | (with_reducible apply pp_ite) | (with_reducible apply pq_gd) | (with_reducible apply pp_gd) | (with_reducible apply pq_bv) | (with_reducible apply pp_bv) | (with_reducible apply pq_bi) | (with_reducible apply pp_bi) | (with_reducible apply pq_some) | (with_reducible apply pp_some) | (with_reducible apply DQ_si) | (with_reducible apply DQ_sa) | (with_reducible apply DQ_sb) | (with_reducible apply DQ_sl) | decide | (intro _))
theorem dq_Md_canBegin_46 (F : Nat) (σ : zS) (s0 : Int32) (h : DQ σ) : pp (DQ) (Md_canBegin_46 F σ s0) := by
  unfold Md_canBegin_46
  repeat' (first | assumption | (with_reducible apply pq_ite) | (with_reducible apply pp_ite) | (with_reducible apply pq_gd) | (with_reducible apply pp_gd) | (with_reducible apply pq_bv) | (with_reducible apply pp_bv) | (with_reducible apply pq_bi) | (with_reducible apply pp_bi) | (with_reducible apply pq_some) | (with_reducible apply pp_some) | (with_reducible apply DQ_si) | (with_reducible apply DQ_sa) | (with_reducible apply DQ_sb) | (with_reducible apply DQ_sl) | decide | (intro _))
theorem dq_Md_canBegin_45 (F : Nat) (σ : zS) (h : DQ σ) : pp (DQ) (Md_canBegin_45 F σ) := by
  unfold Md_canBegin_45
  repeat' (first | assumption | (with_reducible apply dq_Md_canBegin_46) | (with_reducible apply pq_ite) | (with_reducible apply pp_ite) | (with_reducible apply pq_gd) | (with_reducible apply pp_gd) | (with_reducible apply pq_bv) | (with_reducible apply pp_bv) | (with_reducible apply pq_bi) | (with_reducible apply pp_bi) | (with_reducible apply pq_some) | (with_reducible apply pp_some) | (with_reducible apply DQ_si) | (with_reducible apply DQ_sa) | (with_reducible apply DQ_sb) | (with_reducible apply DQ_sl) | decide | (intro _))
theorem dq_Md_canBegin_41 (F : Nat) (σ : zS) (h : DQ σ) : pp (DQ) (Md_canBegin_41 F σ) := by
  unfold Md_canBegin_41
  repeat' (first | assumption | (with_reducible apply dq_Md_canBegin_46) | (with_reducible apply pq_ite) | (with_reducible apply pp_ite) | (with_reducible apply pq_gd) | (with_reducible apply pp_gd) | (with_reducible apply pq_bv) | (with_reducible apply pp_bv) | (with_reducible apply pq_bi) | (with_reducible apply pp_bi) | (with_reducible apply pq_some) | (with_reducible apply pp_some) | (with_reducible apply DQ_si) | (with_reducible apply DQ_sa) | (with_reducible apply DQ_sb) | (with_reducible apply DQ_sl) | decide | (intro _))
theorem dq_Md_canBegin (F : Nat) (σ : zS) (h : DQ σ) : pp (DQ) (Md_canBegin F σ) := by
  unfold Md_canBegin
  repeat' (first | assumption | (with_reducible apply dq_Md_canBegin_41) | (with_reducible apply dq_Md_isSign) | (with_reducible apply dq_Md_canBegin_45) | (with_reducible apply pq_ite) | (with_reducible apply pp_ite) | (with_reducible apply pq_gd) | (with_reducible apply pp_gd) | (with_reducible apply pq_bv) | (with_reducible apply pp_bv) | (with_reducible apply pq_bi) | (with_reducible apply pp_bi) | (with_reducible apply pq_some) | (with_reducible apply pp_some) | (with_reducible apply DQ_si) | (with_reducible apply DQ_sa) | (with_reducible apply DQ_sb) | (with_reducible apply DQ_sl) | decide | (intro _))
theorem dq_Md_open (F : Nat) (σ : zS) (x1 : Int32) (h : DQ σ) : pq (DQ) (Md_open F σ x1) := by
  unfold Md_open
  repeat' (first | assumption | (with_reducible apply pq_ite) | (with_reducible apply pp_ite) | (with_reducible apply pq_gd) | (with_reducible apply pp_gd) | (with_reducible apply pq_bv) | (with_reducible apply pp_bv) | (with_reducible apply pq_bi) | (with_reducible apply pp_bi) | (with_reducible apply pq_some) | (with_reducible apply pp_some) | (with_reducible apply DQ_si) | (with_reducible apply DQ_sa) | (with_reducible apply DQ_sb) | (with_reducible apply DQ_sl) | decide | (intro _))
theorem dq_Md_addOne_98 (F : Nat) (σ : zS) (x1 : Int32) (x3 : Int32) (h : DQ σ) : pq (DQ) (Md_addOne_98 F σ x1 x3) := by
  unfold Md_addOne_98
  repeat' (first | assumption | (with_reducible apply dq_Md_node) | (with_reducible apply dq_Md_act) | (with_reducible apply pq_ite) | (with_reducible apply pp_ite) | (with_reducible apply pq_gd) | (with_reducible apply pp_gd) | (with_reducible apply pq_bv) | (with_reducible apply pp_bv) | (with_reducible apply pq_bi) | (with_reducible apply pp_bi) | (with_reducible apply pq_some) | (with_reducible apply pp_some) | (with_reducible apply DQ_si) | (with_reducible apply DQ_sa) | (with_reducible apply DQ_sb) | (with_reducible apply DQ_sl) | decide | (intro _))
theorem dq_Md_addOne_85 (F : Nat) (σ : zS) (s1 : Int32) (s2 : Int32) (h : DQ σ) : pq (DQ) (Md_addOne_85 F σ s1 s2) := by
  unfold Md_addOne_85
  repeat' (first | assumption | (with_reducible apply pq_ite) | (with_reducible apply pp_ite) | (with_reducible apply pq_gd) | (with_reducible apply pp_gd) | (with_reducible apply pq_bv) | (with_reducible apply pp_bv) | (with_reducible apply pq_bi) | (with_reducible apply pp_bi) | (with_reducible apply pq_some) | (with_reducible apply pp_some) | (with_reducible apply DQ_si) | (with_reducible apply DQ_sa) | (with_reducible apply DQ_sb) | (with_reducible apply DQ_sl) | decide | (intro _))
theorem dq_Md_addOne (F : Nat) (σ : zS) (x1 : Int32) (x2 : Int32) (x3 : Int32) (h : DQ σ) : pq (DQ) (Md_addOne F σ x1 x2 x3) := by
  unfold Md_addOne
  repeat' (first | assumption | (with_reducible apply dq_Md_addOne_98) | (with_reducible apply dq_Md_addOne_85) | (with_reducible apply pq_ite) | (with_reducible apply pp_ite) | (with_reducible apply pq_gd) | (with_reducible apply pp_gd) | (with_reducible apply pq_bv) | (with_reducible apply pp_bv) | (with_reducible apply pq_bi) | (with_reducible apply pp_bi) | (with_reducible apply pq_some) | (with_reducible apply pp_some) | (with_reducible apply DQ_si) | (with_reducible apply DQ_sa) | (with_reducible apply DQ_sb) | (with_reducible apply DQ_sl) | decide | (intro _))
theorem dq_Md_endSome_137 (F : Nat) (σ : zS) (x2 : Int32) (h : DQ σ) : pq (DQ) (Md_endSome_137 F σ x2) := by
  unfold Md_endSome_137
  repeat' (first | assumption | (with_reducible apply pq_ite) | (with_reducible apply pp_ite) | (with_reducible apply pq_gd) | (with_reducible apply pp_gd) | (with_reducible apply pq_bv) | (with_reducible apply pp_bv) | (with_reducible apply pq_bi) | (with_reducible apply pp_bi) | (with_reducible apply pq_some) | (with_reducible apply pp_some) | (with_reducible apply DQ_si) | (with_reducible apply DQ_sa) | (with_reducible apply DQ_sb) | (with_reducible apply DQ_sl) | decide | (intro _))
theorem dq_Md_endSome_100 (F : Nat) (σ : zS) (x1 : Int32) (s1 : Int32) (s2 : Int32) (h : DQ σ) : pq (DQ) (Md_endSome_100 F σ x1 s1 s2) := by
  unfold Md_endSome_100
  repeat' (first | assumption | (with_reducible apply dq_Md_node) | (with_reducible apply dq_Md_endSome_137) | (with_reducible apply pq_ite) | (with_reducible apply pp_ite) | (with_reducible apply pq_gd) | (with_reducible apply pp_gd) | (with_reducible apply pq_bv) | (with_reducible apply pp_bv) | (with_reducible apply pq_bi) | (with_reducible apply pp_bi) | (with_reducible apply pq_some) | (with_reducible apply pp_some) | (with_reducible apply DQ_si) | (with_reducible apply DQ_sa) | (with_reducible apply DQ_sb) | (with_reducible apply DQ_sl) | decide | (intro _))
theorem dq_Md_endSome_35 (F : Nat) (σ : zS) (h : DQ σ) : pq (DQ) (Md_endSome_35 F σ) := by
  unfold Md_endSome_35
  repeat' (first | assumption | (with_reducible apply dq_Md_endSome_100) | (with_reducible apply pq_ite) | (with_reducible apply pp_ite) | (with_reducible apply pq_gd) | (with_reducible apply pp_gd) | (with_reducible apply pq_bv) | (with_reducible apply pp_bv) | (with_reducible apply pq_bi) | (with_reducible apply pp_bi) | (with_reducible apply pq_some) | (with_reducible apply pp_some) | (with_reducible apply DQ_si) | (with_reducible apply DQ_sa) | (with_reducible apply DQ_sb) | (with_reducible apply DQ_sl) | decide | (intro _))
theorem dq_Md_endSome (F : Nat) (σ : zS) (h : DQ σ) : pq (DQ) (Md_endSome F σ) := by
  unfold Md_endSome
  repeat' (first | assumption | (with_reducible apply dq_Md_endSome_35) | (with_reducible apply pq_ite) | (with_reducible apply pp_ite) | (with_reducible apply pq_gd) | (with_reducible apply pp_gd) | (with_reducible apply pq_bv) | (with_reducible apply pp_bv) | (with_reducible apply pq_bi) | (with_reducible apply pp_bi) | (with_reducible apply pq_some) | (with_reducible apply pp_some) | (with_reducible apply DQ_si) | (with_reducible apply DQ_sa) | (with_reducible apply DQ_sb) | (with_reducible apply DQ_sl) | decide | (intro _))
theorem dq_Md_beginOne_115 (F : Nat) (σ : zS) (h : DQ σ) : pq (DQ) (Md_beginOne_115 F σ) := by
  unfold Md_beginOne_115
  repeat' (first | assumption | (with_reducible apply pq_ite) | (with_reducible apply pp_ite) | (with_reducible apply pq_gd) | (with_reducible apply pp_gd) | (with_reducible apply pq_bv) | (with_reducible apply pp_bv) | (with_reducible apply pq_bi) | (with_reducible apply pp_bi) | (with_reducible apply pq_some) | (with_reducible apply pp_some) | (with_reducible apply DQ_si) | (with_reducible apply DQ_sa) | (with_reducible apply DQ_sb) | (with_reducible apply DQ_sl) | decide | (intro _))
theorem dq_Md_beginOne_100 (F : Nat) (σ : zS) (x1 : Int32) (x2 : Int32) (x3 : Int32) (s1 : Int32) (h : DQ σ) : pq (DQ) (Md_beginOne_100 F σ x1 x2 x3 s1) := by
  unfold Md_beginOne_100
  repeat' (first | assumption | (with_reducible apply dq_Md_tell) | (with_reducible apply dq_Md_next) | (with_reducible apply dq_Md_addOne) | (with_reducible apply dq_Md_beginOne_115) | (with_reducible apply pq_ite) | (with_reducible apply pp_ite) | (with_reducible apply pq_gd) | (with_reducible apply pp_gd) | (with_reducible apply pq_bv) | (with_reducible apply pp_bv) | (with_reducible apply pq_bi) | (with_reducible apply pp_bi) | (with_reducible apply pq_some) | (with_reducible apply pp_some) | (with_reducible apply DQ_si) | (with_reducible apply DQ_sa) | (with_reducible apply DQ_sb) | (with_reducible apply DQ_sl) | decide | (intro _))
theorem dq_Md_beginOne_84 (F : Nat) (σ : zS) (x1 : Int32) (x2 : Int32) (s0 : Int32) (h : DQ σ) : pq (DQ) (Md_beginOne_84 F σ x1 x2 s0) := by
  unfold Md_beginOne_84
  repeat' (first | assumption | (with_reducible apply dq_Md_beginOne_100) | (with_reducible apply pq_ite) | (with_reducible apply pp_ite) | (with_reducible apply pq_gd) | (with_reducible apply pp_gd) | (with_reducible apply pq_bv) | (with_reducible apply pp_bv) | (with_reducible apply pq_bi) | (with_reducible apply pp_bi) | (with_reducible apply pq_some) | (with_reducible apply pp_some) | (with_reducible apply DQ_si) | (with_reducible apply DQ_sa) | (with_reducible apply DQ_sb) | (with_reducible apply DQ_sl) | decide | (intro _))
theorem dq_Md_beginOne_46 (F : Nat) (σ : zS) (x1 : Int32) (s1 : Int32) (h : DQ σ) : pq (DQ) (Md_beginOne_46 F σ x1 s1) := by
  unfold Md_beginOne_46
  repeat' (first | assumption | (with_reducible apply dq_Md_node) | (with_reducible apply dq_Md_beginOne_84) | (with_reducible apply pq_ite) | (with_reducible apply pp_ite) | (with_reducible apply pq_gd) | (with_reducible apply pp_gd) | (with_reducible apply pq_bv) | (with_reducible apply pp_bv) | (with_reducible apply pq_bi) | (with_reducible apply pp_bi) | (with_reducible apply pq_some) | (with_reducible apply pp_some) | (with_reducible apply DQ_si) | (with_reducible apply DQ_sa) | (with_reducible apply DQ_sb) | (with_reducible apply DQ_sl) | decide | (intro _))
theorem dq_Md_beginOne_21 (F : Nat) (σ : zS) (x1 : Int32) (h : DQ σ) : pq (DQ) (Md_beginOne_21 F σ x1) := by
  unfold Md_beginOne_21
  repeat' (first | assumption | (with_reducible apply dq_Md_count) | (with_reducible apply dq_Md_beginOne_46) | (with_reducible apply dq_Md_beginOne_115) | (with_reducible apply pq_ite) | (with_reducible apply pp_ite) | (with_reducible apply pq_gd) | (with_reducible apply pp_gd) | (with_reducible apply pq_bv) | (with_reducible apply pp_bv) | (with_reducible apply pq_bi) | (with_reducible apply pp_bi) | (with_reducible apply pq_some) | (with_reducible apply pp_some) | (with_reducible apply DQ_si) | (with_reducible apply DQ_sa) | (with_reducible apply DQ_sb) | (with_reducible apply DQ_sl) | decide | (intro _))
theorem dq_Md_beginOne_166 (F : Nat) (σ : zS) (h : DQ σ) : pq (DQ) (Md_beginOne_166 F σ) := by
  unfold Md_beginOne_166
  repeat' (first | assumption | (with_reducible apply pq_ite) | (with_reducible apply pp_ite) | (with_reducible apply pq_gd) | (with_reducible apply pp_gd) | (with_reducible apply pq_bv) | (with_reducible apply pp_bv) | (with_reducible apply pq_bi) | (with_reducible apply pp_bi) | (with_reducible apply pq_some) | (with_reducible apply pp_some) | (with_reducible apply DQ_si) | (with_reducible apply DQ_sa) | (with_reducible apply DQ_sb) | (with_reducible apply DQ_sl) | decide | (intro _))
theorem dq_Md_beginOne_159 (F : Nat) (σ : zS) (s1 : Int32) (h : DQ σ) : pq (DQ) (Md_beginOne_159 F σ s1) := by
  unfold Md_beginOne_159
  repeat' (first | assumption | (with_reducible apply dq_Md_open) | (with_reducible apply dq_Md_next) | (with_reducible apply dq_Md_beginOne_166) | (with_reducible apply pq_ite) | (with_reducible apply pp_ite) | (with_reducible apply pq_gd) | (with_reducible apply pp_gd) | (with_reducible apply pq_bv) | (with_reducible apply pp_bv) | (with_reducible apply pq_bi) | (with_reducible apply pp_bi) | (with_reducible apply pq_some) | (with_reducible apply pp_some) | (with_reducible apply DQ_si) | (with_reducible apply DQ_sa) | (with_reducible apply DQ_sb) | (with_reducible apply DQ_sl) | decide | (intro _))
theorem dq_Md_beginOne_142 (F : Nat) (σ : zS) (x2 : Int32) (h : DQ σ) : pq (DQ) (Md_beginOne_142 F σ x2) := by
  unfold Md_beginOne_142
  repeat' (first | assumption | (with_reducible apply dq_Md_beginOne_159) | (with_reducible apply dq_Md_beginOne_166) | (with_reducible apply pq_ite) | (with_reducible apply pp_ite) | (with_reducible apply pq_gd) | (with_reducible apply pp_gd) | (with_reducible apply pq_bv) | (with_reducible apply pp_bv) | (with_reducible apply pq_bi) | (with_reducible apply pp_bi) | (with_reducible apply pq_some) | (with_reducible apply pp_some) | (with_reducible apply DQ_si) | (with_reducible apply DQ_sa) | (with_reducible apply DQ_sb) | (with_reducible apply DQ_sl) | decide | (intro _))
theorem dq_Md_beginOne (F : Nat) (σ : zS) (h : DQ σ) : pq (DQ) (Md_beginOne F σ) := by
  unfold Md_beginOne
  repeat' (first | assumption | (with_reducible apply dq_Md_beginOne_21) | (with_reducible apply dq_Md_deeper) | (with_reducible apply dq_Md_isSign) | (with_reducible apply dq_Md_beginOne_142) | (with_reducible apply dq_Md_count) | (with_reducible apply pq_ite) | (with_reducible apply pp_ite) | (with_reducible apply pq_gd) | (with_reducible apply pp_gd) | (with_reducible apply pq_bv) | (with_reducible apply pp_bv) | (with_reducible apply pq_bi) | (with_reducible apply pp_bi) | (with_reducible apply pq_some) | (with_reducible apply pp_some) | (with_reducible apply DQ_si) | (with_reducible apply DQ_sa) | (with_reducible apply DQ_sb) | (with_reducible apply DQ_sl) | decide | (intro _))
theorem dq_Md_closeOne_109 (F : Nat) (σ : zS) (x3 : Int32) (s1 : Int32) (h : DQ σ) : pq (DQ) (Md_closeOne_109 F σ x3 s1) := by
  unfold Md_closeOne_109
  repeat' (first | assumption | (with_reducible apply dq_Md_addOne) | (with_reducible apply pq_ite) | (with_reducible apply pp_ite) | (with_reducible apply pq_gd) | (with_reducible apply pp_gd) | (with_reducible apply pq_bv) | (with_reducible apply pp_bv) | (with_reducible apply pq_bi) | (with_reducible apply pp_bi) | (with_reducible apply pq_some) | (with_reducible apply pp_some) | (with_reducible apply DQ_si) | (with_reducible apply DQ_sa) | (with_reducible apply DQ_sb) | (with_reducible apply DQ_sl) | decide | (intro _))
theorem dq_Md_closeOne_70 (F : Nat) (σ : zS) (x1 : Int32) (x2 : Int32) (x3 : Int32) (s1 : Int32) (h : DQ σ) : pq (DQ) (Md_closeOne_70 F σ x1 x2 x3 s1) := by
  unfold Md_closeOne_70
  repeat' (first | assumption | (with_reducible apply dq_Md_want) | (with_reducible apply dq_Md_closeOne_109) | (with_reducible apply dq_Md_node) | (with_reducible apply pq_ite) | (with_reducible apply pp_ite) | (with_reducible apply pq_gd) | (with_reducible apply pp_gd) | (with_reducible apply pq_bv) | (with_reducible apply pp_bv) | (with_reducible apply pq_bi) | (with_reducible apply pp_bi) | (with_reducible apply pq_some) | (with_reducible apply pp_some) | (with_reducible apply DQ_si) | (with_reducible apply DQ_sa) | (with_reducible apply DQ_sb) | (with_reducible apply DQ_sl) | decide | (intro _))
theorem dq_Md_closeOne_58 (F : Nat) (σ : zS) (x1 : Int32) (x2 : Int32) (x3 : Int32) (h : DQ σ) : pq (DQ) (Md_closeOne_58 F σ x1 x2 x3) := by
  unfold Md_closeOne_58
  repeat' (first | assumption | (with_reducible apply dq_Md_closeOne_70) | (with_reducible apply pq_ite) | (with_reducible apply pp_ite) | (with_reducible apply pq_gd) | (with_reducible apply pp_gd) | (with_reducible apply pq_bv) | (with_reducible apply pp_bv) | (with_reducible apply pq_bi) | (with_reducible apply pp_bi) | (with_reducible apply pq_some) | (with_reducible apply pp_some) | (with_reducible apply DQ_si) | (with_reducible apply DQ_sa) | (with_reducible apply DQ_sb) | (with_reducible apply DQ_sl) | decide | (intro _))
theorem dq_Md_closeOne_18 (F : Nat) (σ : zS) (s0 : Int32) (h : DQ σ) : pq (DQ) (Md_closeOne_18 F σ s0) := by
  unfold Md_closeOne_18
  repeat' (first | assumption | (with_reducible apply dq_Md_closeOne_58) | (with_reducible apply dq_Md_act) | (with_reducible apply pq_ite) | (with_reducible apply pp_ite) | (with_reducible apply pq_gd) | (with_reducible apply pp_gd) | (with_reducible apply pq_bv) | (with_reducible apply pp_bv) | (with_reducible apply pq_bi) | (with_reducible apply pp_bi) | (with_reducible apply pq_some) | (with_reducible apply pp_some) | (with_reducible apply DQ_si) | (with_reducible apply DQ_sa) | (with_reducible apply DQ_sb) | (with_reducible apply DQ_sl) | decide | (intro _))
theorem dq_Md_closeOne (F : Nat) (σ : zS) (h : DQ σ) : pq (DQ) (Md_closeOne F σ) := by
  unfold Md_closeOne
  repeat' (first | assumption | (with_reducible apply dq_Md_closeOne_18) | (with_reducible apply pq_ite) | (with_reducible apply pp_ite) | (with_reducible apply pq_gd) | (with_reducible apply pp_gd) | (with_reducible apply pq_bv) | (with_reducible apply pp_bv) | (with_reducible apply pq_bi) | (with_reducible apply pp_bi) | (with_reducible apply pq_some) | (with_reducible apply pp_some) | (with_reducible apply DQ_si) | (with_reducible apply DQ_sa) | (with_reducible apply DQ_sb) | (with_reducible apply DQ_sl) | decide | (intro _))
theorem dq_Md_readOpen_185 (F : Nat) (rc10 : zS → Int32 → Option (Int32 × zS)) (σ : zS) (x1 : Int32) (hrc10 : ∀ y0 y1, DQ y0 → pp (DQ) (rc10 y0 y1)) (h : DQ σ) : pp (DQ) (Md_readOpen_185 F rc10 σ x1) := by
  unfold Md_readOpen_185
  repeat' (first | assumption | (with_reducible apply hrc10) | (with_reducible apply dq_Md_closeOne) | (with_reducible apply pq_ite) | (with_reducible apply pp_ite) | (with_reducible apply pq_gd) | (with_reducible apply pp_gd) | (with_reducible apply pq_bv) | (with_reducible apply pp_bv) | (with_reducible apply pq_bi) | (with_reducible apply pp_bi) | (with_reducible apply pq_some) | (with_reducible apply pp_some) | (with_reducible apply DQ_si) | (with_reducible apply DQ_sa) | (with_reducible apply DQ_sb) | (with_reducible apply DQ_sl) | decide | (intro _))
theorem dq_Md_readOpen_55 (F : Nat) (rc10 : zS → Int32 → Option (Int32 × zS)) (σ : zS) (x1 : Int32) (hrc10 : ∀ y0 y1, DQ y0 → pp (DQ) (rc10 y0 y1)) (h : DQ σ) : pp (DQ) (Md_readOpen_55 F rc10 σ x1) := by
  unfold Md_readOpen_55
  repeat' (first | assumption | (with_reducible apply hrc10) | (with_reducible apply dq_Md_canBegin) | (with_reducible apply dq_Md_isSign) | (with_reducible apply dq_Md_endSome) | (with_reducible apply dq_Md_readOpen_185) | (with_reducible apply dq_Md_act) | (with_reducible apply dq_Md_count) | (with_reducible apply dq_Md_next) | (with_reducible apply dq_Md_cannot) | (with_reducible apply dq_Md_beginOne) | (with_reducible apply pq_ite) | (with_reducible apply pp_ite) | (with_reducible apply pq_gd) | (with_reducible apply pp_gd) | (with_reducible apply pq_bv) | (with_reducible apply pp_bv) | (with_reducible apply pq_bi) | (with_reducible apply pp_bi) | (with_reducible apply pq_some) | (with_reducible apply pp_some) | (with_reducible apply DQ_si) | (with_reducible apply DQ_sa) | (with_reducible apply DQ_sb) | (with_reducible apply DQ_sl) | decide | (intro _))
theorem dq_Md_readOpen_b10 (F : Nat) (rc10 : zS → Int32 → Option (Int32 × zS)) (σ : zS) (x1 : Int32) (hrc10 : ∀ y0 y1, DQ y0 → pp (DQ) (rc10 y0 y1)) (h : DQ σ) : pp (DQ) (Md_readOpen_b10 F rc10 σ x1) := by
  unfold Md_readOpen_b10
  repeat' (first | assumption | (with_reducible apply hrc10) | (with_reducible apply dq_Md_readOpen_55) | (with_reducible apply pq_ite) | (with_reducible apply pp_ite) | (with_reducible apply pq_gd) | (with_reducible apply pp_gd) | (with_reducible apply pq_bv) | (with_reducible apply pp_bv) | (with_reducible apply pq_bi) | (with_reducible apply pp_bi) | (with_reducible apply pq_some) | (with_reducible apply pp_some) | (with_reducible apply DQ_si) | (with_reducible apply DQ_sa) | (with_reducible apply DQ_sb) | (with_reducible apply DQ_sl) | decide | (intro _))
theorem dq_Md_readOpen_10 (F : Nat) : ∀ (n : Nat) (a0 : zS) (a1 : Int32), DQ a0 → pp (DQ) (Md_readOpen_10 F n a0 a1)
  | 0, _, _, _ => pp_none
  | n + 1, a0, a1, h => dq_Md_readOpen_b10 F (Md_readOpen_10 F n) a0 a1  (dq_Md_readOpen_10 F  n) h
theorem dq_Md_readOpen (F : Nat) (σ : zS) (x1 : Int32) (h : DQ σ) : pp (DQ) (Md_readOpen F σ x1) := by
  unfold Md_readOpen
  repeat' (first | assumption | (with_reducible apply dq_Md_open) | (with_reducible apply dq_Md_readOpen_10) | (with_reducible apply pq_ite) | (with_reducible apply pp_ite) | (with_reducible apply pq_gd) | (with_reducible apply pp_gd) | (with_reducible apply pq_bv) | (with_reducible apply pp_bv) | (with_reducible apply pq_bi) | (with_reducible apply pp_bi) | (with_reducible apply pq_some) | (with_reducible apply pp_some) | (with_reducible apply DQ_si) | (with_reducible apply DQ_sa) | (with_reducible apply DQ_sb) | (with_reducible apply DQ_sl) | decide | (intro _))
theorem dq_Md_readOne (F : Nat) (σ : zS) (h : DQ σ) : pp (DQ) (Md_readOne F σ) := by
  unfold Md_readOne
  repeat' (first | assumption | (with_reducible apply dq_Md_readOpen) | (with_reducible apply pq_ite) | (with_reducible apply pp_ite) | (with_reducible apply pq_gd) | (with_reducible apply pp_gd) | (with_reducible apply pq_bv) | (with_reducible apply pp_bv) | (with_reducible apply pq_bi) | (with_reducible apply pp_bi) | (with_reducible apply pq_some) | (with_reducible apply pp_some) | (with_reducible apply DQ_si) | (with_reducible apply DQ_sa) | (with_reducible apply DQ_sb) | (with_reducible apply DQ_sl) | decide | (intro _))
theorem dq_Md_readType (F : Nat) (σ : zS) (h : DQ σ) : pp (DQ) (Md_readType F σ) := by
  unfold Md_readType
  repeat' (first | assumption | (with_reducible apply dq_Md_readOpen) | (with_reducible apply pq_ite) | (with_reducible apply pp_ite) | (with_reducible apply pq_gd) | (with_reducible apply pp_gd) | (with_reducible apply pq_bv) | (with_reducible apply pp_bv) | (with_reducible apply pq_bi) | (with_reducible apply pp_bi) | (with_reducible apply pq_some) | (with_reducible apply pp_some) | (with_reducible apply DQ_si) | (with_reducible apply DQ_sa) | (with_reducible apply DQ_sb) | (with_reducible apply DQ_sl) | decide | (intro _))
theorem dq_Md_wantName_15 (F : Nat) (σ : zS) (h : DQ σ) : pp (DQ) (Md_wantName_15 F σ) := by
  unfold Md_wantName_15
  repeat' (first | assumption | (with_reducible apply dq_Md_cannot) | (with_reducible apply pq_ite) | (with_reducible apply pp_ite) | (with_reducible apply pq_gd) | (with_reducible apply pp_gd) | (with_reducible apply pq_bv) | (with_reducible apply pp_bv) | (with_reducible apply pq_bi) | (with_reducible apply pp_bi) | (with_reducible apply pq_some) | (with_reducible apply pp_some) | (with_reducible apply DQ_si) | (with_reducible apply DQ_sa) | (with_reducible apply DQ_sb) | (with_reducible apply DQ_sl) | decide | (intro _))
theorem dq_Md_wantName (F : Nat) (σ : zS) (x1 : Int32) (h : DQ σ) : pp (DQ) (Md_wantName F σ x1) := by
  unfold Md_wantName
  repeat' (first | assumption | (with_reducible apply dq_Md_wantName_15) | (with_reducible apply pq_ite) | (with_reducible apply pp_ite) | (with_reducible apply pq_gd) | (with_reducible apply pp_gd) | (with_reducible apply pq_bv) | (with_reducible apply pp_bv) | (with_reducible apply pq_bi) | (with_reducible apply pp_bi) | (with_reducible apply pq_some) | (with_reducible apply pp_some) | (with_reducible apply DQ_si) | (with_reducible apply DQ_sa) | (with_reducible apply DQ_sb) | (with_reducible apply DQ_sl) | decide | (intro _))
theorem dq_Md_readParam (F : Nat) (σ : zS) (h : DQ σ) : pq DQ (Md_readParam F σ) := by
  unfold Md_readParam
  intro τ' e
  obtain ⟨e0, e⟩ := gd_s e
  have hh := h
  obtain ⟨D, M, a1, a2, a3, a4, ⟨i0, b1, b2⟩, a5⟩ := h
  obtain ⟨q, q1, q2, q3⟩ := a5 i0 b1
  rw [b2, nI_clamp (by omega), q2] at e
  by_cases c3 : nI q = (3 : Int32)
  · rw [if_pos c3] at e
    exact pq_bv (dq_Md_wrong F σ _ _ hh) (fun τ' h' => pq_some h') τ' e
  · rw [if_neg c3] at e
    have hq : q < 3 := by
      by_cases z : q = 3
      · rw [z] at c3; exact absurd rfl c3
      · omega
    obtain ⟨σ3, t1, t2⟩ := bv_s e
    rw [Md_tell, a2] at t1
    obtain ⟨f1, f2⟩ := gd_s t1
    have hM := inb_lt (by omega) f1
    rw [nI_clamp (by omega)] at f2
    cases f2
    have g32 : ∀ s : zS, s = (si (sa (sa (sa (sa (sa (sb (sa σ 10 M (1 : Int32)) 11 M (gl σ 6)) 12 M (gi σ 5)) 13 M (gi σ 32)) 14 M (-1 : Int32)) 15 M (vp_nar .boolean (1 : Int32))) 16 M (0 : Int32)) 31 (nI M + (1 : Int32))) → gi s 32 = nI i0 ∧ ga s 36 i0 = nI q := fun s hs => by rw [hs]; exact ⟨by simp [zs, b2], by simp [zs, q2]⟩
    obtain ⟨k1, k2⟩ := g32 _ rfl
    rw [k1, nI_clamp (by omega), k2] at t2
    obtain ⟨_, t2⟩ := gd_s t2
    obtain ⟨_, t2⟩ := gd_s t2
    have e3 : (3 : Int32) * nI i0 + nI q = nI (3 * i0 + q) := by
      rw [show (3 : Int32) = nI 3 from rfl]
      have : nI 3 * nI i0 = nI (3 * i0) := (Int32.ofNat_mul 3 i0).symm
      rw [this, nI_add]
    rw [e3, nI_clamp (by omega), nI_1] at t2
    refine pq_bv (P := DQ) (dq_Md_next F _ ⟨D, M + 1, by simp [zs, a1], by simp [zs, nI_1], a3, by omega, ⟨i0, b1, by simp [zs, b2]⟩, fun i hi => ?_⟩) (fun τ' h' => pq_some h') τ' t2
    by_cases ei : i = i0
    · subst ei
      refine ⟨q + 1, by omega, by simp [zs, up_at, nI_1], fun j hj => ?_⟩
      by_cases ej : j = q
      · subst ej
        refine ⟨M, by omega, by simp [zs, up_at], by simp [zs, up_at, b2], by simp [zs, upL_at], fun j' hj' => ?_⟩
        obtain ⟨m, m1, m2, m3, m4, m5⟩ := q3 j' hj'
        exact ⟨m, m1, by simp [zs, up_at, show ¬ m = M by omega, m2], by simp [zs, up_at, show ¬ m = M by omega, m3], by simp [zs, upL_at, show ¬ m = M by omega, show ¬ j' = j by omega, m4]⟩
      · obtain ⟨m, m1, m2, m3, m4, m5⟩ := q3 j (by omega)
        refine ⟨m, by omega, by simp [zs, up_at, show ¬ m = M by omega, m2], by simp [zs, up_at, show ¬ m = M by omega, m3], by simp [zs, upL_at, show ¬ m = M by omega, ej, m4], fun j' hj' => ?_⟩
        obtain ⟨m', n1, n2, n3, n4⟩ := m5 j' hj'
        exact ⟨m', n1, by simp [zs, up_at, show ¬ m' = M by omega, n2], by simp [zs, up_at, show ¬ m' = M by omega, n3], by simp [zs, upL_at, show ¬ m' = M by omega, show ¬ j' = q by omega, n4]⟩
    · obtain ⟨p, p1, p2, p3⟩ := a5 i hi
      refine ⟨p, p1, by simp [zs, up_at, ei, p2], fun j hj => ?_⟩
      obtain ⟨m, m1, m2, m3, m4, m5⟩ := p3 j hj
      refine ⟨m, by omega, by simp [zs, up_at, show ¬ m = M by omega, m2], by simp [zs, up_at, show ¬ m = M by omega, m3], by simp [zs, upL_at, show ¬ m = M by omega, show ¬ 3 * i + j = 3 * i0 + q by omega, m4], fun j' hj' => ?_⟩
      obtain ⟨m', n1, n2, n3, n4⟩ := m5 j' hj'
      exact ⟨m', n1, by simp [zs, up_at, show ¬ m' = M by omega, n2], by simp [zs, up_at, show ¬ m' = M by omega, n3], by simp [zs, upL_at, show ¬ m' = M by omega, show ¬ 3 * i + j' = 3 * i0 + q by omega, n4]⟩
theorem dq_Md_readClass_142 (F : Nat) (σ : zS) (h : DQ σ) : pq (DQ) (Md_readClass_142 F σ) := by
  unfold Md_readClass_142
  repeat' (first | assumption | (with_reducible apply dq_Md_want) | (with_reducible apply pq_ite) | (with_reducible apply pp_ite) | (with_reducible apply pq_gd) | (with_reducible apply pp_gd) | (with_reducible apply pq_bv) | (with_reducible apply pp_bv) | (with_reducible apply pq_bi) | (with_reducible apply pp_bi) | (with_reducible apply pq_some) | (with_reducible apply pp_some) | (with_reducible apply DQ_si) | (with_reducible apply DQ_sa) | (with_reducible apply DQ_sb) | (with_reducible apply DQ_sl) | decide | (intro _))
theorem dq_Md_readClass_b19 (F : Nat) (rc19 : zS → Option zS) (σ : zS) (hrc19 : ∀ y0, DQ y0 → pq (DQ) (rc19 y0)) (h : DQ σ) : pq (DQ) (Md_readClass_b19 F rc19 σ) := by
  unfold Md_readClass_b19
  repeat' (first | assumption | (with_reducible apply hrc19) | (with_reducible apply dq_Md_wrong) | (with_reducible apply dq_Md_tell) | (with_reducible apply dq_Md_next) | (with_reducible apply dq_Md_want) | (with_reducible apply dq_Md_readType) | (with_reducible apply dq_Md_act) | (with_reducible apply dq_Md_readClass_142) | (with_reducible apply pq_ite) | (with_reducible apply pp_ite) | (with_reducible apply pq_gd) | (with_reducible apply pp_gd) | (with_reducible apply pq_bv) | (with_reducible apply pp_bv) | (with_reducible apply pq_bi) | (with_reducible apply pp_bi) | (with_reducible apply pq_some) | (with_reducible apply pp_some) | (with_reducible apply DQ_si) | (with_reducible apply DQ_sa) | (with_reducible apply DQ_sb) | (with_reducible apply DQ_sl) | decide | (intro _))
theorem dq_Md_readClass_19 (F : Nat) : ∀ (n : Nat) (a0 : zS), DQ a0 → pq (DQ) (Md_readClass_19 F n a0)
  | 0, _, _ => pq_none
  | n + 1, a0, h => dq_Md_readClass_b19 F (Md_readClass_19 F n) a0  (dq_Md_readClass_19 F  n) h
theorem dq_Md_readClass (F : Nat) (σ : zS) (h : DQ σ) : pq (DQ) (Md_readClass F σ) := by
  unfold Md_readClass
  repeat' (first | assumption | (with_reducible apply dq_Md_wantName) | (with_reducible apply dq_Md_readParam) | (with_reducible apply dq_Md_want) | (with_reducible apply dq_Md_readClass_19) | (with_reducible apply pq_ite) | (with_reducible apply pp_ite) | (with_reducible apply pq_gd) | (with_reducible apply pp_gd) | (with_reducible apply pq_bv) | (with_reducible apply pp_bv) | (with_reducible apply pq_bi) | (with_reducible apply pp_bi) | (with_reducible apply pq_some) | (with_reducible apply pp_some) | (with_reducible apply DQ_si) | (with_reducible apply DQ_sa) | (with_reducible apply DQ_sb) | (with_reducible apply DQ_sl) | decide | (intro _))
theorem dq_Md_readCon_b56 (F : Nat) (rc56 : zS → Option zS) (σ : zS) (hrc56 : ∀ y0, DQ y0 → pq (DQ) (rc56 y0)) (h : DQ σ) : pq (DQ) (Md_readCon_b56 F rc56 σ) := by
  unfold Md_readCon_b56
  repeat' (first | assumption | (with_reducible apply hrc56) | (with_reducible apply dq_Md_canBegin) | (with_reducible apply dq_Md_readOne) | (with_reducible apply dq_Md_act) | (with_reducible apply pq_ite) | (with_reducible apply pp_ite) | (with_reducible apply pq_gd) | (with_reducible apply pp_gd) | (with_reducible apply pq_bv) | (with_reducible apply pp_bv) | (with_reducible apply pq_bi) | (with_reducible apply pp_bi) | (with_reducible apply pq_some) | (with_reducible apply pp_some) | (with_reducible apply DQ_si) | (with_reducible apply DQ_sa) | (with_reducible apply DQ_sb) | (with_reducible apply DQ_sl) | decide | (intro _))
theorem dq_Md_readCon_56 (F : Nat) : ∀ (n : Nat) (a0 : zS), DQ a0 → pq (DQ) (Md_readCon_56 F n a0)
  | 0, _, _ => pq_none
  | n + 1, a0, h => dq_Md_readCon_b56 F (Md_readCon_56 F n) a0  (dq_Md_readCon_56 F  n) h
theorem dq_Md_readCon (F : Nat) (σ : zS) (h : DQ σ) : pq (DQ) (Md_readCon F σ) := by
  unfold Md_readCon
  repeat' (first | assumption | (with_reducible apply dq_Md_wantName) | (with_reducible apply dq_Md_wrong) | (with_reducible apply dq_Md_tell) | (with_reducible apply dq_Md_next) | (with_reducible apply dq_Md_readCon_56) | (with_reducible apply pq_ite) | (with_reducible apply pp_ite) | (with_reducible apply pq_gd) | (with_reducible apply pp_gd) | (with_reducible apply pq_bv) | (with_reducible apply pp_bv) | (with_reducible apply pq_bi) | (with_reducible apply pp_bi) | (with_reducible apply pq_some) | (with_reducible apply pp_some) | (with_reducible apply DQ_si) | (with_reducible apply DQ_sa) | (with_reducible apply DQ_sb) | (with_reducible apply DQ_sl) | decide | (intro _))
theorem dq_Md_readSides_b71 (F : Nat) (rc71 : zS → Option zS) (σ : zS) (hrc71 : ∀ y0, DQ y0 → pq (DQ) (rc71 y0)) (h : DQ σ) : pq (DQ) (Md_readSides_b71 F rc71 σ) := by
  unfold Md_readSides_b71
  repeat' (first | assumption | (with_reducible apply hrc71) | (with_reducible apply dq_Md_isSign) | (with_reducible apply dq_Md_next) | (with_reducible apply dq_Md_readCon) | (with_reducible apply pq_ite) | (with_reducible apply pp_ite) | (with_reducible apply pq_gd) | (with_reducible apply pp_gd) | (with_reducible apply pq_bv) | (with_reducible apply pp_bv) | (with_reducible apply pq_bi) | (with_reducible apply pp_bi) | (with_reducible apply pq_some) | (with_reducible apply pp_some) | (with_reducible apply DQ_si) | (with_reducible apply DQ_sa) | (with_reducible apply DQ_sb) | (with_reducible apply DQ_sl) | decide | (intro _))
theorem dq_Md_readSides_71 (F : Nat) : ∀ (n : Nat) (a0 : zS), DQ a0 → pq (DQ) (Md_readSides_71 F n a0)
  | 0, _, _ => pq_none
  | n + 1, a0, h => dq_Md_readSides_b71 F (Md_readSides_71 F n) a0  (dq_Md_readSides_71 F  n) h
theorem dq_Md_readSides_22 (F : Nat) (σ : zS) (x1 : Int32) (h : DQ σ) : pq (DQ) (Md_readSides_22 F σ x1) := by
  unfold Md_readSides_22
  repeat' (first | assumption | (with_reducible apply dq_Md_want) | (with_reducible apply dq_Md_readType) | (with_reducible apply dq_Md_act) | (with_reducible apply dq_Md_readCon) | (with_reducible apply dq_Md_readSides_71) | (with_reducible apply pq_ite) | (with_reducible apply pp_ite) | (with_reducible apply pq_gd) | (with_reducible apply pp_gd) | (with_reducible apply pq_bv) | (with_reducible apply pp_bv) | (with_reducible apply pq_bi) | (with_reducible apply pp_bi) | (with_reducible apply pq_some) | (with_reducible apply pp_some) | (with_reducible apply DQ_si) | (with_reducible apply DQ_sa) | (with_reducible apply DQ_sb) | (with_reducible apply DQ_sl) | decide | (intro _))
theorem dq_Md_readSides_b0 (F : Nat) (rc0 : zS → Int32 → Option zS) (σ : zS) (x1 : Int32) (hrc0 : ∀ y0 y1, DQ y0 → pq (DQ) (rc0 y0 y1)) (h : DQ σ) : pq (DQ) (Md_readSides_b0 F rc0 σ x1) := by
  unfold Md_readSides_b0
  repeat' (first | assumption | (with_reducible apply hrc0) | (with_reducible apply dq_Md_readParam) | (with_reducible apply dq_Md_readSides_22) | (with_reducible apply pq_ite) | (with_reducible apply pp_ite) | (with_reducible apply pq_gd) | (with_reducible apply pp_gd) | (with_reducible apply pq_bv) | (with_reducible apply pp_bv) | (with_reducible apply pq_bi) | (with_reducible apply pp_bi) | (with_reducible apply pq_some) | (with_reducible apply pp_some) | (with_reducible apply DQ_si) | (with_reducible apply DQ_sa) | (with_reducible apply DQ_sb) | (with_reducible apply DQ_sl) | decide | (intro _))
theorem dq_Md_readSides_0 (F : Nat) : ∀ (n : Nat) (a0 : zS) (a1 : Int32), DQ a0 → pq (DQ) (Md_readSides_0 F n a0 a1)
  | 0, _, _, _ => pq_none
  | n + 1, a0, a1, h => dq_Md_readSides_b0 F (Md_readSides_0 F n) a0 a1  (dq_Md_readSides_0 F  n) h
theorem dq_Md_readSides (F : Nat) (σ : zS) (x1 : Int32) (h : DQ σ) : pq (DQ) (Md_readSides F σ x1) := by
  unfold Md_readSides
  repeat' (first | assumption | (with_reducible apply dq_Md_readSides_0) | (with_reducible apply pq_ite) | (with_reducible apply pp_ite) | (with_reducible apply pq_gd) | (with_reducible apply pp_gd) | (with_reducible apply pq_bv) | (with_reducible apply pp_bv) | (with_reducible apply pq_bi) | (with_reducible apply pp_bi) | (with_reducible apply pq_some) | (with_reducible apply pp_some) | (with_reducible apply DQ_si) | (with_reducible apply DQ_sa) | (with_reducible apply DQ_sb) | (with_reducible apply DQ_sl) | decide | (intro _))
theorem dq_Md_readDecl_216 (F : Nat) (σ : zS) (h : DQ σ) : pq (DQ) (Md_readDecl_216 F σ) := by
  unfold Md_readDecl_216
  repeat' (first | assumption | (with_reducible apply pq_ite) | (with_reducible apply pp_ite) | (with_reducible apply pq_gd) | (with_reducible apply pp_gd) | (with_reducible apply pq_bv) | (with_reducible apply pp_bv) | (with_reducible apply pq_bi) | (with_reducible apply pp_bi) | (with_reducible apply pq_some) | (with_reducible apply pp_some) | (with_reducible apply DQ_si) | (with_reducible apply DQ_sa) | (with_reducible apply DQ_sb) | (with_reducible apply DQ_sl) | decide | (intro _))
theorem dp_Md_wrong_17 (F : Nat) (σ : zS) (h : DP σ) : pq (DP) (Md_wrong_17 F σ) := by
  unfold Md_wrong_17
  repeat' (first | assumption | (with_reducible apply pq_ite) | (with_reducible apply pp_ite) | (with_reducible apply pq_gd) | (with_reducible apply pp_gd) | (with_reducible apply pq_bv) | (with_reducible apply pp_bv) | (with_reducible apply pq_bi) | (with_reducible apply pp_bi) | (with_reducible apply pq_some) | (with_reducible apply pp_some) | (with_reducible apply DP_si) | (with_reducible apply DP_sa) | (with_reducible apply DP_sb) | (with_reducible apply DP_sl) | decide | (intro _))
theorem dp_Md_wrong (F : Nat) (σ : zS) (x1 : Int32) (x2 : Int32) (h : DP σ) : pq (DP) (Md_wrong F σ x1 x2) := by
  unfold Md_wrong
  repeat' (first | assumption | (with_reducible apply dp_Md_wrong_17) | (with_reducible apply pq_ite) | (with_reducible apply pp_ite) | (with_reducible apply pq_gd) | (with_reducible apply pp_gd) | (with_reducible apply pq_bv) | (with_reducible apply pp_bv) | (with_reducible apply pq_bi) | (with_reducible apply pp_bi) | (with_reducible apply pq_some) | (with_reducible apply pp_some) | (with_reducible apply DP_si) | (with_reducible apply DP_sa) | (with_reducible apply DP_sb) | (with_reducible apply DP_sl) | decide | (intro _))
theorem dp_Md_byteAt_18 (F : Nat) (σ : zS) (s0 : Int32) (h : DP σ) : pp (DP) (Md_byteAt_18 F σ s0) := by
  unfold Md_byteAt_18
  repeat' (first | assumption | (with_reducible apply pq_ite) | (with_reducible apply pp_ite) | (with_reducible apply pq_gd) | (with_reducible apply pp_gd) | (with_reducible apply pq_bv) | (with_reducible apply pp_bv) | (with_reducible apply pq_bi) | (with_reducible apply pp_bi) | (with_reducible apply pq_some) | (with_reducible apply pp_some) | (with_reducible apply DP_si) | (with_reducible apply DP_sa) | (with_reducible apply DP_sb) | (with_reducible apply DP_sl) | decide | (intro _))
theorem dp_Md_byteAt (F : Nat) (σ : zS) (x1 : Int32) (h : DP σ) : pp (DP) (Md_byteAt F σ x1) := by
  unfold Md_byteAt
  repeat' (first | assumption | (with_reducible apply dp_Md_byteAt_18) | (with_reducible apply pq_ite) | (with_reducible apply pp_ite) | (with_reducible apply pq_gd) | (with_reducible apply pp_gd) | (with_reducible apply pq_bv) | (with_reducible apply pp_bv) | (with_reducible apply pq_bi) | (with_reducible apply pp_bi) | (with_reducible apply pq_some) | (with_reducible apply pp_some) | (with_reducible apply DP_si) | (with_reducible apply DP_sa) | (with_reducible apply DP_sb) | (with_reducible apply DP_sl) | decide | (intro _))
theorem dp_Md_isUpper_17 (F : Nat) (σ : zS) (s0 : Int32) (h : DP σ) : pp (DP) (Md_isUpper_17 F σ s0) := by
  unfold Md_isUpper_17
  repeat' (first | assumption | (with_reducible apply pq_ite) | (with_reducible apply pp_ite) | (with_reducible apply pq_gd) | (with_reducible apply pp_gd) | (with_reducible apply pq_bv) | (with_reducible apply pp_bv) | (with_reducible apply pq_bi) | (with_reducible apply pp_bi) | (with_reducible apply pq_some) | (with_reducible apply pp_some) | (with_reducible apply DP_si) | (with_reducible apply DP_sa) | (with_reducible apply DP_sb) | (with_reducible apply DP_sl) | decide | (intro _))
theorem dp_Md_isUpper_16 (F : Nat) (σ : zS) (h : DP σ) : pp (DP) (Md_isUpper_16 F σ) := by
  unfold Md_isUpper_16
  repeat' (first | assumption | (with_reducible apply dp_Md_isUpper_17) | (with_reducible apply pq_ite) | (with_reducible apply pp_ite) | (with_reducible apply pq_gd) | (with_reducible apply pp_gd) | (with_reducible apply pq_bv) | (with_reducible apply pp_bv) | (with_reducible apply pq_bi) | (with_reducible apply pp_bi) | (with_reducible apply pq_some) | (with_reducible apply pp_some) | (with_reducible apply DP_si) | (with_reducible apply DP_sa) | (with_reducible apply DP_sb) | (with_reducible apply DP_sl) | decide | (intro _))
theorem dp_Md_isUpper (F : Nat) (σ : zS) (x0 : Int32) (h : DP σ) : pp (DP) (Md_isUpper F σ x0) := by
  unfold Md_isUpper
  repeat' (first | assumption | (with_reducible apply dp_Md_isUpper_16) | (with_reducible apply dp_Md_isUpper_17) | (with_reducible apply pq_ite) | (with_reducible apply pp_ite) | (with_reducible apply pq_gd) | (with_reducible apply pp_gd) | (with_reducible apply pq_bv) | (with_reducible apply pp_bv) | (with_reducible apply pq_bi) | (with_reducible apply pp_bi) | (with_reducible apply pq_some) | (with_reducible apply pp_some) | (with_reducible apply DP_si) | (with_reducible apply DP_sa) | (with_reducible apply DP_sb) | (with_reducible apply DP_sl) | decide | (intro _))
theorem dp_Md_isLower_17 (F : Nat) (σ : zS) (s0 : Int32) (h : DP σ) : pp (DP) (Md_isLower_17 F σ s0) := by
  unfold Md_isLower_17
  repeat' (first | assumption | (with_reducible apply pq_ite) | (with_reducible apply pp_ite) | (with_reducible apply pq_gd) | (with_reducible apply pp_gd) | (with_reducible apply pq_bv) | (with_reducible apply pp_bv) | (with_reducible apply pq_bi) | (with_reducible apply pp_bi) | (with_reducible apply pq_some) | (with_reducible apply pp_some) | (with_reducible apply DP_si) | (with_reducible apply DP_sa) | (with_reducible apply DP_sb) | (with_reducible apply DP_sl) | decide | (intro _))
theorem dp_Md_isLower_16 (F : Nat) (σ : zS) (h : DP σ) : pp (DP) (Md_isLower_16 F σ) := by
  unfold Md_isLower_16
  repeat' (first | assumption | (with_reducible apply dp_Md_isLower_17) | (with_reducible apply pq_ite) | (with_reducible apply pp_ite) | (with_reducible apply pq_gd) | (with_reducible apply pp_gd) | (with_reducible apply pq_bv) | (with_reducible apply pp_bv) | (with_reducible apply pq_bi) | (with_reducible apply pp_bi) | (with_reducible apply pq_some) | (with_reducible apply pp_some) | (with_reducible apply DP_si) | (with_reducible apply DP_sa) | (with_reducible apply DP_sb) | (with_reducible apply DP_sl) | decide | (intro _))
theorem dp_Md_isLower (F : Nat) (σ : zS) (x0 : Int32) (h : DP σ) : pp (DP) (Md_isLower F σ x0) := by
  unfold Md_isLower
  repeat' (first | assumption | (with_reducible apply dp_Md_isLower_16) | (with_reducible apply dp_Md_isLower_17) | (with_reducible apply pq_ite) | (with_reducible apply pp_ite) | (with_reducible apply pq_gd) | (with_reducible apply pp_gd) | (with_reducible apply pq_bv) | (with_reducible apply pp_bv) | (with_reducible apply pq_bi) | (with_reducible apply pp_bi) | (with_reducible apply pq_some) | (with_reducible apply pp_some) | (with_reducible apply DP_si) | (with_reducible apply DP_sa) | (with_reducible apply DP_sb) | (with_reducible apply DP_sl) | decide | (intro _))
theorem dp_Md_isOf_31 (F : Nat) (σ : zS) (s0 : Int32) (h : DP σ) : pp (DP) (Md_isOf_31 F σ s0) := by
  unfold Md_isOf_31
  repeat' (first | assumption | (with_reducible apply pq_ite) | (with_reducible apply pp_ite) | (with_reducible apply pq_gd) | (with_reducible apply pp_gd) | (with_reducible apply pq_bv) | (with_reducible apply pp_bv) | (with_reducible apply pq_bi) | (with_reducible apply pp_bi) | (with_reducible apply pq_some) | (with_reducible apply pp_some) | (with_reducible apply DP_si) | (with_reducible apply DP_sa) | (with_reducible apply DP_sb) | (with_reducible apply DP_sl) | decide | (intro _))
theorem dp_Md_isOf_26 (F : Nat) (σ : zS) (h : DP σ) : pp (DP) (Md_isOf_26 F σ) := by
  unfold Md_isOf_26
  repeat' (first | assumption | (with_reducible apply dp_Md_isOf_31) | (with_reducible apply pq_ite) | (with_reducible apply pp_ite) | (with_reducible apply pq_gd) | (with_reducible apply pp_gd) | (with_reducible apply pq_bv) | (with_reducible apply pp_bv) | (with_reducible apply pq_bi) | (with_reducible apply pp_bi) | (with_reducible apply pq_some) | (with_reducible apply pp_some) | (with_reducible apply DP_si) | (with_reducible apply DP_sa) | (with_reducible apply DP_sb) | (with_reducible apply DP_sl) | decide | (intro _))
theorem dp_Md_isOf_30 (F : Nat) (σ : zS) (h : DP σ) : pp (DP) (Md_isOf_30 F σ) := by
  unfold Md_isOf_30
  repeat' (first | assumption | (with_reducible apply dp_Md_isOf_31) | (with_reducible apply pq_ite) | (with_reducible apply pp_ite) | (with_reducible apply pq_gd) | (with_reducible apply pp_gd) | (with_reducible apply pq_bv) | (with_reducible apply pp_bv) | (with_reducible apply pq_bi) | (with_reducible apply pp_bi) | (with_reducible apply pq_some) | (with_reducible apply pp_some) | (with_reducible apply DP_si) | (with_reducible apply DP_sa) | (with_reducible apply DP_sb) | (with_reducible apply DP_sl) | decide | (intro _))
theorem dp_Md_isOf (F : Nat) (σ : zS) (x0 : Int32) (h : DP σ) : pp (DP) (Md_isOf F σ x0) := by
  unfold Md_isOf
  repeat' (first | assumption | (with_reducible apply dp_Md_isUpper) | (with_reducible apply dp_Md_isLower) | (with_reducible apply dp_Md_isOf_30) | (with_reducible apply dp_Md_isOf_26) | (with_reducible apply pq_ite) | (with_reducible apply pp_ite) | (with_reducible apply pq_gd) | (with_reducible apply pp_gd) | (with_reducible apply pq_bv) | (with_reducible apply pp_bv) | (with_reducible apply pq_bi) | (with_reducible apply pp_bi) | (with_reducible apply pq_some) | (with_reducible apply pp_some) | (with_reducible apply DP_si) | (with_reducible apply DP_sa) | (with_reducible apply DP_sb) | (with_reducible apply DP_sl) | decide | (intro _))
theorem dp_Md_name_172 (F : Nat) (σ : zS) (h : DP σ) : pq (DP) (Md_name_172 F σ) := by
  unfold Md_name_172
  repeat' (first | assumption | (with_reducible apply pq_ite) | (with_reducible apply pp_ite) | (with_reducible apply pq_gd) | (with_reducible apply pp_gd) | (with_reducible apply pq_bv) | (with_reducible apply pp_bv) | (with_reducible apply pq_bi) | (with_reducible apply pp_bi) | (with_reducible apply pq_some) | (with_reducible apply pp_some) | (with_reducible apply DP_si) | (with_reducible apply DP_sa) | (with_reducible apply DP_sb) | (with_reducible apply DP_sl) | decide | (intro _))
theorem dp_Md_name_149 (F : Nat) (σ : zS) (x2 : Int32) (s1 : Int32) (h : DP σ) : pq (DP) (Md_name_149 F σ x2 s1) := by
  unfold Md_name_149
  repeat' (first | assumption | (with_reducible apply dp_Md_name_172) | (with_reducible apply dp_Md_wrong) | (with_reducible apply pq_ite) | (with_reducible apply pp_ite) | (with_reducible apply pq_gd) | (with_reducible apply pp_gd) | (with_reducible apply pq_bv) | (with_reducible apply pp_bv) | (with_reducible apply pq_bi) | (with_reducible apply pp_bi) | (with_reducible apply pq_some) | (with_reducible apply pp_some) | (with_reducible apply DP_si) | (with_reducible apply DP_sa) | (with_reducible apply DP_sb) | (with_reducible apply DP_sl) | decide | (intro _))
theorem dp_Md_name_148 (F : Nat) (σ : zS) (x2 : Int32) (h : DP σ) : pq (DP) (Md_name_148 F σ x2) := by
  unfold Md_name_148
  repeat' (first | assumption | (with_reducible apply dp_Md_name_149) | (with_reducible apply pq_ite) | (with_reducible apply pp_ite) | (with_reducible apply pq_gd) | (with_reducible apply pp_gd) | (with_reducible apply pq_bv) | (with_reducible apply pp_bv) | (with_reducible apply pq_bi) | (with_reducible apply pp_bi) | (with_reducible apply pq_some) | (with_reducible apply pp_some) | (with_reducible apply DP_si) | (with_reducible apply DP_sa) | (with_reducible apply DP_sb) | (with_reducible apply DP_sl) | decide | (intro _))
theorem dp_Md_name_144 (F : Nat) (σ : zS) (x2 : Int32) (h : DP σ) : pq (DP) (Md_name_144 F σ x2) := by
  unfold Md_name_144
  repeat' (first | assumption | (with_reducible apply dp_Md_name_149) | (with_reducible apply pq_ite) | (with_reducible apply pp_ite) | (with_reducible apply pq_gd) | (with_reducible apply pp_gd) | (with_reducible apply pq_bv) | (with_reducible apply pp_bv) | (with_reducible apply pq_bi) | (with_reducible apply pp_bi) | (with_reducible apply pq_some) | (with_reducible apply pp_some) | (with_reducible apply DP_si) | (with_reducible apply DP_sa) | (with_reducible apply DP_sb) | (with_reducible apply DP_sl) | decide | (intro _))
theorem dp_Md_name_128 (F : Nat) (σ : zS) (x2 : Int32) (h : DP σ) : pq (DP) (Md_name_128 F σ x2) := by
  unfold Md_name_128
  repeat' (first | assumption | (with_reducible apply dp_Md_name_144) | (with_reducible apply dp_Md_name_148) | (with_reducible apply pq_ite) | (with_reducible apply pp_ite) | (with_reducible apply pq_gd) | (with_reducible apply pp_gd) | (with_reducible apply pq_bv) | (with_reducible apply pp_bv) | (with_reducible apply pq_bi) | (with_reducible apply pp_bi) | (with_reducible apply pq_some) | (with_reducible apply pp_some) | (with_reducible apply DP_si) | (with_reducible apply DP_sa) | (with_reducible apply DP_sb) | (with_reducible apply DP_sl) | decide | (intro _))
theorem dp_Md_name_112 (F : Nat) (σ : zS) (x2 : Int32) (h : DP σ) : pq (DP) (Md_name_112 F σ x2) := by
  unfold Md_name_112
  repeat' (first | assumption | (with_reducible apply dp_Md_name_144) | (with_reducible apply dp_Md_name_128) | (with_reducible apply pq_ite) | (with_reducible apply pp_ite) | (with_reducible apply pq_gd) | (with_reducible apply pp_gd) | (with_reducible apply pq_bv) | (with_reducible apply pp_bv) | (with_reducible apply pq_bi) | (with_reducible apply pp_bi) | (with_reducible apply pq_some) | (with_reducible apply pp_some) | (with_reducible apply DP_si) | (with_reducible apply DP_sa) | (with_reducible apply DP_sb) | (with_reducible apply DP_sl) | decide | (intro _))
theorem dp_Md_name_96 (F : Nat) (σ : zS) (x2 : Int32) (h : DP σ) : pq (DP) (Md_name_96 F σ x2) := by
  unfold Md_name_96
  repeat' (first | assumption | (with_reducible apply dp_Md_name_144) | (with_reducible apply dp_Md_name_112) | (with_reducible apply pq_ite) | (with_reducible apply pp_ite) | (with_reducible apply pq_gd) | (with_reducible apply pp_gd) | (with_reducible apply pq_bv) | (with_reducible apply pp_bv) | (with_reducible apply pq_bi) | (with_reducible apply pp_bi) | (with_reducible apply pq_some) | (with_reducible apply pp_some) | (with_reducible apply DP_si) | (with_reducible apply DP_sa) | (with_reducible apply DP_sb) | (with_reducible apply DP_sl) | decide | (intro _))
theorem dp_Md_name_52 (F : Nat) (rc7 : zS → Int32 → Int32 → Option zS) (σ : zS) (x1 : Int32) (x2 : Int32) (s1 : Int64) (hrc7 : ∀ y0 y1 y2, DP y0 → pq (DP) (rc7 y0 y1 y2)) (h : DP σ) : pq (DP) (Md_name_52 F rc7 σ x1 x2 s1) := by
  unfold Md_name_52
  repeat' (first | assumption | (with_reducible apply hrc7) | (with_reducible apply pq_ite) | (with_reducible apply pp_ite) | (with_reducible apply pq_gd) | (with_reducible apply pp_gd) | (with_reducible apply pq_bv) | (with_reducible apply pp_bv) | (with_reducible apply pq_bi) | (with_reducible apply pp_bi) | (with_reducible apply pq_some) | (with_reducible apply pp_some) | (with_reducible apply DP_si) | (with_reducible apply DP_sa) | (with_reducible apply DP_sb) | (with_reducible apply DP_sl) | decide | (intro _))
theorem dp_Md_name_b7 (F : Nat) (rc7 : zS → Int32 → Int32 → Option zS) (σ : zS) (x1 : Int32) (x2 : Int32) (hrc7 : ∀ y0 y1 y2, DP y0 → pq (DP) (rc7 y0 y1 y2)) (h : DP σ) : pq (DP) (Md_name_b7 F rc7 σ x1 x2) := by
  unfold Md_name_b7
  repeat' (first | assumption | (with_reducible apply hrc7) | (with_reducible apply dp_Md_byteAt) | (with_reducible apply dp_Md_isOf) | (with_reducible apply dp_Md_name_144) | (with_reducible apply dp_Md_name_96) | (with_reducible apply dp_Md_name_149) | (with_reducible apply dp_Md_name_52) | (with_reducible apply pq_ite) | (with_reducible apply pp_ite) | (with_reducible apply pq_gd) | (with_reducible apply pp_gd) | (with_reducible apply pq_bv) | (with_reducible apply pp_bv) | (with_reducible apply pq_bi) | (with_reducible apply pp_bi) | (with_reducible apply pq_some) | (with_reducible apply pp_some) | (with_reducible apply DP_si) | (with_reducible apply DP_sa) | (with_reducible apply DP_sb) | (with_reducible apply DP_sl) | decide | (intro _))
theorem dp_Md_name_7 (F : Nat) : ∀ (n : Nat) (a0 : zS) (a1 : Int32) (a2 : Int32), DP a0 → pq (DP) (Md_name_7 F n a0 a1 a2)
  | 0, _, _, _, _ => pq_none
  | n + 1, a0, a1, a2, h => dp_Md_name_b7 F (Md_name_7 F n) a0 a1 a2  (dp_Md_name_7 F  n) h
theorem dp_Md_name (F : Nat) (σ : zS) (x1 : Int32) (h : DP σ) : pq (DP) (Md_name F σ x1) := by
  unfold Md_name
  repeat' (first | assumption | (with_reducible apply dp_Md_name_7) | (with_reducible apply pq_ite) | (with_reducible apply pp_ite) | (with_reducible apply pq_gd) | (with_reducible apply pp_gd) | (with_reducible apply pq_bv) | (with_reducible apply pp_bv) | (with_reducible apply pq_bi) | (with_reducible apply pp_bi) | (with_reducible apply pq_some) | (with_reducible apply pp_some) | (with_reducible apply DP_si) | (with_reducible apply DP_sa) | (with_reducible apply DP_sb) | (with_reducible apply DP_sl) | decide | (intro _))
theorem dp_Md_next_26 (F : Nat) (rc0 : zS → Option zS) (σ : zS) (hrc0 : ∀ y0, DP y0 → pq (DP) (rc0 y0)) (h : DP σ) : pq (DP) (Md_next_26 F rc0 σ) := by
  unfold Md_next_26
  repeat' (first | assumption | (with_reducible apply hrc0) | (with_reducible apply pq_ite) | (with_reducible apply pp_ite) | (with_reducible apply pq_gd) | (with_reducible apply pp_gd) | (with_reducible apply pq_bv) | (with_reducible apply pp_bv) | (with_reducible apply pq_bi) | (with_reducible apply pp_bi) | (with_reducible apply pq_some) | (with_reducible apply pp_some) | (with_reducible apply DP_si) | (with_reducible apply DP_sa) | (with_reducible apply DP_sb) | (with_reducible apply DP_sl) | decide | (intro _))
theorem dp_Md_next_67 (F : Nat) (σ : zS) (h : DP σ) : pq (DP) (Md_next_67 F σ) := by
  unfold Md_next_67
  repeat' (first | assumption | (with_reducible apply pq_ite) | (with_reducible apply pp_ite) | (with_reducible apply pq_gd) | (with_reducible apply pp_gd) | (with_reducible apply pq_bv) | (with_reducible apply pp_bv) | (with_reducible apply pq_bi) | (with_reducible apply pp_bi) | (with_reducible apply pq_some) | (with_reducible apply pp_some) | (with_reducible apply DP_si) | (with_reducible apply DP_sa) | (with_reducible apply DP_sb) | (with_reducible apply DP_sl) | decide | (intro _))
theorem dp_Md_next_87 (F : Nat) (σ : zS) (x1 : Int32) (h : DP σ) : pq (DP) (Md_next_87 F σ x1) := by
  unfold Md_next_87
  repeat' (first | assumption | (with_reducible apply dp_Md_isUpper) | (with_reducible apply dp_Md_name) | (with_reducible apply pq_ite) | (with_reducible apply pp_ite) | (with_reducible apply pq_gd) | (with_reducible apply pp_gd) | (with_reducible apply pq_bv) | (with_reducible apply pp_bv) | (with_reducible apply pq_bi) | (with_reducible apply pp_bi) | (with_reducible apply pq_some) | (with_reducible apply pp_some) | (with_reducible apply DP_si) | (with_reducible apply DP_sa) | (with_reducible apply DP_sb) | (with_reducible apply DP_sl) | decide | (intro _))
theorem dp_Md_next_271 (F : Nat) (σ : zS) (h : DP σ) : pq (DP) (Md_next_271 F σ) := by
  unfold Md_next_271
  repeat' (first | assumption | (with_reducible apply pq_ite) | (with_reducible apply pp_ite) | (with_reducible apply pq_gd) | (with_reducible apply pp_gd) | (with_reducible apply pq_bv) | (with_reducible apply pp_bv) | (with_reducible apply pq_bi) | (with_reducible apply pp_bi) | (with_reducible apply pq_some) | (with_reducible apply pp_some) | (with_reducible apply DP_si) | (with_reducible apply DP_sa) | (with_reducible apply DP_sb) | (with_reducible apply DP_sl) | decide | (intro _))
theorem dp_Md_next_237 (F : Nat) (σ : zS) (x1 : Int32) (s0 : Int32) (h : DP σ) : pq (DP) (Md_next_237 F σ x1 s0) := by
  unfold Md_next_237
  repeat' (first | assumption | (with_reducible apply dp_Md_wrong) | (with_reducible apply dp_Md_next_271) | (with_reducible apply pq_ite) | (with_reducible apply pp_ite) | (with_reducible apply pq_gd) | (with_reducible apply pp_gd) | (with_reducible apply pq_bv) | (with_reducible apply pp_bv) | (with_reducible apply pq_bi) | (with_reducible apply pp_bi) | (with_reducible apply pq_some) | (with_reducible apply pp_some) | (with_reducible apply DP_si) | (with_reducible apply DP_sa) | (with_reducible apply DP_sb) | (with_reducible apply DP_sl) | decide | (intro _))
theorem dp_Md_next_232 (F : Nat) (σ : zS) (x1 : Int32) (h : DP σ) : pq (DP) (Md_next_232 F σ x1) := by
  unfold Md_next_232
  repeat' (first | assumption | (with_reducible apply dp_Md_next_237) | (with_reducible apply pq_ite) | (with_reducible apply pp_ite) | (with_reducible apply pq_gd) | (with_reducible apply pp_gd) | (with_reducible apply pq_bv) | (with_reducible apply pp_bv) | (with_reducible apply pq_bi) | (with_reducible apply pp_bi) | (with_reducible apply pq_some) | (with_reducible apply pp_some) | (with_reducible apply DP_si) | (with_reducible apply DP_sa) | (with_reducible apply DP_sb) | (with_reducible apply DP_sl) | decide | (intro _))
theorem dp_Md_next_166 (F : Nat) (σ : zS) (x1 : Int32) (h : DP σ) : pq (DP) (Md_next_166 F σ x1) := by
  unfold Md_next_166
  repeat' (first | assumption | (with_reducible apply dp_Md_next_232) | (with_reducible apply dp_Md_next_237) | (with_reducible apply pq_ite) | (with_reducible apply pp_ite) | (with_reducible apply pq_gd) | (with_reducible apply pp_gd) | (with_reducible apply pq_bv) | (with_reducible apply pp_bv) | (with_reducible apply pq_bi) | (with_reducible apply pp_bi) | (with_reducible apply pq_some) | (with_reducible apply pp_some) | (with_reducible apply DP_si) | (with_reducible apply DP_sa) | (with_reducible apply DP_sb) | (with_reducible apply DP_sl) | decide | (intro _))
theorem dp_Md_next_152 (F : Nat) (σ : zS) (s1 : Int32) (h : DP σ) : pq (DP) (Md_next_152 F σ s1) := by
  unfold Md_next_152
  repeat' (first | assumption | (with_reducible apply pq_ite) | (with_reducible apply pp_ite) | (with_reducible apply pq_gd) | (with_reducible apply pp_gd) | (with_reducible apply pq_bv) | (with_reducible apply pp_bv) | (with_reducible apply pq_bi) | (with_reducible apply pp_bi) | (with_reducible apply pq_some) | (with_reducible apply pp_some) | (with_reducible apply DP_si) | (with_reducible apply DP_sa) | (with_reducible apply DP_sb) | (with_reducible apply DP_sl) | decide | (intro _))
theorem dp_Md_next_136 (F : Nat) (σ : zS) (x1 : Int32) (h : DP σ) : pq (DP) (Md_next_136 F σ x1) := by
  unfold Md_next_136
  repeat' (first | assumption | (with_reducible apply dp_Md_next_152) | (with_reducible apply pq_ite) | (with_reducible apply pp_ite) | (with_reducible apply pq_gd) | (with_reducible apply pp_gd) | (with_reducible apply pq_bv) | (with_reducible apply pp_bv) | (with_reducible apply pq_bi) | (with_reducible apply pp_bi) | (with_reducible apply pq_some) | (with_reducible apply pp_some) | (with_reducible apply DP_si) | (with_reducible apply DP_sa) | (with_reducible apply DP_sb) | (with_reducible apply DP_sl) | decide | (intro _))
theorem dp_Md_next_124 (F : Nat) (σ : zS) (x1 : Int32) (x2 : Int32) (h : DP σ) : pq (DP) (Md_next_124 F σ x1 x2) := by
  unfold Md_next_124
  repeat' (first | assumption | (with_reducible apply dp_Md_next_136) | (with_reducible apply dp_Md_next_166) | (with_reducible apply pq_ite) | (with_reducible apply pp_ite) | (with_reducible apply pq_gd) | (with_reducible apply pp_gd) | (with_reducible apply pq_bv) | (with_reducible apply pp_bv) | (with_reducible apply pq_bi) | (with_reducible apply pp_bi) | (with_reducible apply pq_some) | (with_reducible apply pp_some) | (with_reducible apply DP_si) | (with_reducible apply DP_sa) | (with_reducible apply DP_sb) | (with_reducible apply DP_sl) | decide | (intro _))
theorem dp_Md_next_b0 (F : Nat) (rc0 : zS → Option zS) (σ : zS) (hrc0 : ∀ y0, DP y0 → pq (DP) (rc0 y0)) (h : DP σ) : pq (DP) (Md_next_b0 F rc0 σ) := by
  unfold Md_next_b0
  repeat' (first | assumption | (with_reducible apply hrc0) | (with_reducible apply dp_Md_byteAt) | (with_reducible apply dp_Md_next_26) | (with_reducible apply dp_Md_next_67) | (with_reducible apply dp_Md_isUpper) | (with_reducible apply dp_Md_isLower) | (with_reducible apply dp_Md_next_136) | (with_reducible apply dp_Md_next_124) | (with_reducible apply dp_Md_next_87) | (with_reducible apply pq_ite) | (with_reducible apply pp_ite) | (with_reducible apply pq_gd) | (with_reducible apply pp_gd) | (with_reducible apply pq_bv) | (with_reducible apply pp_bv) | (with_reducible apply pq_bi) | (with_reducible apply pp_bi) | (with_reducible apply pq_some) | (with_reducible apply pp_some) | (with_reducible apply DP_si) | (with_reducible apply DP_sa) | (with_reducible apply DP_sb) | (with_reducible apply DP_sl) | decide | (intro _))
theorem dp_Md_next_0 (F : Nat) : ∀ (n : Nat) (a0 : zS), DP a0 → pq (DP) (Md_next_0 F n a0)
  | 0, _, _ => pq_none
  | n + 1, a0, h => dp_Md_next_b0 F (Md_next_0 F n) a0  (dp_Md_next_0 F  n) h
theorem dp_Md_next (F : Nat) (σ : zS) (h : DP σ) : pq (DP) (Md_next F σ) := by
  unfold Md_next
  repeat' (first | assumption | (with_reducible apply dp_Md_next_0) | (with_reducible apply pq_ite) | (with_reducible apply pp_ite) | (with_reducible apply pq_gd) | (with_reducible apply pp_gd) | (with_reducible apply pq_bv) | (with_reducible apply pp_bv) | (with_reducible apply pq_bi) | (with_reducible apply pp_bi) | (with_reducible apply pq_some) | (with_reducible apply pp_some) | (with_reducible apply DP_si) | (with_reducible apply DP_sa) | (with_reducible apply DP_sb) | (with_reducible apply DP_sl) | decide | (intro _))
theorem dp_Md_isSign_28 (F : Nat) (σ : zS) (s0 : Int32) (h : DP σ) : pp (DP) (Md_isSign_28 F σ s0) := by
  unfold Md_isSign_28
  repeat' (first | assumption | (with_reducible apply pq_ite) | (with_reducible apply pp_ite) | (with_reducible apply pq_gd) | (with_reducible apply pp_gd) | (with_reducible apply pq_bv) | (with_reducible apply pp_bv) | (with_reducible apply pq_bi) | (with_reducible apply pp_bi) | (with_reducible apply pq_some) | (with_reducible apply pp_some) | (with_reducible apply DP_si) | (with_reducible apply DP_sa) | (with_reducible apply DP_sb) | (with_reducible apply DP_sl) | decide | (intro _))
theorem dp_Md_isSign_27 (F : Nat) (σ : zS) (h : DP σ) : pp (DP) (Md_isSign_27 F σ) := by
  unfold Md_isSign_27
  repeat' (first | assumption | (with_reducible apply dp_Md_isSign_28) | (with_reducible apply pq_ite) | (with_reducible apply pp_ite) | (with_reducible apply pq_gd) | (with_reducible apply pp_gd) | (with_reducible apply pq_bv) | (with_reducible apply pp_bv) | (with_reducible apply pq_bi) | (with_reducible apply pp_bi) | (with_reducible apply pq_some) | (with_reducible apply pp_some) | (with_reducible apply DP_si) | (with_reducible apply DP_sa) | (with_reducible apply DP_sb) | (with_reducible apply DP_sl) | decide | (intro _))
theorem dp_Md_isSign (F : Nat) (σ : zS) (x1 : Int32) (h : DP σ) : pp (DP) (Md_isSign F σ x1) := by
  unfold Md_isSign
  repeat' (first | assumption | (with_reducible apply dp_Md_isSign_28) | (with_reducible apply dp_Md_isSign_27) | (with_reducible apply pq_ite) | (with_reducible apply pp_ite) | (with_reducible apply pq_gd) | (with_reducible apply pp_gd) | (with_reducible apply pq_bv) | (with_reducible apply pp_bv) | (with_reducible apply pq_bi) | (with_reducible apply pp_bi) | (with_reducible apply pq_some) | (with_reducible apply pp_some) | (with_reducible apply DP_si) | (with_reducible apply DP_sa) | (with_reducible apply DP_sb) | (with_reducible apply DP_sl) | decide | (intro _))
theorem dp_Md_cannot (F : Nat) (σ : zS) (h : DP σ) : pq (DP) (Md_cannot F σ) := by
  unfold Md_cannot
  repeat' (first | assumption | (with_reducible apply dp_Md_wrong) | (with_reducible apply pq_ite) | (with_reducible apply pp_ite) | (with_reducible apply pq_gd) | (with_reducible apply pp_gd) | (with_reducible apply pq_bv) | (with_reducible apply pp_bv) | (with_reducible apply pq_bi) | (with_reducible apply pp_bi) | (with_reducible apply pq_some) | (with_reducible apply pp_some) | (with_reducible apply DP_si) | (with_reducible apply DP_sa) | (with_reducible apply DP_sb) | (with_reducible apply DP_sl) | decide | (intro _))
theorem dp_Md_want_19 (F : Nat) (σ : zS) (h : DP σ) : pq (DP) (Md_want_19 F σ) := by
  unfold Md_want_19
  repeat' (first | assumption | (with_reducible apply pq_ite) | (with_reducible apply pp_ite) | (with_reducible apply pq_gd) | (with_reducible apply pp_gd) | (with_reducible apply pq_bv) | (with_reducible apply pp_bv) | (with_reducible apply pq_bi) | (with_reducible apply pp_bi) | (with_reducible apply pq_some) | (with_reducible apply pp_some) | (with_reducible apply DP_si) | (with_reducible apply DP_sa) | (with_reducible apply DP_sb) | (with_reducible apply DP_sl) | decide | (intro _))
theorem dp_Md_want (F : Nat) (σ : zS) (x1 : Int32) (h : DP σ) : pq (DP) (Md_want F σ x1) := by
  unfold Md_want
  repeat' (first | assumption | (with_reducible apply dp_Md_isSign) | (with_reducible apply dp_Md_cannot) | (with_reducible apply dp_Md_want_19) | (with_reducible apply dp_Md_next) | (with_reducible apply pq_ite) | (with_reducible apply pp_ite) | (with_reducible apply pq_gd) | (with_reducible apply pp_gd) | (with_reducible apply pq_bv) | (with_reducible apply pp_bv) | (with_reducible apply pq_bi) | (with_reducible apply pp_bi) | (with_reducible apply pq_some) | (with_reducible apply pp_some) | (with_reducible apply DP_si) | (with_reducible apply DP_sa) | (with_reducible apply DP_sb) | (with_reducible apply DP_sl) | decide | (intro _))
theorem dp_Md_tell (F : Nat) (σ : zS) (x1 : Int32) (x2 : Int32) (h : DP σ) : pq DP (Md_tell F σ x1 x2) := by
  obtain ⟨D, M, a1, a2, a3, a4, a5⟩ := h
  intro τ' e
  rw [Md_tell, a2] at e
  obtain ⟨e1, e2⟩ := gd_s e
  have hM := inb_lt (by omega) e1
  rw [nI_clamp (by omega)] at e2
  cases e2
  refine ⟨D, M + 1, by simp [zs, a1], by simp [zs, nI_1], a3, by omega, fun i hi => ?_⟩
  obtain ⟨q, q1, q2, q3⟩ := a5 i hi
  refine ⟨q, q1, by simp [zs, q2], fun j hj => ?_⟩
  obtain ⟨m, m1, m2, m3, m4, m5⟩ := q3 j hj
  refine ⟨m, by omega, by simp [zs, up_at, show ¬ m = M by omega, m2], by simp [zs, up_at, show ¬ m = M by omega, m3], by simp [zs, upL_at, show ¬ m = M by omega, m4], fun j' hj' => ?_⟩
  obtain ⟨m', n1, n2, n3, n4⟩ := m5 j' hj'
  exact ⟨m', n1, by simp [zs, up_at, show ¬ m' = M by omega, n2], by simp [zs, up_at, show ¬ m' = M by omega, n3], by simp [zs, upL_at, show ¬ m' = M by omega, n4]⟩
theorem dp_Md_deeper_28 (F : Nat) (σ : zS) (h : DP σ) : pq (DP) (Md_deeper_28 F σ) := by
  unfold Md_deeper_28
  repeat' (first | assumption | (with_reducible apply pq_ite) | (with_reducible apply pp_ite) | (with_reducible apply pq_gd) | (with_reducible apply pp_gd) | (with_reducible apply pq_bv) | (with_reducible apply pp_bv) | (with_reducible apply pq_bi) | (with_reducible apply pp_bi) | (with_reducible apply pq_some) | (with_reducible apply pp_some) | (with_reducible apply DP_si) | (with_reducible apply DP_sa) | (with_reducible apply DP_sb) | (with_reducible apply DP_sl) | decide | (intro _))
theorem dp_Md_deeper (F : Nat) (σ : zS) (h : DP σ) : pq (DP) (Md_deeper F σ) := by
  unfold Md_deeper
  repeat' (first | assumption | (with_reducible apply dp_Md_deeper_28) | (with_reducible apply dp_Md_wrong) | (with_reducible apply pq_ite) | (with_reducible apply pp_ite) | (with_reducible apply pq_gd) | (with_reducible apply pp_gd) | (with_reducible apply pq_bv) | (with_reducible apply pp_bv) | (with_reducible apply pq_bi) | (with_reducible apply pp_bi) | (with_reducible apply pq_some) | (with_reducible apply pp_some) | (with_reducible apply DP_si) | (with_reducible apply DP_sa) | (with_reducible apply DP_sb) | (with_reducible apply DP_sl) | decide | (intro _))
theorem dp_Md_newKind (F : Nat) (σ : zS) (x1 : Int32) (x2 : Int32) (x3 : Int32) (h : DP σ) : pp (DP) (Md_newKind F σ x1 x2 x3) := by
  unfold Md_newKind
  repeat' (first | assumption | (with_reducible apply pq_ite) | (with_reducible apply pp_ite) | (with_reducible apply pq_gd) | (with_reducible apply pp_gd) | (with_reducible apply pq_bv) | (with_reducible apply pp_bv) | (with_reducible apply pq_bi) | (with_reducible apply pp_bi) | (with_reducible apply pq_some) | (with_reducible apply pp_some) | (with_reducible apply DP_si) | (with_reducible apply DP_sa) | (with_reducible apply DP_sb) | (with_reducible apply DP_sl) | decide | (intro _))
theorem dp_Md_addPart_86 (F : Nat) (σ : zS) (x3 : Int32) (h : DP σ) : pq (DP) (Md_addPart_86 F σ x3) := by
  unfold Md_addPart_86
  repeat' (first | assumption | (with_reducible apply pq_ite) | (with_reducible apply pp_ite) | (with_reducible apply pq_gd) | (with_reducible apply pp_gd) | (with_reducible apply pq_bv) | (with_reducible apply pp_bv) | (with_reducible apply pq_bi) | (with_reducible apply pp_bi) | (with_reducible apply pq_some) | (with_reducible apply pp_some) | (with_reducible apply DP_si) | (with_reducible apply DP_sa) | (with_reducible apply DP_sb) | (with_reducible apply DP_sl) | decide | (intro _))
theorem dp_Md_addPart_57 (F : Nat) (σ : zS) (x1 : Int32) (x2 : Int32) (s1 : Int32) (s2 : Int32) (h : DP σ) : pq (DP) (Md_addPart_57 F σ x1 x2 s1 s2) := by
  unfold Md_addPart_57
  repeat' (first | assumption | (with_reducible apply dp_Md_newKind) | (with_reducible apply dp_Md_addPart_86) | (with_reducible apply pq_ite) | (with_reducible apply pp_ite) | (with_reducible apply pq_gd) | (with_reducible apply pp_gd) | (with_reducible apply pq_bv) | (with_reducible apply pp_bv) | (with_reducible apply pq_bi) | (with_reducible apply pp_bi) | (with_reducible apply pq_some) | (with_reducible apply pp_some) | (with_reducible apply DP_si) | (with_reducible apply DP_sa) | (with_reducible apply DP_sb) | (with_reducible apply DP_sl) | decide | (intro _))
theorem dp_Md_addPart (F : Nat) (σ : zS) (x1 : Int32) (h : DP σ) : pq (DP) (Md_addPart F σ x1) := by
  unfold Md_addPart
  repeat' (first | assumption | (with_reducible apply dp_Md_addPart_57) | (with_reducible apply pq_ite) | (with_reducible apply pp_ite) | (with_reducible apply pq_gd) | (with_reducible apply pp_gd) | (with_reducible apply pq_bv) | (with_reducible apply pp_bv) | (with_reducible apply pq_bi) | (with_reducible apply pp_bi) | (with_reducible apply pq_some) | (with_reducible apply pp_some) | (with_reducible apply DP_si) | (with_reducible apply DP_sa) | (with_reducible apply DP_sb) | (with_reducible apply DP_sl) | decide | (intro _))
theorem dp_Md_openKind (F : Nat) (σ : zS) (h : DP σ) : pq (DP) (Md_openKind F σ) := by
  unfold Md_openKind
  repeat' (first | assumption | (with_reducible apply pq_ite) | (with_reducible apply pp_ite) | (with_reducible apply pq_gd) | (with_reducible apply pp_gd) | (with_reducible apply pq_bv) | (with_reducible apply pp_bv) | (with_reducible apply pq_bi) | (with_reducible apply pp_bi) | (with_reducible apply pq_some) | (with_reducible apply pp_some) | (with_reducible apply DP_si) | (with_reducible apply DP_sa) | (with_reducible apply DP_sb) | (with_reducible apply DP_sl) | decide | (intro _))
theorem dp_Md_readKind_76 (F : Nat) (rc11 : zS → Int32 → Option (Int32 × zS)) (σ : zS) (x1 : Int32) (hrc11 : ∀ y0 y1, DP y0 → pp (DP) (rc11 y0 y1)) (h : DP σ) : pp (DP) (Md_readKind_76 F rc11 σ x1) := by
  unfold Md_readKind_76
  repeat' (first | assumption | (with_reducible apply hrc11) | (with_reducible apply dp_Md_isSign) | (with_reducible apply dp_Md_want) | (with_reducible apply dp_Md_addPart) | (with_reducible apply dp_Md_next) | (with_reducible apply dp_Md_cannot) | (with_reducible apply pq_ite) | (with_reducible apply pp_ite) | (with_reducible apply pq_gd) | (with_reducible apply pp_gd) | (with_reducible apply pq_bv) | (with_reducible apply pp_bv) | (with_reducible apply pq_bi) | (with_reducible apply pp_bi) | (with_reducible apply pq_some) | (with_reducible apply pp_some) | (with_reducible apply DP_si) | (with_reducible apply DP_sa) | (with_reducible apply DP_sb) | (with_reducible apply DP_sl) | decide | (intro _))
theorem dp_Md_readKind_48 (F : Nat) (rc11 : zS → Int32 → Option (Int32 × zS)) (σ : zS) (x1 : Int32) (hrc11 : ∀ y0 y1, DP y0 → pp (DP) (rc11 y0 y1)) (h : DP σ) : pp (DP) (Md_readKind_48 F rc11 σ x1) := by
  unfold Md_readKind_48
  repeat' (first | assumption | (with_reducible apply hrc11) | (with_reducible apply dp_Md_readKind_76) | (with_reducible apply dp_Md_isSign) | (with_reducible apply dp_Md_deeper) | (with_reducible apply dp_Md_next) | (with_reducible apply dp_Md_openKind) | (with_reducible apply pq_ite) | (with_reducible apply pp_ite) | (with_reducible apply pq_gd) | (with_reducible apply pp_gd) | (with_reducible apply pq_bv) | (with_reducible apply pp_bv) | (with_reducible apply pq_bi) | (with_reducible apply pp_bi) | (with_reducible apply pq_some) | (with_reducible apply pp_some) | (with_reducible apply DP_si) | (with_reducible apply DP_sa) | (with_reducible apply DP_sb) | (with_reducible apply DP_sl) | decide | (intro _))
theorem dp_Md_readKind_b11 (F : Nat) (rc11 : zS → Int32 → Option (Int32 × zS)) (σ : zS) (x1 : Int32) (hrc11 : ∀ y0 y1, DP y0 → pp (DP) (rc11 y0 y1)) (h : DP σ) : pp (DP) (Md_readKind_b11 F rc11 σ x1) := by
  unfold Md_readKind_b11
  repeat' (first | assumption | (with_reducible apply hrc11) | (with_reducible apply dp_Md_readKind_48) | (with_reducible apply dp_Md_isSign) | (with_reducible apply dp_Md_addPart) | (with_reducible apply dp_Md_next) | (with_reducible apply pq_ite) | (with_reducible apply pp_ite) | (with_reducible apply pq_gd) | (with_reducible apply pp_gd) | (with_reducible apply pq_bv) | (with_reducible apply pp_bv) | (with_reducible apply pq_bi) | (with_reducible apply pp_bi) | (with_reducible apply pq_some) | (with_reducible apply pp_some) | (with_reducible apply DP_si) | (with_reducible apply DP_sa) | (with_reducible apply DP_sb) | (with_reducible apply DP_sl) | decide | (intro _))
theorem dp_Md_readKind_11 (F : Nat) : ∀ (n : Nat) (a0 : zS) (a1 : Int32), DP a0 → pp (DP) (Md_readKind_11 F n a0 a1)
  | 0, _, _, _ => pp_none
  | n + 1, a0, a1, h => dp_Md_readKind_b11 F (Md_readKind_11 F n) a0 a1  (dp_Md_readKind_11 F  n) h
theorem dp_Md_readKind (F : Nat) (σ : zS) (h : DP σ) : pp (DP) (Md_readKind F σ) := by
  unfold Md_readKind
  repeat' (first | assumption | (with_reducible apply dp_Md_openKind) | (with_reducible apply dp_Md_readKind_11) | (with_reducible apply pq_ite) | (with_reducible apply pp_ite) | (with_reducible apply pq_gd) | (with_reducible apply pp_gd) | (with_reducible apply pq_bv) | (with_reducible apply pp_bv) | (with_reducible apply pq_bi) | (with_reducible apply pp_bi) | (with_reducible apply pq_some) | (with_reducible apply pp_some) | (with_reducible apply DP_si) | (with_reducible apply DP_sa) | (with_reducible apply DP_sb) | (with_reducible apply DP_sl) | decide | (intro _))
theorem dp_Md_begin (F : Nat) (σ : zS) (h : DP σ) : pq (DP) (Md_begin F σ) := by
  unfold Md_begin
  repeat' (first | assumption | (with_reducible apply dp_Md_next) | (with_reducible apply pq_ite) | (with_reducible apply pp_ite) | (with_reducible apply pq_gd) | (with_reducible apply pp_gd) | (with_reducible apply pq_bv) | (with_reducible apply pp_bv) | (with_reducible apply pq_bi) | (with_reducible apply pp_bi) | (with_reducible apply pq_some) | (with_reducible apply pp_some) | (with_reducible apply DP_si) | (with_reducible apply DP_sa) | (with_reducible apply DP_sb) | (with_reducible apply DP_sl) | decide | (intro _))
theorem dp_Md_wantName_15 (F : Nat) (σ : zS) (h : DP σ) : pp (DP) (Md_wantName_15 F σ) := by
  unfold Md_wantName_15
  repeat' (first | assumption | (with_reducible apply dp_Md_cannot) | (with_reducible apply pq_ite) | (with_reducible apply pp_ite) | (with_reducible apply pq_gd) | (with_reducible apply pp_gd) | (with_reducible apply pq_bv) | (with_reducible apply pp_bv) | (with_reducible apply pq_bi) | (with_reducible apply pp_bi) | (with_reducible apply pq_some) | (with_reducible apply pp_some) | (with_reducible apply DP_si) | (with_reducible apply DP_sa) | (with_reducible apply DP_sb) | (with_reducible apply DP_sl) | decide | (intro _))
theorem dp_Md_wantName (F : Nat) (σ : zS) (x1 : Int32) (h : DP σ) : pp (DP) (Md_wantName F σ x1) := by
  unfold Md_wantName
  repeat' (first | assumption | (with_reducible apply dp_Md_wantName_15) | (with_reducible apply pq_ite) | (with_reducible apply pp_ite) | (with_reducible apply pq_gd) | (with_reducible apply pp_gd) | (with_reducible apply pq_bv) | (with_reducible apply pp_bv) | (with_reducible apply pq_bi) | (with_reducible apply pp_bi) | (with_reducible apply pq_some) | (with_reducible apply pp_some) | (with_reducible apply DP_si) | (with_reducible apply DP_sa) | (with_reducible apply DP_sb) | (with_reducible apply DP_sl) | decide | (intro _))
theorem dp_Md_readWish_68 (F : Nat) (σ : zS) (h : DP σ) : pq (DP) (Md_readWish_68 F σ) := by
  unfold Md_readWish_68
  repeat' (first | assumption | (with_reducible apply pq_ite) | (with_reducible apply pp_ite) | (with_reducible apply pq_gd) | (with_reducible apply pp_gd) | (with_reducible apply pq_bv) | (with_reducible apply pp_bv) | (with_reducible apply pq_bi) | (with_reducible apply pp_bi) | (with_reducible apply pq_some) | (with_reducible apply pp_some) | (with_reducible apply DP_si) | (with_reducible apply DP_sa) | (with_reducible apply DP_sb) | (with_reducible apply DP_sl) | decide | (intro _))
theorem dp_Md_readWish (F : Nat) (σ : zS) (h : DP σ) : pq (DP) (Md_readWish F σ) := by
  unfold Md_readWish
  repeat' (first | assumption | (with_reducible apply dp_Md_tell) | (with_reducible apply dp_Md_next) | (with_reducible apply dp_Md_want) | (with_reducible apply dp_Md_readKind) | (with_reducible apply dp_Md_readWish_68) | (with_reducible apply pq_ite) | (with_reducible apply pp_ite) | (with_reducible apply pq_gd) | (with_reducible apply pp_gd) | (with_reducible apply pq_bv) | (with_reducible apply pp_bv) | (with_reducible apply pq_bi) | (with_reducible apply pp_bi) | (with_reducible apply pq_some) | (with_reducible apply pp_some) | (with_reducible apply DP_si) | (with_reducible apply DP_sa) | (with_reducible apply DP_sb) | (with_reducible apply DP_sl) | decide | (intro _))
theorem dp_Md_readDecl_216 (F : Nat) (σ : zS) (h : DP σ) : pq (DP) (Md_readDecl_216 F σ) := by
  unfold Md_readDecl_216
  repeat' (first | assumption | (with_reducible apply pq_ite) | (with_reducible apply pp_ite) | (with_reducible apply pq_gd) | (with_reducible apply pp_gd) | (with_reducible apply pq_bv) | (with_reducible apply pp_bv) | (with_reducible apply pq_bi) | (with_reducible apply pp_bi) | (with_reducible apply pq_some) | (with_reducible apply pp_some) | (with_reducible apply DP_si) | (with_reducible apply DP_sa) | (with_reducible apply DP_sb) | (with_reducible apply DP_sl) | decide | (intro _))
theorem dp_Md_readDecl_46 (F : Nat) (σ : zS) (s0 : Int32) (h : DP σ) : pq DP (Md_readDecl_46 F σ s0) := by
  unfold Md_readDecl_46
  refine pq_ite ?_ (pq_bv (dp_Md_cannot F σ h) (fun τ' h' => pq_some h'))
  refine pq_bv (dp_Md_next F σ h) (fun σ2 h2 => pq_bi (dp_Md_wantName F σ2 _ h2) (fun r5 σ4 h4 => pq_ite (pq_some h4) (pq_ite (pq_bv (dp_Md_readWish F σ4 h4) (fun τ' h' => pq_some h')) (pq_ite (pq_bv (dp_Md_wrong F σ4 _ _ h4) (fun τ' h' => pq_some h')) ?_))))
  intro τ' e
  obtain ⟨e0, e⟩ := gd_s e
  obtain ⟨σ11, e1, e2⟩ := bv_s e
  obtain ⟨D, M, a1, a2, a3, a4, a5⟩ := h4
  rw [a1] at e0 e1
  have hD := inb_lt (by omega) e0
  rw [nI_clamp (by omega)] at e1
  rw [Md_tell] at e1
  obtain ⟨f1, f2⟩ := gd_s e1
  have h31 : gi (sa (sa (sa (sa (sb (sa (si (si σ4 32 (nI D)) 52 ((nI D) + (1 : Int32))) 33 D s0) 34 D (gl σ4 6)) 35 D (gi σ4 5)) 36 D (0 : Int32)) 38 D (0 : Int32)) 39 D (gi σ4 23)) 31 = nI M := by simp [zs, a2]
  rw [h31] at f1 f2
  have hM := inb_lt (by omega) f1
  rw [nI_clamp (by omega)] at f2
  cases f2
  refine pq_im DQ_DP (pq_bv (P := DQ) (dq_Md_next F _ ⟨D + 1, M + 1, by simp [zs, nI_1], by simp [zs, nI_1], by omega, by omega, ⟨D, by omega, by simp [zs]⟩, fun i hi => ?_⟩) (fun σ13 h13 => pq_ite (pq_bv (dq_Md_readClass F σ13 h13) (fun s h' => dq_Md_readDecl_216 F s h')) (pq_bv (dq_Md_readSides F σ13 _ h13) (fun s h' => dq_Md_readDecl_216 F s h')))) τ' e2
  by_cases ei : i = D
  · subst ei
    exact ⟨0, by omega, by simp [zs, up_at]; rfl, fun j hj => by omega⟩
  · obtain ⟨q, q1, q2, q3⟩ := a5 i (by omega)
    refine ⟨q, q1, by simp [zs, up_at, ei, q2], fun j hj => ?_⟩
    obtain ⟨m, m1, m2, m3, m4, m5⟩ := q3 j hj
    refine ⟨m, by omega, by simp [zs, up_at, show ¬ m = M by omega, m2], by simp [zs, up_at, show ¬ m = M by omega, m3], by simp [zs, upL_at, show ¬ m = M by omega, m4], fun j' hj' => ?_⟩
    obtain ⟨m', n1, n2, n3, n4⟩ := m5 j' hj'
    exact ⟨m', n1, by simp [zs, up_at, show ¬ m' = M by omega, n2], by simp [zs, up_at, show ¬ m' = M by omega, n3], by simp [zs, upL_at, show ¬ m' = M by omega, n4]⟩
theorem dp_Md_readDecl (F : Nat) (σ : zS) (h : DP σ) : pq (DP) (Md_readDecl F σ) := by
  unfold Md_readDecl
  repeat' (first | assumption | (with_reducible apply dp_Md_readDecl_46) | (with_reducible apply pq_ite) | (with_reducible apply pp_ite) | (with_reducible apply pq_gd) | (with_reducible apply pp_gd) | (with_reducible apply pq_bv) | (with_reducible apply pp_bv) | (with_reducible apply pq_bi) | (with_reducible apply pp_bi) | (with_reducible apply pq_some) | (with_reducible apply pp_some) | (with_reducible apply DP_si) | (with_reducible apply DP_sa) | (with_reducible apply DP_sb) | (with_reducible apply DP_sl) | decide | (intro _))
theorem dp_Md_readText_78 (F : Nat) (σ : zS) (h : DP σ) : pq (DP) (Md_readText_78 F σ) := by
  unfold Md_readText_78
  repeat' (first | assumption | (with_reducible apply pq_ite) | (with_reducible apply pp_ite) | (with_reducible apply pq_gd) | (with_reducible apply pp_gd) | (with_reducible apply pq_bv) | (with_reducible apply pp_bv) | (with_reducible apply pq_bi) | (with_reducible apply pp_bi) | (with_reducible apply pq_some) | (with_reducible apply pp_some) | (with_reducible apply DP_si) | (with_reducible apply DP_sa) | (with_reducible apply DP_sb) | (with_reducible apply DP_sl) | decide | (intro _))
theorem dp_Md_readText_b50 (F : Nat) (rc50 : zS → Option zS) (σ : zS) (hrc50 : ∀ y0, DP y0 → pq (DP) (rc50 y0)) (h : DP σ) : pq (DP) (Md_readText_b50 F rc50 σ) := by
  unfold Md_readText_b50
  repeat' (first | assumption | (with_reducible apply hrc50) | (with_reducible apply dp_Md_readText_78) | (with_reducible apply dp_Md_readDecl) | (with_reducible apply dp_Md_want) | (with_reducible apply pq_ite) | (with_reducible apply pp_ite) | (with_reducible apply pq_gd) | (with_reducible apply pp_gd) | (with_reducible apply pq_bv) | (with_reducible apply pp_bv) | (with_reducible apply pq_bi) | (with_reducible apply pp_bi) | (with_reducible apply pq_some) | (with_reducible apply pp_some) | (with_reducible apply DP_si) | (with_reducible apply DP_sa) | (with_reducible apply DP_sb) | (with_reducible apply DP_sl) | decide | (intro _))
theorem dp_Md_readText_50 (F : Nat) : ∀ (n : Nat) (a0 : zS), DP a0 → pq (DP) (Md_readText_50 F n a0)
  | 0, _, _ => pq_none
  | n + 1, a0, h => dp_Md_readText_b50 F (Md_readText_50 F n) a0  (dp_Md_readText_50 F  n) h
theorem dp_Md_readText (F : Nat) (σ : zS) : pq DP (Md_readText F σ) := by
  unfold Md_readText
  have h0 : DP (si (si (si (si (si (si (si σ 52 (0 : Int32)) 62 (0 : Int32)) 66 (0 : Int32)) 31 (0 : Int32)) 23 (0 : Int32)) 16 (0 : Int32)) 48 (0 : Int32)) := ⟨0, 0, by simp [zs]; rfl, by simp [zs]; rfl, by omega, by omega, fun n n1 => by omega⟩
  refine pq_bi (dp_Md_newKind F _ _ _ _ h0) (fun r τ' h1 => ?_)
  refine pq_bv (dp_Md_begin F _ (DP_si h1 (by decide))) (fun τ'' h2 => ?_)
  exact dp_Md_readText_50 F F τ'' h2
end L
