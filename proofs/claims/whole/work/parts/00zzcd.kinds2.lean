/-! The reference's kinds while a text is read: arrows of what is there. Written by program, but for the rows by hand. Own text. -/
def KF (τ0 τ : zS) : Prop := gi τ 42 = gi τ0 42 ∧ gi τ 48 = gi τ0 48 ∧ gi τ 49 = gi τ0 49 ∧ ga τ 26 = ga τ0 26 ∧ ga τ 27 = ga τ0 27 ∧ ga τ 28 = ga τ0 28 ∧ ga τ 29 = ga τ0 29 ∧ ga τ 31 = ga τ0 31 ∧ ga τ 32 = ga τ0 32
def KR (R : Nat) (τ : zS) : Prop := gi τ 48 = nI R ∧ 1 ≤ R ∧ R ≤ 4000 ∧ gi τ 49 = 0 ∧ ga τ 26 0 = 1 ∧ ga τ 29 0 = nI 0 ∧ ∀ k, 1 ≤ k → k < R → ga τ 26 k = 2 ∧ ga τ 29 k = nI k ∧ (∃ x, x < R ∧ ga τ 27 k = nI x) ∧ ∃ y, y < R ∧ ga τ 28 k = nI y
def KJ (τ : zS) : Prop := ∃ R, KR R τ
def KL (R L : Nat) (w : Int32) (τ : zS) : Prop := KR R τ ∧ gi τ 42 = nI L ∧ L < 12 ∧ (∀ l, l ≤ L → (ga τ 31 l < 0 ∨ ∃ a, a < R ∧ ga τ 31 l = nI a) ∧ (ga τ 32 l < 0 ∨ ∃ a, 1 ≤ a ∧ a < R ∧ ga τ 32 l = nI a)) ∧ (w = 0 → ∃ a, a < R ∧ ga τ 31 L = nI a)
section L
variable {τ0 σ : zS}
theorem KF_si {r : Nat} {v : Int32} (h : KF τ0 σ) (hr : r ≠ 42 ∧ r ≠ 48 ∧ r ≠ 49) : KF τ0 (si σ r v) := by
  obtain ⟨a1, a2, a3, a4⟩ := h
  exact ⟨by simp only [zs, if_neg (fun z : 42 = r => hr.1 z.symm)]; exact a1, by simp only [zs, if_neg (fun z : 48 = r => hr.2.1 z.symm)]; exact a2, by simp only [zs, if_neg (fun z : 49 = r => hr.2.2 z.symm)]; exact a3, a4⟩
theorem KF_sa {a i : Nat} {v : Int32} (h : KF τ0 σ) (hr : a ≠ 26 ∧ a ≠ 27 ∧ a ≠ 28 ∧ a ≠ 29 ∧ a ≠ 31 ∧ a ≠ 32) : KF τ0 (sa σ a i v) := by
  obtain ⟨a1, a2, a3, a4, a5, a6, a7, a8, a9⟩ := h
  obtain ⟨h1, h2, h3, h4, h5, h6⟩ := hr
  exact ⟨a1, a2, a3, by simp only [zs, if_neg (fun z : 26 = a => h1 z.symm)]; exact a4, by simp only [zs, if_neg (fun z : 27 = a => h2 z.symm)]; exact a5, by simp only [zs, if_neg (fun z : 28 = a => h3 z.symm)]; exact a6, by simp only [zs, if_neg (fun z : 29 = a => h4 z.symm)]; exact a7, by simp only [zs, if_neg (fun z : 31 = a => h5 z.symm)]; exact a8, by simp only [zs, if_neg (fun z : 32 = a => h6 z.symm)]; exact a9⟩
theorem KF_sb {a i : Nat} {v : Int64} (h : KF τ0 σ) : KF τ0 (sb σ a i v) := h
theorem KF_sl {r : Nat} {v : Int64} (h : KF τ0 σ) : KF τ0 (sl σ r v) := h
theorem KF_rfl (τ : zS) : KF τ τ := ⟨rfl, rfl, rfl, rfl, rfl, rfl, rfl, rfl, rfl⟩
theorem KR_cg {R : Nat} {τ' : zS} (h : KR R σ) (h1 : gi τ' 48 = gi σ 48) (h2 : gi τ' 49 = gi σ 49) (h3 : ga τ' 26 = ga σ 26) (h4 : ga τ' 27 = ga σ 27) (h5 : ga τ' 28 = ga σ 28) (h6 : ga τ' 29 = ga σ 29) : KR R τ' := by
  unfold KR
  rw [h1, h2, h3, h4, h5, h6]
  exact h
theorem KL_KF {R L : Nat} {w : Int32} {τ' : zS} (h : KL R L w σ) (g : KF σ τ') : KL R L w τ' := by
  obtain ⟨a1, a2, a3, a4, a5⟩ := h
  obtain ⟨b1, b2, b3, b4, b5, b6, b7, b8, b9⟩ := g
  refine ⟨KR_cg a1 b2 b3 b4 b5 b6 b7, b1.trans a2, a3, fun l hl => ?_, fun hw => ?_⟩
  · rw [b8, b9]; exact a4 l hl
  · rw [b8]; exact a5 hw
theorem KJ_si {r : Nat} {v : Int32} (h : KJ σ) (hr : r ≠ 48 ∧ r ≠ 49) : KJ (si σ r v) := by
  obtain ⟨R, h⟩ := h
  exact ⟨R, KR_cg h (by simp only [zs, if_neg (fun z : 48 = r => hr.1 z.symm)]) (by simp only [zs, if_neg (fun z : 49 = r => hr.2 z.symm)]) rfl rfl rfl rfl⟩
theorem KJ_sa {a i : Nat} {v : Int32} (h : KJ σ) (hr : a ≠ 26 ∧ a ≠ 27 ∧ a ≠ 28 ∧ a ≠ 29) : KJ (sa σ a i v) := by
  obtain ⟨R, h⟩ := h
  obtain ⟨h1, h2, h3, h4⟩ := hr
  exact ⟨R, KR_cg h rfl rfl (by simp only [zs, if_neg (fun z : 26 = a => h1 z.symm)]) (by simp only [zs, if_neg (fun z : 27 = a => h2 z.symm)]) (by simp only [zs, if_neg (fun z : 28 = a => h3 z.symm)]) (by simp only [zs, if_neg (fun z : 29 = a => h4 z.symm)])⟩
theorem KJ_sb {a i : Nat} {v : Int64} (h : KJ σ) : KJ (sb σ a i v) := h
theorem KJ_sl {r : Nat} {v : Int64} (h : KJ σ) : KJ (sl σ r v) := h
theorem kf_Md_wrong_17 (F : Nat) (σ : zS) (h : KF τ0 σ) : pq (KF τ0) (Md_wrong_17 F σ) := by
  unfold Md_wrong_17
  repeat' (first | assumption | (with_reducible apply pq_ite) | (with_reducible apply pp_ite) | (with_reducible apply pq_gd) | (with_reducible apply pp_gd) | (with_reducible apply pq_bv) | (with_reducible apply pp_bv) | (with_reducible apply pq_bi) | (with_reducible apply pp_bi) | (with_reducible apply pq_some) | (with_reducible apply pp_some) | (with_reducible apply KF_si) | (with_reducible apply KF_sa) | (with_reducible apply KF_sb) | (with_reducible apply KF_sl) | decide | (intro _))
theorem kf_Md_wrong (F : Nat) (σ : zS) (x1 : Int32) (x2 : Int32) (h : KF τ0 σ) : pq (KF τ0) (Md_wrong F σ x1 x2) := by
  unfold Md_wrong
  repeat' (first | assumption | (with_reducible apply kf_Md_wrong_17) | (with_reducible apply pq_ite) | (with_reducible apply pp_ite) | (with_reducible apply pq_gd) | (with_reducible apply pp_gd) | (with_reducible apply pq_bv) | (with_reducible apply pp_bv) | (with_reducible apply pq_bi) | (with_reducible apply pp_bi) | (with_reducible apply pq_some) | (with_reducible apply pp_some) | (with_reducible apply KF_si) | (with_reducible apply KF_sa) | (with_reducible apply KF_sb) | (with_reducible apply KF_sl) | decide | (intro _))
theorem kf_Md_byteAt_18 (F : Nat) (σ : zS) (s0 : Int32) (h : KF τ0 σ) : pp (KF τ0) (Md_byteAt_18 F σ s0) := by
  unfold Md_byteAt_18
  repeat' (first | assumption | (with_reducible apply pq_ite) | (with_reducible apply pp_ite) | (with_reducible apply pq_gd) | (with_reducible apply pp_gd) | (with_reducible apply pq_bv) | (with_reducible apply pp_bv) | (with_reducible apply pq_bi) | (with_reducible apply pp_bi) | (with_reducible apply pq_some) | (with_reducible apply pp_some) | (with_reducible apply KF_si) | (with_reducible apply KF_sa) | (with_reducible apply KF_sb) | (with_reducible apply KF_sl) | decide | (intro _))
theorem kf_Md_byteAt (F : Nat) (σ : zS) (x1 : Int32) (h : KF τ0 σ) : pp (KF τ0) (Md_byteAt F σ x1) := by
  unfold Md_byteAt
  repeat' (first | assumption | (with_reducible apply kf_Md_byteAt_18) | (with_reducible apply pq_ite) | (with_reducible apply pp_ite) | (with_reducible apply pq_gd) | (with_reducible apply pp_gd) | (with_reducible apply pq_bv) | (with_reducible apply pp_bv) | (with_reducible apply pq_bi) | (with_reducible apply pp_bi) | (with_reducible apply pq_some) | (with_reducible apply pp_some) | (with_reducible apply KF_si) | (with_reducible apply KF_sa) | (with_reducible apply KF_sb) | (with_reducible apply KF_sl) | decide | (intro _))
theorem kf_Md_isUpper_17 (F : Nat) (σ : zS) (s0 : Int32) (h : KF τ0 σ) : pp (KF τ0) (Md_isUpper_17 F σ s0) := by
  unfold Md_isUpper_17
  repeat' (first | assumption | (with_reducible apply pq_ite) | (with_reducible apply pp_ite) | (with_reducible apply pq_gd) | (with_reducible apply pp_gd) | (with_reducible apply pq_bv) | (with_reducible apply pp_bv) | (with_reducible apply pq_bi) | (with_reducible apply pp_bi) | (with_reducible apply pq_some) | (with_reducible apply pp_some) | (with_reducible apply KF_si) | (with_reducible apply KF_sa) | (with_reducible apply KF_sb) | (with_reducible apply KF_sl) | decide | (intro _))
theorem kf_Md_isUpper_16 (F : Nat) (σ : zS) (h : KF τ0 σ) : pp (KF τ0) (Md_isUpper_16 F σ) := by
  unfold Md_isUpper_16
  repeat' (first | assumption | (with_reducible apply kf_Md_isUpper_17) | (with_reducible apply pq_ite) | (with_reducible apply pp_ite) | (with_reducible apply pq_gd) | (with_reducible apply pp_gd) | (with_reducible apply pq_bv) | (with_reducible apply pp_bv) | (with_reducible apply pq_bi) | (with_reducible apply pp_bi) | (with_reducible apply pq_some) | (with_reducible apply pp_some) | (with_reducible apply KF_si) | (with_reducible apply KF_sa) | (with_reducible apply KF_sb) | (with_reducible apply KF_sl) | decide | (intro _))
theorem kf_Md_isUpper (F : Nat) (σ : zS) (x0 : Int32) (h : KF τ0 σ) : pp (KF τ0) (Md_isUpper F σ x0) := by
  unfold Md_isUpper
  repeat' (first | assumption | (with_reducible apply kf_Md_isUpper_16) | (with_reducible apply kf_Md_isUpper_17) | (with_reducible apply pq_ite) | (with_reducible apply pp_ite) | (with_reducible apply pq_gd) | (with_reducible apply pp_gd) | (with_reducible apply pq_bv) | (with_reducible apply pp_bv) | (with_reducible apply pq_bi) | (with_reducible apply pp_bi) | (with_reducible apply pq_some) | (with_reducible apply pp_some) | (with_reducible apply KF_si) | (with_reducible apply KF_sa) | (with_reducible apply KF_sb) | (with_reducible apply KF_sl) | decide | (intro _))
theorem kf_Md_isLower_17 (F : Nat) (σ : zS) (s0 : Int32) (h : KF τ0 σ) : pp (KF τ0) (Md_isLower_17 F σ s0) := by
  unfold Md_isLower_17
  repeat' (first | assumption | (with_reducible apply pq_ite) | (with_reducible apply pp_ite) | (with_reducible apply pq_gd) | (with_reducible apply pp_gd) | (with_reducible apply pq_bv) | (with_reducible apply pp_bv) | (with_reducible apply pq_bi) | (with_reducible apply pp_bi) | (with_reducible apply pq_some) | (with_reducible apply pp_some) | (with_reducible apply KF_si) | (with_reducible apply KF_sa) | (with_reducible apply KF_sb) | (with_reducible apply KF_sl) | decide | (intro _))
theorem kf_Md_isLower_16 (F : Nat) (σ : zS) (h : KF τ0 σ) : pp (KF τ0) (Md_isLower_16 F σ) := by
  unfold Md_isLower_16
  repeat' (first | assumption | (with_reducible apply kf_Md_isLower_17) | (with_reducible apply pq_ite) | (with_reducible apply pp_ite) | (with_reducible apply pq_gd) | (with_reducible apply pp_gd) | (with_reducible apply pq_bv) | (with_reducible apply pp_bv) | (with_reducible apply pq_bi) | (with_reducible apply pp_bi) | (with_reducible apply pq_some) | (with_reducible apply pp_some) | (with_reducible apply KF_si) | (with_reducible apply KF_sa) | (with_reducible apply KF_sb) | (with_reducible apply KF_sl) | decide | (intro _))
theorem kf_Md_isLower (F : Nat) (σ : zS) (x0 : Int32) (h : KF τ0 σ) : pp (KF τ0) (Md_isLower F σ x0) := by
  unfold Md_isLower
  repeat' (first | assumption | (with_reducible apply kf_Md_isLower_16) | (with_reducible apply kf_Md_isLower_17) | (with_reducible apply pq_ite) | (with_reducible apply pp_ite) | (with_reducible apply pq_gd) | (with_reducible apply pp_gd) | (with_reducible apply pq_bv) | (with_reducible apply pp_bv) | (with_reducible apply pq_bi) | (with_reducible apply pp_bi) | (with_reducible apply pq_some) | (with_reducible apply pp_some) | (with_reducible apply KF_si) | (with_reducible apply KF_sa) | (with_reducible apply KF_sb) | (with_reducible apply KF_sl) | decide | (intro _))
theorem kf_Md_isOf_31 (F : Nat) (σ : zS) (s0 : Int32) (h : KF τ0 σ) : pp (KF τ0) (Md_isOf_31 F σ s0) := by
  unfold Md_isOf_31
  repeat' (first | assumption | (with_reducible apply pq_ite) | (with_reducible apply pp_ite) | (with_reducible apply pq_gd) | (with_reducible apply pp_gd) | (with_reducible apply pq_bv) | (with_reducible apply pp_bv) | (with_reducible apply pq_bi) | (with_reducible apply pp_bi) | (with_reducible apply pq_some) | (with_reducible apply pp_some) | (with_reducible apply KF_si) | (with_reducible apply KF_sa) | (with_reducible apply KF_sb) | (with_reducible apply KF_sl) | decide | (intro _))
theorem kf_Md_isOf_26 (F : Nat) (σ : zS) (h : KF τ0 σ) : pp (KF τ0) (Md_isOf_26 F σ) := by
  unfold Md_isOf_26
  repeat' (first | assumption | (with_reducible apply kf_Md_isOf_31) | (with_reducible apply pq_ite) | (with_reducible apply pp_ite) | (with_reducible apply pq_gd) | (with_reducible apply pp_gd) | (with_reducible apply pq_bv) | (with_reducible apply pp_bv) | (with_reducible apply pq_bi) | (with_reducible apply pp_bi) | (with_reducible apply pq_some) | (with_reducible apply pp_some) | (with_reducible apply KF_si) | (with_reducible apply KF_sa) | (with_reducible apply KF_sb) | (with_reducible apply KF_sl) | decide | (intro _))
theorem kf_Md_isOf_30 (F : Nat) (σ : zS) (h : KF τ0 σ) : pp (KF τ0) (Md_isOf_30 F σ) := by
  unfold Md_isOf_30
  repeat' (first | assumption | (with_reducible apply kf_Md_isOf_31) | (with_reducible apply pq_ite) | (with_reducible apply pp_ite) | (with_reducible apply pq_gd) | (with_reducible apply pp_gd) | (with_reducible apply pq_bv) | (with_reducible apply pp_bv) | (with_reducible apply pq_bi) | (with_reducible apply pp_bi) | (with_reducible apply pq_some) | (with_reducible apply pp_some) | (with_reducible apply KF_si) | (with_reducible apply KF_sa) | (with_reducible apply KF_sb) | (with_reducible apply KF_sl) | decide | (intro _))
theorem kf_Md_isOf (F : Nat) (σ : zS) (x0 : Int32) (h : KF τ0 σ) : pp (KF τ0) (Md_isOf F σ x0) := by
  unfold Md_isOf
  repeat' (first | assumption | (with_reducible apply kf_Md_isUpper) | (with_reducible apply kf_Md_isLower) | (with_reducible apply kf_Md_isOf_30) | (with_reducible apply kf_Md_isOf_26) | (with_reducible apply pq_ite) | (with_reducible apply pp_ite) | (with_reducible apply pq_gd) | (with_reducible apply pp_gd) | (with_reducible apply pq_bv) | (with_reducible apply pp_bv) | (with_reducible apply pq_bi) | (with_reducible apply pp_bi) | (with_reducible apply pq_some) | (with_reducible apply pp_some) | (with_reducible apply KF_si) | (with_reducible apply KF_sa) | (with_reducible apply KF_sb) | (with_reducible apply KF_sl) | decide | (intro _))
theorem kf_Md_name_172 (F : Nat) (σ : zS) (h : KF τ0 σ) : pq (KF τ0) (Md_name_172 F σ) := by
  unfold Md_name_172
  repeat' (first | assumption | (with_reducible apply pq_ite) | (with_reducible apply pp_ite) | (with_reducible apply pq_gd) | (with_reducible apply pp_gd) | (with_reducible apply pq_bv) | (with_reducible apply pp_bv) | (with_reducible apply pq_bi) | (with_reducible apply pp_bi) | (with_reducible apply pq_some) | (with_reducible apply pp_some) | (with_reducible apply KF_si) | (with_reducible apply KF_sa) | (with_reducible apply KF_sb) | (with_reducible apply KF_sl) | decide | (intro _))
theorem kf_Md_name_149 (F : Nat) (σ : zS) (x2 : Int32) (s1 : Int32) (h : KF τ0 σ) : pq (KF τ0) (Md_name_149 F σ x2 s1) := by
  unfold Md_name_149
  repeat' (first | assumption | (with_reducible apply kf_Md_name_172) | (with_reducible apply kf_Md_wrong) | (with_reducible apply pq_ite) | (with_reducible apply pp_ite) | (with_reducible apply pq_gd) | (with_reducible apply pp_gd) | (with_reducible apply pq_bv) | (with_reducible apply pp_bv) | (with_reducible apply pq_bi) | (with_reducible apply pp_bi) | (with_reducible apply pq_some) | (with_reducible apply pp_some) | (with_reducible apply KF_si) | (with_reducible apply KF_sa) | (with_reducible apply KF_sb) | (with_reducible apply KF_sl) | decide | (intro _))
theorem kf_Md_name_148 (F : Nat) (σ : zS) (x2 : Int32) (h : KF τ0 σ) : pq (KF τ0) (Md_name_148 F σ x2) := by
  unfold Md_name_148
  repeat' (first | assumption | (with_reducible apply kf_Md_name_149) | (with_reducible apply pq_ite) | (with_reducible apply pp_ite) | (with_reducible apply pq_gd) | (with_reducible apply pp_gd) | (with_reducible apply pq_bv) | (with_reducible apply pp_bv) | (with_reducible apply pq_bi) | (with_reducible apply pp_bi) | (with_reducible apply pq_some) | (with_reducible apply pp_some) | (with_reducible apply KF_si) | (with_reducible apply KF_sa) | (with_reducible apply KF_sb) | (with_reducible apply KF_sl) | decide | (intro _))
theorem kf_Md_name_144 (F : Nat) (σ : zS) (x2 : Int32) (h : KF τ0 σ) : pq (KF τ0) (Md_name_144 F σ x2) := by
  unfold Md_name_144
  repeat' (first | assumption | (with_reducible apply kf_Md_name_149) | (with_reducible apply pq_ite) | (with_reducible apply pp_ite) | (with_reducible apply pq_gd) | (with_reducible apply pp_gd) | (with_reducible apply pq_bv) | (with_reducible apply pp_bv) | (with_reducible apply pq_bi) | (with_reducible apply pp_bi) | (with_reducible apply pq_some) | (with_reducible apply pp_some) | (with_reducible apply KF_si) | (with_reducible apply KF_sa) | (with_reducible apply KF_sb) | (with_reducible apply KF_sl) | decide | (intro _))
theorem kf_Md_name_128 (F : Nat) (σ : zS) (x2 : Int32) (h : KF τ0 σ) : pq (KF τ0) (Md_name_128 F σ x2) := by
  unfold Md_name_128
  repeat' (first | assumption | (with_reducible apply kf_Md_name_144) | (with_reducible apply kf_Md_name_148) | (with_reducible apply pq_ite) | (with_reducible apply pp_ite) | (with_reducible apply pq_gd) | (with_reducible apply pp_gd) | (with_reducible apply pq_bv) | (with_reducible apply pp_bv) | (with_reducible apply pq_bi) | (with_reducible apply pp_bi) | (with_reducible apply pq_some) | (with_reducible apply pp_some) | (with_reducible apply KF_si) | (with_reducible apply KF_sa) | (with_reducible apply KF_sb) | (with_reducible apply KF_sl) | decide | (intro _))
theorem kf_Md_name_112 (F : Nat) (σ : zS) (x2 : Int32) (h : KF τ0 σ) : pq (KF τ0) (Md_name_112 F σ x2) := by
  unfold Md_name_112
  repeat' (first | assumption | (with_reducible apply kf_Md_name_144) | (with_reducible apply kf_Md_name_128) | (with_reducible apply pq_ite) | (with_reducible apply pp_ite) | (with_reducible apply pq_gd) | (with_reducible apply pp_gd) | (with_reducible apply pq_bv) | (with_reducible apply pp_bv) | (with_reducible apply pq_bi) | (with_reducible apply pp_bi) | (with_reducible apply pq_some) | (with_reducible apply pp_some) | (with_reducible apply KF_si) | (with_reducible apply KF_sa) | (with_reducible apply KF_sb) | (with_reducible apply KF_sl) | decide | (intro _))
theorem kf_Md_name_96 (F : Nat) (σ : zS) (x2 : Int32) (h : KF τ0 σ) : pq (KF τ0) (Md_name_96 F σ x2) := by
  unfold Md_name_96
  repeat' (first | assumption | (with_reducible apply kf_Md_name_144) | (with_reducible apply kf_Md_name_112) | (with_reducible apply pq_ite) | (with_reducible apply pp_ite) | (with_reducible apply pq_gd) | (with_reducible apply pp_gd) | (with_reducible apply pq_bv) | (with_reducible apply pp_bv) | (with_reducible apply pq_bi) | (with_reducible apply pp_bi) | (with_reducible apply pq_some) | (with_reducible apply pp_some) | (with_reducible apply KF_si) | (with_reducible apply KF_sa) | (with_reducible apply KF_sb) | (with_reducible apply KF_sl) | decide | (intro _))
theorem kf_Md_name_52 (F : Nat) (rc7 : zS → Int32 → Int32 → Option zS) (σ : zS) (x1 : Int32) (x2 : Int32) (s1 : Int64) (hrc7 : ∀ y0 y1 y2, KF τ0 y0 → pq (KF τ0) (rc7 y0 y1 y2)) (h : KF τ0 σ) : pq (KF τ0) (Md_name_52 F rc7 σ x1 x2 s1) := by
  unfold Md_name_52
  repeat' (first | assumption | (with_reducible apply hrc7) | (with_reducible apply pq_ite) | (with_reducible apply pp_ite) | (with_reducible apply pq_gd) | (with_reducible apply pp_gd) | (with_reducible apply pq_bv) | (with_reducible apply pp_bv) | (with_reducible apply pq_bi) | (with_reducible apply pp_bi) | (with_reducible apply pq_some) | (with_reducible apply pp_some) | (with_reducible apply KF_si) | (with_reducible apply KF_sa) | (with_reducible apply KF_sb) | (with_reducible apply KF_sl) | decide | (intro _))
theorem kf_Md_name_b7 (F : Nat) (rc7 : zS → Int32 → Int32 → Option zS) (σ : zS) (x1 : Int32) (x2 : Int32) (hrc7 : ∀ y0 y1 y2, KF τ0 y0 → pq (KF τ0) (rc7 y0 y1 y2)) (h : KF τ0 σ) : pq (KF τ0) (Md_name_b7 F rc7 σ x1 x2) := by
  unfold Md_name_b7
  repeat' (first | assumption | (with_reducible apply hrc7) | (with_reducible apply kf_Md_byteAt) | (with_reducible apply kf_Md_isOf) | (with_reducible apply kf_Md_name_144) | (with_reducible apply kf_Md_name_96) | (with_reducible apply kf_Md_name_149) | (with_reducible apply kf_Md_name_52) | (with_reducible apply pq_ite) | (with_reducible apply pp_ite) | (with_reducible apply pq_gd) | (with_reducible apply pp_gd) | (with_reducible apply pq_bv) | (with_reducible apply pp_bv) | (with_reducible apply pq_bi) | (with_reducible apply pp_bi) | (with_reducible apply pq_some) | (with_reducible apply pp_some) | (with_reducible apply KF_si) | (with_reducible apply KF_sa) | (with_reducible apply KF_sb) | (with_reducible apply KF_sl) | decide | (intro _))
theorem kf_Md_name_7 (F : Nat) : ∀ (n : Nat) (a0 : zS) (a1 : Int32) (a2 : Int32), KF τ0 a0 → pq (KF τ0) (Md_name_7 F n a0 a1 a2)
  | 0, _, _, _, _ => pq_none
  | n + 1, a0, a1, a2, h => kf_Md_name_b7 F (Md_name_7 F n) a0 a1 a2  (kf_Md_name_7 F  n) h
theorem kf_Md_name (F : Nat) (σ : zS) (x1 : Int32) (h : KF τ0 σ) : pq (KF τ0) (Md_name F σ x1) := by
  unfold Md_name
  repeat' (first | assumption | (with_reducible apply kf_Md_name_7) | (with_reducible apply pq_ite) | (with_reducible apply pp_ite) | (with_reducible apply pq_gd) | (with_reducible apply pp_gd) | (with_reducible apply pq_bv) | (with_reducible apply pp_bv) | (with_reducible apply pq_bi) | (with_reducible apply pp_bi) | (with_reducible apply pq_some) | (with_reducible apply pp_some) | (with_reducible apply KF_si) | (with_reducible apply KF_sa) | (with_reducible apply KF_sb) | (with_reducible apply KF_sl) | decide | (intro _))
theorem kf_Md_next_26 (F : Nat) (rc0 : zS → Option zS) (σ : zS) (hrc0 : ∀ y0, KF τ0 y0 → pq (KF τ0) (rc0 y0)) (h : KF τ0 σ) : pq (KF τ0) (Md_next_26 F rc0 σ) := by
  unfold Md_next_26
  repeat' (first | assumption | (with_reducible apply hrc0) | (with_reducible apply pq_ite) | (with_reducible apply pp_ite) | (with_reducible apply pq_gd) | (with_reducible apply pp_gd) | (with_reducible apply pq_bv) | (with_reducible apply pp_bv) | (with_reducible apply pq_bi) | (with_reducible apply pp_bi) | (with_reducible apply pq_some) | (with_reducible apply pp_some) | (with_reducible apply KF_si) | (with_reducible apply KF_sa) | (with_reducible apply KF_sb) | (with_reducible apply KF_sl) | decide | (intro _))
theorem kf_Md_next_67 (F : Nat) (σ : zS) (h : KF τ0 σ) : pq (KF τ0) (Md_next_67 F σ) := by
  unfold Md_next_67
  repeat' (first | assumption | (with_reducible apply pq_ite) | (with_reducible apply pp_ite) | (with_reducible apply pq_gd) | (with_reducible apply pp_gd) | (with_reducible apply pq_bv) | (with_reducible apply pp_bv) | (with_reducible apply pq_bi) | (with_reducible apply pp_bi) | (with_reducible apply pq_some) | (with_reducible apply pp_some) | (with_reducible apply KF_si) | (with_reducible apply KF_sa) | (with_reducible apply KF_sb) | (with_reducible apply KF_sl) | decide | (intro _))
theorem kf_Md_next_87 (F : Nat) (σ : zS) (x1 : Int32) (h : KF τ0 σ) : pq (KF τ0) (Md_next_87 F σ x1) := by
  unfold Md_next_87
  repeat' (first | assumption | (with_reducible apply kf_Md_isUpper) | (with_reducible apply kf_Md_name) | (with_reducible apply pq_ite) | (with_reducible apply pp_ite) | (with_reducible apply pq_gd) | (with_reducible apply pp_gd) | (with_reducible apply pq_bv) | (with_reducible apply pp_bv) | (with_reducible apply pq_bi) | (with_reducible apply pp_bi) | (with_reducible apply pq_some) | (with_reducible apply pp_some) | (with_reducible apply KF_si) | (with_reducible apply KF_sa) | (with_reducible apply KF_sb) | (with_reducible apply KF_sl) | decide | (intro _))
theorem kf_Md_next_271 (F : Nat) (σ : zS) (h : KF τ0 σ) : pq (KF τ0) (Md_next_271 F σ) := by
  unfold Md_next_271
  repeat' (first | assumption | (with_reducible apply pq_ite) | (with_reducible apply pp_ite) | (with_reducible apply pq_gd) | (with_reducible apply pp_gd) | (with_reducible apply pq_bv) | (with_reducible apply pp_bv) | (with_reducible apply pq_bi) | (with_reducible apply pp_bi) | (with_reducible apply pq_some) | (with_reducible apply pp_some) | (with_reducible apply KF_si) | (with_reducible apply KF_sa) | (with_reducible apply KF_sb) | (with_reducible apply KF_sl) | decide | (intro _))
theorem kf_Md_next_237 (F : Nat) (σ : zS) (x1 : Int32) (s0 : Int32) (h : KF τ0 σ) : pq (KF τ0) (Md_next_237 F σ x1 s0) := by
  unfold Md_next_237
  repeat' (first | assumption | (with_reducible apply kf_Md_wrong) | (with_reducible apply kf_Md_next_271) | (with_reducible apply pq_ite) | (with_reducible apply pp_ite) | (with_reducible apply pq_gd) | (with_reducible apply pp_gd) | (with_reducible apply pq_bv) | (with_reducible apply pp_bv) | (with_reducible apply pq_bi) | (with_reducible apply pp_bi) | (with_reducible apply pq_some) | (with_reducible apply pp_some) | (with_reducible apply KF_si) | (with_reducible apply KF_sa) | (with_reducible apply KF_sb) | (with_reducible apply KF_sl) | decide | (intro _))
theorem kf_Md_next_232 (F : Nat) (σ : zS) (x1 : Int32) (h : KF τ0 σ) : pq (KF τ0) (Md_next_232 F σ x1) := by
  unfold Md_next_232
  repeat' (first | assumption | (with_reducible apply kf_Md_next_237) | (with_reducible apply pq_ite) | (with_reducible apply pp_ite) | (with_reducible apply pq_gd) | (with_reducible apply pp_gd) | (with_reducible apply pq_bv) | (with_reducible apply pp_bv) | (with_reducible apply pq_bi) | (with_reducible apply pp_bi) | (with_reducible apply pq_some) | (with_reducible apply pp_some) | (with_reducible apply KF_si) | (with_reducible apply KF_sa) | (with_reducible apply KF_sb) | (with_reducible apply KF_sl) | decide | (intro _))
theorem kf_Md_next_166 (F : Nat) (σ : zS) (x1 : Int32) (h : KF τ0 σ) : pq (KF τ0) (Md_next_166 F σ x1) := by
  unfold Md_next_166
  repeat' (first | assumption | (with_reducible apply kf_Md_next_232) | (with_reducible apply kf_Md_next_237) | (with_reducible apply pq_ite) | (with_reducible apply pp_ite) | (with_reducible apply pq_gd) | (with_reducible apply pp_gd) | (with_reducible apply pq_bv) | (with_reducible apply pp_bv) | (with_reducible apply pq_bi) | (with_reducible apply pp_bi) | (with_reducible apply pq_some) | (with_reducible apply pp_some) | (with_reducible apply KF_si) | (with_reducible apply KF_sa) | (with_reducible apply KF_sb) | (with_reducible apply KF_sl) | decide | (intro _))
theorem kf_Md_next_152 (F : Nat) (σ : zS) (s1 : Int32) (h : KF τ0 σ) : pq (KF τ0) (Md_next_152 F σ s1) := by
  unfold Md_next_152
  repeat' (first | assumption | (with_reducible apply pq_ite) | (with_reducible apply pp_ite) | (with_reducible apply pq_gd) | (with_reducible apply pp_gd) | (with_reducible apply pq_bv) | (with_reducible apply pp_bv) | (with_reducible apply pq_bi) | (with_reducible apply pp_bi) | (with_reducible apply pq_some) | (with_reducible apply pp_some) | (with_reducible apply KF_si) | (with_reducible apply KF_sa) | (with_reducible apply KF_sb) | (with_reducible apply KF_sl) | decide | (intro _))
theorem kf_Md_next_136 (F : Nat) (σ : zS) (x1 : Int32) (h : KF τ0 σ) : pq (KF τ0) (Md_next_136 F σ x1) := by
  unfold Md_next_136
  repeat' (first | assumption | (with_reducible apply kf_Md_next_152) | (with_reducible apply pq_ite) | (with_reducible apply pp_ite) | (with_reducible apply pq_gd) | (with_reducible apply pp_gd) | (with_reducible apply pq_bv) | (with_reducible apply pp_bv) | (with_reducible apply pq_bi) | (with_reducible apply pp_bi) | (with_reducible apply pq_some) | (with_reducible apply pp_some) | (with_reducible apply KF_si) | (with_reducible apply KF_sa) | (with_reducible apply KF_sb) | (with_reducible apply KF_sl) | decide | (intro _))
theorem kf_Md_next_124 (F : Nat) (σ : zS) (x1 : Int32) (x2 : Int32) (h : KF τ0 σ) : pq (KF τ0) (Md_next_124 F σ x1 x2) := by
  unfold Md_next_124
  repeat' (first | assumption | (with_reducible apply kf_Md_next_136) | (with_reducible apply kf_Md_next_166) | (with_reducible apply pq_ite) | (with_reducible apply pp_ite) | (with_reducible apply pq_gd) | (with_reducible apply pp_gd) | (with_reducible apply pq_bv) | (with_reducible apply pp_bv) | (with_reducible apply pq_bi) | (with_reducible apply pp_bi) | (with_reducible apply pq_some) | (with_reducible apply pp_some) | (with_reducible apply KF_si) | (with_reducible apply KF_sa) | (with_reducible apply KF_sb) | (with_reducible apply KF_sl) | decide | (intro _))
theorem kf_Md_next_b0 (F : Nat) (rc0 : zS → Option zS) (σ : zS) (hrc0 : ∀ y0, KF τ0 y0 → pq (KF τ0) (rc0 y0)) (h : KF τ0 σ) : pq (KF τ0) (Md_next_b0 F rc0 σ) := by
  unfold Md_next_b0
  repeat' (first | assumption | (with_reducible apply hrc0) | (with_reducible apply kf_Md_byteAt) | (with_reducible apply kf_Md_next_26) | (with_reducible apply kf_Md_next_67) | (with_reducible apply kf_Md_isUpper) | (with_reducible apply kf_Md_isLower) | (with_reducible apply kf_Md_next_136) | (with_reducible apply kf_Md_next_124) | (with_reducible apply kf_Md_next_87) | (with_reducible apply pq_ite) | (with_reducible apply pp_ite) | (with_reducible apply pq_gd) | (with_reducible apply pp_gd) | (with_reducible apply pq_bv) | (with_reducible apply pp_bv) | (with_reducible apply pq_bi) | (with_reducible apply pp_bi) | (with_reducible apply pq_some) | (with_reducible apply pp_some) | (with_reducible apply KF_si) | (with_reducible apply KF_sa) | (with_reducible apply KF_sb) | (with_reducible apply KF_sl) | decide | (intro _))
theorem kf_Md_next_0 (F : Nat) : ∀ (n : Nat) (a0 : zS), KF τ0 a0 → pq (KF τ0) (Md_next_0 F n a0)
  | 0, _, _ => pq_none
  | n + 1, a0, h => kf_Md_next_b0 F (Md_next_0 F n) a0  (kf_Md_next_0 F  n) h
theorem kf_Md_next (F : Nat) (σ : zS) (h : KF τ0 σ) : pq (KF τ0) (Md_next F σ) := by
  unfold Md_next
  repeat' (first | assumption | (with_reducible apply kf_Md_next_0) | (with_reducible apply pq_ite) | (with_reducible apply pp_ite) | (with_reducible apply pq_gd) | (with_reducible apply pp_gd) | (with_reducible apply pq_bv) | (with_reducible apply pp_bv) | (with_reducible apply pq_bi) | (with_reducible apply pp_bi) | (with_reducible apply pq_some) | (with_reducible apply pp_some) | (with_reducible apply KF_si) | (with_reducible apply KF_sa) | (with_reducible apply KF_sb) | (with_reducible apply KF_sl) | decide | (intro _))
theorem kf_Md_isSign_28 (F : Nat) (σ : zS) (s0 : Int32) (h : KF τ0 σ) : pp (KF τ0) (Md_isSign_28 F σ s0) := by
  unfold Md_isSign_28
  repeat' (first | assumption | (with_reducible apply pq_ite) | (with_reducible apply pp_ite) | (with_reducible apply pq_gd) | (with_reducible apply pp_gd) | (with_reducible apply pq_bv) | (with_reducible apply pp_bv) | (with_reducible apply pq_bi) | (with_reducible apply pp_bi) | (with_reducible apply pq_some) | (with_reducible apply pp_some) | (with_reducible apply KF_si) | (with_reducible apply KF_sa) | (with_reducible apply KF_sb) | (with_reducible apply KF_sl) | decide | (intro _))
theorem kf_Md_isSign_27 (F : Nat) (σ : zS) (h : KF τ0 σ) : pp (KF τ0) (Md_isSign_27 F σ) := by
  unfold Md_isSign_27
  repeat' (first | assumption | (with_reducible apply kf_Md_isSign_28) | (with_reducible apply pq_ite) | (with_reducible apply pp_ite) | (with_reducible apply pq_gd) | (with_reducible apply pp_gd) | (with_reducible apply pq_bv) | (with_reducible apply pp_bv) | (with_reducible apply pq_bi) | (with_reducible apply pp_bi) | (with_reducible apply pq_some) | (with_reducible apply pp_some) | (with_reducible apply KF_si) | (with_reducible apply KF_sa) | (with_reducible apply KF_sb) | (with_reducible apply KF_sl) | decide | (intro _))
theorem kf_Md_isSign (F : Nat) (σ : zS) (x1 : Int32) (h : KF τ0 σ) : pp (KF τ0) (Md_isSign F σ x1) := by
  unfold Md_isSign
  repeat' (first | assumption | (with_reducible apply kf_Md_isSign_28) | (with_reducible apply kf_Md_isSign_27) | (with_reducible apply pq_ite) | (with_reducible apply pp_ite) | (with_reducible apply pq_gd) | (with_reducible apply pp_gd) | (with_reducible apply pq_bv) | (with_reducible apply pp_bv) | (with_reducible apply pq_bi) | (with_reducible apply pp_bi) | (with_reducible apply pq_some) | (with_reducible apply pp_some) | (with_reducible apply KF_si) | (with_reducible apply KF_sa) | (with_reducible apply KF_sb) | (with_reducible apply KF_sl) | decide | (intro _))
theorem kf_Md_cannot (F : Nat) (σ : zS) (h : KF τ0 σ) : pq (KF τ0) (Md_cannot F σ) := by
  unfold Md_cannot
  repeat' (first | assumption | (with_reducible apply kf_Md_wrong) | (with_reducible apply pq_ite) | (with_reducible apply pp_ite) | (with_reducible apply pq_gd) | (with_reducible apply pp_gd) | (with_reducible apply pq_bv) | (with_reducible apply pp_bv) | (with_reducible apply pq_bi) | (with_reducible apply pp_bi) | (with_reducible apply pq_some) | (with_reducible apply pp_some) | (with_reducible apply KF_si) | (with_reducible apply KF_sa) | (with_reducible apply KF_sb) | (with_reducible apply KF_sl) | decide | (intro _))
theorem kf_Md_want_19 (F : Nat) (σ : zS) (h : KF τ0 σ) : pq (KF τ0) (Md_want_19 F σ) := by
  unfold Md_want_19
  repeat' (first | assumption | (with_reducible apply pq_ite) | (with_reducible apply pp_ite) | (with_reducible apply pq_gd) | (with_reducible apply pp_gd) | (with_reducible apply pq_bv) | (with_reducible apply pp_bv) | (with_reducible apply pq_bi) | (with_reducible apply pp_bi) | (with_reducible apply pq_some) | (with_reducible apply pp_some) | (with_reducible apply KF_si) | (with_reducible apply KF_sa) | (with_reducible apply KF_sb) | (with_reducible apply KF_sl) | decide | (intro _))
theorem kf_Md_want (F : Nat) (σ : zS) (x1 : Int32) (h : KF τ0 σ) : pq (KF τ0) (Md_want F σ x1) := by
  unfold Md_want
  repeat' (first | assumption | (with_reducible apply kf_Md_isSign) | (with_reducible apply kf_Md_cannot) | (with_reducible apply kf_Md_want_19) | (with_reducible apply kf_Md_next) | (with_reducible apply pq_ite) | (with_reducible apply pp_ite) | (with_reducible apply pq_gd) | (with_reducible apply pp_gd) | (with_reducible apply pq_bv) | (with_reducible apply pp_bv) | (with_reducible apply pq_bi) | (with_reducible apply pp_bi) | (with_reducible apply pq_some) | (with_reducible apply pp_some) | (with_reducible apply KF_si) | (with_reducible apply KF_sa) | (with_reducible apply KF_sb) | (with_reducible apply KF_sl) | decide | (intro _))
theorem kf_Md_deeper_28 (F : Nat) (σ : zS) (h : KF τ0 σ) : pq (KF τ0) (Md_deeper_28 F σ) := by
  unfold Md_deeper_28
  repeat' (first | assumption | (with_reducible apply pq_ite) | (with_reducible apply pp_ite) | (with_reducible apply pq_gd) | (with_reducible apply pp_gd) | (with_reducible apply pq_bv) | (with_reducible apply pp_bv) | (with_reducible apply pq_bi) | (with_reducible apply pp_bi) | (with_reducible apply pq_some) | (with_reducible apply pp_some) | (with_reducible apply KF_si) | (with_reducible apply KF_sa) | (with_reducible apply KF_sb) | (with_reducible apply KF_sl) | decide | (intro _))
theorem kf_Md_deeper (F : Nat) (σ : zS) (h : KF τ0 σ) : pq (KF τ0) (Md_deeper F σ) := by
  unfold Md_deeper
  repeat' (first | assumption | (with_reducible apply kf_Md_deeper_28) | (with_reducible apply kf_Md_wrong) | (with_reducible apply pq_ite) | (with_reducible apply pp_ite) | (with_reducible apply pq_gd) | (with_reducible apply pp_gd) | (with_reducible apply pq_bv) | (with_reducible apply pp_bv) | (with_reducible apply pq_bi) | (with_reducible apply pp_bi) | (with_reducible apply pq_some) | (with_reducible apply pp_some) | (with_reducible apply KF_si) | (with_reducible apply KF_sa) | (with_reducible apply KF_sb) | (with_reducible apply KF_sl) | decide | (intro _))
theorem kj_Md_wrong_17 (F : Nat) (σ : zS) (h : KJ σ) : pq (KJ) (Md_wrong_17 F σ) := by
  unfold Md_wrong_17
  repeat' (first | assumption | (with_reducible apply pq_ite) | (with_reducible apply pp_ite) | (with_reducible apply pq_gd) | (with_reducible apply pp_gd) | (with_reducible apply pq_bv) | (with_reducible apply pp_bv) | (with_reducible apply pq_bi) | (with_reducible apply pp_bi) | (with_reducible apply pq_some) | (with_reducible apply pp_some) | (with_reducible apply KJ_si) | (with_reducible apply KJ_sa) | (with_reducible apply KJ_sb) | (with_reducible apply KJ_sl) | decide | (intro _))
theorem kj_Md_wrong (F : Nat) (σ : zS) (x1 : Int32) (x2 : Int32) (h : KJ σ) : pq (KJ) (Md_wrong F σ x1 x2) := by
  unfold Md_wrong
  repeat' (first | assumption | (with_reducible apply kj_Md_wrong_17) | (with_reducible apply pq_ite) | (with_reducible apply pp_ite) | (with_reducible apply pq_gd) | (with_reducible apply pp_gd) | (with_reducible apply pq_bv) | (with_reducible apply pp_bv) | (with_reducible apply pq_bi) | (with_reducible apply pp_bi) | (with_reducible apply pq_some) | (with_reducible apply pp_some) | (with_reducible apply KJ_si) | (with_reducible apply KJ_sa) | (with_reducible apply KJ_sb) | (with_reducible apply KJ_sl) | decide | (intro _))
theorem kj_Md_byteAt_18 (F : Nat) (σ : zS) (s0 : Int32) (h : KJ σ) : pp (KJ) (Md_byteAt_18 F σ s0) := by
  unfold Md_byteAt_18
  repeat' (first | assumption | (with_reducible apply pq_ite) | (with_reducible apply pp_ite) | (with_reducible apply pq_gd) | (with_reducible apply pp_gd) | (with_reducible apply pq_bv) | (with_reducible apply pp_bv) | (with_reducible apply pq_bi) | (with_reducible apply pp_bi) | (with_reducible apply pq_some) | (with_reducible apply pp_some) | (with_reducible apply KJ_si) | (with_reducible apply KJ_sa) | (with_reducible apply KJ_sb) | (with_reducible apply KJ_sl) | decide | (intro _))
theorem kj_Md_byteAt (F : Nat) (σ : zS) (x1 : Int32) (h : KJ σ) : pp (KJ) (Md_byteAt F σ x1) := by
  unfold Md_byteAt
  repeat' (first | assumption | (with_reducible apply kj_Md_byteAt_18) | (with_reducible apply pq_ite) | (with_reducible apply pp_ite) | (with_reducible apply pq_gd) | (with_reducible apply pp_gd) | (with_reducible apply pq_bv) | (with_reducible apply pp_bv) | (with_reducible apply pq_bi) | (with_reducible apply pp_bi) | (with_reducible apply pq_some) | (with_reducible apply pp_some) | (with_reducible apply KJ_si) | (with_reducible apply KJ_sa) | (with_reducible apply KJ_sb) | (with_reducible apply KJ_sl) | decide | (intro _))
theorem kj_Md_isUpper_17 (F : Nat) (σ : zS) (s0 : Int32) (h : KJ σ) : pp (KJ) (Md_isUpper_17 F σ s0) := by
  unfold Md_isUpper_17
  repeat' (first | assumption | (with_reducible apply pq_ite) | (with_reducible apply pp_ite) | (with_reducible apply pq_gd) | (with_reducible apply pp_gd) | (with_reducible apply pq_bv) | (with_reducible apply pp_bv) | (with_reducible apply pq_bi) | (with_reducible apply pp_bi) | (with_reducible apply pq_some) | (with_reducible apply pp_some) | (with_reducible apply KJ_si) | (with_reducible apply KJ_sa) | (with_reducible apply KJ_sb) | (with_reducible apply KJ_sl) | decide | (intro _))
theorem kj_Md_isUpper_16 (F : Nat) (σ : zS) (h : KJ σ) : pp (KJ) (Md_isUpper_16 F σ) := by
  unfold Md_isUpper_16
  repeat' (first | assumption | (with_reducible apply kj_Md_isUpper_17) | (with_reducible apply pq_ite) | (with_reducible apply pp_ite) | (with_reducible apply pq_gd) | (with_reducible apply pp_gd) | (with_reducible apply pq_bv) | (with_reducible apply pp_bv) | (with_reducible apply pq_bi) | (with_reducible apply pp_bi) | (with_reducible apply pq_some) | (with_reducible apply pp_some) | (with_reducible apply KJ_si) | (with_reducible apply KJ_sa) | (with_reducible apply KJ_sb) | (with_reducible apply KJ_sl) | decide | (intro _))
theorem kj_Md_isUpper (F : Nat) (σ : zS) (x0 : Int32) (h : KJ σ) : pp (KJ) (Md_isUpper F σ x0) := by
  unfold Md_isUpper
  repeat' (first | assumption | (with_reducible apply kj_Md_isUpper_16) | (with_reducible apply kj_Md_isUpper_17) | (with_reducible apply pq_ite) | (with_reducible apply pp_ite) | (with_reducible apply pq_gd) | (with_reducible apply pp_gd) | (with_reducible apply pq_bv) | (with_reducible apply pp_bv) | (with_reducible apply pq_bi) | (with_reducible apply pp_bi) | (with_reducible apply pq_some) | (with_reducible apply pp_some) | (with_reducible apply KJ_si) | (with_reducible apply KJ_sa) | (with_reducible apply KJ_sb) | (with_reducible apply KJ_sl) | decide | (intro _))
theorem kj_Md_isLower_17 (F : Nat) (σ : zS) (s0 : Int32) (h : KJ σ) : pp (KJ) (Md_isLower_17 F σ s0) := by
  unfold Md_isLower_17
  repeat' (first | assumption | (with_reducible apply pq_ite) | (with_reducible apply pp_ite) | (with_reducible apply pq_gd) | (with_reducible apply pp_gd) | (with_reducible apply pq_bv) | (with_reducible apply pp_bv) | (with_reducible apply pq_bi) | (with_reducible apply pp_bi) | (with_reducible apply pq_some) | (with_reducible apply pp_some) | (with_reducible apply KJ_si) | (with_reducible apply KJ_sa) | (with_reducible apply KJ_sb) | (with_reducible apply KJ_sl) | decide | (intro _))
theorem kj_Md_isLower_16 (F : Nat) (σ : zS) (h : KJ σ) : pp (KJ) (Md_isLower_16 F σ) := by
  unfold Md_isLower_16
  repeat' (first | assumption | (with_reducible apply kj_Md_isLower_17) | (with_reducible apply pq_ite) | (with_reducible apply pp_ite) | (with_reducible apply pq_gd) | (with_reducible apply pp_gd) | (with_reducible apply pq_bv) | (with_reducible apply pp_bv) | (with_reducible apply pq_bi) | (with_reducible apply pp_bi) | (with_reducible apply pq_some) | (with_reducible apply pp_some) | (with_reducible apply KJ_si) | (with_reducible apply KJ_sa) | (with_reducible apply KJ_sb) | (with_reducible apply KJ_sl) | decide | (intro _))
theorem kj_Md_isLower (F : Nat) (σ : zS) (x0 : Int32) (h : KJ σ) : pp (KJ) (Md_isLower F σ x0) := by
  unfold Md_isLower
  repeat' (first | assumption | (with_reducible apply kj_Md_isLower_16) | (with_reducible apply kj_Md_isLower_17) | (with_reducible apply pq_ite) | (with_reducible apply pp_ite) | (with_reducible apply pq_gd) | (with_reducible apply pp_gd) | (with_reducible apply pq_bv) | (with_reducible apply pp_bv) | (with_reducible apply pq_bi) | (with_reducible apply pp_bi) | (with_reducible apply pq_some) | (with_reducible apply pp_some) | (with_reducible apply KJ_si) | (with_reducible apply KJ_sa) | (with_reducible apply KJ_sb) | (with_reducible apply KJ_sl) | decide | (intro _))
theorem kj_Md_isOf_31 (F : Nat) (σ : zS) (s0 : Int32) (h : KJ σ) : pp (KJ) (Md_isOf_31 F σ s0) := by
  unfold Md_isOf_31
  repeat' (first | assumption | (with_reducible apply pq_ite) | (with_reducible apply pp_ite) | (with_reducible apply pq_gd) | (with_reducible apply pp_gd) | (with_reducible apply pq_bv) | (with_reducible apply pp_bv) | (with_reducible apply pq_bi) | (with_reducible apply pp_bi) | (with_reducible apply pq_some) | (with_reducible apply pp_some) | (with_reducible apply KJ_si) | (with_reducible apply KJ_sa) | (with_reducible apply KJ_sb) | (with_reducible apply KJ_sl) | decide | (intro _))
theorem kj_Md_isOf_26 (F : Nat) (σ : zS) (h : KJ σ) : pp (KJ) (Md_isOf_26 F σ) := by
  unfold Md_isOf_26
  repeat' (first | assumption | (with_reducible apply kj_Md_isOf_31) | (with_reducible apply pq_ite) | (with_reducible apply pp_ite) | (with_reducible apply pq_gd) | (with_reducible apply pp_gd) | (with_reducible apply pq_bv) | (with_reducible apply pp_bv) | (with_reducible apply pq_bi) | (with_reducible apply pp_bi) | (with_reducible apply pq_some) | (with_reducible apply pp_some) | (with_reducible apply KJ_si) | (with_reducible apply KJ_sa) | (with_reducible apply KJ_sb) | (with_reducible apply KJ_sl) | decide | (intro _))
theorem kj_Md_isOf_30 (F : Nat) (σ : zS) (h : KJ σ) : pp (KJ) (Md_isOf_30 F σ) := by
  unfold Md_isOf_30
  repeat' (first | assumption | (with_reducible apply kj_Md_isOf_31) | (with_reducible apply pq_ite) | (with_reducible apply pp_ite) | (with_reducible apply pq_gd) | (with_reducible apply pp_gd) | (with_reducible apply pq_bv) | (with_reducible apply pp_bv) | (with_reducible apply pq_bi) | (with_reducible apply pp_bi) | (with_reducible apply pq_some) | (with_reducible apply pp_some) | (with_reducible apply KJ_si) | (with_reducible apply KJ_sa) | (with_reducible apply KJ_sb) | (with_reducible apply KJ_sl) | decide | (intro _))
theorem kj_Md_isOf (F : Nat) (σ : zS) (x0 : Int32) (h : KJ σ) : pp (KJ) (Md_isOf F σ x0) := by
  unfold Md_isOf
  repeat' (first | assumption | (with_reducible apply kj_Md_isUpper) | (with_reducible apply kj_Md_isLower) | (with_reducible apply kj_Md_isOf_30) | (with_reducible apply kj_Md_isOf_26) | (with_reducible apply pq_ite) | (with_reducible apply pp_ite) | (with_reducible apply pq_gd) | (with_reducible apply pp_gd) | (with_reducible apply pq_bv) | (with_reducible apply pp_bv) | (with_reducible apply pq_bi) | (with_reducible apply pp_bi) | (with_reducible apply pq_some) | (with_reducible apply pp_some) | (with_reducible apply KJ_si) | (with_reducible apply KJ_sa) | (with_reducible apply KJ_sb) | (with_reducible apply KJ_sl) | decide | (intro _))
theorem kj_Md_name_172 (F : Nat) (σ : zS) (h : KJ σ) : pq (KJ) (Md_name_172 F σ) := by
  unfold Md_name_172
  repeat' (first | assumption | (with_reducible apply pq_ite) | (with_reducible apply pp_ite) | (with_reducible apply pq_gd) | (with_reducible apply pp_gd) | (with_reducible apply pq_bv) | (with_reducible apply pp_bv) | (with_reducible apply pq_bi) | (with_reducible apply pp_bi) | (with_reducible apply pq_some) | (with_reducible apply pp_some) | (with_reducible apply KJ_si) | (with_reducible apply KJ_sa) | (with_reducible apply KJ_sb) | (with_reducible apply KJ_sl) | decide | (intro _))
theorem kj_Md_name_149 (F : Nat) (σ : zS) (x2 : Int32) (s1 : Int32) (h : KJ σ) : pq (KJ) (Md_name_149 F σ x2 s1) := by
  unfold Md_name_149
  repeat' (first | assumption | (with_reducible apply kj_Md_name_172) | (with_reducible apply kj_Md_wrong) | (with_reducible apply pq_ite) | (with_reducible apply pp_ite) | (with_reducible apply pq_gd) | (with_reducible apply pp_gd) | (with_reducible apply pq_bv) | (with_reducible apply pp_bv) | (with_reducible apply pq_bi) | (with_reducible apply pp_bi) | (with_reducible apply pq_some) | (with_reducible apply pp_some) | (with_reducible apply KJ_si) | (with_reducible apply KJ_sa) | (with_reducible apply KJ_sb) | (with_reducible apply KJ_sl) | decide | (intro _))
theorem kj_Md_name_148 (F : Nat) (σ : zS) (x2 : Int32) (h : KJ σ) : pq (KJ) (Md_name_148 F σ x2) := by
  unfold Md_name_148
  repeat' (first | assumption | (with_reducible apply kj_Md_name_149) | (with_reducible apply pq_ite) | (with_reducible apply pp_ite) | (with_reducible apply pq_gd) | (with_reducible apply pp_gd) | (with_reducible apply pq_bv) | (with_reducible apply pp_bv) | (with_reducible apply pq_bi) | (with_reducible apply pp_bi) | (with_reducible apply pq_some) | (with_reducible apply pp_some) | (with_reducible apply KJ_si) | (with_reducible apply KJ_sa) | (with_reducible apply KJ_sb) | (with_reducible apply KJ_sl) | decide | (intro _))
theorem kj_Md_name_144 (F : Nat) (σ : zS) (x2 : Int32) (h : KJ σ) : pq (KJ) (Md_name_144 F σ x2) := by
  unfold Md_name_144
  repeat' (first | assumption | (with_reducible apply kj_Md_name_149) | (with_reducible apply pq_ite) | (with_reducible apply pp_ite) | (with_reducible apply pq_gd) | (with_reducible apply pp_gd) | (with_reducible apply pq_bv) | (with_reducible apply pp_bv) | (with_reducible apply pq_bi) | (with_reducible apply pp_bi) | (with_reducible apply pq_some) | (with_reducible apply pp_some) | (with_reducible apply KJ_si) | (with_reducible apply KJ_sa) | (with_reducible apply KJ_sb) | (with_reducible apply KJ_sl) | decide | (intro _))
theorem kj_Md_name_128 (F : Nat) (σ : zS) (x2 : Int32) (h : KJ σ) : pq (KJ) (Md_name_128 F σ x2) := by
  unfold Md_name_128
  repeat' (first | assumption | (with_reducible apply kj_Md_name_144) | (with_reducible apply kj_Md_name_148) | (with_reducible apply pq_ite) | (with_reducible apply pp_ite) | (with_reducible apply pq_gd) | (with_reducible apply pp_gd) | (with_reducible apply pq_bv) | (with_reducible apply pp_bv) | (with_reducible apply pq_bi) | (with_reducible apply pp_bi) | (with_reducible apply pq_some) | (with_reducible apply pp_some) | (with_reducible apply KJ_si) | (with_reducible apply KJ_sa) | (with_reducible apply KJ_sb) | (with_reducible apply KJ_sl) | decide | (intro _))
theorem kj_Md_name_112 (F : Nat) (σ : zS) (x2 : Int32) (h : KJ σ) : pq (KJ) (Md_name_112 F σ x2) := by
  unfold Md_name_112
  repeat' (first | assumption | (with_reducible apply kj_Md_name_144) | (with_reducible apply kj_Md_name_128) | (with_reducible apply pq_ite) | (with_reducible apply pp_ite) | (with_reducible apply pq_gd) | (with_reducible apply pp_gd) | (with_reducible apply pq_bv) | (with_reducible apply pp_bv) | (with_reducible apply pq_bi) | (with_reducible apply pp_bi) | (with_reducible apply pq_some) | (with_reducible apply pp_some) | (with_reducible apply KJ_si) | (with_reducible apply KJ_sa) | (with_reducible apply KJ_sb) | (with_reducible apply KJ_sl) | decide | (intro _))
theorem kj_Md_name_96 (F : Nat) (σ : zS) (x2 : Int32) (h : KJ σ) : pq (KJ) (Md_name_96 F σ x2) := by
  unfold Md_name_96
  repeat' (first | assumption | (with_reducible apply kj_Md_name_144) | (with_reducible apply kj_Md_name_112) | (with_reducible apply pq_ite) | (with_reducible apply pp_ite) | (with_reducible apply pq_gd) | (with_reducible apply pp_gd) | (with_reducible apply pq_bv) | (with_reducible apply pp_bv) | (with_reducible apply pq_bi) | (with_reducible apply pp_bi) | (with_reducible apply pq_some) | (with_reducible apply pp_some) | (with_reducible apply KJ_si) | (with_reducible apply KJ_sa) | (with_reducible apply KJ_sb) | (with_reducible apply KJ_sl) | decide | (intro _))
theorem kj_Md_name_52 (F : Nat) (rc7 : zS → Int32 → Int32 → Option zS) (σ : zS) (x1 : Int32) (x2 : Int32) (s1 : Int64) (hrc7 : ∀ y0 y1 y2, KJ y0 → pq (KJ) (rc7 y0 y1 y2)) (h : KJ σ) : pq (KJ) (Md_name_52 F rc7 σ x1 x2 s1) := by
  unfold Md_name_52
  repeat' (first | assumption | (with_reducible apply hrc7) | (with_reducible apply pq_ite) | (with_reducible apply pp_ite) | (with_reducible apply pq_gd) | (with_reducible apply pp_gd) | (with_reducible apply pq_bv) | (with_reducible apply pp_bv) | (with_reducible apply pq_bi) | (with_reducible apply pp_bi) | (with_reducible apply pq_some) | (with_reducible apply pp_some) | (with_reducible apply KJ_si) | (with_reducible apply KJ_sa) | (with_reducible apply KJ_sb) | (with_reducible apply KJ_sl) | decide | (intro _))
theorem kj_Md_name_b7 (F : Nat) (rc7 : zS → Int32 → Int32 → Option zS) (σ : zS) (x1 : Int32) (x2 : Int32) (hrc7 : ∀ y0 y1 y2, KJ y0 → pq (KJ) (rc7 y0 y1 y2)) (h : KJ σ) : pq (KJ) (Md_name_b7 F rc7 σ x1 x2) := by
  unfold Md_name_b7
  repeat' (first | assumption | (with_reducible apply hrc7) | (with_reducible apply kj_Md_byteAt) | (with_reducible apply kj_Md_isOf) | (with_reducible apply kj_Md_name_144) | (with_reducible apply kj_Md_name_96) | (with_reducible apply kj_Md_name_149) | (with_reducible apply kj_Md_name_52) | (with_reducible apply pq_ite) | (with_reducible apply pp_ite) | (with_reducible apply pq_gd) | (with_reducible apply pp_gd) | (with_reducible apply pq_bv) | (with_reducible apply pp_bv) | (with_reducible apply pq_bi) | (with_reducible apply pp_bi) | (with_reducible apply pq_some) | (with_reducible apply pp_some) | (with_reducible apply KJ_si) | (with_reducible apply KJ_sa) | (with_reducible apply KJ_sb) | (with_reducible apply KJ_sl) | decide | (intro _))
theorem kj_Md_name_7 (F : Nat) : ∀ (n : Nat) (a0 : zS) (a1 : Int32) (a2 : Int32), KJ a0 → pq (KJ) (Md_name_7 F n a0 a1 a2)
  | 0, _, _, _, _ => pq_none
  | n + 1, a0, a1, a2, h => kj_Md_name_b7 F (Md_name_7 F n) a0 a1 a2  (kj_Md_name_7 F  n) h
theorem kj_Md_name (F : Nat) (σ : zS) (x1 : Int32) (h : KJ σ) : pq (KJ) (Md_name F σ x1) := by
  unfold Md_name
  repeat' (first | assumption | (with_reducible apply kj_Md_name_7) | (with_reducible apply pq_ite) | (with_reducible apply pp_ite) | (with_reducible apply pq_gd) | (with_reducible apply pp_gd) | (with_reducible apply pq_bv) | (with_reducible apply pp_bv) | (with_reducible apply pq_bi) | (with_reducible apply pp_bi) | (with_reducible apply pq_some) | (with_reducible apply pp_some) | (with_reducible apply KJ_si) | (with_reducible apply KJ_sa) | (with_reducible apply KJ_sb) | (with_reducible apply KJ_sl) | decide | (intro _))
theorem kj_Md_next_26 (F : Nat) (rc0 : zS → Option zS) (σ : zS) (hrc0 : ∀ y0, KJ y0 → pq (KJ) (rc0 y0)) (h : KJ σ) : pq (KJ) (Md_next_26 F rc0 σ) := by
  unfold Md_next_26
  repeat' (first | assumption | (with_reducible apply hrc0) | (with_reducible apply pq_ite) | (with_reducible apply pp_ite) | (with_reducible apply pq_gd) | (with_reducible apply pp_gd) | (with_reducible apply pq_bv) | (with_reducible apply pp_bv) | (with_reducible apply pq_bi) | (with_reducible apply pp_bi) | (with_reducible apply pq_some) | (with_reducible apply pp_some) | (with_reducible apply KJ_si) | (with_reducible apply KJ_sa) | (with_reducible apply KJ_sb) | (with_reducible apply KJ_sl) | decide | (intro _))
theorem kj_Md_next_67 (F : Nat) (σ : zS) (h : KJ σ) : pq (KJ) (Md_next_67 F σ) := by
  unfold Md_next_67
  repeat' (first | assumption | (with_reducible apply pq_ite) | (with_reducible apply pp_ite) | (with_reducible apply pq_gd) | (with_reducible apply pp_gd) | (with_reducible apply pq_bv) | (with_reducible apply pp_bv) | (with_reducible apply pq_bi) | (with_reducible apply pp_bi) | (with_reducible apply pq_some) | (with_reducible apply pp_some) | (with_reducible apply KJ_si) | (with_reducible apply KJ_sa) | (with_reducible apply KJ_sb) | (with_reducible apply KJ_sl) | decide | (intro _))
theorem kj_Md_next_87 (F : Nat) (σ : zS) (x1 : Int32) (h : KJ σ) : pq (KJ) (Md_next_87 F σ x1) := by
  unfold Md_next_87
  repeat' (first | assumption | (with_reducible apply kj_Md_isUpper) | (with_reducible apply kj_Md_name) | (with_reducible apply pq_ite) | (with_reducible apply pp_ite) | (with_reducible apply pq_gd) | (with_reducible apply pp_gd) | (with_reducible apply pq_bv) | (with_reducible apply pp_bv) | (with_reducible apply pq_bi) | (with_reducible apply pp_bi) | (with_reducible apply pq_some) | (with_reducible apply pp_some) | (with_reducible apply KJ_si) | (with_reducible apply KJ_sa) | (with_reducible apply KJ_sb) | (with_reducible apply KJ_sl) | decide | (intro _))
theorem kj_Md_next_271 (F : Nat) (σ : zS) (h : KJ σ) : pq (KJ) (Md_next_271 F σ) := by
  unfold Md_next_271
  repeat' (first | assumption | (with_reducible apply pq_ite) | (with_reducible apply pp_ite) | (with_reducible apply pq_gd) | (with_reducible apply pp_gd) | (with_reducible apply pq_bv) | (with_reducible apply pp_bv) | (with_reducible apply pq_bi) | (with_reducible apply pp_bi) | (with_reducible apply pq_some) | (with_reducible apply pp_some) | (with_reducible apply KJ_si) | (with_reducible apply KJ_sa) | (with_reducible apply KJ_sb) | (with_reducible apply KJ_sl) | decide | (intro _))
theorem kj_Md_next_237 (F : Nat) (σ : zS) (x1 : Int32) (s0 : Int32) (h : KJ σ) : pq (KJ) (Md_next_237 F σ x1 s0) := by
  unfold Md_next_237
  repeat' (first | assumption | (with_reducible apply kj_Md_wrong) | (with_reducible apply kj_Md_next_271) | (with_reducible apply pq_ite) | (with_reducible apply pp_ite) | (with_reducible apply pq_gd) | (with_reducible apply pp_gd) | (with_reducible apply pq_bv) | (with_reducible apply pp_bv) | (with_reducible apply pq_bi) | (with_reducible apply pp_bi) | (with_reducible apply pq_some) | (with_reducible apply pp_some) | (with_reducible apply KJ_si) | (with_reducible apply KJ_sa) | (with_reducible apply KJ_sb) | (with_reducible apply KJ_sl) | decide | (intro _))
theorem kj_Md_next_232 (F : Nat) (σ : zS) (x1 : Int32) (h : KJ σ) : pq (KJ) (Md_next_232 F σ x1) := by
  unfold Md_next_232
  repeat' (first | assumption | (with_reducible apply kj_Md_next_237) | (with_reducible apply pq_ite) | (with_reducible apply pp_ite) | (with_reducible apply pq_gd) | (with_reducible apply pp_gd) | (with_reducible apply pq_bv) | (with_reducible apply pp_bv) | (with_reducible apply pq_bi) | (with_reducible apply pp_bi) | (with_reducible apply pq_some) | (with_reducible apply pp_some) | (with_reducible apply KJ_si) | (with_reducible apply KJ_sa) | (with_reducible apply KJ_sb) | (with_reducible apply KJ_sl) | decide | (intro _))
theorem kj_Md_next_166 (F : Nat) (σ : zS) (x1 : Int32) (h : KJ σ) : pq (KJ) (Md_next_166 F σ x1) := by
  unfold Md_next_166
  repeat' (first | assumption | (with_reducible apply kj_Md_next_232) | (with_reducible apply kj_Md_next_237) | (with_reducible apply pq_ite) | (with_reducible apply pp_ite) | (with_reducible apply pq_gd) | (with_reducible apply pp_gd) | (with_reducible apply pq_bv) | (with_reducible apply pp_bv) | (with_reducible apply pq_bi) | (with_reducible apply pp_bi) | (with_reducible apply pq_some) | (with_reducible apply pp_some) | (with_reducible apply KJ_si) | (with_reducible apply KJ_sa) | (with_reducible apply KJ_sb) | (with_reducible apply KJ_sl) | decide | (intro _))
theorem kj_Md_next_152 (F : Nat) (σ : zS) (s1 : Int32) (h : KJ σ) : pq (KJ) (Md_next_152 F σ s1) := by
  unfold Md_next_152
  repeat' (first | assumption | (with_reducible apply pq_ite) | (with_reducible apply pp_ite) | (with_reducible apply pq_gd) | (with_reducible apply pp_gd) | (with_reducible apply pq_bv) | (with_reducible apply pp_bv) | (with_reducible apply pq_bi) | (with_reducible apply pp_bi) | (with_reducible apply pq_some) | (with_reducible apply pp_some) | (with_reducible apply KJ_si) | (with_reducible apply KJ_sa) | (with_reducible apply KJ_sb) | (with_reducible apply KJ_sl) | decide | (intro _))
theorem kj_Md_next_136 (F : Nat) (σ : zS) (x1 : Int32) (h : KJ σ) : pq (KJ) (Md_next_136 F σ x1) := by
  unfold Md_next_136
  repeat' (first | assumption | (with_reducible apply kj_Md_next_152) | (with_reducible apply pq_ite) | (with_reducible apply pp_ite) | (with_reducible apply pq_gd) | (with_reducible apply pp_gd) | (with_reducible apply pq_bv) | (with_reducible apply pp_bv) | (with_reducible apply pq_bi) | (with_reducible apply pp_bi) | (with_reducible apply pq_some) | (with_reducible apply pp_some) | (with_reducible apply KJ_si) | (with_reducible apply KJ_sa) | (with_reducible apply KJ_sb) | (with_reducible apply KJ_sl) | decide | (intro _))
theorem kj_Md_next_124 (F : Nat) (σ : zS) (x1 : Int32) (x2 : Int32) (h : KJ σ) : pq (KJ) (Md_next_124 F σ x1 x2) := by
  unfold Md_next_124
  repeat' (first | assumption | (with_reducible apply kj_Md_next_136) | (with_reducible apply kj_Md_next_166) | (with_reducible apply pq_ite) | (with_reducible apply pp_ite) | (with_reducible apply pq_gd) | (with_reducible apply pp_gd) | (with_reducible apply pq_bv) | (with_reducible apply pp_bv) | (with_reducible apply pq_bi) | (with_reducible apply pp_bi) | (with_reducible apply pq_some) | (with_reducible apply pp_some) | (with_reducible apply KJ_si) | (with_reducible apply KJ_sa) | (with_reducible apply KJ_sb) | (with_reducible apply KJ_sl) | decide | (intro _))
theorem kj_Md_next_b0 (F : Nat) (rc0 : zS → Option zS) (σ : zS) (hrc0 : ∀ y0, KJ y0 → pq (KJ) (rc0 y0)) (h : KJ σ) : pq (KJ) (Md_next_b0 F rc0 σ) := by
  unfold Md_next_b0
  repeat' (first | assumption | (with_reducible apply hrc0) | (with_reducible apply kj_Md_byteAt) | (with_reducible apply kj_Md_next_26) | (with_reducible apply kj_Md_next_67) | (with_reducible apply kj_Md_isUpper) | (with_reducible apply kj_Md_isLower) | (with_reducible apply kj_Md_next_136) | (with_reducible apply kj_Md_next_124) | (with_reducible apply kj_Md_next_87) | (with_reducible apply pq_ite) | (with_reducible apply pp_ite) | (with_reducible apply pq_gd) | (with_reducible apply pp_gd) | (with_reducible apply pq_bv) | (with_reducible apply pp_bv) | (with_reducible apply pq_bi) | (with_reducible apply pp_bi) | (with_reducible apply pq_some) | (with_reducible apply pp_some) | (with_reducible apply KJ_si) | (with_reducible apply KJ_sa) | (with_reducible apply KJ_sb) | (with_reducible apply KJ_sl) | decide | (intro _))
theorem kj_Md_next_0 (F : Nat) : ∀ (n : Nat) (a0 : zS), KJ a0 → pq (KJ) (Md_next_0 F n a0)
  | 0, _, _ => pq_none
  | n + 1, a0, h => kj_Md_next_b0 F (Md_next_0 F n) a0  (kj_Md_next_0 F  n) h
theorem kj_Md_next (F : Nat) (σ : zS) (h : KJ σ) : pq (KJ) (Md_next F σ) := by
  unfold Md_next
  repeat' (first | assumption | (with_reducible apply kj_Md_next_0) | (with_reducible apply pq_ite) | (with_reducible apply pp_ite) | (with_reducible apply pq_gd) | (with_reducible apply pp_gd) | (with_reducible apply pq_bv) | (with_reducible apply pp_bv) | (with_reducible apply pq_bi) | (with_reducible apply pp_bi) | (with_reducible apply pq_some) | (with_reducible apply pp_some) | (with_reducible apply KJ_si) | (with_reducible apply KJ_sa) | (with_reducible apply KJ_sb) | (with_reducible apply KJ_sl) | decide | (intro _))
theorem kj_Md_isSign_28 (F : Nat) (σ : zS) (s0 : Int32) (h : KJ σ) : pp (KJ) (Md_isSign_28 F σ s0) := by
  unfold Md_isSign_28
  repeat' (first | assumption | (with_reducible apply pq_ite) | (with_reducible apply pp_ite) | (with_reducible apply pq_gd) | (with_reducible apply pp_gd) | (with_reducible apply pq_bv) | (with_reducible apply pp_bv) | (with_reducible apply pq_bi) | (with_reducible apply pp_bi) | (with_reducible apply pq_some) | (with_reducible apply pp_some) | (with_reducible apply KJ_si) | (with_reducible apply KJ_sa) | (with_reducible apply KJ_sb) | (with_reducible apply KJ_sl) | decide | (intro _))
theorem kj_Md_isSign_27 (F : Nat) (σ : zS) (h : KJ σ) : pp (KJ) (Md_isSign_27 F σ) := by
  unfold Md_isSign_27
  repeat' (first | assumption | (with_reducible apply kj_Md_isSign_28) | (with_reducible apply pq_ite) | (with_reducible apply pp_ite) | (with_reducible apply pq_gd) | (with_reducible apply pp_gd) | (with_reducible apply pq_bv) | (with_reducible apply pp_bv) | (with_reducible apply pq_bi) | (with_reducible apply pp_bi) | (with_reducible apply pq_some) | (with_reducible apply pp_some) | (with_reducible apply KJ_si) | (with_reducible apply KJ_sa) | (with_reducible apply KJ_sb) | (with_reducible apply KJ_sl) | decide | (intro _))
theorem kj_Md_isSign (F : Nat) (σ : zS) (x1 : Int32) (h : KJ σ) : pp (KJ) (Md_isSign F σ x1) := by
  unfold Md_isSign
  repeat' (first | assumption | (with_reducible apply kj_Md_isSign_28) | (with_reducible apply kj_Md_isSign_27) | (with_reducible apply pq_ite) | (with_reducible apply pp_ite) | (with_reducible apply pq_gd) | (with_reducible apply pp_gd) | (with_reducible apply pq_bv) | (with_reducible apply pp_bv) | (with_reducible apply pq_bi) | (with_reducible apply pp_bi) | (with_reducible apply pq_some) | (with_reducible apply pp_some) | (with_reducible apply KJ_si) | (with_reducible apply KJ_sa) | (with_reducible apply KJ_sb) | (with_reducible apply KJ_sl) | decide | (intro _))
theorem kj_Md_cannot (F : Nat) (σ : zS) (h : KJ σ) : pq (KJ) (Md_cannot F σ) := by
  unfold Md_cannot
  repeat' (first | assumption | (with_reducible apply kj_Md_wrong) | (with_reducible apply pq_ite) | (with_reducible apply pp_ite) | (with_reducible apply pq_gd) | (with_reducible apply pp_gd) | (with_reducible apply pq_bv) | (with_reducible apply pp_bv) | (with_reducible apply pq_bi) | (with_reducible apply pp_bi) | (with_reducible apply pq_some) | (with_reducible apply pp_some) | (with_reducible apply KJ_si) | (with_reducible apply KJ_sa) | (with_reducible apply KJ_sb) | (with_reducible apply KJ_sl) | decide | (intro _))
theorem kj_Md_want_19 (F : Nat) (σ : zS) (h : KJ σ) : pq (KJ) (Md_want_19 F σ) := by
  unfold Md_want_19
  repeat' (first | assumption | (with_reducible apply pq_ite) | (with_reducible apply pp_ite) | (with_reducible apply pq_gd) | (with_reducible apply pp_gd) | (with_reducible apply pq_bv) | (with_reducible apply pp_bv) | (with_reducible apply pq_bi) | (with_reducible apply pp_bi) | (with_reducible apply pq_some) | (with_reducible apply pp_some) | (with_reducible apply KJ_si) | (with_reducible apply KJ_sa) | (with_reducible apply KJ_sb) | (with_reducible apply KJ_sl) | decide | (intro _))
theorem kj_Md_want (F : Nat) (σ : zS) (x1 : Int32) (h : KJ σ) : pq (KJ) (Md_want F σ x1) := by
  unfold Md_want
  repeat' (first | assumption | (with_reducible apply kj_Md_isSign) | (with_reducible apply kj_Md_cannot) | (with_reducible apply kj_Md_want_19) | (with_reducible apply kj_Md_next) | (with_reducible apply pq_ite) | (with_reducible apply pp_ite) | (with_reducible apply pq_gd) | (with_reducible apply pp_gd) | (with_reducible apply pq_bv) | (with_reducible apply pp_bv) | (with_reducible apply pq_bi) | (with_reducible apply pp_bi) | (with_reducible apply pq_some) | (with_reducible apply pp_some) | (with_reducible apply KJ_si) | (with_reducible apply KJ_sa) | (with_reducible apply KJ_sb) | (with_reducible apply KJ_sl) | decide | (intro _))
theorem kj_Md_tell (F : Nat) (σ : zS) (x1 : Int32) (x2 : Int32) (h : KJ σ) : pq (KJ) (Md_tell F σ x1 x2) := by
  unfold Md_tell
  repeat' (first | assumption | (with_reducible apply pq_ite) | (with_reducible apply pp_ite) | (with_reducible apply pq_gd) | (with_reducible apply pp_gd) | (with_reducible apply pq_bv) | (with_reducible apply pp_bv) | (with_reducible apply pq_bi) | (with_reducible apply pp_bi) | (with_reducible apply pq_some) | (with_reducible apply pp_some) | (with_reducible apply KJ_si) | (with_reducible apply KJ_sa) | (with_reducible apply KJ_sb) | (with_reducible apply KJ_sl) | decide | (intro _))
theorem kj_Md_act (F : Nat) (σ : zS) (x1 : Int32) (x2 : Int32) (x3 : Int32) (h : KJ σ) : pq (KJ) (Md_act F σ x1 x2 x3) := by
  unfold Md_act
  repeat' (first | assumption | (with_reducible apply pq_ite) | (with_reducible apply pp_ite) | (with_reducible apply pq_gd) | (with_reducible apply pp_gd) | (with_reducible apply pq_bv) | (with_reducible apply pp_bv) | (with_reducible apply pq_bi) | (with_reducible apply pp_bi) | (with_reducible apply pq_some) | (with_reducible apply pp_some) | (with_reducible apply KJ_si) | (with_reducible apply KJ_sa) | (with_reducible apply KJ_sb) | (with_reducible apply KJ_sl) | decide | (intro _))
theorem kj_Md_node (F : Nat) (σ : zS) (x1 : Int32) (x2 : Int32) (x3 : Int32) (h : KJ σ) : pp (KJ) (Md_node F σ x1 x2 x3) := by
  unfold Md_node
  repeat' (first | assumption | (with_reducible apply pq_ite) | (with_reducible apply pp_ite) | (with_reducible apply pq_gd) | (with_reducible apply pp_gd) | (with_reducible apply pq_bv) | (with_reducible apply pp_bv) | (with_reducible apply pq_bi) | (with_reducible apply pp_bi) | (with_reducible apply pq_some) | (with_reducible apply pp_some) | (with_reducible apply KJ_si) | (with_reducible apply KJ_sa) | (with_reducible apply KJ_sb) | (with_reducible apply KJ_sl) | decide | (intro _))
theorem kj_Md_count_29 (F : Nat) (σ : zS) (h : KJ σ) : pq (KJ) (Md_count_29 F σ) := by
  unfold Md_count_29
  repeat' (first | assumption | (with_reducible apply pq_ite) | (with_reducible apply pp_ite) | (with_reducible apply pq_gd) | (with_reducible apply pp_gd) | (with_reducible apply pq_bv) | (with_reducible apply pp_bv) | (with_reducible apply pq_bi) | (with_reducible apply pp_bi) | (with_reducible apply pq_some) | (with_reducible apply pp_some) | (with_reducible apply KJ_si) | (with_reducible apply KJ_sa) | (with_reducible apply KJ_sb) | (with_reducible apply KJ_sl) | decide | (intro _))
theorem kj_Md_count (F : Nat) (σ : zS) (h : KJ σ) : pq (KJ) (Md_count F σ) := by
  unfold Md_count
  repeat' (first | assumption | (with_reducible apply kj_Md_count_29) | (with_reducible apply kj_Md_wrong) | (with_reducible apply pq_ite) | (with_reducible apply pp_ite) | (with_reducible apply pq_gd) | (with_reducible apply pp_gd) | (with_reducible apply pq_bv) | (with_reducible apply pp_bv) | (with_reducible apply pq_bi) | (with_reducible apply pp_bi) | (with_reducible apply pq_some) | (with_reducible apply pp_some) | (with_reducible apply KJ_si) | (with_reducible apply KJ_sa) | (with_reducible apply KJ_sb) | (with_reducible apply KJ_sl) | decide | (intro _))
theorem kj_Md_deeper_28 (F : Nat) (σ : zS) (h : KJ σ) : pq (KJ) (Md_deeper_28 F σ) := by
  unfold Md_deeper_28
  repeat' (first | assumption | (with_reducible apply pq_ite) | (with_reducible apply pp_ite) | (with_reducible apply pq_gd) | (with_reducible apply pp_gd) | (with_reducible apply pq_bv) | (with_reducible apply pp_bv) | (with_reducible apply pq_bi) | (with_reducible apply pp_bi) | (with_reducible apply pq_some) | (with_reducible apply pp_some) | (with_reducible apply KJ_si) | (with_reducible apply KJ_sa) | (with_reducible apply KJ_sb) | (with_reducible apply KJ_sl) | decide | (intro _))
theorem kj_Md_deeper (F : Nat) (σ : zS) (h : KJ σ) : pq (KJ) (Md_deeper F σ) := by
  unfold Md_deeper
  repeat' (first | assumption | (with_reducible apply kj_Md_deeper_28) | (with_reducible apply kj_Md_wrong) | (with_reducible apply pq_ite) | (with_reducible apply pp_ite) | (with_reducible apply pq_gd) | (with_reducible apply pp_gd) | (with_reducible apply pq_bv) | (with_reducible apply pp_bv) | (with_reducible apply pq_bi) | (with_reducible apply pp_bi) | (with_reducible apply pq_some) | (with_reducible apply pp_some) | (with_reducible apply KJ_si) | (with_reducible apply KJ_sa) | (with_reducible apply KJ_sb) | (with_reducible apply KJ_sl) | decide | (intro _))
theorem kj_Md_canBegin_46 (F : Nat) (σ : zS) (s0 : Int32) (h : KJ σ) : pp (KJ) (Md_canBegin_46 F σ s0) := by
  unfold Md_canBegin_46
  repeat' (first | assumption | (with_reducible apply pq_ite) | (with_reducible apply pp_ite) | (with_reducible apply pq_gd) | (with_reducible apply pp_gd) | (with_reducible apply pq_bv) | (with_reducible apply pp_bv) | (with_reducible apply pq_bi) | (with_reducible apply pp_bi) | (with_reducible apply pq_some) | (with_reducible apply pp_some) | (with_reducible apply KJ_si) | (with_reducible apply KJ_sa) | (with_reducible apply KJ_sb) | (with_reducible apply KJ_sl) | decide | (intro _))
theorem kj_Md_canBegin_45 (F : Nat) (σ : zS) (h : KJ σ) : pp (KJ) (Md_canBegin_45 F σ) := by
  unfold Md_canBegin_45
  repeat' (first | assumption | (with_reducible apply kj_Md_canBegin_46) | (with_reducible apply pq_ite) | (with_reducible apply pp_ite) | (with_reducible apply pq_gd) | (with_reducible apply pp_gd) | (with_reducible apply pq_bv) | (with_reducible apply pp_bv) | (with_reducible apply pq_bi) | (with_reducible apply pp_bi) | (with_reducible apply pq_some) | (with_reducible apply pp_some) | (with_reducible apply KJ_si) | (with_reducible apply KJ_sa) | (with_reducible apply KJ_sb) | (with_reducible apply KJ_sl) | decide | (intro _))
theorem kj_Md_canBegin_41 (F : Nat) (σ : zS) (h : KJ σ) : pp (KJ) (Md_canBegin_41 F σ) := by
  unfold Md_canBegin_41
  repeat' (first | assumption | (with_reducible apply kj_Md_canBegin_46) | (with_reducible apply pq_ite) | (with_reducible apply pp_ite) | (with_reducible apply pq_gd) | (with_reducible apply pp_gd) | (with_reducible apply pq_bv) | (with_reducible apply pp_bv) | (with_reducible apply pq_bi) | (with_reducible apply pp_bi) | (with_reducible apply pq_some) | (with_reducible apply pp_some) | (with_reducible apply KJ_si) | (with_reducible apply KJ_sa) | (with_reducible apply KJ_sb) | (with_reducible apply KJ_sl) | decide | (intro _))
theorem kj_Md_canBegin (F : Nat) (σ : zS) (h : KJ σ) : pp (KJ) (Md_canBegin F σ) := by
  unfold Md_canBegin
  repeat' (first | assumption | (with_reducible apply kj_Md_canBegin_41) | (with_reducible apply kj_Md_isSign) | (with_reducible apply kj_Md_canBegin_45) | (with_reducible apply pq_ite) | (with_reducible apply pp_ite) | (with_reducible apply pq_gd) | (with_reducible apply pp_gd) | (with_reducible apply pq_bv) | (with_reducible apply pp_bv) | (with_reducible apply pq_bi) | (with_reducible apply pp_bi) | (with_reducible apply pq_some) | (with_reducible apply pp_some) | (with_reducible apply KJ_si) | (with_reducible apply KJ_sa) | (with_reducible apply KJ_sb) | (with_reducible apply KJ_sl) | decide | (intro _))
theorem kj_Md_open (F : Nat) (σ : zS) (x1 : Int32) (h : KJ σ) : pq (KJ) (Md_open F σ x1) := by
  unfold Md_open
  repeat' (first | assumption | (with_reducible apply pq_ite) | (with_reducible apply pp_ite) | (with_reducible apply pq_gd) | (with_reducible apply pp_gd) | (with_reducible apply pq_bv) | (with_reducible apply pp_bv) | (with_reducible apply pq_bi) | (with_reducible apply pp_bi) | (with_reducible apply pq_some) | (with_reducible apply pp_some) | (with_reducible apply KJ_si) | (with_reducible apply KJ_sa) | (with_reducible apply KJ_sb) | (with_reducible apply KJ_sl) | decide | (intro _))
theorem kj_Md_addOne_98 (F : Nat) (σ : zS) (x1 : Int32) (x3 : Int32) (h : KJ σ) : pq (KJ) (Md_addOne_98 F σ x1 x3) := by
  unfold Md_addOne_98
  repeat' (first | assumption | (with_reducible apply kj_Md_node) | (with_reducible apply kj_Md_act) | (with_reducible apply pq_ite) | (with_reducible apply pp_ite) | (with_reducible apply pq_gd) | (with_reducible apply pp_gd) | (with_reducible apply pq_bv) | (with_reducible apply pp_bv) | (with_reducible apply pq_bi) | (with_reducible apply pp_bi) | (with_reducible apply pq_some) | (with_reducible apply pp_some) | (with_reducible apply KJ_si) | (with_reducible apply KJ_sa) | (with_reducible apply KJ_sb) | (with_reducible apply KJ_sl) | decide | (intro _))
theorem kj_Md_addOne_85 (F : Nat) (σ : zS) (s1 : Int32) (s2 : Int32) (h : KJ σ) : pq (KJ) (Md_addOne_85 F σ s1 s2) := by
  unfold Md_addOne_85
  repeat' (first | assumption | (with_reducible apply pq_ite) | (with_reducible apply pp_ite) | (with_reducible apply pq_gd) | (with_reducible apply pp_gd) | (with_reducible apply pq_bv) | (with_reducible apply pp_bv) | (with_reducible apply pq_bi) | (with_reducible apply pp_bi) | (with_reducible apply pq_some) | (with_reducible apply pp_some) | (with_reducible apply KJ_si) | (with_reducible apply KJ_sa) | (with_reducible apply KJ_sb) | (with_reducible apply KJ_sl) | decide | (intro _))
theorem kj_Md_addOne (F : Nat) (σ : zS) (x1 : Int32) (x2 : Int32) (x3 : Int32) (h : KJ σ) : pq (KJ) (Md_addOne F σ x1 x2 x3) := by
  unfold Md_addOne
  repeat' (first | assumption | (with_reducible apply kj_Md_addOne_98) | (with_reducible apply kj_Md_addOne_85) | (with_reducible apply pq_ite) | (with_reducible apply pp_ite) | (with_reducible apply pq_gd) | (with_reducible apply pp_gd) | (with_reducible apply pq_bv) | (with_reducible apply pp_bv) | (with_reducible apply pq_bi) | (with_reducible apply pp_bi) | (with_reducible apply pq_some) | (with_reducible apply pp_some) | (with_reducible apply KJ_si) | (with_reducible apply KJ_sa) | (with_reducible apply KJ_sb) | (with_reducible apply KJ_sl) | decide | (intro _))
theorem kj_Md_endSome_137 (F : Nat) (σ : zS) (x2 : Int32) (h : KJ σ) : pq (KJ) (Md_endSome_137 F σ x2) := by
  unfold Md_endSome_137
  repeat' (first | assumption | (with_reducible apply pq_ite) | (with_reducible apply pp_ite) | (with_reducible apply pq_gd) | (with_reducible apply pp_gd) | (with_reducible apply pq_bv) | (with_reducible apply pp_bv) | (with_reducible apply pq_bi) | (with_reducible apply pp_bi) | (with_reducible apply pq_some) | (with_reducible apply pp_some) | (with_reducible apply KJ_si) | (with_reducible apply KJ_sa) | (with_reducible apply KJ_sb) | (with_reducible apply KJ_sl) | decide | (intro _))
theorem kj_Md_endSome_100 (F : Nat) (σ : zS) (x1 : Int32) (s1 : Int32) (s2 : Int32) (h : KJ σ) : pq (KJ) (Md_endSome_100 F σ x1 s1 s2) := by
  unfold Md_endSome_100
  repeat' (first | assumption | (with_reducible apply kj_Md_node) | (with_reducible apply kj_Md_endSome_137) | (with_reducible apply pq_ite) | (with_reducible apply pp_ite) | (with_reducible apply pq_gd) | (with_reducible apply pp_gd) | (with_reducible apply pq_bv) | (with_reducible apply pp_bv) | (with_reducible apply pq_bi) | (with_reducible apply pp_bi) | (with_reducible apply pq_some) | (with_reducible apply pp_some) | (with_reducible apply KJ_si) | (with_reducible apply KJ_sa) | (with_reducible apply KJ_sb) | (with_reducible apply KJ_sl) | decide | (intro _))
theorem kj_Md_endSome_35 (F : Nat) (σ : zS) (h : KJ σ) : pq (KJ) (Md_endSome_35 F σ) := by
  unfold Md_endSome_35
  repeat' (first | assumption | (with_reducible apply kj_Md_endSome_100) | (with_reducible apply pq_ite) | (with_reducible apply pp_ite) | (with_reducible apply pq_gd) | (with_reducible apply pp_gd) | (with_reducible apply pq_bv) | (with_reducible apply pp_bv) | (with_reducible apply pq_bi) | (with_reducible apply pp_bi) | (with_reducible apply pq_some) | (with_reducible apply pp_some) | (with_reducible apply KJ_si) | (with_reducible apply KJ_sa) | (with_reducible apply KJ_sb) | (with_reducible apply KJ_sl) | decide | (intro _))
theorem kj_Md_endSome (F : Nat) (σ : zS) (h : KJ σ) : pq (KJ) (Md_endSome F σ) := by
  unfold Md_endSome
  repeat' (first | assumption | (with_reducible apply kj_Md_endSome_35) | (with_reducible apply pq_ite) | (with_reducible apply pp_ite) | (with_reducible apply pq_gd) | (with_reducible apply pp_gd) | (with_reducible apply pq_bv) | (with_reducible apply pp_bv) | (with_reducible apply pq_bi) | (with_reducible apply pp_bi) | (with_reducible apply pq_some) | (with_reducible apply pp_some) | (with_reducible apply KJ_si) | (with_reducible apply KJ_sa) | (with_reducible apply KJ_sb) | (with_reducible apply KJ_sl) | decide | (intro _))
theorem kj_Md_beginOne_115 (F : Nat) (σ : zS) (h : KJ σ) : pq (KJ) (Md_beginOne_115 F σ) := by
  unfold Md_beginOne_115
  repeat' (first | assumption | (with_reducible apply pq_ite) | (with_reducible apply pp_ite) | (with_reducible apply pq_gd) | (with_reducible apply pp_gd) | (with_reducible apply pq_bv) | (with_reducible apply pp_bv) | (with_reducible apply pq_bi) | (with_reducible apply pp_bi) | (with_reducible apply pq_some) | (with_reducible apply pp_some) | (with_reducible apply KJ_si) | (with_reducible apply KJ_sa) | (with_reducible apply KJ_sb) | (with_reducible apply KJ_sl) | decide | (intro _))
theorem kj_Md_beginOne_100 (F : Nat) (σ : zS) (x1 : Int32) (x2 : Int32) (x3 : Int32) (s1 : Int32) (h : KJ σ) : pq (KJ) (Md_beginOne_100 F σ x1 x2 x3 s1) := by
  unfold Md_beginOne_100
  repeat' (first | assumption | (with_reducible apply kj_Md_tell) | (with_reducible apply kj_Md_next) | (with_reducible apply kj_Md_addOne) | (with_reducible apply kj_Md_beginOne_115) | (with_reducible apply pq_ite) | (with_reducible apply pp_ite) | (with_reducible apply pq_gd) | (with_reducible apply pp_gd) | (with_reducible apply pq_bv) | (with_reducible apply pp_bv) | (with_reducible apply pq_bi) | (with_reducible apply pp_bi) | (with_reducible apply pq_some) | (with_reducible apply pp_some) | (with_reducible apply KJ_si) | (with_reducible apply KJ_sa) | (with_reducible apply KJ_sb) | (with_reducible apply KJ_sl) | decide | (intro _))
theorem kj_Md_beginOne_84 (F : Nat) (σ : zS) (x1 : Int32) (x2 : Int32) (s0 : Int32) (h : KJ σ) : pq (KJ) (Md_beginOne_84 F σ x1 x2 s0) := by
  unfold Md_beginOne_84
  repeat' (first | assumption | (with_reducible apply kj_Md_beginOne_100) | (with_reducible apply pq_ite) | (with_reducible apply pp_ite) | (with_reducible apply pq_gd) | (with_reducible apply pp_gd) | (with_reducible apply pq_bv) | (with_reducible apply pp_bv) | (with_reducible apply pq_bi) | (with_reducible apply pp_bi) | (with_reducible apply pq_some) | (with_reducible apply pp_some) | (with_reducible apply KJ_si) | (with_reducible apply KJ_sa) | (with_reducible apply KJ_sb) | (with_reducible apply KJ_sl) | decide | (intro _))
theorem kj_Md_beginOne_46 (F : Nat) (σ : zS) (x1 : Int32) (s1 : Int32) (h : KJ σ) : pq (KJ) (Md_beginOne_46 F σ x1 s1) := by
  unfold Md_beginOne_46
  repeat' (first | assumption | (with_reducible apply kj_Md_node) | (with_reducible apply kj_Md_beginOne_84) | (with_reducible apply pq_ite) | (with_reducible apply pp_ite) | (with_reducible apply pq_gd) | (with_reducible apply pp_gd) | (with_reducible apply pq_bv) | (with_reducible apply pp_bv) | (with_reducible apply pq_bi) | (with_reducible apply pp_bi) | (with_reducible apply pq_some) | (with_reducible apply pp_some) | (with_reducible apply KJ_si) | (with_reducible apply KJ_sa) | (with_reducible apply KJ_sb) | (with_reducible apply KJ_sl) | decide | (intro _))
theorem kj_Md_beginOne_21 (F : Nat) (σ : zS) (x1 : Int32) (h : KJ σ) : pq (KJ) (Md_beginOne_21 F σ x1) := by
  unfold Md_beginOne_21
  repeat' (first | assumption | (with_reducible apply kj_Md_count) | (with_reducible apply kj_Md_beginOne_46) | (with_reducible apply kj_Md_beginOne_115) | (with_reducible apply pq_ite) | (with_reducible apply pp_ite) | (with_reducible apply pq_gd) | (with_reducible apply pp_gd) | (with_reducible apply pq_bv) | (with_reducible apply pp_bv) | (with_reducible apply pq_bi) | (with_reducible apply pp_bi) | (with_reducible apply pq_some) | (with_reducible apply pp_some) | (with_reducible apply KJ_si) | (with_reducible apply KJ_sa) | (with_reducible apply KJ_sb) | (with_reducible apply KJ_sl) | decide | (intro _))
theorem kj_Md_beginOne_166 (F : Nat) (σ : zS) (h : KJ σ) : pq (KJ) (Md_beginOne_166 F σ) := by
  unfold Md_beginOne_166
  repeat' (first | assumption | (with_reducible apply pq_ite) | (with_reducible apply pp_ite) | (with_reducible apply pq_gd) | (with_reducible apply pp_gd) | (with_reducible apply pq_bv) | (with_reducible apply pp_bv) | (with_reducible apply pq_bi) | (with_reducible apply pp_bi) | (with_reducible apply pq_some) | (with_reducible apply pp_some) | (with_reducible apply KJ_si) | (with_reducible apply KJ_sa) | (with_reducible apply KJ_sb) | (with_reducible apply KJ_sl) | decide | (intro _))
theorem kj_Md_beginOne_159 (F : Nat) (σ : zS) (s1 : Int32) (h : KJ σ) : pq (KJ) (Md_beginOne_159 F σ s1) := by
  unfold Md_beginOne_159
  repeat' (first | assumption | (with_reducible apply kj_Md_open) | (with_reducible apply kj_Md_next) | (with_reducible apply kj_Md_beginOne_166) | (with_reducible apply pq_ite) | (with_reducible apply pp_ite) | (with_reducible apply pq_gd) | (with_reducible apply pp_gd) | (with_reducible apply pq_bv) | (with_reducible apply pp_bv) | (with_reducible apply pq_bi) | (with_reducible apply pp_bi) | (with_reducible apply pq_some) | (with_reducible apply pp_some) | (with_reducible apply KJ_si) | (with_reducible apply KJ_sa) | (with_reducible apply KJ_sb) | (with_reducible apply KJ_sl) | decide | (intro _))
theorem kj_Md_beginOne_142 (F : Nat) (σ : zS) (x2 : Int32) (h : KJ σ) : pq (KJ) (Md_beginOne_142 F σ x2) := by
  unfold Md_beginOne_142
  repeat' (first | assumption | (with_reducible apply kj_Md_beginOne_159) | (with_reducible apply kj_Md_beginOne_166) | (with_reducible apply pq_ite) | (with_reducible apply pp_ite) | (with_reducible apply pq_gd) | (with_reducible apply pp_gd) | (with_reducible apply pq_bv) | (with_reducible apply pp_bv) | (with_reducible apply pq_bi) | (with_reducible apply pp_bi) | (with_reducible apply pq_some) | (with_reducible apply pp_some) | (with_reducible apply KJ_si) | (with_reducible apply KJ_sa) | (with_reducible apply KJ_sb) | (with_reducible apply KJ_sl) | decide | (intro _))
theorem kj_Md_beginOne (F : Nat) (σ : zS) (h : KJ σ) : pq (KJ) (Md_beginOne F σ) := by
  unfold Md_beginOne
  repeat' (first | assumption | (with_reducible apply kj_Md_beginOne_21) | (with_reducible apply kj_Md_deeper) | (with_reducible apply kj_Md_isSign) | (with_reducible apply kj_Md_beginOne_142) | (with_reducible apply kj_Md_count) | (with_reducible apply pq_ite) | (with_reducible apply pp_ite) | (with_reducible apply pq_gd) | (with_reducible apply pp_gd) | (with_reducible apply pq_bv) | (with_reducible apply pp_bv) | (with_reducible apply pq_bi) | (with_reducible apply pp_bi) | (with_reducible apply pq_some) | (with_reducible apply pp_some) | (with_reducible apply KJ_si) | (with_reducible apply KJ_sa) | (with_reducible apply KJ_sb) | (with_reducible apply KJ_sl) | decide | (intro _))
theorem kj_Md_closeOne_109 (F : Nat) (σ : zS) (x3 : Int32) (s1 : Int32) (h : KJ σ) : pq (KJ) (Md_closeOne_109 F σ x3 s1) := by
  unfold Md_closeOne_109
  repeat' (first | assumption | (with_reducible apply kj_Md_addOne) | (with_reducible apply pq_ite) | (with_reducible apply pp_ite) | (with_reducible apply pq_gd) | (with_reducible apply pp_gd) | (with_reducible apply pq_bv) | (with_reducible apply pp_bv) | (with_reducible apply pq_bi) | (with_reducible apply pp_bi) | (with_reducible apply pq_some) | (with_reducible apply pp_some) | (with_reducible apply KJ_si) | (with_reducible apply KJ_sa) | (with_reducible apply KJ_sb) | (with_reducible apply KJ_sl) | decide | (intro _))
theorem kj_Md_closeOne_70 (F : Nat) (σ : zS) (x1 : Int32) (x2 : Int32) (x3 : Int32) (s1 : Int32) (h : KJ σ) : pq (KJ) (Md_closeOne_70 F σ x1 x2 x3 s1) := by
  unfold Md_closeOne_70
  repeat' (first | assumption | (with_reducible apply kj_Md_want) | (with_reducible apply kj_Md_closeOne_109) | (with_reducible apply kj_Md_node) | (with_reducible apply pq_ite) | (with_reducible apply pp_ite) | (with_reducible apply pq_gd) | (with_reducible apply pp_gd) | (with_reducible apply pq_bv) | (with_reducible apply pp_bv) | (with_reducible apply pq_bi) | (with_reducible apply pp_bi) | (with_reducible apply pq_some) | (with_reducible apply pp_some) | (with_reducible apply KJ_si) | (with_reducible apply KJ_sa) | (with_reducible apply KJ_sb) | (with_reducible apply KJ_sl) | decide | (intro _))
theorem kj_Md_closeOne_58 (F : Nat) (σ : zS) (x1 : Int32) (x2 : Int32) (x3 : Int32) (h : KJ σ) : pq (KJ) (Md_closeOne_58 F σ x1 x2 x3) := by
  unfold Md_closeOne_58
  repeat' (first | assumption | (with_reducible apply kj_Md_closeOne_70) | (with_reducible apply pq_ite) | (with_reducible apply pp_ite) | (with_reducible apply pq_gd) | (with_reducible apply pp_gd) | (with_reducible apply pq_bv) | (with_reducible apply pp_bv) | (with_reducible apply pq_bi) | (with_reducible apply pp_bi) | (with_reducible apply pq_some) | (with_reducible apply pp_some) | (with_reducible apply KJ_si) | (with_reducible apply KJ_sa) | (with_reducible apply KJ_sb) | (with_reducible apply KJ_sl) | decide | (intro _))
theorem kj_Md_closeOne_18 (F : Nat) (σ : zS) (s0 : Int32) (h : KJ σ) : pq (KJ) (Md_closeOne_18 F σ s0) := by
  unfold Md_closeOne_18
  repeat' (first | assumption | (with_reducible apply kj_Md_closeOne_58) | (with_reducible apply kj_Md_act) | (with_reducible apply pq_ite) | (with_reducible apply pp_ite) | (with_reducible apply pq_gd) | (with_reducible apply pp_gd) | (with_reducible apply pq_bv) | (with_reducible apply pp_bv) | (with_reducible apply pq_bi) | (with_reducible apply pp_bi) | (with_reducible apply pq_some) | (with_reducible apply pp_some) | (with_reducible apply KJ_si) | (with_reducible apply KJ_sa) | (with_reducible apply KJ_sb) | (with_reducible apply KJ_sl) | decide | (intro _))
theorem kj_Md_closeOne (F : Nat) (σ : zS) (h : KJ σ) : pq (KJ) (Md_closeOne F σ) := by
  unfold Md_closeOne
  repeat' (first | assumption | (with_reducible apply kj_Md_closeOne_18) | (with_reducible apply pq_ite) | (with_reducible apply pp_ite) | (with_reducible apply pq_gd) | (with_reducible apply pp_gd) | (with_reducible apply pq_bv) | (with_reducible apply pp_bv) | (with_reducible apply pq_bi) | (with_reducible apply pp_bi) | (with_reducible apply pq_some) | (with_reducible apply pp_some) | (with_reducible apply KJ_si) | (with_reducible apply KJ_sa) | (with_reducible apply KJ_sb) | (with_reducible apply KJ_sl) | decide | (intro _))
theorem kj_Md_readOpen_185 (F : Nat) (rc10 : zS → Int32 → Option (Int32 × zS)) (σ : zS) (x1 : Int32) (hrc10 : ∀ y0 y1, KJ y0 → pp (KJ) (rc10 y0 y1)) (h : KJ σ) : pp (KJ) (Md_readOpen_185 F rc10 σ x1) := by
  unfold Md_readOpen_185
  repeat' (first | assumption | (with_reducible apply hrc10) | (with_reducible apply kj_Md_closeOne) | (with_reducible apply pq_ite) | (with_reducible apply pp_ite) | (with_reducible apply pq_gd) | (with_reducible apply pp_gd) | (with_reducible apply pq_bv) | (with_reducible apply pp_bv) | (with_reducible apply pq_bi) | (with_reducible apply pp_bi) | (with_reducible apply pq_some) | (with_reducible apply pp_some) | (with_reducible apply KJ_si) | (with_reducible apply KJ_sa) | (with_reducible apply KJ_sb) | (with_reducible apply KJ_sl) | decide | (intro _))
theorem kj_Md_readOpen_55 (F : Nat) (rc10 : zS → Int32 → Option (Int32 × zS)) (σ : zS) (x1 : Int32) (hrc10 : ∀ y0 y1, KJ y0 → pp (KJ) (rc10 y0 y1)) (h : KJ σ) : pp (KJ) (Md_readOpen_55 F rc10 σ x1) := by
  unfold Md_readOpen_55
  repeat' (first | assumption | (with_reducible apply hrc10) | (with_reducible apply kj_Md_canBegin) | (with_reducible apply kj_Md_isSign) | (with_reducible apply kj_Md_endSome) | (with_reducible apply kj_Md_readOpen_185) | (with_reducible apply kj_Md_act) | (with_reducible apply kj_Md_count) | (with_reducible apply kj_Md_next) | (with_reducible apply kj_Md_cannot) | (with_reducible apply kj_Md_beginOne) | (with_reducible apply pq_ite) | (with_reducible apply pp_ite) | (with_reducible apply pq_gd) | (with_reducible apply pp_gd) | (with_reducible apply pq_bv) | (with_reducible apply pp_bv) | (with_reducible apply pq_bi) | (with_reducible apply pp_bi) | (with_reducible apply pq_some) | (with_reducible apply pp_some) | (with_reducible apply KJ_si) | (with_reducible apply KJ_sa) | (with_reducible apply KJ_sb) | (with_reducible apply KJ_sl) | decide | (intro _))
theorem kj_Md_readOpen_b10 (F : Nat) (rc10 : zS → Int32 → Option (Int32 × zS)) (σ : zS) (x1 : Int32) (hrc10 : ∀ y0 y1, KJ y0 → pp (KJ) (rc10 y0 y1)) (h : KJ σ) : pp (KJ) (Md_readOpen_b10 F rc10 σ x1) := by
  unfold Md_readOpen_b10
  repeat' (first | assumption | (with_reducible apply hrc10) | (with_reducible apply kj_Md_readOpen_55) | (with_reducible apply pq_ite) | (with_reducible apply pp_ite) | (with_reducible apply pq_gd) | (with_reducible apply pp_gd) | (with_reducible apply pq_bv) | (with_reducible apply pp_bv) | (with_reducible apply pq_bi) | (with_reducible apply pp_bi) | (with_reducible apply pq_some) | (with_reducible apply pp_some) | (with_reducible apply KJ_si) | (with_reducible apply KJ_sa) | (with_reducible apply KJ_sb) | (with_reducible apply KJ_sl) | decide | (intro _))
theorem kj_Md_readOpen_10 (F : Nat) : ∀ (n : Nat) (a0 : zS) (a1 : Int32), KJ a0 → pp (KJ) (Md_readOpen_10 F n a0 a1)
  | 0, _, _, _ => pp_none
  | n + 1, a0, a1, h => kj_Md_readOpen_b10 F (Md_readOpen_10 F n) a0 a1  (kj_Md_readOpen_10 F  n) h
theorem kj_Md_readOpen (F : Nat) (σ : zS) (x1 : Int32) (h : KJ σ) : pp (KJ) (Md_readOpen F σ x1) := by
  unfold Md_readOpen
  repeat' (first | assumption | (with_reducible apply kj_Md_open) | (with_reducible apply kj_Md_readOpen_10) | (with_reducible apply pq_ite) | (with_reducible apply pp_ite) | (with_reducible apply pq_gd) | (with_reducible apply pp_gd) | (with_reducible apply pq_bv) | (with_reducible apply pp_bv) | (with_reducible apply pq_bi) | (with_reducible apply pp_bi) | (with_reducible apply pq_some) | (with_reducible apply pp_some) | (with_reducible apply KJ_si) | (with_reducible apply KJ_sa) | (with_reducible apply KJ_sb) | (with_reducible apply KJ_sl) | decide | (intro _))
theorem kj_Md_readOne (F : Nat) (σ : zS) (h : KJ σ) : pp (KJ) (Md_readOne F σ) := by
  unfold Md_readOne
  repeat' (first | assumption | (with_reducible apply kj_Md_readOpen) | (with_reducible apply pq_ite) | (with_reducible apply pp_ite) | (with_reducible apply pq_gd) | (with_reducible apply pp_gd) | (with_reducible apply pq_bv) | (with_reducible apply pp_bv) | (with_reducible apply pq_bi) | (with_reducible apply pp_bi) | (with_reducible apply pq_some) | (with_reducible apply pp_some) | (with_reducible apply KJ_si) | (with_reducible apply KJ_sa) | (with_reducible apply KJ_sb) | (with_reducible apply KJ_sl) | decide | (intro _))
theorem kj_Md_readType (F : Nat) (σ : zS) (h : KJ σ) : pp (KJ) (Md_readType F σ) := by
  unfold Md_readType
  repeat' (first | assumption | (with_reducible apply kj_Md_readOpen) | (with_reducible apply pq_ite) | (with_reducible apply pp_ite) | (with_reducible apply pq_gd) | (with_reducible apply pp_gd) | (with_reducible apply pq_bv) | (with_reducible apply pp_bv) | (with_reducible apply pq_bi) | (with_reducible apply pp_bi) | (with_reducible apply pq_some) | (with_reducible apply pp_some) | (with_reducible apply KJ_si) | (with_reducible apply KJ_sa) | (with_reducible apply KJ_sb) | (with_reducible apply KJ_sl) | decide | (intro _))

theorem kl_q {F R L : Nat} {w : Int32} {o : Option zS} (h : KL R L w σ) (ho : pq (KF σ) o) : pq (KL R L w) o := fun τ' e => KL_KF h (ho τ' e)
theorem kl_p {F R L : Nat} {w : Int32} {o : Option (Int32 × zS)} (h : KL R L w σ) (ho : pp (KF σ) o) : pp (KL R L w) o := fun r τ' e => KL_KF h (ho r τ' e)
/-- a new arrow -/
theorem kr_new (F : Nat) {R x y : Nat} (h : KR R σ) (hx : x < R) (hy : y < R) {r : Int32} {σ' : zS} (e : Md_newKind F σ 2 (nI x) (nI y) = some (r, σ')) : r = nI R ∧ R < 4000 ∧ KR (R + 1) σ' ∧ gi σ' 42 = gi σ 42 ∧ ga σ' 31 = ga σ 31 ∧ ga σ' 32 = ga σ 32 := by
  obtain ⟨a1, a2, a3, a4, a5, a6, a7⟩ := h
  rw [Md_newKind, a1] at e
  obtain ⟨e1, e2⟩ := gd_s e
  have hR := inb_lt (by omega) e1
  rw [nI_clamp (by omega), nI_pm, nI_1] at e2
  cases e2
  refine ⟨rfl, hR, ⟨by simp [zs], by omega, by omega, by simp [zs, a4], by simp [zs, up_at, show ¬ 0 = R by omega, a5], by simp [zs, up_at, show ¬ 0 = R by omega, a6], fun k k1 k2 => ?_⟩, by simp [zs], by simp [zs], by simp [zs]⟩
  by_cases ek : k = R
  · subst ek
    exact ⟨by simp [zs, up_at], by simp [zs, up_at], ⟨x, by omega, by simp [zs, up_at]⟩, y, by omega, by simp [zs, up_at]⟩
  · obtain ⟨c1, c2, ⟨x', c3, c4⟩, y', c5, c6⟩ := a7 k k1 (by omega)
    exact ⟨by simp [zs, up_at, ek, c1], by simp [zs, up_at, ek, c2], ⟨x', by omega, by simp [zs, up_at, ek, c4]⟩, y', by omega, by simp [zs, up_at, ek, c6]⟩
theorem kr_28 {R a y : Nat} (h : KR R σ) (hy : y < R) : KR R (sa σ 28 a (nI y)) := by
  obtain ⟨a1, a2, a3, a4, a5, a6, a7⟩ := h
  refine ⟨by simp [zs, a1], a2, a3, by simp [zs, a4], by simp [zs, a5], by simp [zs, a6], fun k k1 k2 => ?_⟩
  obtain ⟨c1, c2, c3, y', c5, c6⟩ := a7 k k1 k2
  refine ⟨by simp [zs, c1], by simp [zs, c2], by simp [zs]; exact c3, ?_⟩
  by_cases e : k = a
  · exact ⟨y, hy, by simp [zs, up_at, e]⟩
  · exact ⟨y', c5, by simp [zs, up_at, e, c6]⟩
/-- a part is added -/
theorem kl_add (F : Nat) {R L k : Nat} {w : Int32} (h : KL R L w σ) (hk : k < R) : ∀ σ', Md_addPart F σ (nI k) = some σ' → ∃ R', KL R' L 0 σ' := by
  intro σ' e
  obtain ⟨hR, h42, hL, hl, hw⟩ := h
  have hR4 := hR.2.2.1
  rw [Md_addPart, h42, nI_clamp (by omega)] at e
  obtain ⟨_, e⟩ := gd_s e
  obtain ⟨l1, l2⟩ := hl L (Nat.le_refl _)
  have fin : ∀ (R' : Nat) (s : zS), R ≤ R' → KR R' s → R < R' → gi s 42 = nI L → (∀ l, l < L → ga s 31 l = ga σ 31 l ∧ ga s 32 l = ga σ 32 l) → (∃ a, a < R' ∧ ga s 31 L = nI a) → ∀ s', Md_addPart_86 F s (nI R) = some s' → ∃ R', KL R' L 0 s' := by
    intro R' s hRR hKR hRR' g42 gl g31 s' e'
    rw [Md_addPart_86, g42, nI_clamp (by omega)] at e'
    obtain ⟨_, e'⟩ := gd_s e'
    cases e'
    refine ⟨R', KR_cg hKR rfl rfl rfl rfl rfl rfl, by simp [zs, g42], hL, fun l hl' => ?_, fun _ => by simp [zs]; exact g31⟩
    by_cases el : l = L
    · subst el
      refine ⟨?_, Or.inr ⟨R, hR.2.1, hRR', by simp [zs, up_at]⟩⟩
      obtain ⟨a, h1, h2⟩ := g31
      exact Or.inr ⟨a, h1, by simp [zs, h2]⟩
    · obtain ⟨m1, m2⟩ := hl l hl'
      obtain ⟨n1, n2⟩ := gl l (by omega)
      refine ⟨?_, ?_⟩
      · have : ga (sa s 32 L (nI R)) 31 l = ga σ 31 l := by simp [zs, n1]
        rw [this]
        exact m1.imp id (fun ⟨a, h1, h2⟩ => ⟨a, by omega, h2⟩)
      · have : ga (sa s 32 L (nI R)) 32 l = ga σ 32 l := by simp [zs, up_at, el, n2]
        rw [this]
        exact m2.imp id (fun ⟨a, h1, h2, h3⟩ => ⟨a, h1, by omega, h3⟩)
  rcases l1 with z | ⟨a, ha, z⟩
  · rw [if_neg (Int32.not_le.mpr z)] at e
    cases e
    refine ⟨R, KR_cg hR rfl rfl rfl rfl rfl rfl, by simp [zs, h42], hL, fun l hl' => ?_, fun _ => ⟨k, hk, by simp [zs, up_at]⟩⟩
    obtain ⟨m1, m2⟩ := hl l hl'
    refine ⟨?_, by simp [zs]; exact m2⟩
    by_cases el : l = L
    · exact Or.inr ⟨k, hk, by simp [zs, up_at, el]⟩
    · have : ga (sa σ 31 L (nI k)) 31 l = ga σ 31 l := by simp [zs, up_at, el]
      rw [this]; exact m1
  · rw [z, if_pos (nI_pos' (by omega))] at e
    rcases l2 with y | ⟨c, hc1, hc2, y⟩
    · rw [if_neg (Int32.not_le.mpr y)] at e
      rw [Md_addPart_57] at e
      obtain ⟨r, s1, e1, e2⟩ := bi_s e
      obtain ⟨q1, q2, q3, q4, q5, q6⟩ := kr_new F hR ha hk e1
      rw [if_neg (Int32.not_le.mpr y), q1] at e2
      obtain ⟨_, e2⟩ := gd_s e2
      rw [q4, h42, nI_clamp (by omega)] at e2
      refine fin (R + 1) (sa s1 31 L (nI R)) (by omega) (KR_cg (σ := s1) q3 rfl rfl rfl rfl rfl rfl) (by omega) (by simp [zs, q4, h42]) (fun l hl' => ?_) ⟨R, by omega, by simp [zs, up_at]⟩ σ' e2
      simp [zs, up_at, show ¬ l = L by omega, q5, q6]
    · rw [y, if_pos (nI_pos' (by omega)), nI_clamp (by omega)] at e
      obtain ⟨_, e⟩ := gd_s e
      obtain ⟨_, _, _, y', d1, d2⟩ := hR.2.2.2.2.2.2 c hc1 hc2
      rw [Md_addPart_57, d2] at e
      obtain ⟨r, s1, e1, e2⟩ := bi_s e
      obtain ⟨q1, q2, q3, q4, q5, q6⟩ := kr_new F hR d1 hk e1
      rw [if_pos (nI_pos' (by omega)), q1, nI_clamp (by omega)] at e2
      obtain ⟨_, e2⟩ := gd_s e2
      refine fin (R + 1) _ (by omega) (kr_28 q3 (by omega)) (by omega) (by simp [zs, q4, h42]) (fun l hl' => by simp [zs, q5, q6]) ⟨a, by omega, by simp [zs, q5, z]⟩ σ' e2
theorem kl_open (F : Nat) {R L : Nat} (h : KL R L 1 σ) : ∀ σ', Md_openKind F σ = some σ' → KL R (L + 1) 1 σ' := by
  intro σ' e
  obtain ⟨hR, h42, hL, hl, hw⟩ := h
  rw [Md_openKind, h42, nI_1, nI_clamp (by omega)] at e
  obtain ⟨e1, e2⟩ := gd_s e
  have hL2 := inb_lt (by omega) e1
  cases e2
  refine ⟨KR_cg hR rfl rfl rfl rfl rfl rfl, by simp [zs], hL2, fun l hl' => ?_, fun z => absurd z (by decide)⟩
  by_cases el : l = L + 1
  · subst el
    exact ⟨Or.inl (by simp [zs, up_at]), Or.inl (by simp [zs, up_at])⟩
  · obtain ⟨m1, m2⟩ := hl l (by omega)
    have k1 : ga (sa (sa (si σ 42 (nI (L + 1))) 31 (L + 1) (-1)) 32 (L + 1) (-1)) 31 l = ga σ 31 l := by simp [zs, up_at, el]
    have k2 : ga (sa (sa (si σ 42 (nI (L + 1))) 31 (L + 1) (-1)) 32 (L + 1) (-1)) 32 l = ga σ 32 l := by simp [zs, up_at, el]
    rw [k1, k2]; exact ⟨m1, m2⟩
theorem kl_loop (F : Nat) : ∀ (n : Nat) (σ : zS) (x R L : Nat), x ≤ 1 → KL R L (nI x) σ → pp KJ (Md_readKind_11 F n σ (nI x))
  | 0, _, _, _, _, _, _ => pp_none
  | n + 1, σ, x, R, L, hx, h => by
    have kj : ∀ {s : zS} {R L : Nat} {w : Int32}, KL R L w s → KJ s := fun h => ⟨_, h.1⟩
    have k76 : ∀ (σ : zS) (R L x : Nat), x ≤ 1 → KL R L (nI x) σ → pp KJ (Md_readKind_76 F (Md_readKind_11 F n) σ (nI x)) := by
      intro σ R L x hx h
      unfold Md_readKind_76
      by_cases e : x = 0
      · subst e
        rw [if_pos nI_0]
        intro r τ' eq
        obtain ⟨r3, s2, e1, e2⟩ := bi_s eq
        have h2 := KL_KF h (kf_Md_isSign F σ _ (KF_rfl σ) r3 s2 e1)
        by_cases c : r3 = 0
        · rw [if_pos c] at e2
          by_cases c2 : gi s2 42 = 0
          · rw [if_pos c2] at e2
            obtain ⟨_, e2⟩ := gd_s e2
            cases e2
            exact kj h2
          · rw [if_neg c2] at e2
            obtain ⟨s7, e3, e4⟩ := bv_s e2
            have h7 := KL_KF h2 (kf_Md_want F s2 _ (KF_rfl s2) s7 e3)
            obtain ⟨hR, h42, hL, hl, hw⟩ := h7
            obtain ⟨L, rfl⟩ : ∃ L', L = L' + 1 := ⟨L - 1, by
              have : L ≠ 0 := by
                intro z; subst z
                exact c2 (by rw [h2.2.1]; exact nI_0)
              omega⟩
            obtain ⟨_, e4⟩ := gd_s e4
            rw [h42, nI_pred, nI_1, nI_clamp (by omega)] at e4
            obtain ⟨a, ha, ha2⟩ := hw nI_0
            rw [ha2] at e4
            obtain ⟨s10, e5, e6⟩ := bv_s e4
            have hkl : KL R L 1 (si (si s7 18 (gi s7 18 - 1)) 42 (nI L)) := ⟨KR_cg hR (by simp [zs]) (by simp [zs]) rfl rfl rfl rfl, by simp [zs], by omega, fun l hl' => hl l (by omega), fun z => absurd z (by decide)⟩
            obtain ⟨R', h10⟩ := kl_add F hkl ha s10 e5
            exact kl_loop F n s10 0 R' L (by omega) (by rw [nI_0]; exact h10) r τ' e6
        · rw [if_neg c] at e2
          obtain ⟨s13, e3, e4⟩ := bv_s e2
          have h13 := KL_KF h2 (kf_Md_next F s2 (KF_rfl s2) s13 e3)
          exact kl_loop F n s13 1 R L (by omega) ⟨h13.1, h13.2.1, h13.2.2.1, h13.2.2.2.1, fun z => absurd z (by decide)⟩ r τ' e4
      · rw [if_neg (nI_ne0 (by omega) (by omega))]
        intro r τ' eq
        obtain ⟨s15, e3, e4⟩ := bv_s eq
        exact kl_loop F n s15 x R L hx (KL_KF h (kf_Md_cannot F σ (KF_rfl σ) s15 e3)) r τ' e4
    have k48 : ∀ (σ : zS) (R L x : Nat), x ≤ 1 → KL R L (nI x) σ → pp KJ (Md_readKind_48 F (Md_readKind_11 F n) σ (nI x)) := by
      intro σ R L x hx h
      unfold Md_readKind_48
      by_cases ex : x = 0
      · rw [if_pos (by rw [ex]; exact nI_0)]; exact k76 σ R L x hx h
      rw [if_neg (nI_ne0 (by omega) (by omega))]
      intro r τ' eq
      obtain ⟨r3, s2, e1, e2⟩ := bi_s eq
      have h2 := KL_KF h (kf_Md_isSign F σ _ (KF_rfl σ) r3 s2 e1)
      by_cases c : r3 = 0
      · rw [if_pos c] at e2
        exact k76 s2 R L x hx h2 r τ' e2
      · rw [if_neg c] at e2
        obtain ⟨s6, e3, e4⟩ := bv_s e2
        obtain ⟨s8, e5, e6⟩ := bv_s e4
        obtain ⟨s10, e7, e8⟩ := bv_s e6
        have h6 := KL_KF h2 (kf_Md_deeper F s2 (KF_rfl s2) s6 e3)
        have h8 := KL_KF h6 (kf_Md_next F s6 (KF_rfl s6) s8 e5)
        have h8' : KL R L 1 s8 := ⟨h8.1, h8.2.1, h8.2.2.1, h8.2.2.2.1, fun z => absurd z (by decide)⟩
        have h10 := kl_open F h8' s10 e7
        obtain rfl : x = 1 := by omega
        exact kl_loop F n s10 1 R (L + 1) (by omega) h10 r τ' e8
    show pp KJ (Md_readKind_b11 F (Md_readKind_11 F n) σ (nI x))
    unfold Md_readKind_b11
    refine pp_ite (pp_ite (k48 σ R L x hx h) ?_) (pp_some (kj h))
    intro r τ' eq
    obtain ⟨r4, s3, e1, e2⟩ := bi_s eq
    have h3 := KL_KF h (kf_Md_isSign F σ _ (KF_rfl σ) r4 s3 e1)
    by_cases c : r4 = 0
    · rw [if_pos c] at e2
      exact k48 s3 R L x hx h3 r τ' e2
    · rw [if_neg c] at e2
      obtain ⟨s7, e3, e4⟩ := bv_s e2
      obtain ⟨s9, e5, e6⟩ := bv_s e4
      rw [h3.1.2.2.2.1, show (0 : Int32) = nI 0 from nI_0.symm] at e3
      obtain ⟨R', h7⟩ := kl_add F h3 (by have := h3.1.2.1; omega) s7 e3
      have h9 := KL_KF h7 (kf_Md_next F s7 (KF_rfl s7) s9 e5)
      exact kl_loop F n s9 0 R' L (by omega) (by rw [nI_0]; exact h9) r τ' (by rw [nI_0]; exact e6)
theorem kj_Md_readKind (F : Nat) (σ : zS) (h : KJ σ) : pp KJ (Md_readKind F σ) := by
  obtain ⟨R, hR⟩ := h
  unfold Md_readKind
  intro r τ' eq
  obtain ⟨s1, e1, e2⟩ := bv_s eq
  have h42 : gi (si σ 42 (-1 : Int32)) 42 = -1 := by simp [zs]
  rw [Md_openKind, h42, show (-1 : Int32) + 1 = nI 0 from rfl, nI_clamp (by omega)] at e1
  obtain ⟨_, e1⟩ := gd_s e1
  cases e1
  refine kl_loop F F (sa (sa (si (si σ 42 (-1)) 42 (nI 0)) 31 0 (-1)) 32 0 (-1)) 1 R 0 (by omega) ⟨KR_cg (σ := σ) hR (by simp [zs]) (by simp [zs]) rfl rfl rfl rfl, by simp [zs], by omega, fun l hl => ?_, fun z => absurd z (by decide)⟩ r τ' e2
  obtain rfl : l = 0 := by omega
  exact ⟨Or.inl (by simp [zs, up_at]), Or.inl (by simp [zs, up_at])⟩
theorem kj_Md_begin (F : Nat) (σ : zS) (h : KJ σ) : pq (KJ) (Md_begin F σ) := by
  unfold Md_begin
  repeat' (first | assumption | (with_reducible apply kj_Md_next) | (with_reducible apply pq_ite) | (with_reducible apply pp_ite) | (with_reducible apply pq_gd) | (with_reducible apply pp_gd) | (with_reducible apply pq_bv) | (with_reducible apply pp_bv) | (with_reducible apply pq_bi) | (with_reducible apply pp_bi) | (with_reducible apply pq_some) | (with_reducible apply pp_some) | (with_reducible apply KJ_si) | (with_reducible apply KJ_sa) | (with_reducible apply KJ_sb) | (with_reducible apply KJ_sl) | decide | (intro _))
theorem kj_Md_wantName_15 (F : Nat) (σ : zS) (h : KJ σ) : pp (KJ) (Md_wantName_15 F σ) := by
  unfold Md_wantName_15
  repeat' (first | assumption | (with_reducible apply kj_Md_cannot) | (with_reducible apply pq_ite) | (with_reducible apply pp_ite) | (with_reducible apply pq_gd) | (with_reducible apply pp_gd) | (with_reducible apply pq_bv) | (with_reducible apply pp_bv) | (with_reducible apply pq_bi) | (with_reducible apply pp_bi) | (with_reducible apply pq_some) | (with_reducible apply pp_some) | (with_reducible apply KJ_si) | (with_reducible apply KJ_sa) | (with_reducible apply KJ_sb) | (with_reducible apply KJ_sl) | decide | (intro _))
theorem kj_Md_wantName (F : Nat) (σ : zS) (x1 : Int32) (h : KJ σ) : pp (KJ) (Md_wantName F σ x1) := by
  unfold Md_wantName
  repeat' (first | assumption | (with_reducible apply kj_Md_wantName_15) | (with_reducible apply pq_ite) | (with_reducible apply pp_ite) | (with_reducible apply pq_gd) | (with_reducible apply pp_gd) | (with_reducible apply pq_bv) | (with_reducible apply pp_bv) | (with_reducible apply pq_bi) | (with_reducible apply pp_bi) | (with_reducible apply pq_some) | (with_reducible apply pp_some) | (with_reducible apply KJ_si) | (with_reducible apply KJ_sa) | (with_reducible apply KJ_sb) | (with_reducible apply KJ_sl) | decide | (intro _))
theorem kj_Md_readParam (F : Nat) (σ : zS) (h : KJ σ) : pq (KJ) (Md_readParam F σ) := by
  unfold Md_readParam
  repeat' (first | assumption | (with_reducible apply kj_Md_wrong) | (with_reducible apply kj_Md_tell) | (with_reducible apply kj_Md_next) | (with_reducible apply pq_ite) | (with_reducible apply pp_ite) | (with_reducible apply pq_gd) | (with_reducible apply pp_gd) | (with_reducible apply pq_bv) | (with_reducible apply pp_bv) | (with_reducible apply pq_bi) | (with_reducible apply pp_bi) | (with_reducible apply pq_some) | (with_reducible apply pp_some) | (with_reducible apply KJ_si) | (with_reducible apply KJ_sa) | (with_reducible apply KJ_sb) | (with_reducible apply KJ_sl) | decide | (intro _))
theorem kj_Md_readClass_142 (F : Nat) (σ : zS) (h : KJ σ) : pq (KJ) (Md_readClass_142 F σ) := by
  unfold Md_readClass_142
  repeat' (first | assumption | (with_reducible apply kj_Md_want) | (with_reducible apply pq_ite) | (with_reducible apply pp_ite) | (with_reducible apply pq_gd) | (with_reducible apply pp_gd) | (with_reducible apply pq_bv) | (with_reducible apply pp_bv) | (with_reducible apply pq_bi) | (with_reducible apply pp_bi) | (with_reducible apply pq_some) | (with_reducible apply pp_some) | (with_reducible apply KJ_si) | (with_reducible apply KJ_sa) | (with_reducible apply KJ_sb) | (with_reducible apply KJ_sl) | decide | (intro _))
theorem kj_Md_readClass_b19 (F : Nat) (rc19 : zS → Option zS) (σ : zS) (hrc19 : ∀ y0, KJ y0 → pq (KJ) (rc19 y0)) (h : KJ σ) : pq (KJ) (Md_readClass_b19 F rc19 σ) := by
  unfold Md_readClass_b19
  repeat' (first | assumption | (with_reducible apply hrc19) | (with_reducible apply kj_Md_wrong) | (with_reducible apply kj_Md_tell) | (with_reducible apply kj_Md_next) | (with_reducible apply kj_Md_want) | (with_reducible apply kj_Md_readType) | (with_reducible apply kj_Md_act) | (with_reducible apply kj_Md_readClass_142) | (with_reducible apply pq_ite) | (with_reducible apply pp_ite) | (with_reducible apply pq_gd) | (with_reducible apply pp_gd) | (with_reducible apply pq_bv) | (with_reducible apply pp_bv) | (with_reducible apply pq_bi) | (with_reducible apply pp_bi) | (with_reducible apply pq_some) | (with_reducible apply pp_some) | (with_reducible apply KJ_si) | (with_reducible apply KJ_sa) | (with_reducible apply KJ_sb) | (with_reducible apply KJ_sl) | decide | (intro _))
theorem kj_Md_readClass_19 (F : Nat) : ∀ (n : Nat) (a0 : zS), KJ a0 → pq (KJ) (Md_readClass_19 F n a0)
  | 0, _, _ => pq_none
  | n + 1, a0, h => kj_Md_readClass_b19 F (Md_readClass_19 F n) a0  (kj_Md_readClass_19 F  n) h
theorem kj_Md_readClass (F : Nat) (σ : zS) (h : KJ σ) : pq (KJ) (Md_readClass F σ) := by
  unfold Md_readClass
  repeat' (first | assumption | (with_reducible apply kj_Md_wantName) | (with_reducible apply kj_Md_readParam) | (with_reducible apply kj_Md_want) | (with_reducible apply kj_Md_readClass_19) | (with_reducible apply pq_ite) | (with_reducible apply pp_ite) | (with_reducible apply pq_gd) | (with_reducible apply pp_gd) | (with_reducible apply pq_bv) | (with_reducible apply pp_bv) | (with_reducible apply pq_bi) | (with_reducible apply pp_bi) | (with_reducible apply pq_some) | (with_reducible apply pp_some) | (with_reducible apply KJ_si) | (with_reducible apply KJ_sa) | (with_reducible apply KJ_sb) | (with_reducible apply KJ_sl) | decide | (intro _))
theorem kj_Md_readCon_b56 (F : Nat) (rc56 : zS → Option zS) (σ : zS) (hrc56 : ∀ y0, KJ y0 → pq (KJ) (rc56 y0)) (h : KJ σ) : pq (KJ) (Md_readCon_b56 F rc56 σ) := by
  unfold Md_readCon_b56
  repeat' (first | assumption | (with_reducible apply hrc56) | (with_reducible apply kj_Md_canBegin) | (with_reducible apply kj_Md_readOne) | (with_reducible apply kj_Md_act) | (with_reducible apply pq_ite) | (with_reducible apply pp_ite) | (with_reducible apply pq_gd) | (with_reducible apply pp_gd) | (with_reducible apply pq_bv) | (with_reducible apply pp_bv) | (with_reducible apply pq_bi) | (with_reducible apply pp_bi) | (with_reducible apply pq_some) | (with_reducible apply pp_some) | (with_reducible apply KJ_si) | (with_reducible apply KJ_sa) | (with_reducible apply KJ_sb) | (with_reducible apply KJ_sl) | decide | (intro _))
theorem kj_Md_readCon_56 (F : Nat) : ∀ (n : Nat) (a0 : zS), KJ a0 → pq (KJ) (Md_readCon_56 F n a0)
  | 0, _, _ => pq_none
  | n + 1, a0, h => kj_Md_readCon_b56 F (Md_readCon_56 F n) a0  (kj_Md_readCon_56 F  n) h
theorem kj_Md_readCon (F : Nat) (σ : zS) (h : KJ σ) : pq (KJ) (Md_readCon F σ) := by
  unfold Md_readCon
  repeat' (first | assumption | (with_reducible apply kj_Md_wantName) | (with_reducible apply kj_Md_wrong) | (with_reducible apply kj_Md_tell) | (with_reducible apply kj_Md_next) | (with_reducible apply kj_Md_readCon_56) | (with_reducible apply pq_ite) | (with_reducible apply pp_ite) | (with_reducible apply pq_gd) | (with_reducible apply pp_gd) | (with_reducible apply pq_bv) | (with_reducible apply pp_bv) | (with_reducible apply pq_bi) | (with_reducible apply pp_bi) | (with_reducible apply pq_some) | (with_reducible apply pp_some) | (with_reducible apply KJ_si) | (with_reducible apply KJ_sa) | (with_reducible apply KJ_sb) | (with_reducible apply KJ_sl) | decide | (intro _))
theorem kj_Md_readSides_b71 (F : Nat) (rc71 : zS → Option zS) (σ : zS) (hrc71 : ∀ y0, KJ y0 → pq (KJ) (rc71 y0)) (h : KJ σ) : pq (KJ) (Md_readSides_b71 F rc71 σ) := by
  unfold Md_readSides_b71
  repeat' (first | assumption | (with_reducible apply hrc71) | (with_reducible apply kj_Md_isSign) | (with_reducible apply kj_Md_next) | (with_reducible apply kj_Md_readCon) | (with_reducible apply pq_ite) | (with_reducible apply pp_ite) | (with_reducible apply pq_gd) | (with_reducible apply pp_gd) | (with_reducible apply pq_bv) | (with_reducible apply pp_bv) | (with_reducible apply pq_bi) | (with_reducible apply pp_bi) | (with_reducible apply pq_some) | (with_reducible apply pp_some) | (with_reducible apply KJ_si) | (with_reducible apply KJ_sa) | (with_reducible apply KJ_sb) | (with_reducible apply KJ_sl) | decide | (intro _))
theorem kj_Md_readSides_71 (F : Nat) : ∀ (n : Nat) (a0 : zS), KJ a0 → pq (KJ) (Md_readSides_71 F n a0)
  | 0, _, _ => pq_none
  | n + 1, a0, h => kj_Md_readSides_b71 F (Md_readSides_71 F n) a0  (kj_Md_readSides_71 F  n) h
theorem kj_Md_readSides_22 (F : Nat) (σ : zS) (x1 : Int32) (h : KJ σ) : pq (KJ) (Md_readSides_22 F σ x1) := by
  unfold Md_readSides_22
  repeat' (first | assumption | (with_reducible apply kj_Md_want) | (with_reducible apply kj_Md_readType) | (with_reducible apply kj_Md_act) | (with_reducible apply kj_Md_readCon) | (with_reducible apply kj_Md_readSides_71) | (with_reducible apply pq_ite) | (with_reducible apply pp_ite) | (with_reducible apply pq_gd) | (with_reducible apply pp_gd) | (with_reducible apply pq_bv) | (with_reducible apply pp_bv) | (with_reducible apply pq_bi) | (with_reducible apply pp_bi) | (with_reducible apply pq_some) | (with_reducible apply pp_some) | (with_reducible apply KJ_si) | (with_reducible apply KJ_sa) | (with_reducible apply KJ_sb) | (with_reducible apply KJ_sl) | decide | (intro _))
theorem kj_Md_readSides_b0 (F : Nat) (rc0 : zS → Int32 → Option zS) (σ : zS) (x1 : Int32) (hrc0 : ∀ y0 y1, KJ y0 → pq (KJ) (rc0 y0 y1)) (h : KJ σ) : pq (KJ) (Md_readSides_b0 F rc0 σ x1) := by
  unfold Md_readSides_b0
  repeat' (first | assumption | (with_reducible apply hrc0) | (with_reducible apply kj_Md_readParam) | (with_reducible apply kj_Md_readSides_22) | (with_reducible apply pq_ite) | (with_reducible apply pp_ite) | (with_reducible apply pq_gd) | (with_reducible apply pp_gd) | (with_reducible apply pq_bv) | (with_reducible apply pp_bv) | (with_reducible apply pq_bi) | (with_reducible apply pp_bi) | (with_reducible apply pq_some) | (with_reducible apply pp_some) | (with_reducible apply KJ_si) | (with_reducible apply KJ_sa) | (with_reducible apply KJ_sb) | (with_reducible apply KJ_sl) | decide | (intro _))
theorem kj_Md_readSides_0 (F : Nat) : ∀ (n : Nat) (a0 : zS) (a1 : Int32), KJ a0 → pq (KJ) (Md_readSides_0 F n a0 a1)
  | 0, _, _, _ => pq_none
  | n + 1, a0, a1, h => kj_Md_readSides_b0 F (Md_readSides_0 F n) a0 a1  (kj_Md_readSides_0 F  n) h
theorem kj_Md_readSides (F : Nat) (σ : zS) (x1 : Int32) (h : KJ σ) : pq (KJ) (Md_readSides F σ x1) := by
  unfold Md_readSides
  repeat' (first | assumption | (with_reducible apply kj_Md_readSides_0) | (with_reducible apply pq_ite) | (with_reducible apply pp_ite) | (with_reducible apply pq_gd) | (with_reducible apply pp_gd) | (with_reducible apply pq_bv) | (with_reducible apply pp_bv) | (with_reducible apply pq_bi) | (with_reducible apply pp_bi) | (with_reducible apply pq_some) | (with_reducible apply pp_some) | (with_reducible apply KJ_si) | (with_reducible apply KJ_sa) | (with_reducible apply KJ_sb) | (with_reducible apply KJ_sl) | decide | (intro _))
theorem kj_Md_readWish_68 (F : Nat) (σ : zS) (h : KJ σ) : pq (KJ) (Md_readWish_68 F σ) := by
  unfold Md_readWish_68
  repeat' (first | assumption | (with_reducible apply pq_ite) | (with_reducible apply pp_ite) | (with_reducible apply pq_gd) | (with_reducible apply pp_gd) | (with_reducible apply pq_bv) | (with_reducible apply pp_bv) | (with_reducible apply pq_bi) | (with_reducible apply pp_bi) | (with_reducible apply pq_some) | (with_reducible apply pp_some) | (with_reducible apply KJ_si) | (with_reducible apply KJ_sa) | (with_reducible apply KJ_sb) | (with_reducible apply KJ_sl) | decide | (intro _))
theorem kj_Md_readWish (F : Nat) (σ : zS) (h : KJ σ) : pq (KJ) (Md_readWish F σ) := by
  unfold Md_readWish
  repeat' (first | assumption | (with_reducible apply kj_Md_tell) | (with_reducible apply kj_Md_next) | (with_reducible apply kj_Md_want) | (with_reducible apply kj_Md_readKind) | (with_reducible apply kj_Md_readWish_68) | (with_reducible apply pq_ite) | (with_reducible apply pp_ite) | (with_reducible apply pq_gd) | (with_reducible apply pp_gd) | (with_reducible apply pq_bv) | (with_reducible apply pp_bv) | (with_reducible apply pq_bi) | (with_reducible apply pp_bi) | (with_reducible apply pq_some) | (with_reducible apply pp_some) | (with_reducible apply KJ_si) | (with_reducible apply KJ_sa) | (with_reducible apply KJ_sb) | (with_reducible apply KJ_sl) | decide | (intro _))
theorem kj_Md_readDecl_216 (F : Nat) (σ : zS) (h : KJ σ) : pq (KJ) (Md_readDecl_216 F σ) := by
  unfold Md_readDecl_216
  repeat' (first | assumption | (with_reducible apply pq_ite) | (with_reducible apply pp_ite) | (with_reducible apply pq_gd) | (with_reducible apply pp_gd) | (with_reducible apply pq_bv) | (with_reducible apply pp_bv) | (with_reducible apply pq_bi) | (with_reducible apply pp_bi) | (with_reducible apply pq_some) | (with_reducible apply pp_some) | (with_reducible apply KJ_si) | (with_reducible apply KJ_sa) | (with_reducible apply KJ_sb) | (with_reducible apply KJ_sl) | decide | (intro _))
theorem kj_Md_readDecl_46 (F : Nat) (σ : zS) (s0 : Int32) (h : KJ σ) : pq (KJ) (Md_readDecl_46 F σ s0) := by
  unfold Md_readDecl_46
  repeat' (first | assumption | (with_reducible apply kj_Md_next) | (with_reducible apply kj_Md_wantName) | (with_reducible apply kj_Md_readWish) | (with_reducible apply kj_Md_wrong) | (with_reducible apply kj_Md_tell) | (with_reducible apply kj_Md_readClass) | (with_reducible apply kj_Md_readDecl_216) | (with_reducible apply kj_Md_readSides) | (with_reducible apply kj_Md_cannot) | (with_reducible apply pq_ite) | (with_reducible apply pp_ite) | (with_reducible apply pq_gd) | (with_reducible apply pp_gd) | (with_reducible apply pq_bv) | (with_reducible apply pp_bv) | (with_reducible apply pq_bi) | (with_reducible apply pp_bi) | (with_reducible apply pq_some) | (with_reducible apply pp_some) | (with_reducible apply KJ_si) | (with_reducible apply KJ_sa) | (with_reducible apply KJ_sb) | (with_reducible apply KJ_sl) | decide | (intro _))
theorem kj_Md_readDecl (F : Nat) (σ : zS) (h : KJ σ) : pq (KJ) (Md_readDecl F σ) := by
  unfold Md_readDecl
  repeat' (first | assumption | (with_reducible apply kj_Md_readDecl_46) | (with_reducible apply pq_ite) | (with_reducible apply pp_ite) | (with_reducible apply pq_gd) | (with_reducible apply pp_gd) | (with_reducible apply pq_bv) | (with_reducible apply pp_bv) | (with_reducible apply pq_bi) | (with_reducible apply pp_bi) | (with_reducible apply pq_some) | (with_reducible apply pp_some) | (with_reducible apply KJ_si) | (with_reducible apply KJ_sa) | (with_reducible apply KJ_sb) | (with_reducible apply KJ_sl) | decide | (intro _))
theorem kj_Md_readText_78 (F : Nat) (σ : zS) (h : KJ σ) : pq (KJ) (Md_readText_78 F σ) := by
  unfold Md_readText_78
  repeat' (first | assumption | (with_reducible apply pq_ite) | (with_reducible apply pp_ite) | (with_reducible apply pq_gd) | (with_reducible apply pp_gd) | (with_reducible apply pq_bv) | (with_reducible apply pp_bv) | (with_reducible apply pq_bi) | (with_reducible apply pp_bi) | (with_reducible apply pq_some) | (with_reducible apply pp_some) | (with_reducible apply KJ_si) | (with_reducible apply KJ_sa) | (with_reducible apply KJ_sb) | (with_reducible apply KJ_sl) | decide | (intro _))
theorem kj_Md_readText_b50 (F : Nat) (rc50 : zS → Option zS) (σ : zS) (hrc50 : ∀ y0, KJ y0 → pq (KJ) (rc50 y0)) (h : KJ σ) : pq (KJ) (Md_readText_b50 F rc50 σ) := by
  unfold Md_readText_b50
  repeat' (first | assumption | (with_reducible apply hrc50) | (with_reducible apply kj_Md_readText_78) | (with_reducible apply kj_Md_readDecl) | (with_reducible apply kj_Md_want) | (with_reducible apply pq_ite) | (with_reducible apply pp_ite) | (with_reducible apply pq_gd) | (with_reducible apply pp_gd) | (with_reducible apply pq_bv) | (with_reducible apply pp_bv) | (with_reducible apply pq_bi) | (with_reducible apply pp_bi) | (with_reducible apply pq_some) | (with_reducible apply pp_some) | (with_reducible apply KJ_si) | (with_reducible apply KJ_sa) | (with_reducible apply KJ_sb) | (with_reducible apply KJ_sl) | decide | (intro _))
theorem kj_Md_readText_50 (F : Nat) : ∀ (n : Nat) (a0 : zS), KJ a0 → pq (KJ) (Md_readText_50 F n a0)
  | 0, _, _ => pq_none
  | n + 1, a0, h => kj_Md_readText_b50 F (Md_readText_50 F n) a0  (kj_Md_readText_50 F  n) h
theorem kj_Md_readText (F : Nat) (σ : zS) : pq KJ (Md_readText F σ) := by
  unfold Md_readText
  intro τ' eq
  obtain ⟨r, s1, e1, e2⟩ := bi_s eq
  obtain ⟨s2, e3, e4⟩ := bv_s e2
  rw [Md_newKind] at e1
  have h48 : gi (si (si (si (si (si (si (si σ 52 (0 : Int32)) 62 (0 : Int32)) 66 (0 : Int32)) 31 (0 : Int32)) 23 (0 : Int32)) 16 (0 : Int32)) 48 (0 : Int32)) 48 = nI 0 := by simp [zs]; exact nI_0.symm
  rw [h48, nI_clamp (by omega), nI_pm, nI_1] at e1
  obtain ⟨_, e1⟩ := gd_s e1
  cases e1
  refine kj_Md_readText_50 F F s2 (kj_Md_begin F _ ⟨1, by simp [zs], by omega, by omega, by simp [zs]; exact nI_0, by simp [zs, up_at], by simp [zs, up_at], fun k k1 k2 => by omega⟩ s2 e3) τ' e4
end L
