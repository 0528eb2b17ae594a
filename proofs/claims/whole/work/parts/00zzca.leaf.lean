/-! Each leaf of the reference has been told: kept by all that reads. Written by program, but for the rows by hand. Own text. -/
/-- each leaf from node B0 on has been told -/
def LI (B0 : Nat) (τ : zS) : Prop := ∃ N M : Nat, gi τ 16 = nI N ∧ gi τ 31 = nI M ∧ N ≤ 1000 ∧ M ≤ 1400 ∧ ∀ n, B0 ≤ n → n < N → (ga τ 2 n = 0 ∨ ga τ 2 n = 1) → ∃ i, i < M ∧ ga τ 10 i = 5 + ga τ 2 n ∧ gb τ 11 i = gb τ 3 n ∧ ga τ 13 i = ga τ 4 n
def pq (P : zS → Prop) (o : Option zS) : Prop := ∀ τ', o = some τ' → P τ'
def pp (P : zS → Prop) (o : Option (Int32 × zS)) : Prop := ∀ r τ', o = some (r, τ') → P τ'
section L
variable {P : zS → Prop} {τ : zS} {B0 : Nat}
theorem pq_none : pq P none := fun _ h => by cases h
theorem pp_none : pp P none := fun _ _ h => by cases h
theorem pq_some (h : P τ) : pq P (some τ) := fun _ e => by cases e; exact h
theorem pp_some {r : Int32} (h : P τ) : pp P (some (r, τ)) := fun _ _ e => by cases e; exact h
theorem pq_ite {c : Prop} [Decidable c] {a b : Option zS} (ha : pq P a) (hb : pq P b) : pq P (if c then a else b) := by split <;> assumption
theorem pp_ite {c : Prop} [Decidable c] {a b : Option (Int32 × zS)} (ha : pp P a) (hb : pp P b) : pp P (if c then a else b) := by split <;> assumption
theorem pq_gd {b : Bool} {o : Option zS} (h : pq P o) : pq P (gd b o) := fun τ' e => h τ' (gd_s e).2
theorem pp_gd {b : Bool} {o : Option (Int32 × zS)} (h : pp P o) : pp P (gd b o) := fun r τ' e => h r τ' (gd_s e).2
theorem pq_bv {o : Option zS} {k : zS → Option zS} (h : pq P o) (hk : ∀ τ', P τ' → pq P (k τ')) : pq P (bv o k) := fun τ' e => by
  obtain ⟨σ, h1, h2⟩ := bv_s e
  exact hk σ (h σ h1) τ' h2
theorem pp_bv {o : Option zS} {k : zS → Option (Int32 × zS)} (h : pq P o) (hk : ∀ τ', P τ' → pp P (k τ')) : pp P (bv o k) := fun r τ' e => by
  obtain ⟨σ, h1, h2⟩ := bv_s e
  exact hk σ (h σ h1) r τ' h2
theorem pq_bi {o : Option (Int32 × zS)} {k : Int32 → zS → Option zS} (h : pp P o) (hk : ∀ r τ', P τ' → pq P (k r τ')) : pq P (bi o k) := fun τ' e => by
  obtain ⟨r, σ, h1, h2⟩ := bi_s e
  exact hk r σ (h r σ h1) τ' h2
theorem pp_bi {o : Option (Int32 × zS)} {k : Int32 → zS → Option (Int32 × zS)} (h : pp P o) (hk : ∀ r τ', P τ' → pp P (k r τ')) : pp P (bi o k) := fun r τ' e => by
  obtain ⟨r', σ, h1, h2⟩ := bi_s e
  exact hk r' σ (h r' σ h1) r τ' h2
theorem LI_cg {τ' : zS} (h : LI B0 τ) (h1 : gi τ' 16 = gi τ 16) (h2 : gi τ' 31 = gi τ 31) (h3 : ga τ' 2 = ga τ 2) (h4 : gb τ' 3 = gb τ 3) (h5 : ga τ' 4 = ga τ 4) (h6 : ga τ' 10 = ga τ 10) (h7 : gb τ' 11 = gb τ 11) (h8 : ga τ' 13 = ga τ 13) : LI B0 τ' := by
  obtain ⟨N, M, a1, a2, a3, a4, a5⟩ := h
  refine ⟨N, M, h1.trans a1, h2.trans a2, a3, a4, fun n n1 n2 hs => ?_⟩
  rw [h3] at hs
  obtain ⟨i, i1, i2, i3, i4⟩ := a5 n n1 n2 hs
  exact ⟨i, i1, by rw [h6, h3]; exact i2, by rw [h7, h4]; exact i3, by rw [h8, h5]; exact i4⟩
theorem LI_si {r : Nat} {v : Int32} (h : LI B0 τ) (hr : r ≠ 16 ∧ r ≠ 31) : LI B0 (si τ r v) :=
  LI_cg h (by simp only [zs, if_neg (fun z : 16 = r => hr.1 z.symm)]) (by simp only [zs, if_neg (fun z : 31 = r => hr.2 z.symm)]) (by simp only [zs]) (by simp only [zs]) (by simp only [zs]) (by simp only [zs]) (by simp only [zs]) (by simp only [zs])
theorem LI_sa {a i : Nat} {v : Int32} (h : LI B0 τ) (hr : a ≠ 2 ∧ a ≠ 4 ∧ a ≠ 10 ∧ a ≠ 13) : LI B0 (sa τ a i v) :=
  LI_cg h (by simp only [zs]) (by simp only [zs]) (by simp only [zs, if_neg (fun z : 2 = a => hr.1 z.symm)]) (by simp only [zs]) (by simp only [zs, if_neg (fun z : 4 = a => hr.2.1 z.symm)]) (by simp only [zs, if_neg (fun z : 10 = a => hr.2.2.1 z.symm)]) (by simp only [zs]) (by simp only [zs, if_neg (fun z : 13 = a => hr.2.2.2 z.symm)])
theorem LI_sb {a i : Nat} {v : Int64} (h : LI B0 τ) (hr : a ≠ 3 ∧ a ≠ 11) : LI B0 (sb τ a i v) :=
  LI_cg h (by simp only [zs]) (by simp only [zs]) (by simp only [zs]) (by simp only [zs, if_neg (fun z : 3 = a => hr.1 z.symm)]) (by simp only [zs]) (by simp only [zs]) (by simp only [zs, if_neg (fun z : 11 = a => hr.2 z.symm)]) (by simp only [zs])
theorem LI_sl {r : Nat} {v : Int64} (h : LI B0 τ) : LI B0 (sl τ r v) :=
  LI_cg h (by simp only [zs]) (by simp only [zs]) (by simp only [zs]) (by simp only [zs]) (by simp only [zs]) (by simp only [zs]) (by simp only [zs]) (by simp only [zs])
theorem inb_lt {n N : Nat} (hn : n < 2 ^ 31) (h : inb (nI n) N = true) : n < N := by
  have := inb_in h
  unfold vp_in at this
  rw [nI_clamp hn] at this
  omega
theorem li_wrong_17 (F : Nat) (σ : zS) (h : LI B0 σ) : pq (LI B0) (Md_wrong_17 F σ) := by
  unfold Md_wrong_17
  repeat' (first | assumption | (with_reducible apply pq_ite) | (with_reducible apply pp_ite) | (with_reducible apply pq_gd) | (with_reducible apply pp_gd) | (with_reducible apply pq_bv) | (with_reducible apply pp_bv) | (with_reducible apply pq_bi) | (with_reducible apply pp_bi) | (with_reducible apply pq_some) | (with_reducible apply pp_some) | (with_reducible apply LI_si) | (with_reducible apply LI_sa) | (with_reducible apply LI_sb) | (with_reducible apply LI_sl) | decide | (intro _))
theorem li_wrong (F : Nat) (σ : zS) (x1 : Int32) (x2 : Int32) (h : LI B0 σ) : pq (LI B0) (Md_wrong F σ x1 x2) := by
  unfold Md_wrong
  repeat' (first | assumption | (with_reducible apply li_wrong_17) | (with_reducible apply pq_ite) | (with_reducible apply pp_ite) | (with_reducible apply pq_gd) | (with_reducible apply pp_gd) | (with_reducible apply pq_bv) | (with_reducible apply pp_bv) | (with_reducible apply pq_bi) | (with_reducible apply pp_bi) | (with_reducible apply pq_some) | (with_reducible apply pp_some) | (with_reducible apply LI_si) | (with_reducible apply LI_sa) | (with_reducible apply LI_sb) | (with_reducible apply LI_sl) | decide | (intro _))
theorem li_byteAt_18 (F : Nat) (σ : zS) (s0 : Int32) (h : LI B0 σ) : pp (LI B0) (Md_byteAt_18 F σ s0) := by
  unfold Md_byteAt_18
  repeat' (first | assumption | (with_reducible apply pq_ite) | (with_reducible apply pp_ite) | (with_reducible apply pq_gd) | (with_reducible apply pp_gd) | (with_reducible apply pq_bv) | (with_reducible apply pp_bv) | (with_reducible apply pq_bi) | (with_reducible apply pp_bi) | (with_reducible apply pq_some) | (with_reducible apply pp_some) | (with_reducible apply LI_si) | (with_reducible apply LI_sa) | (with_reducible apply LI_sb) | (with_reducible apply LI_sl) | decide | (intro _))
theorem li_byteAt (F : Nat) (σ : zS) (x1 : Int32) (h : LI B0 σ) : pp (LI B0) (Md_byteAt F σ x1) := by
  unfold Md_byteAt
  repeat' (first | assumption | (with_reducible apply li_byteAt_18) | (with_reducible apply pq_ite) | (with_reducible apply pp_ite) | (with_reducible apply pq_gd) | (with_reducible apply pp_gd) | (with_reducible apply pq_bv) | (with_reducible apply pp_bv) | (with_reducible apply pq_bi) | (with_reducible apply pp_bi) | (with_reducible apply pq_some) | (with_reducible apply pp_some) | (with_reducible apply LI_si) | (with_reducible apply LI_sa) | (with_reducible apply LI_sb) | (with_reducible apply LI_sl) | decide | (intro _))
theorem li_isUpper_17 (F : Nat) (σ : zS) (s0 : Int32) (h : LI B0 σ) : pp (LI B0) (Md_isUpper_17 F σ s0) := by
  unfold Md_isUpper_17
  repeat' (first | assumption | (with_reducible apply pq_ite) | (with_reducible apply pp_ite) | (with_reducible apply pq_gd) | (with_reducible apply pp_gd) | (with_reducible apply pq_bv) | (with_reducible apply pp_bv) | (with_reducible apply pq_bi) | (with_reducible apply pp_bi) | (with_reducible apply pq_some) | (with_reducible apply pp_some) | (with_reducible apply LI_si) | (with_reducible apply LI_sa) | (with_reducible apply LI_sb) | (with_reducible apply LI_sl) | decide | (intro _))
theorem li_isUpper_16 (F : Nat) (σ : zS) (h : LI B0 σ) : pp (LI B0) (Md_isUpper_16 F σ) := by
  unfold Md_isUpper_16
  repeat' (first | assumption | (with_reducible apply li_isUpper_17) | (with_reducible apply pq_ite) | (with_reducible apply pp_ite) | (with_reducible apply pq_gd) | (with_reducible apply pp_gd) | (with_reducible apply pq_bv) | (with_reducible apply pp_bv) | (with_reducible apply pq_bi) | (with_reducible apply pp_bi) | (with_reducible apply pq_some) | (with_reducible apply pp_some) | (with_reducible apply LI_si) | (with_reducible apply LI_sa) | (with_reducible apply LI_sb) | (with_reducible apply LI_sl) | decide | (intro _))
theorem li_isUpper (F : Nat) (σ : zS) (x0 : Int32) (h : LI B0 σ) : pp (LI B0) (Md_isUpper F σ x0) := by
  unfold Md_isUpper
  repeat' (first | assumption | (with_reducible apply li_isUpper_16) | (with_reducible apply li_isUpper_17) | (with_reducible apply pq_ite) | (with_reducible apply pp_ite) | (with_reducible apply pq_gd) | (with_reducible apply pp_gd) | (with_reducible apply pq_bv) | (with_reducible apply pp_bv) | (with_reducible apply pq_bi) | (with_reducible apply pp_bi) | (with_reducible apply pq_some) | (with_reducible apply pp_some) | (with_reducible apply LI_si) | (with_reducible apply LI_sa) | (with_reducible apply LI_sb) | (with_reducible apply LI_sl) | decide | (intro _))
theorem li_isLower_17 (F : Nat) (σ : zS) (s0 : Int32) (h : LI B0 σ) : pp (LI B0) (Md_isLower_17 F σ s0) := by
  unfold Md_isLower_17
  repeat' (first | assumption | (with_reducible apply pq_ite) | (with_reducible apply pp_ite) | (with_reducible apply pq_gd) | (with_reducible apply pp_gd) | (with_reducible apply pq_bv) | (with_reducible apply pp_bv) | (with_reducible apply pq_bi) | (with_reducible apply pp_bi) | (with_reducible apply pq_some) | (with_reducible apply pp_some) | (with_reducible apply LI_si) | (with_reducible apply LI_sa) | (with_reducible apply LI_sb) | (with_reducible apply LI_sl) | decide | (intro _))
theorem li_isLower_16 (F : Nat) (σ : zS) (h : LI B0 σ) : pp (LI B0) (Md_isLower_16 F σ) := by
  unfold Md_isLower_16
  repeat' (first | assumption | (with_reducible apply li_isLower_17) | (with_reducible apply pq_ite) | (with_reducible apply pp_ite) | (with_reducible apply pq_gd) | (with_reducible apply pp_gd) | (with_reducible apply pq_bv) | (with_reducible apply pp_bv) | (with_reducible apply pq_bi) | (with_reducible apply pp_bi) | (with_reducible apply pq_some) | (with_reducible apply pp_some) | (with_reducible apply LI_si) | (with_reducible apply LI_sa) | (with_reducible apply LI_sb) | (with_reducible apply LI_sl) | decide | (intro _))
theorem li_isLower (F : Nat) (σ : zS) (x0 : Int32) (h : LI B0 σ) : pp (LI B0) (Md_isLower F σ x0) := by
  unfold Md_isLower
  repeat' (first | assumption | (with_reducible apply li_isLower_16) | (with_reducible apply li_isLower_17) | (with_reducible apply pq_ite) | (with_reducible apply pp_ite) | (with_reducible apply pq_gd) | (with_reducible apply pp_gd) | (with_reducible apply pq_bv) | (with_reducible apply pp_bv) | (with_reducible apply pq_bi) | (with_reducible apply pp_bi) | (with_reducible apply pq_some) | (with_reducible apply pp_some) | (with_reducible apply LI_si) | (with_reducible apply LI_sa) | (with_reducible apply LI_sb) | (with_reducible apply LI_sl) | decide | (intro _))
theorem li_isOf_31 (F : Nat) (σ : zS) (s0 : Int32) (h : LI B0 σ) : pp (LI B0) (Md_isOf_31 F σ s0) := by
  unfold Md_isOf_31
  repeat' (first | assumption | (with_reducible apply pq_ite) | (with_reducible apply pp_ite) | (with_reducible apply pq_gd) | (with_reducible apply pp_gd) | (with_reducible apply pq_bv) | (with_reducible apply pp_bv) | (with_reducible apply pq_bi) | (with_reducible apply pp_bi) | (with_reducible apply pq_some) | (with_reducible apply pp_some) | (with_reducible apply LI_si) | (with_reducible apply LI_sa) | (with_reducible apply LI_sb) | (with_reducible apply LI_sl) | decide | (intro _))
theorem li_isOf_26 (F : Nat) (σ : zS) (h : LI B0 σ) : pp (LI B0) (Md_isOf_26 F σ) := by
  unfold Md_isOf_26
  repeat' (first | assumption | (with_reducible apply li_isOf_31) | (with_reducible apply pq_ite) | (with_reducible apply pp_ite) | (with_reducible apply pq_gd) | (with_reducible apply pp_gd) | (with_reducible apply pq_bv) | (with_reducible apply pp_bv) | (with_reducible apply pq_bi) | (with_reducible apply pp_bi) | (with_reducible apply pq_some) | (with_reducible apply pp_some) | (with_reducible apply LI_si) | (with_reducible apply LI_sa) | (with_reducible apply LI_sb) | (with_reducible apply LI_sl) | decide | (intro _))
theorem li_isOf_30 (F : Nat) (σ : zS) (h : LI B0 σ) : pp (LI B0) (Md_isOf_30 F σ) := by
  unfold Md_isOf_30
  repeat' (first | assumption | (with_reducible apply li_isOf_31) | (with_reducible apply pq_ite) | (with_reducible apply pp_ite) | (with_reducible apply pq_gd) | (with_reducible apply pp_gd) | (with_reducible apply pq_bv) | (with_reducible apply pp_bv) | (with_reducible apply pq_bi) | (with_reducible apply pp_bi) | (with_reducible apply pq_some) | (with_reducible apply pp_some) | (with_reducible apply LI_si) | (with_reducible apply LI_sa) | (with_reducible apply LI_sb) | (with_reducible apply LI_sl) | decide | (intro _))
theorem li_isOf (F : Nat) (σ : zS) (x0 : Int32) (h : LI B0 σ) : pp (LI B0) (Md_isOf F σ x0) := by
  unfold Md_isOf
  repeat' (first | assumption | (with_reducible apply li_isUpper) | (with_reducible apply li_isLower) | (with_reducible apply li_isOf_30) | (with_reducible apply li_isOf_26) | (with_reducible apply pq_ite) | (with_reducible apply pp_ite) | (with_reducible apply pq_gd) | (with_reducible apply pp_gd) | (with_reducible apply pq_bv) | (with_reducible apply pp_bv) | (with_reducible apply pq_bi) | (with_reducible apply pp_bi) | (with_reducible apply pq_some) | (with_reducible apply pp_some) | (with_reducible apply LI_si) | (with_reducible apply LI_sa) | (with_reducible apply LI_sb) | (with_reducible apply LI_sl) | decide | (intro _))
theorem li_name_172 (F : Nat) (σ : zS) (h : LI B0 σ) : pq (LI B0) (Md_name_172 F σ) := by
  unfold Md_name_172
  repeat' (first | assumption | (with_reducible apply pq_ite) | (with_reducible apply pp_ite) | (with_reducible apply pq_gd) | (with_reducible apply pp_gd) | (with_reducible apply pq_bv) | (with_reducible apply pp_bv) | (with_reducible apply pq_bi) | (with_reducible apply pp_bi) | (with_reducible apply pq_some) | (with_reducible apply pp_some) | (with_reducible apply LI_si) | (with_reducible apply LI_sa) | (with_reducible apply LI_sb) | (with_reducible apply LI_sl) | decide | (intro _))
theorem li_name_149 (F : Nat) (σ : zS) (x2 : Int32) (s1 : Int32) (h : LI B0 σ) : pq (LI B0) (Md_name_149 F σ x2 s1) := by
  unfold Md_name_149
  repeat' (first | assumption | (with_reducible apply li_name_172) | (with_reducible apply li_wrong) | (with_reducible apply pq_ite) | (with_reducible apply pp_ite) | (with_reducible apply pq_gd) | (with_reducible apply pp_gd) | (with_reducible apply pq_bv) | (with_reducible apply pp_bv) | (with_reducible apply pq_bi) | (with_reducible apply pp_bi) | (with_reducible apply pq_some) | (with_reducible apply pp_some) | (with_reducible apply LI_si) | (with_reducible apply LI_sa) | (with_reducible apply LI_sb) | (with_reducible apply LI_sl) | decide | (intro _))
theorem li_name_148 (F : Nat) (σ : zS) (x2 : Int32) (h : LI B0 σ) : pq (LI B0) (Md_name_148 F σ x2) := by
  unfold Md_name_148
  repeat' (first | assumption | (with_reducible apply li_name_149) | (with_reducible apply pq_ite) | (with_reducible apply pp_ite) | (with_reducible apply pq_gd) | (with_reducible apply pp_gd) | (with_reducible apply pq_bv) | (with_reducible apply pp_bv) | (with_reducible apply pq_bi) | (with_reducible apply pp_bi) | (with_reducible apply pq_some) | (with_reducible apply pp_some) | (with_reducible apply LI_si) | (with_reducible apply LI_sa) | (with_reducible apply LI_sb) | (with_reducible apply LI_sl) | decide | (intro _))
theorem li_name_144 (F : Nat) (σ : zS) (x2 : Int32) (h : LI B0 σ) : pq (LI B0) (Md_name_144 F σ x2) := by
  unfold Md_name_144
  repeat' (first | assumption | (with_reducible apply li_name_149) | (with_reducible apply pq_ite) | (with_reducible apply pp_ite) | (with_reducible apply pq_gd) | (with_reducible apply pp_gd) | (with_reducible apply pq_bv) | (with_reducible apply pp_bv) | (with_reducible apply pq_bi) | (with_reducible apply pp_bi) | (with_reducible apply pq_some) | (with_reducible apply pp_some) | (with_reducible apply LI_si) | (with_reducible apply LI_sa) | (with_reducible apply LI_sb) | (with_reducible apply LI_sl) | decide | (intro _))
theorem li_name_128 (F : Nat) (σ : zS) (x2 : Int32) (h : LI B0 σ) : pq (LI B0) (Md_name_128 F σ x2) := by
  unfold Md_name_128
  repeat' (first | assumption | (with_reducible apply li_name_144) | (with_reducible apply li_name_148) | (with_reducible apply pq_ite) | (with_reducible apply pp_ite) | (with_reducible apply pq_gd) | (with_reducible apply pp_gd) | (with_reducible apply pq_bv) | (with_reducible apply pp_bv) | (with_reducible apply pq_bi) | (with_reducible apply pp_bi) | (with_reducible apply pq_some) | (with_reducible apply pp_some) | (with_reducible apply LI_si) | (with_reducible apply LI_sa) | (with_reducible apply LI_sb) | (with_reducible apply LI_sl) | decide | (intro _))
theorem li_name_112 (F : Nat) (σ : zS) (x2 : Int32) (h : LI B0 σ) : pq (LI B0) (Md_name_112 F σ x2) := by
  unfold Md_name_112
  repeat' (first | assumption | (with_reducible apply li_name_144) | (with_reducible apply li_name_128) | (with_reducible apply pq_ite) | (with_reducible apply pp_ite) | (with_reducible apply pq_gd) | (with_reducible apply pp_gd) | (with_reducible apply pq_bv) | (with_reducible apply pp_bv) | (with_reducible apply pq_bi) | (with_reducible apply pp_bi) | (with_reducible apply pq_some) | (with_reducible apply pp_some) | (with_reducible apply LI_si) | (with_reducible apply LI_sa) | (with_reducible apply LI_sb) | (with_reducible apply LI_sl) | decide | (intro _))
theorem li_name_96 (F : Nat) (σ : zS) (x2 : Int32) (h : LI B0 σ) : pq (LI B0) (Md_name_96 F σ x2) := by
  unfold Md_name_96
  repeat' (first | assumption | (with_reducible apply li_name_144) | (with_reducible apply li_name_112) | (with_reducible apply pq_ite) | (with_reducible apply pp_ite) | (with_reducible apply pq_gd) | (with_reducible apply pp_gd) | (with_reducible apply pq_bv) | (with_reducible apply pp_bv) | (with_reducible apply pq_bi) | (with_reducible apply pp_bi) | (with_reducible apply pq_some) | (with_reducible apply pp_some) | (with_reducible apply LI_si) | (with_reducible apply LI_sa) | (with_reducible apply LI_sb) | (with_reducible apply LI_sl) | decide | (intro _))
theorem li_name_52 (F : Nat) (rc7 : zS → Int32 → Int32 → Option zS) (σ : zS) (x1 : Int32) (x2 : Int32) (s1 : Int64) (hrc7 : ∀ y0 y1 y2, LI B0 y0 → pq (LI B0) (rc7 y0 y1 y2)) (h : LI B0 σ) : pq (LI B0) (Md_name_52 F rc7 σ x1 x2 s1) := by
  unfold Md_name_52
  repeat' (first | assumption | (with_reducible apply hrc7) | (with_reducible apply pq_ite) | (with_reducible apply pp_ite) | (with_reducible apply pq_gd) | (with_reducible apply pp_gd) | (with_reducible apply pq_bv) | (with_reducible apply pp_bv) | (with_reducible apply pq_bi) | (with_reducible apply pp_bi) | (with_reducible apply pq_some) | (with_reducible apply pp_some) | (with_reducible apply LI_si) | (with_reducible apply LI_sa) | (with_reducible apply LI_sb) | (with_reducible apply LI_sl) | decide | (intro _))
theorem li_name_b7 (F : Nat) (rc7 : zS → Int32 → Int32 → Option zS) (σ : zS) (x1 : Int32) (x2 : Int32) (hrc7 : ∀ y0 y1 y2, LI B0 y0 → pq (LI B0) (rc7 y0 y1 y2)) (h : LI B0 σ) : pq (LI B0) (Md_name_b7 F rc7 σ x1 x2) := by
  unfold Md_name_b7
  repeat' (first | assumption | (with_reducible apply hrc7) | (with_reducible apply li_byteAt) | (with_reducible apply li_isOf) | (with_reducible apply li_name_144) | (with_reducible apply li_name_96) | (with_reducible apply li_name_149) | (with_reducible apply li_name_52) | (with_reducible apply pq_ite) | (with_reducible apply pp_ite) | (with_reducible apply pq_gd) | (with_reducible apply pp_gd) | (with_reducible apply pq_bv) | (with_reducible apply pp_bv) | (with_reducible apply pq_bi) | (with_reducible apply pp_bi) | (with_reducible apply pq_some) | (with_reducible apply pp_some) | (with_reducible apply LI_si) | (with_reducible apply LI_sa) | (with_reducible apply LI_sb) | (with_reducible apply LI_sl) | decide | (intro _))
theorem li_name_7 (F : Nat) : ∀ (n : Nat) (a0 : zS) (a1 : Int32) (a2 : Int32), LI B0 a0 → pq (LI B0) (Md_name_7 F n a0 a1 a2)
  | 0, _, _, _, _ => pq_none
  | n + 1, a0, a1, a2, h => li_name_b7 F (Md_name_7 F n) a0 a1 a2  (li_name_7 F  n) h
theorem li_name (F : Nat) (σ : zS) (x1 : Int32) (h : LI B0 σ) : pq (LI B0) (Md_name F σ x1) := by
  unfold Md_name
  repeat' (first | assumption | (with_reducible apply li_name_7) | (with_reducible apply pq_ite) | (with_reducible apply pp_ite) | (with_reducible apply pq_gd) | (with_reducible apply pp_gd) | (with_reducible apply pq_bv) | (with_reducible apply pp_bv) | (with_reducible apply pq_bi) | (with_reducible apply pp_bi) | (with_reducible apply pq_some) | (with_reducible apply pp_some) | (with_reducible apply LI_si) | (with_reducible apply LI_sa) | (with_reducible apply LI_sb) | (with_reducible apply LI_sl) | decide | (intro _))
theorem li_next_26 (F : Nat) (rc0 : zS → Option zS) (σ : zS) (hrc0 : ∀ y0, LI B0 y0 → pq (LI B0) (rc0 y0)) (h : LI B0 σ) : pq (LI B0) (Md_next_26 F rc0 σ) := by
  unfold Md_next_26
  repeat' (first | assumption | (with_reducible apply hrc0) | (with_reducible apply pq_ite) | (with_reducible apply pp_ite) | (with_reducible apply pq_gd) | (with_reducible apply pp_gd) | (with_reducible apply pq_bv) | (with_reducible apply pp_bv) | (with_reducible apply pq_bi) | (with_reducible apply pp_bi) | (with_reducible apply pq_some) | (with_reducible apply pp_some) | (with_reducible apply LI_si) | (with_reducible apply LI_sa) | (with_reducible apply LI_sb) | (with_reducible apply LI_sl) | decide | (intro _))
theorem li_next_67 (F : Nat) (σ : zS) (h : LI B0 σ) : pq (LI B0) (Md_next_67 F σ) := by
  unfold Md_next_67
  repeat' (first | assumption | (with_reducible apply pq_ite) | (with_reducible apply pp_ite) | (with_reducible apply pq_gd) | (with_reducible apply pp_gd) | (with_reducible apply pq_bv) | (with_reducible apply pp_bv) | (with_reducible apply pq_bi) | (with_reducible apply pp_bi) | (with_reducible apply pq_some) | (with_reducible apply pp_some) | (with_reducible apply LI_si) | (with_reducible apply LI_sa) | (with_reducible apply LI_sb) | (with_reducible apply LI_sl) | decide | (intro _))
theorem li_next_87 (F : Nat) (σ : zS) (x1 : Int32) (h : LI B0 σ) : pq (LI B0) (Md_next_87 F σ x1) := by
  unfold Md_next_87
  repeat' (first | assumption | (with_reducible apply li_isUpper) | (with_reducible apply li_name) | (with_reducible apply pq_ite) | (with_reducible apply pp_ite) | (with_reducible apply pq_gd) | (with_reducible apply pp_gd) | (with_reducible apply pq_bv) | (with_reducible apply pp_bv) | (with_reducible apply pq_bi) | (with_reducible apply pp_bi) | (with_reducible apply pq_some) | (with_reducible apply pp_some) | (with_reducible apply LI_si) | (with_reducible apply LI_sa) | (with_reducible apply LI_sb) | (with_reducible apply LI_sl) | decide | (intro _))
theorem li_next_271 (F : Nat) (σ : zS) (h : LI B0 σ) : pq (LI B0) (Md_next_271 F σ) := by
  unfold Md_next_271
  repeat' (first | assumption | (with_reducible apply pq_ite) | (with_reducible apply pp_ite) | (with_reducible apply pq_gd) | (with_reducible apply pp_gd) | (with_reducible apply pq_bv) | (with_reducible apply pp_bv) | (with_reducible apply pq_bi) | (with_reducible apply pp_bi) | (with_reducible apply pq_some) | (with_reducible apply pp_some) | (with_reducible apply LI_si) | (with_reducible apply LI_sa) | (with_reducible apply LI_sb) | (with_reducible apply LI_sl) | decide | (intro _))
theorem li_next_237 (F : Nat) (σ : zS) (x1 : Int32) (s0 : Int32) (h : LI B0 σ) : pq (LI B0) (Md_next_237 F σ x1 s0) := by
  unfold Md_next_237
  repeat' (first | assumption | (with_reducible apply li_wrong) | (with_reducible apply li_next_271) | (with_reducible apply pq_ite) | (with_reducible apply pp_ite) | (with_reducible apply pq_gd) | (with_reducible apply pp_gd) | (with_reducible apply pq_bv) | (with_reducible apply pp_bv) | (with_reducible apply pq_bi) | (with_reducible apply pp_bi) | (with_reducible apply pq_some) | (with_reducible apply pp_some) | (with_reducible apply LI_si) | (with_reducible apply LI_sa) | (with_reducible apply LI_sb) | (with_reducible apply LI_sl) | decide | (intro _))
theorem li_next_232 (F : Nat) (σ : zS) (x1 : Int32) (h : LI B0 σ) : pq (LI B0) (Md_next_232 F σ x1) := by
  unfold Md_next_232
  repeat' (first | assumption | (with_reducible apply li_next_237) | (with_reducible apply pq_ite) | (with_reducible apply pp_ite) | (with_reducible apply pq_gd) | (with_reducible apply pp_gd) | (with_reducible apply pq_bv) | (with_reducible apply pp_bv) | (with_reducible apply pq_bi) | (with_reducible apply pp_bi) | (with_reducible apply pq_some) | (with_reducible apply pp_some) | (with_reducible apply LI_si) | (with_reducible apply LI_sa) | (with_reducible apply LI_sb) | (with_reducible apply LI_sl) | decide | (intro _))
theorem li_next_166 (F : Nat) (σ : zS) (x1 : Int32) (h : LI B0 σ) : pq (LI B0) (Md_next_166 F σ x1) := by
  unfold Md_next_166
  repeat' (first | assumption | (with_reducible apply li_next_232) | (with_reducible apply li_next_237) | (with_reducible apply pq_ite) | (with_reducible apply pp_ite) | (with_reducible apply pq_gd) | (with_reducible apply pp_gd) | (with_reducible apply pq_bv) | (with_reducible apply pp_bv) | (with_reducible apply pq_bi) | (with_reducible apply pp_bi) | (with_reducible apply pq_some) | (with_reducible apply pp_some) | (with_reducible apply LI_si) | (with_reducible apply LI_sa) | (with_reducible apply LI_sb) | (with_reducible apply LI_sl) | decide | (intro _))
theorem li_next_152 (F : Nat) (σ : zS) (s1 : Int32) (h : LI B0 σ) : pq (LI B0) (Md_next_152 F σ s1) := by
  unfold Md_next_152
  repeat' (first | assumption | (with_reducible apply pq_ite) | (with_reducible apply pp_ite) | (with_reducible apply pq_gd) | (with_reducible apply pp_gd) | (with_reducible apply pq_bv) | (with_reducible apply pp_bv) | (with_reducible apply pq_bi) | (with_reducible apply pp_bi) | (with_reducible apply pq_some) | (with_reducible apply pp_some) | (with_reducible apply LI_si) | (with_reducible apply LI_sa) | (with_reducible apply LI_sb) | (with_reducible apply LI_sl) | decide | (intro _))
theorem li_next_136 (F : Nat) (σ : zS) (x1 : Int32) (h : LI B0 σ) : pq (LI B0) (Md_next_136 F σ x1) := by
  unfold Md_next_136
  repeat' (first | assumption | (with_reducible apply li_next_152) | (with_reducible apply pq_ite) | (with_reducible apply pp_ite) | (with_reducible apply pq_gd) | (with_reducible apply pp_gd) | (with_reducible apply pq_bv) | (with_reducible apply pp_bv) | (with_reducible apply pq_bi) | (with_reducible apply pp_bi) | (with_reducible apply pq_some) | (with_reducible apply pp_some) | (with_reducible apply LI_si) | (with_reducible apply LI_sa) | (with_reducible apply LI_sb) | (with_reducible apply LI_sl) | decide | (intro _))
theorem li_next_124 (F : Nat) (σ : zS) (x1 : Int32) (x2 : Int32) (h : LI B0 σ) : pq (LI B0) (Md_next_124 F σ x1 x2) := by
  unfold Md_next_124
  repeat' (first | assumption | (with_reducible apply li_next_136) | (with_reducible apply li_next_166) | (with_reducible apply pq_ite) | (with_reducible apply pp_ite) | (with_reducible apply pq_gd) | (with_reducible apply pp_gd) | (with_reducible apply pq_bv) | (with_reducible apply pp_bv) | (with_reducible apply pq_bi) | (with_reducible apply pp_bi) | (with_reducible apply pq_some) | (with_reducible apply pp_some) | (with_reducible apply LI_si) | (with_reducible apply LI_sa) | (with_reducible apply LI_sb) | (with_reducible apply LI_sl) | decide | (intro _))
theorem li_next_b0 (F : Nat) (rc0 : zS → Option zS) (σ : zS) (hrc0 : ∀ y0, LI B0 y0 → pq (LI B0) (rc0 y0)) (h : LI B0 σ) : pq (LI B0) (Md_next_b0 F rc0 σ) := by
  unfold Md_next_b0
  repeat' (first | assumption | (with_reducible apply hrc0) | (with_reducible apply li_byteAt) | (with_reducible apply li_next_26) | (with_reducible apply li_next_67) | (with_reducible apply li_isUpper) | (with_reducible apply li_isLower) | (with_reducible apply li_next_136) | (with_reducible apply li_next_124) | (with_reducible apply li_next_87) | (with_reducible apply pq_ite) | (with_reducible apply pp_ite) | (with_reducible apply pq_gd) | (with_reducible apply pp_gd) | (with_reducible apply pq_bv) | (with_reducible apply pp_bv) | (with_reducible apply pq_bi) | (with_reducible apply pp_bi) | (with_reducible apply pq_some) | (with_reducible apply pp_some) | (with_reducible apply LI_si) | (with_reducible apply LI_sa) | (with_reducible apply LI_sb) | (with_reducible apply LI_sl) | decide | (intro _))
theorem li_next_0 (F : Nat) : ∀ (n : Nat) (a0 : zS), LI B0 a0 → pq (LI B0) (Md_next_0 F n a0)
  | 0, _, _ => pq_none
  | n + 1, a0, h => li_next_b0 F (Md_next_0 F n) a0  (li_next_0 F  n) h
theorem li_next (F : Nat) (σ : zS) (h : LI B0 σ) : pq (LI B0) (Md_next F σ) := by
  unfold Md_next
  repeat' (first | assumption | (with_reducible apply li_next_0) | (with_reducible apply pq_ite) | (with_reducible apply pp_ite) | (with_reducible apply pq_gd) | (with_reducible apply pp_gd) | (with_reducible apply pq_bv) | (with_reducible apply pp_bv) | (with_reducible apply pq_bi) | (with_reducible apply pp_bi) | (with_reducible apply pq_some) | (with_reducible apply pp_some) | (with_reducible apply LI_si) | (with_reducible apply LI_sa) | (with_reducible apply LI_sb) | (with_reducible apply LI_sl) | decide | (intro _))
theorem li_isSign_28 (F : Nat) (σ : zS) (s0 : Int32) (h : LI B0 σ) : pp (LI B0) (Md_isSign_28 F σ s0) := by
  unfold Md_isSign_28
  repeat' (first | assumption | (with_reducible apply pq_ite) | (with_reducible apply pp_ite) | (with_reducible apply pq_gd) | (with_reducible apply pp_gd) | (with_reducible apply pq_bv) | (with_reducible apply pp_bv) | (with_reducible apply pq_bi) | (with_reducible apply pp_bi) | (with_reducible apply pq_some) | (with_reducible apply pp_some) | (with_reducible apply LI_si) | (with_reducible apply LI_sa) | (with_reducible apply LI_sb) | (with_reducible apply LI_sl) | decide | (intro _))
theorem li_isSign_27 (F : Nat) (σ : zS) (h : LI B0 σ) : pp (LI B0) (Md_isSign_27 F σ) := by
  unfold Md_isSign_27
  repeat' (first | assumption | (with_reducible apply li_isSign_28) | (with_reducible apply pq_ite) | (with_reducible apply pp_ite) | (with_reducible apply pq_gd) | (with_reducible apply pp_gd) | (with_reducible apply pq_bv) | (with_reducible apply pp_bv) | (with_reducible apply pq_bi) | (with_reducible apply pp_bi) | (with_reducible apply pq_some) | (with_reducible apply pp_some) | (with_reducible apply LI_si) | (with_reducible apply LI_sa) | (with_reducible apply LI_sb) | (with_reducible apply LI_sl) | decide | (intro _))
theorem li_isSign (F : Nat) (σ : zS) (x1 : Int32) (h : LI B0 σ) : pp (LI B0) (Md_isSign F σ x1) := by
  unfold Md_isSign
  repeat' (first | assumption | (with_reducible apply li_isSign_28) | (with_reducible apply li_isSign_27) | (with_reducible apply pq_ite) | (with_reducible apply pp_ite) | (with_reducible apply pq_gd) | (with_reducible apply pp_gd) | (with_reducible apply pq_bv) | (with_reducible apply pp_bv) | (with_reducible apply pq_bi) | (with_reducible apply pp_bi) | (with_reducible apply pq_some) | (with_reducible apply pp_some) | (with_reducible apply LI_si) | (with_reducible apply LI_sa) | (with_reducible apply LI_sb) | (with_reducible apply LI_sl) | decide | (intro _))
theorem li_cannot (F : Nat) (σ : zS) (h : LI B0 σ) : pq (LI B0) (Md_cannot F σ) := by
  unfold Md_cannot
  repeat' (first | assumption | (with_reducible apply li_wrong) | (with_reducible apply pq_ite) | (with_reducible apply pp_ite) | (with_reducible apply pq_gd) | (with_reducible apply pp_gd) | (with_reducible apply pq_bv) | (with_reducible apply pp_bv) | (with_reducible apply pq_bi) | (with_reducible apply pp_bi) | (with_reducible apply pq_some) | (with_reducible apply pp_some) | (with_reducible apply LI_si) | (with_reducible apply LI_sa) | (with_reducible apply LI_sb) | (with_reducible apply LI_sl) | decide | (intro _))
theorem li_want_19 (F : Nat) (σ : zS) (h : LI B0 σ) : pq (LI B0) (Md_want_19 F σ) := by
  unfold Md_want_19
  repeat' (first | assumption | (with_reducible apply pq_ite) | (with_reducible apply pp_ite) | (with_reducible apply pq_gd) | (with_reducible apply pp_gd) | (with_reducible apply pq_bv) | (with_reducible apply pp_bv) | (with_reducible apply pq_bi) | (with_reducible apply pp_bi) | (with_reducible apply pq_some) | (with_reducible apply pp_some) | (with_reducible apply LI_si) | (with_reducible apply LI_sa) | (with_reducible apply LI_sb) | (with_reducible apply LI_sl) | decide | (intro _))
theorem li_want (F : Nat) (σ : zS) (x1 : Int32) (h : LI B0 σ) : pq (LI B0) (Md_want F σ x1) := by
  unfold Md_want
  repeat' (first | assumption | (with_reducible apply li_isSign) | (with_reducible apply li_cannot) | (with_reducible apply li_want_19) | (with_reducible apply li_next) | (with_reducible apply pq_ite) | (with_reducible apply pp_ite) | (with_reducible apply pq_gd) | (with_reducible apply pp_gd) | (with_reducible apply pq_bv) | (with_reducible apply pp_bv) | (with_reducible apply pq_bi) | (with_reducible apply pp_bi) | (with_reducible apply pq_some) | (with_reducible apply pp_some) | (with_reducible apply LI_si) | (with_reducible apply LI_sa) | (with_reducible apply LI_sb) | (with_reducible apply LI_sl) | decide | (intro _))
theorem li_tell (F : Nat) (σ : zS) (x1 : Int32) (x2 : Int32) (h : LI B0 σ) : pq (LI B0) (Md_tell F σ x1 x2) := by
  obtain ⟨N, M, a1, a2, a3, a4, a5⟩ := h
  intro τ' e
  rw [Md_tell, a2] at e
  obtain ⟨e1, e2⟩ := gd_s e
  have hM := inb_lt (by omega) e1
  rw [nI_clamp (by omega)] at e2
  cases e2
  refine ⟨N, M + 1, by simp [zs, a1], by simp [zs, nI_1], a3, by omega, fun n n1 n2 hs => ?_⟩
  obtain ⟨i, i1, i2, i3, i4⟩ := a5 n n1 n2 (by simpa [zs] using hs)
  refine ⟨i, by omega, ?_, ?_, ?_⟩
  · simp [zs, up_at]; rw [if_neg (by omega)]; exact i2
  · simp [zs, upL_at]; rw [if_neg (by omega)]; exact i3
  · simp [zs, up_at]; rw [if_neg (by omega)]; exact i4
theorem li_act (F : Nat) (σ : zS) (x1 : Int32) (x2 : Int32) (x3 : Int32) (h : LI B0 σ) : pq (LI B0) (Md_act F σ x1 x2 x3) := by
  unfold Md_act
  repeat' (first | assumption | (with_reducible apply pq_ite) | (with_reducible apply pp_ite) | (with_reducible apply pq_gd) | (with_reducible apply pp_gd) | (with_reducible apply pq_bv) | (with_reducible apply pp_bv) | (with_reducible apply pq_bi) | (with_reducible apply pp_bi) | (with_reducible apply pq_some) | (with_reducible apply pp_some) | (with_reducible apply LI_si) | (with_reducible apply LI_sa) | (with_reducible apply LI_sb) | (with_reducible apply LI_sl) | decide | (intro _))
theorem li_node (F : Nat) (σ : zS) (x1 : Int32) (x2 : Int32) (x3 : Int32) (h : LI B0 σ) (hx : x1 ≠ 0 ∧ x1 ≠ 1) : pp (LI B0) (Md_node F σ x1 x2 x3) := by
  obtain ⟨N, M, a1, a2, a3, a4, a5⟩ := h
  intro r τ' e
  rw [Md_node, a1] at e
  obtain ⟨e1, e2⟩ := gd_s e
  have hN := inb_lt (by omega) e1
  rw [nI_clamp (by omega)] at e2
  cases e2
  refine ⟨N + 1, M, by simp [zs, nI_1], by simp [zs, a2], by omega, a4, fun n n1 n2 hs => ?_⟩
  have k2 : ga (si (sa (sa (sa σ 2 N x1) 4 N x2) 5 N x3) 16 (nI N + 1)) 2 n = if n = N then x1 else ga σ 2 n := by simp [zs, up_at]
  have k4 : ga (si (sa (sa (sa σ 2 N x1) 4 N x2) 5 N x3) 16 (nI N + 1)) 4 n = if n = N then x2 else ga σ 4 n := by simp [zs, up_at]
  rw [k2] at hs
  by_cases en : n = N
  · rw [if_pos en] at hs
    rcases hs with z | z
    · exact absurd z hx.1
    · exact absurd z hx.2
  · rw [if_neg en] at hs
    obtain ⟨i, i1, i2, i3, i4⟩ := a5 n n1 (by omega) hs
    refine ⟨i, i1, ?_, ?_, ?_⟩
    · rw [k2, if_neg en]; simp [zs]; exact i2
    · simp [zs]; exact i3
    · rw [k4, if_neg en]; simp [zs]; exact i4
theorem li_count_29 (F : Nat) (σ : zS) (h : LI B0 σ) : pq (LI B0) (Md_count_29 F σ) := by
  unfold Md_count_29
  repeat' (first | assumption | (with_reducible apply pq_ite) | (with_reducible apply pp_ite) | (with_reducible apply pq_gd) | (with_reducible apply pp_gd) | (with_reducible apply pq_bv) | (with_reducible apply pp_bv) | (with_reducible apply pq_bi) | (with_reducible apply pp_bi) | (with_reducible apply pq_some) | (with_reducible apply pp_some) | (with_reducible apply LI_si) | (with_reducible apply LI_sa) | (with_reducible apply LI_sb) | (with_reducible apply LI_sl) | decide | (intro _))
theorem li_count (F : Nat) (σ : zS) (h : LI B0 σ) : pq (LI B0) (Md_count F σ) := by
  unfold Md_count
  repeat' (first | assumption | (with_reducible apply li_count_29) | (with_reducible apply li_wrong) | (with_reducible apply pq_ite) | (with_reducible apply pp_ite) | (with_reducible apply pq_gd) | (with_reducible apply pp_gd) | (with_reducible apply pq_bv) | (with_reducible apply pp_bv) | (with_reducible apply pq_bi) | (with_reducible apply pp_bi) | (with_reducible apply pq_some) | (with_reducible apply pp_some) | (with_reducible apply LI_si) | (with_reducible apply LI_sa) | (with_reducible apply LI_sb) | (with_reducible apply LI_sl) | decide | (intro _))
theorem li_deeper_28 (F : Nat) (σ : zS) (h : LI B0 σ) : pq (LI B0) (Md_deeper_28 F σ) := by
  unfold Md_deeper_28
  repeat' (first | assumption | (with_reducible apply pq_ite) | (with_reducible apply pp_ite) | (with_reducible apply pq_gd) | (with_reducible apply pp_gd) | (with_reducible apply pq_bv) | (with_reducible apply pp_bv) | (with_reducible apply pq_bi) | (with_reducible apply pp_bi) | (with_reducible apply pq_some) | (with_reducible apply pp_some) | (with_reducible apply LI_si) | (with_reducible apply LI_sa) | (with_reducible apply LI_sb) | (with_reducible apply LI_sl) | decide | (intro _))
theorem li_deeper (F : Nat) (σ : zS) (h : LI B0 σ) : pq (LI B0) (Md_deeper F σ) := by
  unfold Md_deeper
  repeat' (first | assumption | (with_reducible apply li_deeper_28) | (with_reducible apply li_wrong) | (with_reducible apply pq_ite) | (with_reducible apply pp_ite) | (with_reducible apply pq_gd) | (with_reducible apply pp_gd) | (with_reducible apply pq_bv) | (with_reducible apply pp_bv) | (with_reducible apply pq_bi) | (with_reducible apply pp_bi) | (with_reducible apply pq_some) | (with_reducible apply pp_some) | (with_reducible apply LI_si) | (with_reducible apply LI_sa) | (with_reducible apply LI_sb) | (with_reducible apply LI_sl) | decide | (intro _))
theorem li_canBegin_46 (F : Nat) (σ : zS) (s0 : Int32) (h : LI B0 σ) : pp (LI B0) (Md_canBegin_46 F σ s0) := by
  unfold Md_canBegin_46
  repeat' (first | assumption | (with_reducible apply pq_ite) | (with_reducible apply pp_ite) | (with_reducible apply pq_gd) | (with_reducible apply pp_gd) | (with_reducible apply pq_bv) | (with_reducible apply pp_bv) | (with_reducible apply pq_bi) | (with_reducible apply pp_bi) | (with_reducible apply pq_some) | (with_reducible apply pp_some) | (with_reducible apply LI_si) | (with_reducible apply LI_sa) | (with_reducible apply LI_sb) | (with_reducible apply LI_sl) | decide | (intro _))
theorem li_canBegin_45 (F : Nat) (σ : zS) (h : LI B0 σ) : pp (LI B0) (Md_canBegin_45 F σ) := by
  unfold Md_canBegin_45
  repeat' (first | assumption | (with_reducible apply li_canBegin_46) | (with_reducible apply pq_ite) | (with_reducible apply pp_ite) | (with_reducible apply pq_gd) | (with_reducible apply pp_gd) | (with_reducible apply pq_bv) | (with_reducible apply pp_bv) | (with_reducible apply pq_bi) | (with_reducible apply pp_bi) | (with_reducible apply pq_some) | (with_reducible apply pp_some) | (with_reducible apply LI_si) | (with_reducible apply LI_sa) | (with_reducible apply LI_sb) | (with_reducible apply LI_sl) | decide | (intro _))
theorem li_canBegin_41 (F : Nat) (σ : zS) (h : LI B0 σ) : pp (LI B0) (Md_canBegin_41 F σ) := by
  unfold Md_canBegin_41
  repeat' (first | assumption | (with_reducible apply li_canBegin_46) | (with_reducible apply pq_ite) | (with_reducible apply pp_ite) | (with_reducible apply pq_gd) | (with_reducible apply pp_gd) | (with_reducible apply pq_bv) | (with_reducible apply pp_bv) | (with_reducible apply pq_bi) | (with_reducible apply pp_bi) | (with_reducible apply pq_some) | (with_reducible apply pp_some) | (with_reducible apply LI_si) | (with_reducible apply LI_sa) | (with_reducible apply LI_sb) | (with_reducible apply LI_sl) | decide | (intro _))
theorem li_canBegin (F : Nat) (σ : zS) (h : LI B0 σ) : pp (LI B0) (Md_canBegin F σ) := by
  unfold Md_canBegin
  repeat' (first | assumption | (with_reducible apply li_canBegin_41) | (with_reducible apply li_isSign) | (with_reducible apply li_canBegin_45) | (with_reducible apply pq_ite) | (with_reducible apply pp_ite) | (with_reducible apply pq_gd) | (with_reducible apply pp_gd) | (with_reducible apply pq_bv) | (with_reducible apply pp_bv) | (with_reducible apply pq_bi) | (with_reducible apply pp_bi) | (with_reducible apply pq_some) | (with_reducible apply pp_some) | (with_reducible apply LI_si) | (with_reducible apply LI_sa) | (with_reducible apply LI_sb) | (with_reducible apply LI_sl) | decide | (intro _))
theorem li_open (F : Nat) (σ : zS) (x1 : Int32) (h : LI B0 σ) : pq (LI B0) (Md_open F σ x1) := by
  unfold Md_open
  repeat' (first | assumption | (with_reducible apply pq_ite) | (with_reducible apply pp_ite) | (with_reducible apply pq_gd) | (with_reducible apply pp_gd) | (with_reducible apply pq_bv) | (with_reducible apply pp_bv) | (with_reducible apply pq_bi) | (with_reducible apply pp_bi) | (with_reducible apply pq_some) | (with_reducible apply pp_some) | (with_reducible apply LI_si) | (with_reducible apply LI_sa) | (with_reducible apply LI_sb) | (with_reducible apply LI_sl) | decide | (intro _))
theorem li_addOne_98 (F : Nat) (σ : zS) (x1 : Int32) (x3 : Int32) (h : LI B0 σ) : pq (LI B0) (Md_addOne_98 F σ x1 x3) := by
  unfold Md_addOne_98
  repeat' (first | assumption | (with_reducible apply li_node) | (with_reducible apply li_act) | (with_reducible apply pq_ite) | (with_reducible apply pp_ite) | (with_reducible apply pq_gd) | (with_reducible apply pp_gd) | (with_reducible apply pq_bv) | (with_reducible apply pp_bv) | (with_reducible apply pq_bi) | (with_reducible apply pp_bi) | (with_reducible apply pq_some) | (with_reducible apply pp_some) | (with_reducible apply LI_si) | (with_reducible apply LI_sa) | (with_reducible apply LI_sb) | (with_reducible apply LI_sl) | decide | (intro _))
theorem li_addOne_85 (F : Nat) (σ : zS) (s1 : Int32) (s2 : Int32) (h : LI B0 σ) : pq (LI B0) (Md_addOne_85 F σ s1 s2) := by
  unfold Md_addOne_85
  repeat' (first | assumption | (with_reducible apply pq_ite) | (with_reducible apply pp_ite) | (with_reducible apply pq_gd) | (with_reducible apply pp_gd) | (with_reducible apply pq_bv) | (with_reducible apply pp_bv) | (with_reducible apply pq_bi) | (with_reducible apply pp_bi) | (with_reducible apply pq_some) | (with_reducible apply pp_some) | (with_reducible apply LI_si) | (with_reducible apply LI_sa) | (with_reducible apply LI_sb) | (with_reducible apply LI_sl) | decide | (intro _))
theorem li_addOne (F : Nat) (σ : zS) (x1 : Int32) (x2 : Int32) (x3 : Int32) (h : LI B0 σ) : pq (LI B0) (Md_addOne F σ x1 x2 x3) := by
  unfold Md_addOne
  repeat' (first | assumption | (with_reducible apply li_addOne_98) | (with_reducible apply li_addOne_85) | (with_reducible apply pq_ite) | (with_reducible apply pp_ite) | (with_reducible apply pq_gd) | (with_reducible apply pp_gd) | (with_reducible apply pq_bv) | (with_reducible apply pp_bv) | (with_reducible apply pq_bi) | (with_reducible apply pp_bi) | (with_reducible apply pq_some) | (with_reducible apply pp_some) | (with_reducible apply LI_si) | (with_reducible apply LI_sa) | (with_reducible apply LI_sb) | (with_reducible apply LI_sl) | decide | (intro _))
theorem li_endSome_137 (F : Nat) (σ : zS) (x2 : Int32) (h : LI B0 σ) : pq (LI B0) (Md_endSome_137 F σ x2) := by
  unfold Md_endSome_137
  repeat' (first | assumption | (with_reducible apply pq_ite) | (with_reducible apply pp_ite) | (with_reducible apply pq_gd) | (with_reducible apply pp_gd) | (with_reducible apply pq_bv) | (with_reducible apply pp_bv) | (with_reducible apply pq_bi) | (with_reducible apply pp_bi) | (with_reducible apply pq_some) | (with_reducible apply pp_some) | (with_reducible apply LI_si) | (with_reducible apply LI_sa) | (with_reducible apply LI_sb) | (with_reducible apply LI_sl) | decide | (intro _))
theorem li_endSome_100 (F : Nat) (σ : zS) (x1 : Int32) (s1 : Int32) (s2 : Int32) (h : LI B0 σ) (hx : s1 ≠ 0 ∧ s1 ≠ 1) : pq (LI B0) (Md_endSome_100 F σ x1 s1 s2) := by
  unfold Md_endSome_100
  repeat' (first | assumption | (with_reducible apply li_node) | (with_reducible apply li_endSome_137) | (with_reducible apply pq_ite) | (with_reducible apply pq_gd) | (with_reducible apply pq_bi) | (with_reducible apply LI_sa) | decide | (intro _))
theorem li_endSome_35 (F : Nat) (σ : zS) (h : LI B0 σ) : pq (LI B0) (Md_endSome_35 F σ) := by
  unfold Md_endSome_35
  repeat' (first | assumption | (with_reducible apply li_endSome_100) | (with_reducible apply pq_ite) | (with_reducible apply pq_gd) | (with_reducible apply pq_some) | (with_reducible apply LI_sa) | decide | (intro _))
theorem li_endSome (F : Nat) (σ : zS) (h : LI B0 σ) : pq (LI B0) (Md_endSome F σ) := by
  unfold Md_endSome
  repeat' (first | assumption | (with_reducible apply li_endSome_35) | (with_reducible apply pq_ite) | (with_reducible apply pp_ite) | (with_reducible apply pq_gd) | (with_reducible apply pp_gd) | (with_reducible apply pq_bv) | (with_reducible apply pp_bv) | (with_reducible apply pq_bi) | (with_reducible apply pp_bi) | (with_reducible apply pq_some) | (with_reducible apply pp_some) | (with_reducible apply LI_si) | (with_reducible apply LI_sa) | (with_reducible apply LI_sb) | (with_reducible apply LI_sl) | decide | (intro _))
theorem li_beginOne_115 (F : Nat) (σ : zS) (h : LI B0 σ) : pq (LI B0) (Md_beginOne_115 F σ) := by
  unfold Md_beginOne_115
  repeat' (first | assumption | (with_reducible apply pq_ite) | (with_reducible apply pp_ite) | (with_reducible apply pq_gd) | (with_reducible apply pp_gd) | (with_reducible apply pq_bv) | (with_reducible apply pp_bv) | (with_reducible apply pq_bi) | (with_reducible apply pp_bi) | (with_reducible apply pq_some) | (with_reducible apply pp_some) | (with_reducible apply LI_si) | (with_reducible apply LI_sa) | (with_reducible apply LI_sb) | (with_reducible apply LI_sl) | decide | (intro _))
/-- a leaf that is not told yet -/
def LJ (B0 : Nat) (s : Int32) (τ : zS) : Prop := ∃ N M : Nat, gi τ 16 = nI (N + 1) ∧ gi τ 31 = nI M ∧ N < 1000 ∧ M ≤ 1400 ∧ (ga τ 2 N = s ∧ gb τ 3 N = gl τ 6 ∧ ga τ 4 N = gi τ 32) ∧ ∀ n, B0 ≤ n → n < N → (ga τ 2 n = 0 ∨ ga τ 2 n = 1) → ∃ i, i < M ∧ ga τ 10 i = 5 + ga τ 2 n ∧ gb τ 11 i = gb τ 3 n ∧ ga τ 13 i = ga τ 4 n
theorem lj_tell (F : Nat) (σ : zS) (s : Int32) (x2 : Int32) (h : LJ B0 s σ) : pq (LI B0) (Md_tell F σ (5 + s) x2) := by
  obtain ⟨N, M, a1, a2, a3, a4, ⟨b1, b2, b3⟩, a5⟩ := h
  intro τ' e
  rw [Md_tell, a2] at e
  obtain ⟨e1, e2⟩ := gd_s e
  have hM := inb_lt (by omega) e1
  rw [nI_clamp (by omega)] at e2
  cases e2
  refine ⟨N + 1, M + 1, by simp [zs, a1], by simp [zs, nI_1], by omega, by omega, fun n n1 n2 hs => ?_⟩
  by_cases en : n = N
  · subst en
    refine ⟨M, by omega, ?_, ?_, ?_⟩
    · simp [zs, up_at]; rw [b1]
    · simp [zs, upL_at]; rw [b2]
    · simp [zs, up_at]; rw [b3]
  · obtain ⟨i, i1, i2, i3, i4⟩ := a5 n n1 (by omega) (by simpa [zs] using hs)
    refine ⟨i, by omega, ?_, ?_, ?_⟩
    · simp [zs, up_at]; rw [if_neg (by omega)]; exact i2
    · simp [zs, upL_at]; rw [if_neg (by omega)]; exact i3
    · simp [zs, up_at]; rw [if_neg (by omega)]; exact i4
theorem li_beginOne_100 (F : Nat) (σ : zS) (x1 : Int32) (x2 : Int32) (x3 : Int32) (s : Int32) (h : LJ B0 s σ) : pq (LI B0) (Md_beginOne_100 F σ x1 x2 x3 (5 + s)) := by
  unfold Md_beginOne_100
  refine pq_bv (lj_tell F σ s x2 h) (fun τ' h1 => ?_)
  repeat' (first | assumption | (with_reducible apply li_next) | (with_reducible apply li_addOne) | (with_reducible apply li_beginOne_115) | (with_reducible apply pq_bv) | (intro _))
theorem li_beginOne_84 (F : Nat) (σ : zS) (x1 : Int32) (x2 : Int32) (s0 : Int32) (s : Int32) (hs : s = if gi σ 4 = 1 then 0 else 1) (h : LJ B0 s σ) : pq (LI B0) (Md_beginOne_84 F σ x1 x2 s0) := by
  unfold Md_beginOne_84
  by_cases e : gi σ 4 = 1
  · rw [if_pos e] at hs ⊢
    subst hs
    exact li_beginOne_100 F σ x1 x2 s0 0 h
  · rw [if_neg e] at hs ⊢
    subst hs
    exact li_beginOne_100 F σ x1 x2 s0 1 h
theorem li_beginOne_46 (F : Nat) (σ : zS) (x1 : Int32) (s1 : Int32) (hs : s1 = if gi σ 4 = 1 then 0 else 1) (h : LI B0 σ) : pq (LI B0) (Md_beginOne_46 F σ x1 s1) := by
  obtain ⟨N, M, a1, a2, a3, a4, a5⟩ := h
  intro τ' e
  rw [Md_beginOne_46] at e
  obtain ⟨r, σ1, e1, e2⟩ := bi_s e
  rw [Md_node, a1] at e1
  obtain ⟨g1, g2⟩ := gd_s e1
  have hN := inb_lt (by omega) g1
  rw [nI_clamp (by omega)] at g2
  have er : nI N + 1 - 1 = nI N := by rw [nI_1, Int32.sub_eq_add_neg, ← nI_1, Int32.add_assoc, show (1 : Int32) + (-1) = 0 from rfl, Int32.add_zero]
  rw [er] at g2
  cases g2
  obtain ⟨_, e3⟩ := gd_s e2
  rw [nI_clamp (by omega)] at e3
  have hj : LJ B0 s1 (sb (si (sa (sa (sa σ 2 N s1) 4 N (gi σ 32)) 5 N (gi σ 67)) 16 (nI N + 1)) 3 N (gl (si (sa (sa (sa σ 2 N s1) 4 N (gi σ 32)) 5 N (gi σ 67)) 16 (nI N + 1)) 6)) := by
    refine ⟨N, M, by simp [zs, nI_1], by simp [zs, a2], hN, a4, ⟨by simp [zs, up_at], by simp [zs, upL_at], by simp [zs, up_at]⟩, fun n n1 n2 hs => ?_⟩
    have en : ¬ n = N := by omega
    obtain ⟨i, i1, i2, i3, i4⟩ := a5 n n1 n2 (by simpa [zs, up_at, en] using hs)
    exact ⟨i, i1, by simpa [zs, up_at, en] using i2, by simpa [zs, upL_at, en] using i3, by simpa [zs, up_at, en] using i4⟩
  have hs' : s1 = if gi (sb (si (sa (sa (sa σ 2 N s1) 4 N (gi σ 32)) 5 N (gi σ 67)) 16 (nI N + 1)) 3 N (gl (si (sa (sa (sa σ 2 N s1) 4 N (gi σ 32)) 5 N (gi σ 67)) 16 (nI N + 1)) 6)) 4 = 1 then 0 else 1 := by simpa [zs] using hs
  have key := pq_ite (c := gi (si (sa (sa (sa σ 2 N s1) 4 N (gi σ 32)) 5 N (gi σ 67)) 16 (nI N + 1)) 4 = 1) (li_beginOne_84 F _ x1 (nI N) (gi (si (sa (sa (sa σ 2 N s1) 4 N (gi σ 32)) 5 N (gi σ 67)) 16 (nI N + 1)) 31) s1 hs' hj) (li_beginOne_84 F _ x1 (nI N) (-1) s1 hs' hj)
  exact key τ' e3
theorem li_beginOne_21 (F : Nat) (σ : zS) (x1 : Int32) (h : LI B0 σ) : pq (LI B0) (Md_beginOne_21 F σ x1) := by
  unfold Md_beginOne_21
  refine pq_bv (li_count F σ h) (fun τ' h1 => ?_)
  show pq (LI B0) (if gi τ' 8 = 0 then (if gi τ' 4 = 1 then Md_beginOne_46 F τ' x1 0 else Md_beginOne_46 F τ' x1 1) else Md_beginOne_115 F τ')
  refine pq_ite ?_ (li_beginOne_115 F τ' h1)
  by_cases e : gi τ' 4 = 1
  · rw [if_pos e]; exact li_beginOne_46 F τ' x1 0 (by rw [if_pos e]) h1
  · rw [if_neg e]; exact li_beginOne_46 F τ' x1 1 (by rw [if_neg e]) h1
theorem li_beginOne_166 (F : Nat) (σ : zS) (h : LI B0 σ) : pq (LI B0) (Md_beginOne_166 F σ) := by
  unfold Md_beginOne_166
  repeat' (first | assumption | (with_reducible apply pq_ite) | (with_reducible apply pp_ite) | (with_reducible apply pq_gd) | (with_reducible apply pp_gd) | (with_reducible apply pq_bv) | (with_reducible apply pp_bv) | (with_reducible apply pq_bi) | (with_reducible apply pp_bi) | (with_reducible apply pq_some) | (with_reducible apply pp_some) | (with_reducible apply LI_si) | (with_reducible apply LI_sa) | (with_reducible apply LI_sb) | (with_reducible apply LI_sl) | decide | (intro _))
theorem li_beginOne_159 (F : Nat) (σ : zS) (s1 : Int32) (h : LI B0 σ) : pq (LI B0) (Md_beginOne_159 F σ s1) := by
  unfold Md_beginOne_159
  repeat' (first | assumption | (with_reducible apply li_open) | (with_reducible apply li_next) | (with_reducible apply li_beginOne_166) | (with_reducible apply pq_ite) | (with_reducible apply pp_ite) | (with_reducible apply pq_gd) | (with_reducible apply pp_gd) | (with_reducible apply pq_bv) | (with_reducible apply pp_bv) | (with_reducible apply pq_bi) | (with_reducible apply pp_bi) | (with_reducible apply pq_some) | (with_reducible apply pp_some) | (with_reducible apply LI_si) | (with_reducible apply LI_sa) | (with_reducible apply LI_sb) | (with_reducible apply LI_sl) | decide | (intro _))
theorem li_beginOne_142 (F : Nat) (σ : zS) (x2 : Int32) (h : LI B0 σ) : pq (LI B0) (Md_beginOne_142 F σ x2) := by
  unfold Md_beginOne_142
  repeat' (first | assumption | (with_reducible apply li_beginOne_159) | (with_reducible apply li_beginOne_166) | (with_reducible apply pq_ite) | (with_reducible apply pp_ite) | (with_reducible apply pq_gd) | (with_reducible apply pp_gd) | (with_reducible apply pq_bv) | (with_reducible apply pp_bv) | (with_reducible apply pq_bi) | (with_reducible apply pp_bi) | (with_reducible apply pq_some) | (with_reducible apply pp_some) | (with_reducible apply LI_si) | (with_reducible apply LI_sa) | (with_reducible apply LI_sb) | (with_reducible apply LI_sl) | decide | (intro _))
theorem li_beginOne (F : Nat) (σ : zS) (h : LI B0 σ) : pq (LI B0) (Md_beginOne F σ) := by
  unfold Md_beginOne
  repeat' (first | assumption | (with_reducible apply li_beginOne_21) | (with_reducible apply li_deeper) | (with_reducible apply li_isSign) | (with_reducible apply li_beginOne_142) | (with_reducible apply li_count) | (with_reducible apply pq_ite) | (with_reducible apply pp_ite) | (with_reducible apply pq_gd) | (with_reducible apply pp_gd) | (with_reducible apply pq_bv) | (with_reducible apply pp_bv) | (with_reducible apply pq_bi) | (with_reducible apply pp_bi) | (with_reducible apply pq_some) | (with_reducible apply pp_some) | (with_reducible apply LI_si) | (with_reducible apply LI_sa) | (with_reducible apply LI_sb) | (with_reducible apply LI_sl) | decide | (intro _))
theorem li_closeOne_109 (F : Nat) (σ : zS) (x3 : Int32) (s1 : Int32) (h : LI B0 σ) : pq (LI B0) (Md_closeOne_109 F σ x3 s1) := by
  unfold Md_closeOne_109
  repeat' (first | assumption | (with_reducible apply li_addOne) | (with_reducible apply pq_ite) | (with_reducible apply pp_ite) | (with_reducible apply pq_gd) | (with_reducible apply pp_gd) | (with_reducible apply pq_bv) | (with_reducible apply pp_bv) | (with_reducible apply pq_bi) | (with_reducible apply pp_bi) | (with_reducible apply pq_some) | (with_reducible apply pp_some) | (with_reducible apply LI_si) | (with_reducible apply LI_sa) | (with_reducible apply LI_sb) | (with_reducible apply LI_sl) | decide | (intro _))
theorem li_closeOne_70 (F : Nat) (σ : zS) (x1 : Int32) (x2 : Int32) (x3 : Int32) (s1 : Int32) (h : LI B0 σ) : pq (LI B0) (Md_closeOne_70 F σ x1 x2 x3 s1) := by
  unfold Md_closeOne_70
  repeat' (first | assumption | (with_reducible apply li_want) | (with_reducible apply li_closeOne_109) | (with_reducible apply li_node) | (with_reducible apply pq_ite) | (with_reducible apply pp_ite) | (with_reducible apply pq_gd) | (with_reducible apply pp_gd) | (with_reducible apply pq_bv) | (with_reducible apply pp_bv) | (with_reducible apply pq_bi) | (with_reducible apply pp_bi) | (with_reducible apply pq_some) | (with_reducible apply pp_some) | (with_reducible apply LI_si) | (with_reducible apply LI_sa) | (with_reducible apply LI_sb) | (with_reducible apply LI_sl) | decide | (intro _))
theorem li_closeOne_58 (F : Nat) (σ : zS) (x1 : Int32) (x2 : Int32) (x3 : Int32) (h : LI B0 σ) : pq (LI B0) (Md_closeOne_58 F σ x1 x2 x3) := by
  unfold Md_closeOne_58
  repeat' (first | assumption | (with_reducible apply li_closeOne_70) | (with_reducible apply pq_ite) | (with_reducible apply pp_ite) | (with_reducible apply pq_gd) | (with_reducible apply pp_gd) | (with_reducible apply pq_bv) | (with_reducible apply pp_bv) | (with_reducible apply pq_bi) | (with_reducible apply pp_bi) | (with_reducible apply pq_some) | (with_reducible apply pp_some) | (with_reducible apply LI_si) | (with_reducible apply LI_sa) | (with_reducible apply LI_sb) | (with_reducible apply LI_sl) | decide | (intro _))
theorem li_closeOne_18 (F : Nat) (σ : zS) (s0 : Int32) (h : LI B0 σ) : pq (LI B0) (Md_closeOne_18 F σ s0) := by
  unfold Md_closeOne_18
  repeat' (first | assumption | (with_reducible apply li_closeOne_58) | (with_reducible apply li_act) | (with_reducible apply pq_ite) | (with_reducible apply pp_ite) | (with_reducible apply pq_gd) | (with_reducible apply pp_gd) | (with_reducible apply pq_bv) | (with_reducible apply pp_bv) | (with_reducible apply pq_bi) | (with_reducible apply pp_bi) | (with_reducible apply pq_some) | (with_reducible apply pp_some) | (with_reducible apply LI_si) | (with_reducible apply LI_sa) | (with_reducible apply LI_sb) | (with_reducible apply LI_sl) | decide | (intro _))
theorem li_closeOne (F : Nat) (σ : zS) (h : LI B0 σ) : pq (LI B0) (Md_closeOne F σ) := by
  unfold Md_closeOne
  repeat' (first | assumption | (with_reducible apply li_closeOne_18) | (with_reducible apply pq_ite) | (with_reducible apply pp_ite) | (with_reducible apply pq_gd) | (with_reducible apply pp_gd) | (with_reducible apply pq_bv) | (with_reducible apply pp_bv) | (with_reducible apply pq_bi) | (with_reducible apply pp_bi) | (with_reducible apply pq_some) | (with_reducible apply pp_some) | (with_reducible apply LI_si) | (with_reducible apply LI_sa) | (with_reducible apply LI_sb) | (with_reducible apply LI_sl) | decide | (intro _))
theorem li_readOpen_185 (F : Nat) (rc10 : zS → Int32 → Option (Int32 × zS)) (σ : zS) (x1 : Int32) (hrc10 : ∀ y0 y1, LI B0 y0 → pp (LI B0) (rc10 y0 y1)) (h : LI B0 σ) : pp (LI B0) (Md_readOpen_185 F rc10 σ x1) := by
  unfold Md_readOpen_185
  repeat' (first | assumption | (with_reducible apply hrc10) | (with_reducible apply li_closeOne) | (with_reducible apply pq_ite) | (with_reducible apply pp_ite) | (with_reducible apply pq_gd) | (with_reducible apply pp_gd) | (with_reducible apply pq_bv) | (with_reducible apply pp_bv) | (with_reducible apply pq_bi) | (with_reducible apply pp_bi) | (with_reducible apply pq_some) | (with_reducible apply pp_some) | (with_reducible apply LI_si) | (with_reducible apply LI_sa) | (with_reducible apply LI_sb) | (with_reducible apply LI_sl) | decide | (intro _))
theorem li_readOpen_55 (F : Nat) (rc10 : zS → Int32 → Option (Int32 × zS)) (σ : zS) (x1 : Int32) (hrc10 : ∀ y0 y1, LI B0 y0 → pp (LI B0) (rc10 y0 y1)) (h : LI B0 σ) : pp (LI B0) (Md_readOpen_55 F rc10 σ x1) := by
  unfold Md_readOpen_55
  repeat' (first | assumption | (with_reducible apply hrc10) | (with_reducible apply li_canBegin) | (with_reducible apply li_isSign) | (with_reducible apply li_endSome) | (with_reducible apply li_readOpen_185) | (with_reducible apply li_act) | (with_reducible apply li_count) | (with_reducible apply li_next) | (with_reducible apply li_cannot) | (with_reducible apply li_beginOne) | (with_reducible apply pq_ite) | (with_reducible apply pp_ite) | (with_reducible apply pq_gd) | (with_reducible apply pp_gd) | (with_reducible apply pq_bv) | (with_reducible apply pp_bv) | (with_reducible apply pq_bi) | (with_reducible apply pp_bi) | (with_reducible apply pq_some) | (with_reducible apply pp_some) | (with_reducible apply LI_si) | (with_reducible apply LI_sa) | (with_reducible apply LI_sb) | (with_reducible apply LI_sl) | decide | (intro _))
theorem li_readOpen_b10 (F : Nat) (rc10 : zS → Int32 → Option (Int32 × zS)) (σ : zS) (x1 : Int32) (hrc10 : ∀ y0 y1, LI B0 y0 → pp (LI B0) (rc10 y0 y1)) (h : LI B0 σ) : pp (LI B0) (Md_readOpen_b10 F rc10 σ x1) := by
  unfold Md_readOpen_b10
  repeat' (first | assumption | (with_reducible apply hrc10) | (with_reducible apply li_readOpen_55) | (with_reducible apply pq_ite) | (with_reducible apply pp_ite) | (with_reducible apply pq_gd) | (with_reducible apply pp_gd) | (with_reducible apply pq_bv) | (with_reducible apply pp_bv) | (with_reducible apply pq_bi) | (with_reducible apply pp_bi) | (with_reducible apply pq_some) | (with_reducible apply pp_some) | (with_reducible apply LI_si) | (with_reducible apply LI_sa) | (with_reducible apply LI_sb) | (with_reducible apply LI_sl) | decide | (intro _))
theorem li_readOpen_10 (F : Nat) : ∀ (n : Nat) (a0 : zS) (a1 : Int32), LI B0 a0 → pp (LI B0) (Md_readOpen_10 F n a0 a1)
  | 0, _, _, _ => pp_none
  | n + 1, a0, a1, h => li_readOpen_b10 F (Md_readOpen_10 F n) a0 a1  (li_readOpen_10 F  n) h
theorem li_readOpen (F : Nat) (σ : zS) (x1 : Int32) (h : LI B0 σ) : pp (LI B0) (Md_readOpen F σ x1) := by
  unfold Md_readOpen
  repeat' (first | assumption | (with_reducible apply li_open) | (with_reducible apply li_readOpen_10) | (with_reducible apply pq_ite) | (with_reducible apply pp_ite) | (with_reducible apply pq_gd) | (with_reducible apply pp_gd) | (with_reducible apply pq_bv) | (with_reducible apply pp_bv) | (with_reducible apply pq_bi) | (with_reducible apply pp_bi) | (with_reducible apply pq_some) | (with_reducible apply pp_some) | (with_reducible apply LI_si) | (with_reducible apply LI_sa) | (with_reducible apply LI_sb) | (with_reducible apply LI_sl) | decide | (intro _))
theorem li_readOne (F : Nat) (σ : zS) (h : LI B0 σ) : pp (LI B0) (Md_readOne F σ) := by
  unfold Md_readOne
  repeat' (first | assumption | (with_reducible apply li_readOpen) | (with_reducible apply pq_ite) | (with_reducible apply pp_ite) | (with_reducible apply pq_gd) | (with_reducible apply pp_gd) | (with_reducible apply pq_bv) | (with_reducible apply pp_bv) | (with_reducible apply pq_bi) | (with_reducible apply pp_bi) | (with_reducible apply pq_some) | (with_reducible apply pp_some) | (with_reducible apply LI_si) | (with_reducible apply LI_sa) | (with_reducible apply LI_sb) | (with_reducible apply LI_sl) | decide | (intro _))
theorem li_readType (F : Nat) (σ : zS) (h : LI B0 σ) : pp (LI B0) (Md_readType F σ) := by
  unfold Md_readType
  repeat' (first | assumption | (with_reducible apply li_readOpen) | (with_reducible apply pq_ite) | (with_reducible apply pp_ite) | (with_reducible apply pq_gd) | (with_reducible apply pp_gd) | (with_reducible apply pq_bv) | (with_reducible apply pp_bv) | (with_reducible apply pq_bi) | (with_reducible apply pp_bi) | (with_reducible apply pq_some) | (with_reducible apply pp_some) | (with_reducible apply LI_si) | (with_reducible apply LI_sa) | (with_reducible apply LI_sb) | (with_reducible apply LI_sl) | decide | (intro _))
theorem li_newKind (F : Nat) (σ : zS) (x1 : Int32) (x2 : Int32) (x3 : Int32) (h : LI B0 σ) : pp (LI B0) (Md_newKind F σ x1 x2 x3) := by
  unfold Md_newKind
  repeat' (first | assumption | (with_reducible apply pq_ite) | (with_reducible apply pp_ite) | (with_reducible apply pq_gd) | (with_reducible apply pp_gd) | (with_reducible apply pq_bv) | (with_reducible apply pp_bv) | (with_reducible apply pq_bi) | (with_reducible apply pp_bi) | (with_reducible apply pq_some) | (with_reducible apply pp_some) | (with_reducible apply LI_si) | (with_reducible apply LI_sa) | (with_reducible apply LI_sb) | (with_reducible apply LI_sl) | decide | (intro _))
theorem li_top_b2 (F : Nat) (rc2 : zS → Int32 → Option (Int32 × zS)) (σ : zS) (x2 : Int32) (hrc2 : ∀ y0 y1, LI B0 y0 → pp (LI B0) (rc2 y0 y1)) (h : LI B0 σ) : pp (LI B0) (Md_top_b2 F rc2 σ x2) := by
  unfold Md_top_b2
  repeat' (first | assumption | (with_reducible apply hrc2) | (with_reducible apply pq_ite) | (with_reducible apply pp_ite) | (with_reducible apply pq_gd) | (with_reducible apply pp_gd) | (with_reducible apply pq_bv) | (with_reducible apply pp_bv) | (with_reducible apply pq_bi) | (with_reducible apply pp_bi) | (with_reducible apply pq_some) | (with_reducible apply pp_some) | (with_reducible apply LI_si) | (with_reducible apply LI_sa) | (with_reducible apply LI_sb) | (with_reducible apply LI_sl) | decide | (intro _))
theorem li_top_2 (F : Nat) : ∀ (n : Nat) (a0 : zS) (a1 : Int32), LI B0 a0 → pp (LI B0) (Md_top_2 F n a0 a1)
  | 0, _, _, _ => pp_none
  | n + 1, a0, a1, h => li_top_b2 F (Md_top_2 F n) a0 a1  (li_top_2 F  n) h
theorem li_top (F : Nat) (σ : zS) (x1 : Int32) (h : LI B0 σ) : pp (LI B0) (Md_top F σ x1) := by
  unfold Md_top
  repeat' (first | assumption | (with_reducible apply li_top_2) | (with_reducible apply pq_ite) | (with_reducible apply pp_ite) | (with_reducible apply pq_gd) | (with_reducible apply pp_gd) | (with_reducible apply pq_bv) | (with_reducible apply pp_bv) | (with_reducible apply pq_bi) | (with_reducible apply pp_bi) | (with_reducible apply pq_some) | (with_reducible apply pp_some) | (with_reducible apply LI_si) | (with_reducible apply LI_sa) | (with_reducible apply LI_sb) | (with_reducible apply LI_sl) | decide | (intro _))
theorem li_addPart_86 (F : Nat) (σ : zS) (x3 : Int32) (h : LI B0 σ) : pq (LI B0) (Md_addPart_86 F σ x3) := by
  unfold Md_addPart_86
  repeat' (first | assumption | (with_reducible apply pq_ite) | (with_reducible apply pp_ite) | (with_reducible apply pq_gd) | (with_reducible apply pp_gd) | (with_reducible apply pq_bv) | (with_reducible apply pp_bv) | (with_reducible apply pq_bi) | (with_reducible apply pp_bi) | (with_reducible apply pq_some) | (with_reducible apply pp_some) | (with_reducible apply LI_si) | (with_reducible apply LI_sa) | (with_reducible apply LI_sb) | (with_reducible apply LI_sl) | decide | (intro _))
theorem li_addPart_57 (F : Nat) (σ : zS) (x1 : Int32) (x2 : Int32) (s1 : Int32) (s2 : Int32) (h : LI B0 σ) : pq (LI B0) (Md_addPart_57 F σ x1 x2 s1 s2) := by
  unfold Md_addPart_57
  repeat' (first | assumption | (with_reducible apply li_newKind) | (with_reducible apply li_addPart_86) | (with_reducible apply pq_ite) | (with_reducible apply pp_ite) | (with_reducible apply pq_gd) | (with_reducible apply pp_gd) | (with_reducible apply pq_bv) | (with_reducible apply pp_bv) | (with_reducible apply pq_bi) | (with_reducible apply pp_bi) | (with_reducible apply pq_some) | (with_reducible apply pp_some) | (with_reducible apply LI_si) | (with_reducible apply LI_sa) | (with_reducible apply LI_sb) | (with_reducible apply LI_sl) | decide | (intro _))
theorem li_addPart (F : Nat) (σ : zS) (x1 : Int32) (h : LI B0 σ) : pq (LI B0) (Md_addPart F σ x1) := by
  unfold Md_addPart
  repeat' (first | assumption | (with_reducible apply li_addPart_57) | (with_reducible apply pq_ite) | (with_reducible apply pp_ite) | (with_reducible apply pq_gd) | (with_reducible apply pp_gd) | (with_reducible apply pq_bv) | (with_reducible apply pp_bv) | (with_reducible apply pq_bi) | (with_reducible apply pp_bi) | (with_reducible apply pq_some) | (with_reducible apply pp_some) | (with_reducible apply LI_si) | (with_reducible apply LI_sa) | (with_reducible apply LI_sb) | (with_reducible apply LI_sl) | decide | (intro _))
theorem li_openKind (F : Nat) (σ : zS) (h : LI B0 σ) : pq (LI B0) (Md_openKind F σ) := by
  unfold Md_openKind
  repeat' (first | assumption | (with_reducible apply pq_ite) | (with_reducible apply pp_ite) | (with_reducible apply pq_gd) | (with_reducible apply pp_gd) | (with_reducible apply pq_bv) | (with_reducible apply pp_bv) | (with_reducible apply pq_bi) | (with_reducible apply pp_bi) | (with_reducible apply pq_some) | (with_reducible apply pp_some) | (with_reducible apply LI_si) | (with_reducible apply LI_sa) | (with_reducible apply LI_sb) | (with_reducible apply LI_sl) | decide | (intro _))
theorem li_readKind_76 (F : Nat) (rc11 : zS → Int32 → Option (Int32 × zS)) (σ : zS) (x1 : Int32) (hrc11 : ∀ y0 y1, LI B0 y0 → pp (LI B0) (rc11 y0 y1)) (h : LI B0 σ) : pp (LI B0) (Md_readKind_76 F rc11 σ x1) := by
  unfold Md_readKind_76
  repeat' (first | assumption | (with_reducible apply hrc11) | (with_reducible apply li_isSign) | (with_reducible apply li_want) | (with_reducible apply li_addPart) | (with_reducible apply li_next) | (with_reducible apply li_cannot) | (with_reducible apply pq_ite) | (with_reducible apply pp_ite) | (with_reducible apply pq_gd) | (with_reducible apply pp_gd) | (with_reducible apply pq_bv) | (with_reducible apply pp_bv) | (with_reducible apply pq_bi) | (with_reducible apply pp_bi) | (with_reducible apply pq_some) | (with_reducible apply pp_some) | (with_reducible apply LI_si) | (with_reducible apply LI_sa) | (with_reducible apply LI_sb) | (with_reducible apply LI_sl) | decide | (intro _))
theorem li_readKind_48 (F : Nat) (rc11 : zS → Int32 → Option (Int32 × zS)) (σ : zS) (x1 : Int32) (hrc11 : ∀ y0 y1, LI B0 y0 → pp (LI B0) (rc11 y0 y1)) (h : LI B0 σ) : pp (LI B0) (Md_readKind_48 F rc11 σ x1) := by
  unfold Md_readKind_48
  repeat' (first | assumption | (with_reducible apply hrc11) | (with_reducible apply li_readKind_76) | (with_reducible apply li_isSign) | (with_reducible apply li_deeper) | (with_reducible apply li_next) | (with_reducible apply li_openKind) | (with_reducible apply pq_ite) | (with_reducible apply pp_ite) | (with_reducible apply pq_gd) | (with_reducible apply pp_gd) | (with_reducible apply pq_bv) | (with_reducible apply pp_bv) | (with_reducible apply pq_bi) | (with_reducible apply pp_bi) | (with_reducible apply pq_some) | (with_reducible apply pp_some) | (with_reducible apply LI_si) | (with_reducible apply LI_sa) | (with_reducible apply LI_sb) | (with_reducible apply LI_sl) | decide | (intro _))
theorem li_readKind_b11 (F : Nat) (rc11 : zS → Int32 → Option (Int32 × zS)) (σ : zS) (x1 : Int32) (hrc11 : ∀ y0 y1, LI B0 y0 → pp (LI B0) (rc11 y0 y1)) (h : LI B0 σ) : pp (LI B0) (Md_readKind_b11 F rc11 σ x1) := by
  unfold Md_readKind_b11
  repeat' (first | assumption | (with_reducible apply hrc11) | (with_reducible apply li_readKind_48) | (with_reducible apply li_isSign) | (with_reducible apply li_addPart) | (with_reducible apply li_next) | (with_reducible apply pq_ite) | (with_reducible apply pp_ite) | (with_reducible apply pq_gd) | (with_reducible apply pp_gd) | (with_reducible apply pq_bv) | (with_reducible apply pp_bv) | (with_reducible apply pq_bi) | (with_reducible apply pp_bi) | (with_reducible apply pq_some) | (with_reducible apply pp_some) | (with_reducible apply LI_si) | (with_reducible apply LI_sa) | (with_reducible apply LI_sb) | (with_reducible apply LI_sl) | decide | (intro _))
theorem li_readKind_11 (F : Nat) : ∀ (n : Nat) (a0 : zS) (a1 : Int32), LI B0 a0 → pp (LI B0) (Md_readKind_11 F n a0 a1)
  | 0, _, _, _ => pp_none
  | n + 1, a0, a1, h => li_readKind_b11 F (Md_readKind_11 F n) a0 a1  (li_readKind_11 F  n) h
theorem li_readKind (F : Nat) (σ : zS) (h : LI B0 σ) : pp (LI B0) (Md_readKind F σ) := by
  unfold Md_readKind
  repeat' (first | assumption | (with_reducible apply li_openKind) | (with_reducible apply li_readKind_11) | (with_reducible apply pq_ite) | (with_reducible apply pp_ite) | (with_reducible apply pq_gd) | (with_reducible apply pp_gd) | (with_reducible apply pq_bv) | (with_reducible apply pp_bv) | (with_reducible apply pq_bi) | (with_reducible apply pp_bi) | (with_reducible apply pq_some) | (with_reducible apply pp_some) | (with_reducible apply LI_si) | (with_reducible apply LI_sa) | (with_reducible apply LI_sb) | (with_reducible apply LI_sl) | decide | (intro _))
theorem li_begin (F : Nat) (σ : zS) (h : LI B0 σ) : pq (LI B0) (Md_begin F σ) := by
  unfold Md_begin
  repeat' (first | assumption | (with_reducible apply li_next) | (with_reducible apply pq_ite) | (with_reducible apply pp_ite) | (with_reducible apply pq_gd) | (with_reducible apply pp_gd) | (with_reducible apply pq_bv) | (with_reducible apply pp_bv) | (with_reducible apply pq_bi) | (with_reducible apply pp_bi) | (with_reducible apply pq_some) | (with_reducible apply pp_some) | (with_reducible apply LI_si) | (with_reducible apply LI_sa) | (with_reducible apply LI_sb) | (with_reducible apply LI_sl) | decide | (intro _))
theorem li_wantName_15 (F : Nat) (σ : zS) (h : LI B0 σ) : pp (LI B0) (Md_wantName_15 F σ) := by
  unfold Md_wantName_15
  repeat' (first | assumption | (with_reducible apply li_cannot) | (with_reducible apply pq_ite) | (with_reducible apply pp_ite) | (with_reducible apply pq_gd) | (with_reducible apply pp_gd) | (with_reducible apply pq_bv) | (with_reducible apply pp_bv) | (with_reducible apply pq_bi) | (with_reducible apply pp_bi) | (with_reducible apply pq_some) | (with_reducible apply pp_some) | (with_reducible apply LI_si) | (with_reducible apply LI_sa) | (with_reducible apply LI_sb) | (with_reducible apply LI_sl) | decide | (intro _))
theorem li_wantName (F : Nat) (σ : zS) (x1 : Int32) (h : LI B0 σ) : pp (LI B0) (Md_wantName F σ x1) := by
  unfold Md_wantName
  repeat' (first | assumption | (with_reducible apply li_wantName_15) | (with_reducible apply pq_ite) | (with_reducible apply pp_ite) | (with_reducible apply pq_gd) | (with_reducible apply pp_gd) | (with_reducible apply pq_bv) | (with_reducible apply pp_bv) | (with_reducible apply pq_bi) | (with_reducible apply pp_bi) | (with_reducible apply pq_some) | (with_reducible apply pp_some) | (with_reducible apply LI_si) | (with_reducible apply LI_sa) | (with_reducible apply LI_sb) | (with_reducible apply LI_sl) | decide | (intro _))
theorem li_readParam (F : Nat) (σ : zS) (h : LI B0 σ) : pq (LI B0) (Md_readParam F σ) := by
  unfold Md_readParam
  repeat' (first | assumption | (with_reducible apply li_wrong) | (with_reducible apply li_tell) | (with_reducible apply li_next) | (with_reducible apply pq_ite) | (with_reducible apply pp_ite) | (with_reducible apply pq_gd) | (with_reducible apply pp_gd) | (with_reducible apply pq_bv) | (with_reducible apply pp_bv) | (with_reducible apply pq_bi) | (with_reducible apply pp_bi) | (with_reducible apply pq_some) | (with_reducible apply pp_some) | (with_reducible apply LI_si) | (with_reducible apply LI_sa) | (with_reducible apply LI_sb) | (with_reducible apply LI_sl) | decide | (intro _))
theorem li_readClass_142 (F : Nat) (σ : zS) (h : LI B0 σ) : pq (LI B0) (Md_readClass_142 F σ) := by
  unfold Md_readClass_142
  repeat' (first | assumption | (with_reducible apply li_want) | (with_reducible apply pq_ite) | (with_reducible apply pp_ite) | (with_reducible apply pq_gd) | (with_reducible apply pp_gd) | (with_reducible apply pq_bv) | (with_reducible apply pp_bv) | (with_reducible apply pq_bi) | (with_reducible apply pp_bi) | (with_reducible apply pq_some) | (with_reducible apply pp_some) | (with_reducible apply LI_si) | (with_reducible apply LI_sa) | (with_reducible apply LI_sb) | (with_reducible apply LI_sl) | decide | (intro _))
theorem li_readClass_b19 (F : Nat) (rc19 : zS → Option zS) (σ : zS) (hrc19 : ∀ y0, LI B0 y0 → pq (LI B0) (rc19 y0)) (h : LI B0 σ) : pq (LI B0) (Md_readClass_b19 F rc19 σ) := by
  unfold Md_readClass_b19
  repeat' (first | assumption | (with_reducible apply hrc19) | (with_reducible apply li_wrong) | (with_reducible apply li_tell) | (with_reducible apply li_next) | (with_reducible apply li_want) | (with_reducible apply li_readType) | (with_reducible apply li_act) | (with_reducible apply li_readClass_142) | (with_reducible apply pq_ite) | (with_reducible apply pp_ite) | (with_reducible apply pq_gd) | (with_reducible apply pp_gd) | (with_reducible apply pq_bv) | (with_reducible apply pp_bv) | (with_reducible apply pq_bi) | (with_reducible apply pp_bi) | (with_reducible apply pq_some) | (with_reducible apply pp_some) | (with_reducible apply LI_si) | (with_reducible apply LI_sa) | (with_reducible apply LI_sb) | (with_reducible apply LI_sl) | decide | (intro _))
theorem li_readClass_19 (F : Nat) : ∀ (n : Nat) (a0 : zS), LI B0 a0 → pq (LI B0) (Md_readClass_19 F n a0)
  | 0, _, _ => pq_none
  | n + 1, a0, h => li_readClass_b19 F (Md_readClass_19 F n) a0  (li_readClass_19 F  n) h
theorem li_readClass (F : Nat) (σ : zS) (h : LI B0 σ) : pq (LI B0) (Md_readClass F σ) := by
  unfold Md_readClass
  repeat' (first | assumption | (with_reducible apply li_wantName) | (with_reducible apply li_readParam) | (with_reducible apply li_want) | (with_reducible apply li_readClass_19) | (with_reducible apply pq_ite) | (with_reducible apply pp_ite) | (with_reducible apply pq_gd) | (with_reducible apply pp_gd) | (with_reducible apply pq_bv) | (with_reducible apply pp_bv) | (with_reducible apply pq_bi) | (with_reducible apply pp_bi) | (with_reducible apply pq_some) | (with_reducible apply pp_some) | (with_reducible apply LI_si) | (with_reducible apply LI_sa) | (with_reducible apply LI_sb) | (with_reducible apply LI_sl) | decide | (intro _))
theorem li_readCon_b56 (F : Nat) (rc56 : zS → Option zS) (σ : zS) (hrc56 : ∀ y0, LI B0 y0 → pq (LI B0) (rc56 y0)) (h : LI B0 σ) : pq (LI B0) (Md_readCon_b56 F rc56 σ) := by
  unfold Md_readCon_b56
  repeat' (first | assumption | (with_reducible apply hrc56) | (with_reducible apply li_canBegin) | (with_reducible apply li_readOne) | (with_reducible apply li_act) | (with_reducible apply pq_ite) | (with_reducible apply pp_ite) | (with_reducible apply pq_gd) | (with_reducible apply pp_gd) | (with_reducible apply pq_bv) | (with_reducible apply pp_bv) | (with_reducible apply pq_bi) | (with_reducible apply pp_bi) | (with_reducible apply pq_some) | (with_reducible apply pp_some) | (with_reducible apply LI_si) | (with_reducible apply LI_sa) | (with_reducible apply LI_sb) | (with_reducible apply LI_sl) | decide | (intro _))
theorem li_readCon_56 (F : Nat) : ∀ (n : Nat) (a0 : zS), LI B0 a0 → pq (LI B0) (Md_readCon_56 F n a0)
  | 0, _, _ => pq_none
  | n + 1, a0, h => li_readCon_b56 F (Md_readCon_56 F n) a0  (li_readCon_56 F  n) h
theorem li_readCon (F : Nat) (σ : zS) (h : LI B0 σ) : pq (LI B0) (Md_readCon F σ) := by
  unfold Md_readCon
  repeat' (first | assumption | (with_reducible apply li_wantName) | (with_reducible apply li_wrong) | (with_reducible apply li_tell) | (with_reducible apply li_next) | (with_reducible apply li_readCon_56) | (with_reducible apply pq_ite) | (with_reducible apply pp_ite) | (with_reducible apply pq_gd) | (with_reducible apply pp_gd) | (with_reducible apply pq_bv) | (with_reducible apply pp_bv) | (with_reducible apply pq_bi) | (with_reducible apply pp_bi) | (with_reducible apply pq_some) | (with_reducible apply pp_some) | (with_reducible apply LI_si) | (with_reducible apply LI_sa) | (with_reducible apply LI_sb) | (with_reducible apply LI_sl) | decide | (intro _))
theorem li_readSides_b71 (F : Nat) (rc71 : zS → Option zS) (σ : zS) (hrc71 : ∀ y0, LI B0 y0 → pq (LI B0) (rc71 y0)) (h : LI B0 σ) : pq (LI B0) (Md_readSides_b71 F rc71 σ) := by
  unfold Md_readSides_b71
  repeat' (first | assumption | (with_reducible apply hrc71) | (with_reducible apply li_isSign) | (with_reducible apply li_next) | (with_reducible apply li_readCon) | (with_reducible apply pq_ite) | (with_reducible apply pp_ite) | (with_reducible apply pq_gd) | (with_reducible apply pp_gd) | (with_reducible apply pq_bv) | (with_reducible apply pp_bv) | (with_reducible apply pq_bi) | (with_reducible apply pp_bi) | (with_reducible apply pq_some) | (with_reducible apply pp_some) | (with_reducible apply LI_si) | (with_reducible apply LI_sa) | (with_reducible apply LI_sb) | (with_reducible apply LI_sl) | decide | (intro _))
theorem li_readSides_71 (F : Nat) : ∀ (n : Nat) (a0 : zS), LI B0 a0 → pq (LI B0) (Md_readSides_71 F n a0)
  | 0, _, _ => pq_none
  | n + 1, a0, h => li_readSides_b71 F (Md_readSides_71 F n) a0  (li_readSides_71 F  n) h
theorem li_readSides_22 (F : Nat) (σ : zS) (x1 : Int32) (h : LI B0 σ) : pq (LI B0) (Md_readSides_22 F σ x1) := by
  unfold Md_readSides_22
  repeat' (first | assumption | (with_reducible apply li_want) | (with_reducible apply li_readType) | (with_reducible apply li_act) | (with_reducible apply li_readCon) | (with_reducible apply li_readSides_71) | (with_reducible apply pq_ite) | (with_reducible apply pp_ite) | (with_reducible apply pq_gd) | (with_reducible apply pp_gd) | (with_reducible apply pq_bv) | (with_reducible apply pp_bv) | (with_reducible apply pq_bi) | (with_reducible apply pp_bi) | (with_reducible apply pq_some) | (with_reducible apply pp_some) | (with_reducible apply LI_si) | (with_reducible apply LI_sa) | (with_reducible apply LI_sb) | (with_reducible apply LI_sl) | decide | (intro _))
theorem li_readSides_b0 (F : Nat) (rc0 : zS → Int32 → Option zS) (σ : zS) (x1 : Int32) (hrc0 : ∀ y0 y1, LI B0 y0 → pq (LI B0) (rc0 y0 y1)) (h : LI B0 σ) : pq (LI B0) (Md_readSides_b0 F rc0 σ x1) := by
  unfold Md_readSides_b0
  repeat' (first | assumption | (with_reducible apply hrc0) | (with_reducible apply li_readParam) | (with_reducible apply li_readSides_22) | (with_reducible apply pq_ite) | (with_reducible apply pp_ite) | (with_reducible apply pq_gd) | (with_reducible apply pp_gd) | (with_reducible apply pq_bv) | (with_reducible apply pp_bv) | (with_reducible apply pq_bi) | (with_reducible apply pp_bi) | (with_reducible apply pq_some) | (with_reducible apply pp_some) | (with_reducible apply LI_si) | (with_reducible apply LI_sa) | (with_reducible apply LI_sb) | (with_reducible apply LI_sl) | decide | (intro _))
theorem li_readSides_0 (F : Nat) : ∀ (n : Nat) (a0 : zS) (a1 : Int32), LI B0 a0 → pq (LI B0) (Md_readSides_0 F n a0 a1)
  | 0, _, _, _ => pq_none
  | n + 1, a0, a1, h => li_readSides_b0 F (Md_readSides_0 F n) a0 a1  (li_readSides_0 F  n) h
theorem li_readSides (F : Nat) (σ : zS) (x1 : Int32) (h : LI B0 σ) : pq (LI B0) (Md_readSides F σ x1) := by
  unfold Md_readSides
  repeat' (first | assumption | (with_reducible apply li_readSides_0) | (with_reducible apply pq_ite) | (with_reducible apply pp_ite) | (with_reducible apply pq_gd) | (with_reducible apply pp_gd) | (with_reducible apply pq_bv) | (with_reducible apply pp_bv) | (with_reducible apply pq_bi) | (with_reducible apply pp_bi) | (with_reducible apply pq_some) | (with_reducible apply pp_some) | (with_reducible apply LI_si) | (with_reducible apply LI_sa) | (with_reducible apply LI_sb) | (with_reducible apply LI_sl) | decide | (intro _))
theorem li_readWish_68 (F : Nat) (σ : zS) (h : LI B0 σ) : pq (LI B0) (Md_readWish_68 F σ) := by
  unfold Md_readWish_68
  repeat' (first | assumption | (with_reducible apply pq_ite) | (with_reducible apply pp_ite) | (with_reducible apply pq_gd) | (with_reducible apply pp_gd) | (with_reducible apply pq_bv) | (with_reducible apply pp_bv) | (with_reducible apply pq_bi) | (with_reducible apply pp_bi) | (with_reducible apply pq_some) | (with_reducible apply pp_some) | (with_reducible apply LI_si) | (with_reducible apply LI_sa) | (with_reducible apply LI_sb) | (with_reducible apply LI_sl) | decide | (intro _))
theorem li_readWish (F : Nat) (σ : zS) (h : LI B0 σ) : pq (LI B0) (Md_readWish F σ) := by
  unfold Md_readWish
  repeat' (first | assumption | (with_reducible apply li_tell) | (with_reducible apply li_next) | (with_reducible apply li_want) | (with_reducible apply li_readKind) | (with_reducible apply li_readWish_68) | (with_reducible apply pq_ite) | (with_reducible apply pp_ite) | (with_reducible apply pq_gd) | (with_reducible apply pp_gd) | (with_reducible apply pq_bv) | (with_reducible apply pp_bv) | (with_reducible apply pq_bi) | (with_reducible apply pp_bi) | (with_reducible apply pq_some) | (with_reducible apply pp_some) | (with_reducible apply LI_si) | (with_reducible apply LI_sa) | (with_reducible apply LI_sb) | (with_reducible apply LI_sl) | decide | (intro _))
theorem li_readDecl_216 (F : Nat) (σ : zS) (h : LI B0 σ) : pq (LI B0) (Md_readDecl_216 F σ) := by
  unfold Md_readDecl_216
  repeat' (first | assumption | (with_reducible apply pq_ite) | (with_reducible apply pp_ite) | (with_reducible apply pq_gd) | (with_reducible apply pp_gd) | (with_reducible apply pq_bv) | (with_reducible apply pp_bv) | (with_reducible apply pq_bi) | (with_reducible apply pp_bi) | (with_reducible apply pq_some) | (with_reducible apply pp_some) | (with_reducible apply LI_si) | (with_reducible apply LI_sa) | (with_reducible apply LI_sb) | (with_reducible apply LI_sl) | decide | (intro _))
theorem li_readDecl_46 (F : Nat) (σ : zS) (s0 : Int32) (h : LI B0 σ) : pq (LI B0) (Md_readDecl_46 F σ s0) := by
  unfold Md_readDecl_46
  repeat' (first | assumption | (with_reducible apply li_next) | (with_reducible apply li_wantName) | (with_reducible apply li_readWish) | (with_reducible apply li_wrong) | (with_reducible apply li_tell) | (with_reducible apply li_readClass) | (with_reducible apply li_readDecl_216) | (with_reducible apply li_readSides) | (with_reducible apply li_cannot) | (with_reducible apply pq_ite) | (with_reducible apply pp_ite) | (with_reducible apply pq_gd) | (with_reducible apply pp_gd) | (with_reducible apply pq_bv) | (with_reducible apply pp_bv) | (with_reducible apply pq_bi) | (with_reducible apply pp_bi) | (with_reducible apply pq_some) | (with_reducible apply pp_some) | (with_reducible apply LI_si) | (with_reducible apply LI_sa) | (with_reducible apply LI_sb) | (with_reducible apply LI_sl) | decide | (intro _))
theorem li_readDecl (F : Nat) (σ : zS) (h : LI B0 σ) : pq (LI B0) (Md_readDecl F σ) := by
  unfold Md_readDecl
  repeat' (first | assumption | (with_reducible apply li_readDecl_46) | (with_reducible apply pq_ite) | (with_reducible apply pp_ite) | (with_reducible apply pq_gd) | (with_reducible apply pp_gd) | (with_reducible apply pq_bv) | (with_reducible apply pp_bv) | (with_reducible apply pq_bi) | (with_reducible apply pp_bi) | (with_reducible apply pq_some) | (with_reducible apply pp_some) | (with_reducible apply LI_si) | (with_reducible apply LI_sa) | (with_reducible apply LI_sb) | (with_reducible apply LI_sl) | decide | (intro _))
theorem li_readText_78 (F : Nat) (σ : zS) (h : LI B0 σ) : pq (LI B0) (Md_readText_78 F σ) := by
  unfold Md_readText_78
  repeat' (first | assumption | (with_reducible apply pq_ite) | (with_reducible apply pp_ite) | (with_reducible apply pq_gd) | (with_reducible apply pp_gd) | (with_reducible apply pq_bv) | (with_reducible apply pp_bv) | (with_reducible apply pq_bi) | (with_reducible apply pp_bi) | (with_reducible apply pq_some) | (with_reducible apply pp_some) | (with_reducible apply LI_si) | (with_reducible apply LI_sa) | (with_reducible apply LI_sb) | (with_reducible apply LI_sl) | decide | (intro _))
theorem li_readText_b50 (F : Nat) (rc50 : zS → Option zS) (σ : zS) (hrc50 : ∀ y0, LI B0 y0 → pq (LI B0) (rc50 y0)) (h : LI B0 σ) : pq (LI B0) (Md_readText_b50 F rc50 σ) := by
  unfold Md_readText_b50
  repeat' (first | assumption | (with_reducible apply hrc50) | (with_reducible apply li_readText_78) | (with_reducible apply li_readDecl) | (with_reducible apply li_want) | (with_reducible apply pq_ite) | (with_reducible apply pp_ite) | (with_reducible apply pq_gd) | (with_reducible apply pp_gd) | (with_reducible apply pq_bv) | (with_reducible apply pp_bv) | (with_reducible apply pq_bi) | (with_reducible apply pp_bi) | (with_reducible apply pq_some) | (with_reducible apply pp_some) | (with_reducible apply LI_si) | (with_reducible apply LI_sa) | (with_reducible apply LI_sb) | (with_reducible apply LI_sl) | decide | (intro _))
theorem li_readText_50 (F : Nat) : ∀ (n : Nat) (a0 : zS), LI B0 a0 → pq (LI B0) (Md_readText_50 F n a0)
  | 0, _, _ => pq_none
  | n + 1, a0, h => li_readText_b50 F (Md_readText_50 F n) a0  (li_readText_50 F  n) h
theorem li_readText (F : Nat) (σ : zS) : pq (LI 0) (Md_readText F σ) := by
  unfold Md_readText
  have h0 : LI 0 (si (si (si (si (si (si (si σ 52 (0 : Int32)) 62 (0 : Int32)) 66 (0 : Int32)) 31 (0 : Int32)) 23 (0 : Int32)) 16 (0 : Int32)) 48 (0 : Int32)) := ⟨0, 0, by simp [zs]; rfl, by simp [zs]; rfl, by omega, by omega, fun n n1 n2 => by omega⟩
  refine pq_bi (li_newKind F _ _ _ _ h0) (fun r τ' h1 => ?_)
  refine pq_bv (li_begin F _ (LI_si h1 (by decide))) (fun τ'' h2 => ?_)
  exact li_readText_50 F F τ'' h2
end L
