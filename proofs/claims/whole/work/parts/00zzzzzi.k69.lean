/-! While the reference solves what is asked, the kinds that are there keep their parts. Written by program, but for the rows by hand. Own text. -/
def KM (nn0 : Nat) (zz0 : zS) (τ : zS) : Prop := ∃ S : Nat, gi τ 48 = nI S ∧ nn0 ≤ S ∧ S ≤ 4000 ∧ ∀ k, k < nn0 → ga τ 26 k = ga zz0 26 k ∧ ga τ 27 k = ga zz0 27 k ∧ ga τ 28 k = ga zz0 28 k
section L
variable {σ : zS} {nn0 : Nat} {zz0 : zS}
theorem KM_cg {σ' : zS} (h : KM nn0 zz0 σ) (h1 : gi σ' 48 = gi σ 48) (h3 : ga σ' 26 = ga σ 26) (h4 : ga σ' 27 = ga σ 27) (h5 : ga σ' 28 = ga σ 28) : KM nn0 zz0 σ' := by
  obtain ⟨S, a1, a2, a3, a4⟩ := h
  refine ⟨S, h1.trans a1, a2, a3, fun k => ?_⟩
  rw [h3, h4, h5]
  exact a4 k
theorem KM_si {r : Nat} {v : Int32} (h : KM nn0 zz0 σ) (hr : r ≠ 48) : KM nn0 zz0 (si σ r v) :=
  KM_cg h (by simp only [zs, if_neg (fun z : 48 = r => hr z.symm)]) (by simp only [zs]) (by simp only [zs]) (by simp only [zs])
theorem KM_sA {a : Nat} {f : Nat → Int32} (h : KM nn0 zz0 σ) (hr : a ≠ 26 ∧ a ≠ 27 ∧ a ≠ 28) : KM nn0 zz0 (sA σ a f) :=
  KM_cg h (by simp only [zs]) (by simp only [zs, if_neg (fun z : 26 = a => hr.1 z.symm)]) (by simp only [zs, if_neg (fun z : 27 = a => hr.2.1 z.symm)]) (by simp only [zs, if_neg (fun z : 28 = a => hr.2.2 z.symm)])
theorem KM_sa {a i : Nat} {v : Int32} (h : KM nn0 zz0 σ) (hr : a ≠ 26 ∧ a ≠ 27 ∧ a ≠ 28) : KM nn0 zz0 (sa σ a i v) := KM_sA h hr
theorem KM_sb {a i : Nat} {v : Int64} (h : KM nn0 zz0 σ) : KM nn0 zz0 (sb σ a i v) := KM_cg h rfl rfl rfl rfl
theorem KM_sl {r : Nat} {v : Int64} (h : KM nn0 zz0 σ) : KM nn0 zz0 (sl σ r v) := KM_cg h rfl rfl rfl rfl
theorem km_Md_wrong_17 (F : Nat) (σ : zS) (h : KM nn0 zz0 σ) : pq (KM nn0 zz0) (Md_wrong_17 F σ) := by
  unfold Md_wrong_17
  repeat' (first | assumption | (with_reducible apply pq_ite) | (with_reducible apply pp_ite) | (with_reducible apply pq_gd) | (with_reducible apply pp_gd) | (with_reducible apply pq_bv) | (with_reducible apply pp_bv) | (with_reducible apply pq_bi) | (with_reducible apply pp_bi) | (with_reducible apply pq_some) | (with_reducible apply pp_some) | (with_reducible apply KM_si) | (with_reducible apply KM_sa) | (with_reducible apply KM_sb) | (with_reducible apply KM_sl) | decide | (intro _))
theorem km_Md_wrong (F : Nat) (σ : zS) (x1 : Int32) (x2 : Int32) (h : KM nn0 zz0 σ) : pq (KM nn0 zz0) (Md_wrong F σ x1 x2) := by
  unfold Md_wrong
  repeat' (first | assumption | (with_reducible apply km_Md_wrong_17) | (with_reducible apply pq_ite) | (with_reducible apply pp_ite) | (with_reducible apply pq_gd) | (with_reducible apply pp_gd) | (with_reducible apply pq_bv) | (with_reducible apply pp_bv) | (with_reducible apply pq_bi) | (with_reducible apply pp_bi) | (with_reducible apply pq_some) | (with_reducible apply pp_some) | (with_reducible apply KM_si) | (with_reducible apply KM_sa) | (with_reducible apply KM_sb) | (with_reducible apply KM_sl) | decide | (intro _))
theorem km_Md_newKind (F : Nat) (σ : zS) (x1 x2 x3 : Int32) (h : KM nn0 zz0 σ) : pp (KM nn0 zz0) (Md_newKind F σ x1 x2 x3) := by
  obtain ⟨S, a1, a2, a3, a4⟩ := h
  intro r σ' e
  rw [Md_newKind, a1] at e
  obtain ⟨e1, e2⟩ := gd_s e
  have hS := inb_lt (by omega) e1
  rw [nI_clamp (by omega), nI_1] at e2
  cases e2
  refine ⟨S + 1, by simp [zs], by omega, by omega, fun k hk => ?_⟩
  obtain ⟨b1, b2, b3⟩ := a4 k hk
  exact ⟨by simp [zs, up_at, show ¬ k = S by omega]; exact b1, by simp [zs, up_at, show ¬ k = S by omega]; exact b2, by simp [zs, up_at, show ¬ k = S by omega]; exact b3⟩
theorem km_Md_top_b2 (F : Nat) (rc2 : zS → Int32 → Option (Int32 × zS)) (σ : zS) (x2 : Int32) (hrc2 : ∀ y0 y1, KM nn0 zz0 y0 → pp (KM nn0 zz0) (rc2 y0 y1)) (h : KM nn0 zz0 σ) : pp (KM nn0 zz0) (Md_top_b2 F rc2 σ x2) := by
  unfold Md_top_b2
  repeat' (first | assumption | (with_reducible apply hrc2) | (with_reducible apply pq_ite) | (with_reducible apply pp_ite) | (with_reducible apply pq_gd) | (with_reducible apply pp_gd) | (with_reducible apply pq_bv) | (with_reducible apply pp_bv) | (with_reducible apply pq_bi) | (with_reducible apply pp_bi) | (with_reducible apply pq_some) | (with_reducible apply pp_some) | (with_reducible apply KM_si) | (with_reducible apply KM_sa) | (with_reducible apply KM_sb) | (with_reducible apply KM_sl) | decide | (intro _))
theorem km_Md_top_2 (F : Nat) : ∀ (n : Nat) (a0 : zS) (a1 : Int32), KM nn0 zz0 a0 → pp (KM nn0 zz0) (Md_top_2 F n a0 a1)
  | 0, _, _, _ => pp_none
  | n + 1, a0, a1, h => km_Md_top_b2 F (Md_top_2 F n) a0 a1  (km_Md_top_2 F  n) h
theorem km_Md_top (F : Nat) (σ : zS) (x1 : Int32) (h : KM nn0 zz0 σ) : pp (KM nn0 zz0) (Md_top F σ x1) := by
  unfold Md_top
  repeat' (first | assumption | (with_reducible apply km_Md_top_2) | (with_reducible apply pq_ite) | (with_reducible apply pp_ite) | (with_reducible apply pq_gd) | (with_reducible apply pp_gd) | (with_reducible apply pq_bv) | (with_reducible apply pp_bv) | (with_reducible apply pq_bi) | (with_reducible apply pp_bi) | (with_reducible apply pq_some) | (with_reducible apply pp_some) | (with_reducible apply KM_si) | (with_reducible apply KM_sa) | (with_reducible apply KM_sb) | (with_reducible apply KM_sl) | decide | (intro _))
theorem km_Md_typeOf_33 (F : Nat) (rc2 : zS → Int64 → Int32 → Option (Int32 × zS)) (σ : zS) (x1 : Int64) (x3 : Int32) (hrc2 : ∀ y0 y1 y2, KM nn0 zz0 y0 → pp (KM nn0 zz0) (rc2 y0 y1 y2)) (h : KM nn0 zz0 σ) : pp (KM nn0 zz0) (Md_typeOf_33 F rc2 σ x1 x3) := by
  unfold Md_typeOf_33
  repeat' (first | assumption | (with_reducible apply hrc2) | (with_reducible apply pq_ite) | (with_reducible apply pp_ite) | (with_reducible apply pq_gd) | (with_reducible apply pp_gd) | (with_reducible apply pq_bv) | (with_reducible apply pp_bv) | (with_reducible apply pq_bi) | (with_reducible apply pp_bi) | (with_reducible apply pq_some) | (with_reducible apply pp_some) | (with_reducible apply KM_si) | (with_reducible apply KM_sa) | (with_reducible apply KM_sb) | (with_reducible apply KM_sl) | decide | (intro _))
theorem km_Md_typeOf_b2 (F : Nat) (rc2 : zS → Int64 → Int32 → Option (Int32 × zS)) (σ : zS) (x1 : Int64) (x3 : Int32) (hrc2 : ∀ y0 y1 y2, KM nn0 zz0 y0 → pp (KM nn0 zz0) (rc2 y0 y1 y2)) (h : KM nn0 zz0 σ) : pp (KM nn0 zz0) (Md_typeOf_b2 F rc2 σ x1 x3) := by
  unfold Md_typeOf_b2
  repeat' (first | assumption | (with_reducible apply hrc2) | (with_reducible apply km_Md_typeOf_33) | (with_reducible apply pq_ite) | (with_reducible apply pp_ite) | (with_reducible apply pq_gd) | (with_reducible apply pp_gd) | (with_reducible apply pq_bv) | (with_reducible apply pp_bv) | (with_reducible apply pq_bi) | (with_reducible apply pp_bi) | (with_reducible apply pq_some) | (with_reducible apply pp_some) | (with_reducible apply KM_si) | (with_reducible apply KM_sa) | (with_reducible apply KM_sb) | (with_reducible apply KM_sl) | decide | (intro _))
theorem km_Md_typeOf_2 (F : Nat) : ∀ (n : Nat) (a0 : zS) (a1 : Int64) (a2 : Int32), KM nn0 zz0 a0 → pp (KM nn0 zz0) (Md_typeOf_2 F n a0 a1 a2)
  | 0, _, _, _, _ => pp_none
  | n + 1, a0, a1, a2, h => km_Md_typeOf_b2 F (Md_typeOf_2 F n) a0 a1 a2  (km_Md_typeOf_2 F  n) h
theorem km_Md_typeOf (F : Nat) (σ : zS) (x1 : Int64) (h : KM nn0 zz0 σ) : pp (KM nn0 zz0) (Md_typeOf F σ x1) := by
  unfold Md_typeOf
  repeat' (first | assumption | (with_reducible apply km_Md_typeOf_2) | (with_reducible apply pq_ite) | (with_reducible apply pp_ite) | (with_reducible apply pq_gd) | (with_reducible apply pp_gd) | (with_reducible apply pq_bv) | (with_reducible apply pp_bv) | (with_reducible apply pq_bi) | (with_reducible apply pp_bi) | (with_reducible apply pq_some) | (with_reducible apply pp_some) | (with_reducible apply KM_si) | (with_reducible apply KM_sa) | (with_reducible apply KM_sb) | (with_reducible apply KM_sl) | decide | (intro _))
theorem km_Md_unmark_b2 (F : Nat) (rc2 : zS → Int32 → Option zS) (σ : zS) (x1 : Int32) (hrc2 : ∀ y0 y1, KM nn0 zz0 y0 → pq (KM nn0 zz0) (rc2 y0 y1)) (h : KM nn0 zz0 σ) : pq (KM nn0 zz0) (Md_unmark_b2 F rc2 σ x1) := by
  unfold Md_unmark_b2
  repeat' (first | assumption | (with_reducible apply hrc2) | (with_reducible apply pq_ite) | (with_reducible apply pp_ite) | (with_reducible apply pq_gd) | (with_reducible apply pp_gd) | (with_reducible apply pq_bv) | (with_reducible apply pp_bv) | (with_reducible apply pq_bi) | (with_reducible apply pp_bi) | (with_reducible apply pq_some) | (with_reducible apply pp_some) | (with_reducible apply KM_si) | (with_reducible apply KM_sa) | (with_reducible apply KM_sb) | (with_reducible apply KM_sl) | decide | (intro _))
theorem km_Md_unmark_2 (F : Nat) : ∀ (n : Nat) (a0 : zS) (a1 : Int32), KM nn0 zz0 a0 → pq (KM nn0 zz0) (Md_unmark_2 F n a0 a1)
  | 0, _, _, _ => pq_none
  | n + 1, a0, a1, h => km_Md_unmark_b2 F (Md_unmark_2 F n) a0 a1  (km_Md_unmark_2 F  n) h
theorem km_Md_unmark (F : Nat) (σ : zS) (h : KM nn0 zz0 σ) : pq (KM nn0 zz0) (Md_unmark F σ) := by
  unfold Md_unmark
  repeat' (first | assumption | (with_reducible apply km_Md_unmark_2) | (with_reducible apply pq_ite) | (with_reducible apply pp_ite) | (with_reducible apply pq_gd) | (with_reducible apply pp_gd) | (with_reducible apply pq_bv) | (with_reducible apply pp_bv) | (with_reducible apply pq_bi) | (with_reducible apply pp_bi) | (with_reducible apply pq_some) | (with_reducible apply pp_some) | (with_reducible apply KM_si) | (with_reducible apply KM_sa) | (with_reducible apply KM_sb) | (with_reducible apply KM_sl) | decide | (intro _))
theorem km_Md_copy_b2 (F : Nat) (rc2 : zS → Nat → Nat → Int32 → Int32 → Option zS) (σ : zS) (x0 : Nat) (x1 : Nat) (x2 : Int32) (x3 : Int32) (hrc2 : ∀ y0 y1 y2 y3 y4, KM nn0 zz0 y0 → pq (KM nn0 zz0) (rc2 y0 y1 y2 y3 y4)) (h : KM nn0 zz0 σ) : pq (KM nn0 zz0) (Md_copy_b2 F rc2 σ x0 x1 x2 x3) := by
  unfold Md_copy_b2
  refine pq_ite (pq_some h) ?_
  intro τ' e
  obtain ⟨_, e⟩ := gd_s e
  obtain ⟨_, e⟩ := gd_s e
  obtain ⟨e0, e⟩ := gd_s e
  have hx : x1 ≠ 26 ∧ x1 ≠ 27 ∧ x1 ≠ 28 := by refine ⟨?_, ?_, ?_⟩ <;> (intro z; subst z; exact absurd e0 (by decide))
  exact hrc2 _ _ _ _ _ (KM_sa h hx) τ' e
theorem km_Md_copy_2 (F : Nat) : ∀ (n : Nat) (a0 : zS) (a1 : Nat) (a2 : Nat) (a3 : Int32) (a4 : Int32), KM nn0 zz0 a0 → pq (KM nn0 zz0) (Md_copy_2 F n a0 a1 a2 a3 a4)
  | 0, _, _, _, _, _, _ => pq_none
  | n + 1, a0, a1, a2, a3, a4, h => km_Md_copy_b2 F (Md_copy_2 F n) a0 a1 a2 a3 a4  (km_Md_copy_2 F  n) h
theorem km_Md_copy (F : Nat) (σ : zS) (x0 : Nat) (x1 : Nat) (x2 : Int32) (h : KM nn0 zz0 σ) : pq (KM nn0 zz0) (Md_copy F σ x0 x1 x2) := by
  unfold Md_copy
  repeat' (first | assumption | (with_reducible apply km_Md_copy_2) | (with_reducible apply pq_ite) | (with_reducible apply pp_ite) | (with_reducible apply pq_gd) | (with_reducible apply pp_gd) | (with_reducible apply pq_bv) | (with_reducible apply pp_bv) | (with_reducible apply pq_bi) | (with_reducible apply pp_bi) | (with_reducible apply pq_some) | (with_reducible apply pp_some) | (with_reducible apply KM_si) | (with_reducible apply KM_sa) | (with_reducible apply KM_sb) | (with_reducible apply KM_sl) | decide | (intro _))
theorem km_Md_isOnWay_19 (F : Nat) (σ : zS) (s0 : Int32) (h : KM nn0 zz0 σ) : pp (KM nn0 zz0) (Md_isOnWay_19 F σ s0) := by
  unfold Md_isOnWay_19
  repeat' (first | assumption | (with_reducible apply pq_ite) | (with_reducible apply pp_ite) | (with_reducible apply pq_gd) | (with_reducible apply pp_gd) | (with_reducible apply pq_bv) | (with_reducible apply pp_bv) | (with_reducible apply pq_bi) | (with_reducible apply pp_bi) | (with_reducible apply pq_some) | (with_reducible apply pp_some) | (with_reducible apply KM_si) | (with_reducible apply KM_sa) | (with_reducible apply KM_sb) | (with_reducible apply KM_sl) | decide | (intro _))
theorem km_Md_isOnWay (F : Nat) (σ : zS) (x1 : Int32) (h : KM nn0 zz0 σ) : pp (KM nn0 zz0) (Md_isOnWay F σ x1) := by
  unfold Md_isOnWay
  repeat' (first | assumption | (with_reducible apply km_Md_top) | (with_reducible apply km_Md_isOnWay_19) | (with_reducible apply pq_ite) | (with_reducible apply pp_ite) | (with_reducible apply pq_gd) | (with_reducible apply pp_gd) | (with_reducible apply pq_bv) | (with_reducible apply pp_bv) | (with_reducible apply pq_bi) | (with_reducible apply pp_bi) | (with_reducible apply pq_some) | (with_reducible apply pp_some) | (with_reducible apply KM_si) | (with_reducible apply KM_sa) | (with_reducible apply KM_sb) | (with_reducible apply KM_sl) | decide | (intro _))
theorem km_Md_goesRound_73 (F : Nat) (rc13 : zS → Int32 → Option (Int32 × zS)) (σ : zS) (x2 : Int32) (hrc13 : ∀ y0 y1, KM nn0 zz0 y0 → pp (KM nn0 zz0) (rc13 y0 y1)) (h : KM nn0 zz0 σ) : pp (KM nn0 zz0) (Md_goesRound_73 F rc13 σ x2) := by
  unfold Md_goesRound_73
  repeat' (first | assumption | (with_reducible apply hrc13) | (with_reducible apply pq_ite) | (with_reducible apply pp_ite) | (with_reducible apply pq_gd) | (with_reducible apply pp_gd) | (with_reducible apply pq_bv) | (with_reducible apply pp_bv) | (with_reducible apply pq_bi) | (with_reducible apply pp_bi) | (with_reducible apply pq_some) | (with_reducible apply pp_some) | (with_reducible apply KM_si) | (with_reducible apply KM_sa) | (with_reducible apply KM_sb) | (with_reducible apply KM_sl) | decide | (intro _))
theorem km_Md_goesRound_112 (F : Nat) (σ : zS) (h : KM nn0 zz0 σ) : pp (KM nn0 zz0) (Md_goesRound_112 F σ) := by
  unfold Md_goesRound_112
  repeat' (first | assumption | (with_reducible apply pq_ite) | (with_reducible apply pp_ite) | (with_reducible apply pq_gd) | (with_reducible apply pp_gd) | (with_reducible apply pq_bv) | (with_reducible apply pp_bv) | (with_reducible apply pq_bi) | (with_reducible apply pp_bi) | (with_reducible apply pq_some) | (with_reducible apply pp_some) | (with_reducible apply KM_si) | (with_reducible apply KM_sa) | (with_reducible apply KM_sb) | (with_reducible apply KM_sl) | decide | (intro _))
theorem km_Md_goesRound_b13 (F : Nat) (rc13 : zS → Int32 → Option (Int32 × zS)) (σ : zS) (x2 : Int32) (hrc13 : ∀ y0 y1, KM nn0 zz0 y0 → pp (KM nn0 zz0) (rc13 y0 y1)) (h : KM nn0 zz0 σ) : pp (KM nn0 zz0) (Md_goesRound_b13 F rc13 σ x2) := by
  unfold Md_goesRound_b13
  repeat' (first | assumption | (with_reducible apply hrc13) | (with_reducible apply km_Md_top) | (with_reducible apply km_Md_goesRound_73) | (with_reducible apply km_Md_isOnWay) | (with_reducible apply km_Md_goesRound_112) | (with_reducible apply pq_ite) | (with_reducible apply pp_ite) | (with_reducible apply pq_gd) | (with_reducible apply pp_gd) | (with_reducible apply pq_bv) | (with_reducible apply pp_bv) | (with_reducible apply pq_bi) | (with_reducible apply pp_bi) | (with_reducible apply pq_some) | (with_reducible apply pp_some) | (with_reducible apply KM_si) | (with_reducible apply KM_sa) | (with_reducible apply KM_sb) | (with_reducible apply KM_sl) | decide | (intro _))
theorem km_Md_goesRound_13 (F : Nat) : ∀ (n : Nat) (a0 : zS) (a1 : Int32), KM nn0 zz0 a0 → pp (KM nn0 zz0) (Md_goesRound_13 F n a0 a1)
  | 0, _, _, _ => pp_none
  | n + 1, a0, a1, h => km_Md_goesRound_b13 F (Md_goesRound_13 F n) a0 a1  (km_Md_goesRound_13 F  n) h
theorem km_Md_goesRound (F : Nat) (σ : zS) (x1 : Int32) (h : KM nn0 zz0 σ) : pp (KM nn0 zz0) (Md_goesRound F σ x1) := by
  unfold Md_goesRound
  repeat' (first | assumption | (with_reducible apply km_Md_unmark) | (with_reducible apply km_Md_goesRound_13) | (with_reducible apply pq_ite) | (with_reducible apply pp_ite) | (with_reducible apply pq_gd) | (with_reducible apply pp_gd) | (with_reducible apply pq_bv) | (with_reducible apply pp_bv) | (with_reducible apply pq_bi) | (with_reducible apply pp_bi) | (with_reducible apply pq_some) | (with_reducible apply pp_some) | (with_reducible apply KM_si) | (with_reducible apply KM_sa) | (with_reducible apply KM_sb) | (with_reducible apply KM_sl) | decide | (intro _))
theorem km_Md_join_203 (F : Nat) (rc16 : zS → Int32 → Option (Int32 × zS)) (σ : zS) (x3 : Int32) (hrc16 : ∀ y0 y1, KM nn0 zz0 y0 → pp (KM nn0 zz0) (rc16 y0 y1)) (h : KM nn0 zz0 σ) : pp (KM nn0 zz0) (Md_join_203 F rc16 σ x3) := by
  unfold Md_join_203
  repeat' (first | assumption | (with_reducible apply hrc16) | (with_reducible apply pq_ite) | (with_reducible apply pp_ite) | (with_reducible apply pq_gd) | (with_reducible apply pp_gd) | (with_reducible apply pq_bv) | (with_reducible apply pp_bv) | (with_reducible apply pq_bi) | (with_reducible apply pp_bi) | (with_reducible apply pq_some) | (with_reducible apply pp_some) | (with_reducible apply KM_si) | (with_reducible apply KM_sa) | (with_reducible apply KM_sb) | (with_reducible apply KM_sl) | decide | (intro _))
theorem km_Md_join_b16 (F : Nat) (rc16 : zS → Int32 → Option (Int32 × zS)) (σ : zS) (x3 : Int32) (hrc16 : ∀ y0 y1, KM nn0 zz0 y0 → pp (KM nn0 zz0) (rc16 y0 y1)) (h : KM nn0 zz0 σ) : pp (KM nn0 zz0) (Md_join_b16 F rc16 σ x3) := by
  unfold Md_join_b16
  repeat' (first | assumption | (with_reducible apply hrc16) | (with_reducible apply km_Md_top) | (with_reducible apply km_Md_join_203) | (with_reducible apply pq_ite) | (with_reducible apply pp_ite) | (with_reducible apply pq_gd) | (with_reducible apply pp_gd) | (with_reducible apply pq_bv) | (with_reducible apply pp_bv) | (with_reducible apply pq_bi) | (with_reducible apply pp_bi) | (with_reducible apply pq_some) | (with_reducible apply pp_some) | (with_reducible apply KM_si) | (with_reducible apply KM_sa) | (with_reducible apply KM_sb) | (with_reducible apply KM_sl) | decide | (intro _))
theorem km_Md_join_16 (F : Nat) : ∀ (n : Nat) (a0 : zS) (a1 : Int32), KM nn0 zz0 a0 → pp (KM nn0 zz0) (Md_join_16 F n a0 a1)
  | 0, _, _, _ => pp_none
  | n + 1, a0, a1, h => km_Md_join_b16 F (Md_join_16 F n) a0 a1  (km_Md_join_16 F  n) h
theorem km_Md_join (F : Nat) (σ : zS) (x1 : Int32) (x2 : Int32) (h : KM nn0 zz0 σ) : pp (KM nn0 zz0) (Md_join F σ x1 x2) := by
  unfold Md_join
  repeat' (first | assumption | (with_reducible apply km_Md_join_16) | (with_reducible apply pq_ite) | (with_reducible apply pp_ite) | (with_reducible apply pq_gd) | (with_reducible apply pp_gd) | (with_reducible apply pq_bv) | (with_reducible apply pp_bv) | (with_reducible apply pq_bi) | (with_reducible apply pp_bi) | (with_reducible apply pq_some) | (with_reducible apply pp_some) | (with_reducible apply KM_si) | (with_reducible apply KM_sa) | (with_reducible apply KM_sb) | (with_reducible apply KM_sl) | decide | (intro _))
theorem km_Md_equate_77 (F : Nat) (σ : zS) (h : KM nn0 zz0 σ) : pq (KM nn0 zz0) (Md_equate_77 F σ) := by
  unfold Md_equate_77
  repeat' (first | assumption | (with_reducible apply pq_ite) | (with_reducible apply pp_ite) | (with_reducible apply pq_gd) | (with_reducible apply pp_gd) | (with_reducible apply pq_bv) | (with_reducible apply pp_bv) | (with_reducible apply pq_bi) | (with_reducible apply pp_bi) | (with_reducible apply pq_some) | (with_reducible apply pp_some) | (with_reducible apply KM_si) | (with_reducible apply KM_sa) | (with_reducible apply KM_sb) | (with_reducible apply KM_sl) | decide | (intro _))
theorem km_Md_equate_40 (F : Nat) (σ : zS) (x1 : Int32) (x2 : Int32) (x3 : Int32) (h : KM nn0 zz0 σ) : pq (KM nn0 zz0) (Md_equate_40 F σ x1 x2 x3) := by
  unfold Md_equate_40
  repeat' (first | assumption | (with_reducible apply km_Md_copy) | (with_reducible apply km_Md_wrong) | (with_reducible apply km_Md_equate_77) | (with_reducible apply pq_ite) | (with_reducible apply pp_ite) | (with_reducible apply pq_gd) | (with_reducible apply pp_gd) | (with_reducible apply pq_bv) | (with_reducible apply pp_bv) | (with_reducible apply pq_bi) | (with_reducible apply pp_bi) | (with_reducible apply pq_some) | (with_reducible apply pp_some) | (with_reducible apply KM_si) | (with_reducible apply KM_sa) | (with_reducible apply KM_sb) | (with_reducible apply KM_sl) | decide | (intro _))
theorem km_Md_equate (F : Nat) (σ : zS) (x1 : Int32) (x2 : Int32) (x3 : Int32) (h : KM nn0 zz0 σ) : pq (KM nn0 zz0) (Md_equate F σ x1 x2 x3) := by
  unfold Md_equate
  repeat' (first | assumption | (with_reducible apply km_Md_copy) | (with_reducible apply km_Md_join) | (with_reducible apply km_Md_equate_40) | (with_reducible apply km_Md_goesRound) | (with_reducible apply km_Md_equate_77) | (with_reducible apply pq_ite) | (with_reducible apply pp_ite) | (with_reducible apply pq_gd) | (with_reducible apply pp_gd) | (with_reducible apply pq_bv) | (with_reducible apply pp_bv) | (with_reducible apply pq_bi) | (with_reducible apply pp_bi) | (with_reducible apply pq_some) | (with_reducible apply pp_some) | (with_reducible apply KM_si) | (with_reducible apply KM_sa) | (with_reducible apply KM_sb) | (with_reducible apply KM_sl) | decide | (intro _))
theorem km_Md_doAct_118 (F : Nat) (σ : zS) (h : KM nn0 zz0 σ) : pq (KM nn0 zz0) (Md_doAct_118 F σ) := by
  unfold Md_doAct_118
  repeat' (first | assumption | (with_reducible apply pq_ite) | (with_reducible apply pp_ite) | (with_reducible apply pq_gd) | (with_reducible apply pp_gd) | (with_reducible apply pq_bv) | (with_reducible apply pp_bv) | (with_reducible apply pq_bi) | (with_reducible apply pp_bi) | (with_reducible apply pq_some) | (with_reducible apply pp_some) | (with_reducible apply KM_si) | (with_reducible apply KM_sa) | (with_reducible apply KM_sb) | (with_reducible apply KM_sl) | decide | (intro _))
theorem km_Md_doAct_109 (F : Nat) (σ : zS) (x1 : Int32) (s1 : Int32) (s2 : Int32) (h : KM nn0 zz0 σ) : pq (KM nn0 zz0) (Md_doAct_109 F σ x1 s1 s2) := by
  unfold Md_doAct_109
  repeat' (first | assumption | (with_reducible apply km_Md_equate) | (with_reducible apply km_Md_doAct_118) | (with_reducible apply pq_ite) | (with_reducible apply pp_ite) | (with_reducible apply pq_gd) | (with_reducible apply pp_gd) | (with_reducible apply pq_bv) | (with_reducible apply pp_bv) | (with_reducible apply pq_bi) | (with_reducible apply pp_bi) | (with_reducible apply pq_some) | (with_reducible apply pp_some) | (with_reducible apply KM_si) | (with_reducible apply KM_sa) | (with_reducible apply KM_sb) | (with_reducible apply KM_sl) | decide | (intro _))
theorem km_Md_doAct (F : Nat) (σ : zS) (x1 : Int32) (x2 : Int32) (h : KM nn0 zz0 σ) : pq (KM nn0 zz0) (Md_doAct F σ x1 x2) := by
  unfold Md_doAct
  repeat' (first | assumption | (with_reducible apply km_Md_newKind) | (with_reducible apply km_Md_equate) | (with_reducible apply km_Md_doAct_118) | (with_reducible apply km_Md_doAct_109) | (with_reducible apply pq_ite) | (with_reducible apply pp_ite) | (with_reducible apply pq_gd) | (with_reducible apply pp_gd) | (with_reducible apply pq_bv) | (with_reducible apply pp_bv) | (with_reducible apply pq_bi) | (with_reducible apply pp_bi) | (with_reducible apply pq_some) | (with_reducible apply pp_some) | (with_reducible apply KM_si) | (with_reducible apply KM_sa) | (with_reducible apply KM_sb) | (with_reducible apply KM_sl) | decide | (intro _))
theorem km_Md_kindOfSmall_141 (F : Nat) (rc67 : zS → Int32 → Int32 → Option (Int32 × zS)) (σ : zS) (x1 : Int32) (x4 : Int32) (hrc67 : ∀ y0 y1 y2, KM nn0 zz0 y0 → pp (KM nn0 zz0) (rc67 y0 y1 y2)) (h : KM nn0 zz0 σ) : pp (KM nn0 zz0) (Md_kindOfSmall_141 F rc67 σ x1 x4) := by
  unfold Md_kindOfSmall_141
  repeat' (first | assumption | (with_reducible apply hrc67) | (with_reducible apply pq_ite) | (with_reducible apply pp_ite) | (with_reducible apply pq_gd) | (with_reducible apply pp_gd) | (with_reducible apply pq_bv) | (with_reducible apply pp_bv) | (with_reducible apply pq_bi) | (with_reducible apply pp_bi) | (with_reducible apply pq_some) | (with_reducible apply pp_some) | (with_reducible apply KM_si) | (with_reducible apply KM_sa) | (with_reducible apply KM_sb) | (with_reducible apply KM_sl) | decide | (intro _))
theorem km_Md_kindOfSmall_b67 (F : Nat) (rc67 : zS → Int32 → Int32 → Option (Int32 × zS)) (σ : zS) (x1 : Int32) (x4 : Int32) (hrc67 : ∀ y0 y1 y2, KM nn0 zz0 y0 → pp (KM nn0 zz0) (rc67 y0 y1 y2)) (h : KM nn0 zz0 σ) : pp (KM nn0 zz0) (Md_kindOfSmall_b67 F rc67 σ x1 x4) := by
  unfold Md_kindOfSmall_b67
  repeat' (first | assumption | (with_reducible apply hrc67) | (with_reducible apply km_Md_newKind) | (with_reducible apply km_Md_kindOfSmall_141) | (with_reducible apply pq_ite) | (with_reducible apply pp_ite) | (with_reducible apply pq_gd) | (with_reducible apply pp_gd) | (with_reducible apply pq_bv) | (with_reducible apply pp_bv) | (with_reducible apply pq_bi) | (with_reducible apply pp_bi) | (with_reducible apply pq_some) | (with_reducible apply pp_some) | (with_reducible apply KM_si) | (with_reducible apply KM_sa) | (with_reducible apply KM_sb) | (with_reducible apply KM_sl) | decide | (intro _))
theorem km_Md_kindOfSmall_67 (F : Nat) : ∀ (n : Nat) (a0 : zS) (a1 : Int32) (a2 : Int32), KM nn0 zz0 a0 → pp (KM nn0 zz0) (Md_kindOfSmall_67 F n a0 a1 a2)
  | 0, _, _, _, _ => pp_none
  | n + 1, a0, a1, a2, h => km_Md_kindOfSmall_b67 F (Md_kindOfSmall_67 F n) a0 a1 a2  (km_Md_kindOfSmall_67 F  n) h
theorem km_Md_kindOfSmall_64 (F : Nat) (σ : zS) (x1 : Int32) (x2 : Int32) (h : KM nn0 zz0 σ) : pp (KM nn0 zz0) (Md_kindOfSmall_64 F σ x1 x2) := by
  unfold Md_kindOfSmall_64
  repeat' (first | assumption | (with_reducible apply km_Md_kindOfSmall_67) | (with_reducible apply pq_ite) | (with_reducible apply pp_ite) | (with_reducible apply pq_gd) | (with_reducible apply pp_gd) | (with_reducible apply pq_bv) | (with_reducible apply pp_bv) | (with_reducible apply pq_bi) | (with_reducible apply pp_bi) | (with_reducible apply pq_some) | (with_reducible apply pp_some) | (with_reducible apply KM_si) | (with_reducible apply KM_sa) | (with_reducible apply KM_sb) | (with_reducible apply KM_sl) | decide | (intro _))
theorem km_Md_kindOfSmall_b10 (F : Nat) (rc10 : zS → Int32 → Int32 → Int32 → Int32 → Option (Int32 × zS)) (σ : zS) (x1 : Int32) (x2 : Int32) (x3 : Int32) (x4 : Int32) (hrc10 : ∀ y0 y1 y2 y3 y4, KM nn0 zz0 y0 → pp (KM nn0 zz0) (rc10 y0 y1 y2 y3 y4)) (h : KM nn0 zz0 σ) : pp (KM nn0 zz0) (Md_kindOfSmall_b10 F rc10 σ x1 x2 x3 x4) := by
  unfold Md_kindOfSmall_b10
  repeat' (first | assumption | (with_reducible apply hrc10) | (with_reducible apply km_Md_kindOfSmall_64) | (with_reducible apply pq_ite) | (with_reducible apply pp_ite) | (with_reducible apply pq_gd) | (with_reducible apply pp_gd) | (with_reducible apply pq_bv) | (with_reducible apply pp_bv) | (with_reducible apply pq_bi) | (with_reducible apply pp_bi) | (with_reducible apply pq_some) | (with_reducible apply pp_some) | (with_reducible apply KM_si) | (with_reducible apply KM_sa) | (with_reducible apply KM_sb) | (with_reducible apply KM_sl) | decide | (intro _))
theorem km_Md_kindOfSmall_10 (F : Nat) : ∀ (n : Nat) (a0 : zS) (a1 : Int32) (a2 : Int32) (a3 : Int32) (a4 : Int32), KM nn0 zz0 a0 → pp (KM nn0 zz0) (Md_kindOfSmall_10 F n a0 a1 a2 a3 a4)
  | 0, _, _, _, _, _, _ => pp_none
  | n + 1, a0, a1, a2, a3, a4, h => km_Md_kindOfSmall_b10 F (Md_kindOfSmall_10 F n) a0 a1 a2 a3 a4  (km_Md_kindOfSmall_10 F  n) h
theorem km_Md_kindOfSmall (F : Nat) (σ : zS) (x1 : Int32) (x2 : Int32) (h : KM nn0 zz0 σ) : pp (KM nn0 zz0) (Md_kindOfSmall F σ x1 x2) := by
  unfold Md_kindOfSmall
  repeat' (first | assumption | (with_reducible apply km_Md_kindOfSmall_10) | (with_reducible apply pq_ite) | (with_reducible apply pp_ite) | (with_reducible apply pq_gd) | (with_reducible apply pp_gd) | (with_reducible apply pq_bv) | (with_reducible apply pp_bv) | (with_reducible apply pq_bi) | (with_reducible apply pp_bi) | (with_reducible apply pq_some) | (with_reducible apply pp_some) | (with_reducible apply KM_si) | (with_reducible apply KM_sa) | (with_reducible apply KM_sb) | (with_reducible apply KM_sl) | decide | (intro _))
theorem km_Md_layKind_108 (F : Nat) (σ : zS) (h : KM nn0 zz0 σ) : pq (KM nn0 zz0) (Md_layKind_108 F σ) := by
  unfold Md_layKind_108
  repeat' (first | assumption | (with_reducible apply pq_ite) | (with_reducible apply pp_ite) | (with_reducible apply pq_gd) | (with_reducible apply pp_gd) | (with_reducible apply pq_bv) | (with_reducible apply pp_bv) | (with_reducible apply pq_bi) | (with_reducible apply pp_bi) | (with_reducible apply pq_some) | (with_reducible apply pp_some) | (with_reducible apply KM_si) | (with_reducible apply KM_sa) | (with_reducible apply KM_sb) | (with_reducible apply KM_sl) | decide | (intro _))
theorem km_Md_layKind_20 (F : Nat) (σ : zS) (x1 : Int32) (h : KM nn0 zz0 σ) : pq (KM nn0 zz0) (Md_layKind_20 F σ x1) := by
  unfold Md_layKind_20
  repeat' (first | assumption | (with_reducible apply km_Md_layKind_108) | (with_reducible apply pq_ite) | (with_reducible apply pp_ite) | (with_reducible apply pq_gd) | (with_reducible apply pp_gd) | (with_reducible apply pq_bv) | (with_reducible apply pp_bv) | (with_reducible apply pq_bi) | (with_reducible apply pp_bi) | (with_reducible apply pq_some) | (with_reducible apply pp_some) | (with_reducible apply KM_si) | (with_reducible apply KM_sa) | (with_reducible apply KM_sb) | (with_reducible apply KM_sl) | decide | (intro _))
theorem km_Md_layKind_82 (F : Nat) (σ : zS) (s1 : Int32) (s2 : Int32) (h : KM nn0 zz0 σ) : pq (KM nn0 zz0) (Md_layKind_82 F σ s1 s2) := by
  unfold Md_layKind_82
  repeat' (first | assumption | (with_reducible apply km_Md_layKind_108) | (with_reducible apply pq_ite) | (with_reducible apply pp_ite) | (with_reducible apply pq_gd) | (with_reducible apply pp_gd) | (with_reducible apply pq_bv) | (with_reducible apply pp_bv) | (with_reducible apply pq_bi) | (with_reducible apply pp_bi) | (with_reducible apply pq_some) | (with_reducible apply pp_some) | (with_reducible apply KM_si) | (with_reducible apply KM_sa) | (with_reducible apply KM_sb) | (with_reducible apply KM_sl) | decide | (intro _))
theorem km_Md_layKind (F : Nat) (σ : zS) (x1 : Int32) (x2 : Int32) (h : KM nn0 zz0 σ) : pq (KM nn0 zz0) (Md_layKind F σ x1 x2) := by
  unfold Md_layKind
  repeat' (first | assumption | (with_reducible apply km_Md_layKind_20) | (with_reducible apply km_Md_layKind_82) | (with_reducible apply km_Md_typeOf) | (with_reducible apply km_Md_kindOfSmall) | (with_reducible apply km_Md_layKind_108) | (with_reducible apply pq_ite) | (with_reducible apply pp_ite) | (with_reducible apply pq_gd) | (with_reducible apply pp_gd) | (with_reducible apply pq_bv) | (with_reducible apply pp_bv) | (with_reducible apply pq_bi) | (with_reducible apply pp_bi) | (with_reducible apply pq_some) | (with_reducible apply pp_some) | (with_reducible apply KM_si) | (with_reducible apply KM_sa) | (with_reducible apply KM_sb) | (with_reducible apply KM_sl) | decide | (intro _))
theorem km_Md_readAsked_190 (F : Nat) (σ : zS) (x2 : Int32) (h : KM nn0 zz0 σ) : pp (KM nn0 zz0) (Md_readAsked_190 F σ x2) := by
  unfold Md_readAsked_190
  repeat' (first | assumption | (with_reducible apply pq_ite) | (with_reducible apply pp_ite) | (with_reducible apply pq_gd) | (with_reducible apply pp_gd) | (with_reducible apply pq_bv) | (with_reducible apply pp_bv) | (with_reducible apply pq_bi) | (with_reducible apply pp_bi) | (with_reducible apply pq_some) | (with_reducible apply pp_some) | (with_reducible apply KM_si) | (with_reducible apply KM_sa) | (with_reducible apply KM_sb) | (with_reducible apply KM_sl) | decide | (intro _))
theorem km_Md_readAsked_b163 (F : Nat) (rc163 : zS → Int32 → Int32 → Option (Int32 × zS)) (σ : zS) (x2 : Int32) (x3 : Int32) (hrc163 : ∀ y0 y1 y2, KM nn0 zz0 y0 → pp (KM nn0 zz0) (rc163 y0 y1 y2)) (h : KM nn0 zz0 σ) : pp (KM nn0 zz0) (Md_readAsked_b163 F rc163 σ x2 x3) := by
  unfold Md_readAsked_b163
  repeat' (first | assumption | (with_reducible apply hrc163) | (with_reducible apply km_Md_readAsked_190) | (with_reducible apply km_Md_doAct) | (with_reducible apply pq_ite) | (with_reducible apply pp_ite) | (with_reducible apply pq_gd) | (with_reducible apply pp_gd) | (with_reducible apply pq_bv) | (with_reducible apply pp_bv) | (with_reducible apply pq_bi) | (with_reducible apply pp_bi) | (with_reducible apply pq_some) | (with_reducible apply pp_some) | (with_reducible apply KM_si) | (with_reducible apply KM_sa) | (with_reducible apply KM_sb) | (with_reducible apply KM_sl) | decide | (intro _))
theorem km_Md_readAsked_163 (F : Nat) : ∀ (n : Nat) (a0 : zS) (a1 : Int32) (a2 : Int32), KM nn0 zz0 a0 → pp (KM nn0 zz0) (Md_readAsked_163 F n a0 a1 a2)
  | 0, _, _, _, _ => pp_none
  | n + 1, a0, a1, a2, h => km_Md_readAsked_b163 F (Md_readAsked_163 F n) a0 a1 a2  (km_Md_readAsked_163 F  n) h
theorem km_Md_readAsked_161 (F : Nat) (σ : zS) (x2 : Int32) (h : KM nn0 zz0 σ) : pp (KM nn0 zz0) (Md_readAsked_161 F σ x2) := by
  unfold Md_readAsked_161
  repeat' (first | assumption | (with_reducible apply km_Md_readAsked_163) | (with_reducible apply pq_ite) | (with_reducible apply pp_ite) | (with_reducible apply pq_gd) | (with_reducible apply pp_gd) | (with_reducible apply pq_bv) | (with_reducible apply pp_bv) | (with_reducible apply pq_bi) | (with_reducible apply pp_bi) | (with_reducible apply pq_some) | (with_reducible apply pp_some) | (with_reducible apply KM_si) | (with_reducible apply KM_sa) | (with_reducible apply KM_sb) | (with_reducible apply KM_sl) | decide | (intro _))
theorem km_Md_readAsked_155 (F : Nat) (rc121 : zS → Int32 → Int32 → Option (Int32 × zS)) (σ : zS) (x2 : Int32) (x3 : Int32) (hrc121 : ∀ y0 y1 y2, KM nn0 zz0 y0 → pp (KM nn0 zz0) (rc121 y0 y1 y2)) (h : KM nn0 zz0 σ) : pp (KM nn0 zz0) (Md_readAsked_155 F rc121 σ x2 x3) := by
  unfold Md_readAsked_155
  repeat' (first | assumption | (with_reducible apply hrc121) | (with_reducible apply pq_ite) | (with_reducible apply pp_ite) | (with_reducible apply pq_gd) | (with_reducible apply pp_gd) | (with_reducible apply pq_bv) | (with_reducible apply pp_bv) | (with_reducible apply pq_bi) | (with_reducible apply pp_bi) | (with_reducible apply pq_some) | (with_reducible apply pp_some) | (with_reducible apply KM_si) | (with_reducible apply KM_sa) | (with_reducible apply KM_sb) | (with_reducible apply KM_sl) | decide | (intro _))
theorem km_Md_readAsked_b121 (F : Nat) (rc121 : zS → Int32 → Int32 → Option (Int32 × zS)) (σ : zS) (x2 : Int32) (x3 : Int32) (hrc121 : ∀ y0 y1 y2, KM nn0 zz0 y0 → pp (KM nn0 zz0) (rc121 y0 y1 y2)) (h : KM nn0 zz0 σ) : pp (KM nn0 zz0) (Md_readAsked_b121 F rc121 σ x2 x3) := by
  unfold Md_readAsked_b121
  repeat' (first | assumption | (with_reducible apply hrc121) | (with_reducible apply km_Md_readAsked_161) | (with_reducible apply km_Md_readAsked_155) | (with_reducible apply km_Md_layKind) | (with_reducible apply pq_ite) | (with_reducible apply pp_ite) | (with_reducible apply pq_gd) | (with_reducible apply pp_gd) | (with_reducible apply pq_bv) | (with_reducible apply pp_bv) | (with_reducible apply pq_bi) | (with_reducible apply pp_bi) | (with_reducible apply pq_some) | (with_reducible apply pp_some) | (with_reducible apply KM_si) | (with_reducible apply KM_sa) | (with_reducible apply KM_sb) | (with_reducible apply KM_sl) | decide | (intro _))
theorem km_Md_readAsked_121 (F : Nat) : ∀ (n : Nat) (a0 : zS) (a1 : Int32) (a2 : Int32), KM nn0 zz0 a0 → pp (KM nn0 zz0) (Md_readAsked_121 F n a0 a1 a2)
  | 0, _, _, _, _ => pp_none
  | n + 1, a0, a1, a2, h => km_Md_readAsked_b121 F (Md_readAsked_121 F n) a0 a1 a2  (km_Md_readAsked_121 F  n) h
theorem km_Md_readAsked_116 (F : Nat) (σ : zS) (x2 : Int32) (h : KM nn0 zz0 σ) : pp (KM nn0 zz0) (Md_readAsked_116 F σ x2) := by
  unfold Md_readAsked_116
  repeat' (first | assumption | (with_reducible apply km_Md_readAsked_121) | (with_reducible apply pq_ite) | (with_reducible apply pp_ite) | (with_reducible apply pq_gd) | (with_reducible apply pp_gd) | (with_reducible apply pq_bv) | (with_reducible apply pp_bv) | (with_reducible apply pq_bi) | (with_reducible apply pp_bi) | (with_reducible apply pq_some) | (with_reducible apply pp_some) | (with_reducible apply KM_si) | (with_reducible apply KM_sa) | (with_reducible apply KM_sb) | (with_reducible apply KM_sl) | decide | (intro _))
end L
