/-! The class solves what it has listed. Own text. -/
/-- what lies below n hangs on what lies below n -/
def tz (n : Nat) (G : SG) : Prop := ∀ k, k < n → gup G k < n ∧ (gup G k = k → gso G k ≠ 0)
theorem tz_up {n : Nat} {G G' : SG} (h : tz n G) (g : upS G G') : tz n G' := by
  obtain ⟨g1, g2, g3, g4, g5⟩ := g
  intro k hk
  obtain ⟨h1, h2⟩ := h k hk
  rw [g2]
  rcases g5 k with z | ⟨z1, z2⟩
  · rw [z]; exact ⟨h1, h2⟩
  · rcases z2 with y | y
    · exact absurd y (h2 z1)
    · exact ⟨by omega, fun _ => h2 z1⟩
section K
variable {Z : List (TE × TE)} {F : Nat} {dom : Nat → Prop} {m : Nat → Nat} {E : List EQ}
theorem eqK_at {σ : zS} {G : SG} : ∀ (E1 E2 : List EQ) (e : EQ) (i : Nat), eqK σ G dom m i (E1 ++ e :: E2) → ∃ x y, ga σ 49 (i + E1.length) = nI x ∧ ga σ 50 (i + E1.length) = nI y ∧ ga σ 51 (i + E1.length) = nI e.2.2 ∧ rp G dom m x e.1 ∧ rp G dom m y e.2.1 := by
  intro E1 E2 e i h
  rw [eqK_app] at h
  exact h.2.1
theorem sv_all (hF : 20000 ≤ F) : ∀ (d f : Nat) (E1 E2 : List EQ) (σ : zS) (G : SG), E = E1 ++ E2 → E2.length = d → d < f → E.length ≤ 216 → gi σ 807 = nI E.length → gi σ 200 = 0 → CS σ G → Rp G dom m (Z ++ eqP E1) → eqK σ G dom m 0 E → (∃ σ' G', So_solveListed_2 F f σ (nI E1.length) = some σ' ∧ CS σ' G' ∧ Rp G' dom m (Z ++ eqP E) ∧ xt G dom m G' dom m ∧ sx [308, 309] [25, 26, 27, 28] σ σ' ∧ gn G' = gn G ∧ ∀ n, tz n G → tz n G') ∨ (∃ Ea e Eb x y σ1 G1 f', E = Ea ++ e :: Eb ∧ Rp G1 dom m (Z ++ eqP Ea) ∧ rp G1 dom m x e.1 ∧ rp G1 dom m y e.2.1 ∧ unso G1 x y ∧ CS σ1 G1 ∧ xt G dom m G1 dom m ∧ sx [308, 309] [25, 26, 27, 28] σ σ1 ∧ gn G1 = gn G ∧ (∀ n, tz n G → tz n G1) ∧ So_solveListed_2 F f σ (nI E1.length) = bv (Ki_showSides F (si (si σ1 200 6) 201 (nI e.2.2)) (nI x) (nI y)) (fun s => So_solveListed_2 F (f' + 1) s (nI (Ea.length + 1)))) := by
  intro d
  induction d with
  | zero =>
    intro f E1 E2 σ G hE hd hf hl h807 h200 hC hR hK
    obtain ⟨f, rfl⟩ : ∃ f', f = f' + 1 := ⟨f - 1, by omega⟩
    obtain rfl : E2 = [] := List.eq_nil_of_length_eq_zero hd
    rw [List.append_nil] at hE
    subst hE
    refine Or.inl ⟨σ, G, ?_, hC, hR, xt_rfl _ _ _, sx_rfl _ _ _, rfl, fun _ z => z⟩
    rw [So_solveListed_2, So_solveListed_b2, h807, if_pos (nI_le (Nat.le_refl _) (by omega))]
    rfl
  | succ d ih =>
    intro f E1 E2 σ G hE hd hf hl h807 h200 hC hR hK
    obtain ⟨f, rfl⟩ : ∃ f', f = f' + 1 := ⟨f - 1, by omega⟩
    obtain ⟨e, E2, rfl⟩ : ∃ e l, E2 = e :: l := by
      cases E2 with
      | nil => simp at hd
      | cons e l => exact ⟨e, l, rfl⟩
    have hEl : E.length = E1.length + (E2.length + 1) := by rw [hE]; simp
    rw [List.length_cons] at hd
    obtain ⟨x, y, k1, k2, k3, k4, k5⟩ := eqK_at E1 E2 e 0 (by rw [← hE]; exact hK)
    rw [Nat.zero_add] at k1 k2 k3
    obtain ⟨r, σ1, u1, u2, u3⟩ := unifyC (F := F) hF hC k4.1 k5.1
    have hthere : Fa_isThere F σ = some (0, σ) := by
      rw [Fa_isThere, h200, if_pos rfl]
      rfl
    have h0 : So_solveListed_2 F (f + 1) σ (nI E1.length) = bi (Ki_unify F σ (nI x) (nI y)) (fun r8 σ7 => if r8 = 0 then (bv (Fa_raise F σ7 (6 : Int32) (ga σ7 51 E1.length)) (fun σ11 => bv (Ki_showSides F σ11 (ga σ11 49 E1.length) (ga σ11 50 E1.length)) (fun σ13 => So_solveListed_80 F (So_solveListed_2 F f) σ13 (nI E1.length)))) else (So_solveListed_80 F (So_solveListed_2 F f) σ7 (nI E1.length))) := by
      rw [So_solveListed_2, So_solveListed_b2, h807, if_neg (nI_ge (by omega) (by omega)), hthere, bi_some]
      show (if (0 : Int32) = 0 then _ else _) = _
      rw [if_pos rfl, gd_t (inb_nI (by omega) (by omega)), nI_clamp (by omega), k1, k2]
    rw [h0, u1, bi_some]
    rcases u3 with ⟨rfl, G', c1, c2, c3, dd, c4⟩ | ⟨rfl, c1, c2⟩
    · obtain ⟨R1, R2⟩ := Rp_eq (e1 := e.1) (e2 := e.2.1) hR k4 k5 (c1.2.2.2.2.2.1) c4 c2.1 c3
      have hE' : E = (E1 ++ [e]) ++ E2 := by rw [hE]; simp
      have hlen : (E1 ++ [e]).length = E1.length + 1 := by simp
      rcases ih f (E1 ++ [e]) E2 σ1 G' hE' (by omega) (by omega) hl (by rw [u2.1 807 (by decide)]; exact h807) (by rw [u2.1 200 (by decide)]; exact h200) c1 (by rw [eqP_app, eqP_1, ← List.append_assoc]; exact R1) (eqK_cg R2 E 0 (fun j _ _ => by rw [u2.2.1 49 (by decide), u2.2.1 50 (by decide), u2.2.1 51 (by decide)]; exact ⟨rfl, rfl, rfl⟩) hK) with ⟨σ', G2, a1, a2, a3, a4, a5, a6, a7⟩ | ⟨Ea, e', Eb, x', y', σ2, G2, f', a1, a2, a3, a4, a5, a6, a7, a8, a9, a10, a11⟩
      · refine Or.inl ⟨σ', G2, ?_, a2, a3, xt_tr R2 a4, sx_tr u2 a5, a6.trans c2.1, fun n hn => a7 n (tz_up hn c2)⟩
        show (if (1 : Int32) = 0 then _ else _) = _
        rw [if_neg (by decide), So_solveListed_80, nI_1, ← hlen, a1]
      · refine Or.inr ⟨Ea, e', Eb, x', y', σ2, G2, f', a1, a2, a3, a4, a5, a6, xt_tr R2 a7, sx_tr u2 a8, a9.trans c2.1, fun n hn => a10 n (tz_up hn c2), ?_⟩
        show (if (1 : Int32) = 0 then _ else _) = _
        rw [if_neg (by decide), So_solveListed_80, nI_1, ← hlen, a11]
    · obtain ⟨f, rfl⟩ : ∃ f', f = f' + 1 := ⟨f - 1, by omega⟩
      refine Or.inr ⟨E1, e, E2, x, y, σ1, G, f, hE, hR, k4, k5, c2, CS_cg (u2.1 306 (by decide)) (fun k _ => by rw [u2.2.1 23 (by decide), u2.2.1 24 (by decide), c1]; exact ⟨rfl, rfl, rfl⟩) hC, xt_rfl _ _ _, u2, rfl, fun _ z => z, ?_⟩
      show (if (0 : Int32) = 0 then _ else _) = _
      have hrs : Fa_raise F σ1 (6 : Int32) (nI e.2.2) = some (si (si σ1 200 6) 201 (nI e.2.2)) := rfl
      rw [if_pos rfl, show ga σ1 51 E1.length = nI e.2.2 by rw [u2.2.1 51 (by decide)]; exact k3, hrs, bv_some]
      have q1 : ga (si (si σ1 200 6) 201 (nI e.2.2)) 49 E1.length = nI x := by
        have : ga (si (si σ1 200 6) 201 (nI e.2.2)) 49 = ga σ1 49 := by simp only [zs]
        rw [this, u2.2.1 49 (by decide)]; exact k1
      have q2 : ga (si (si σ1 200 6) 201 (nI e.2.2)) 50 E1.length = nI y := by
        have : ga (si (si σ1 200 6) 201 (nI e.2.2)) 50 = ga σ1 50 := by simp only [zs]
        rw [this, u2.2.1 50 (by decide)]; exact k2
      rw [q1, q2]
      congr 1
      funext s
      rw [So_solveListed_80, nI_1]
end K
/-- nothing is open -/
def noO (G : SG) : Prop := ∀ k, k < gn G → gup G k = k → gso G k ≠ 0
/-! While equations are listed, the kinds that are there stay. Written by program, but for the rows by hand. Own text. -/
def KB (nn0 : Nat) (zz0 : zS) (σ : zS) : Prop := ∃ S : Nat, gi σ 306 = nI S ∧ nn0 ≤ S ∧ S ≤ 1713 ∧ ∀ k, k < nn0 → ga σ 23 k = ga zz0 23 k ∧ ga σ 24 k = ga zz0 24 k ∧ ga σ 25 k = ga zz0 25 k
section L
variable {σ : zS} {nn0 : Nat} {zz0 : zS}
theorem KB_cg {σ' : zS} (h : KB nn0 zz0 σ) (h1 : gi σ' 306 = gi σ 306) (h3 : ga σ' 23 = ga σ 23) (h4 : ga σ' 24 = ga σ 24) (h5 : ga σ' 25 = ga σ 25) : KB nn0 zz0 σ' := by
  obtain ⟨S, a1, a2, a3, a4⟩ := h
  refine ⟨S, h1.trans a1, a2, a3, fun k => ?_⟩
  rw [h3, h4, h5]
  exact a4 k
theorem KB_si {r : Nat} {v : Int32} (h : KB nn0 zz0 σ) (hr : r ≠ 306) : KB nn0 zz0 (si σ r v) :=
  KB_cg h (by simp only [zs, if_neg (fun z : 306 = r => hr z.symm)]) (by simp only [zs]) (by simp only [zs]) (by simp only [zs])
theorem KB_sA {a : Nat} {f : Nat → Int32} (h : KB nn0 zz0 σ) (hr : a ≠ 23 ∧ a ≠ 24 ∧ a ≠ 25) : KB nn0 zz0 (sA σ a f) :=
  KB_cg h (by simp only [zs]) (by simp only [zs, if_neg (fun z : 23 = a => hr.1 z.symm)]) (by simp only [zs, if_neg (fun z : 24 = a => hr.2.1 z.symm)]) (by simp only [zs, if_neg (fun z : 25 = a => hr.2.2 z.symm)])
theorem KB_sa {a i : Nat} {v : Int32} (h : KB nn0 zz0 σ) (hr : a ≠ 23 ∧ a ≠ 24 ∧ a ≠ 25) : KB nn0 zz0 (sa σ a i v) := KB_sA h hr
theorem KB_sb {a i : Nat} {v : Int64} (h : KB nn0 zz0 σ) : KB nn0 zz0 (sb σ a i v) := KB_cg h rfl rfl rfl rfl
theorem KB_sl {r : Nat} {v : Int64} (h : KB nn0 zz0 σ) : KB nn0 zz0 (sl σ r v) := KB_cg h rfl rfl rfl rfl
theorem KB_sr {r : Nat} {v : Nat} (h : KB nn0 zz0 σ) : KB nn0 zz0 (sr σ r v) := KB_cg h rfl rfl rfl rfl
theorem KB_ti {r : Nat} {v : Int32} (h : KB nn0 zz0 σ) : KB nn0 zz0 (ti σ r v) := KB_cg h rfl rfl rfl rfl
theorem KB_ta {a i : Nat} {v : Int32} (h : KB nn0 zz0 σ) : KB nn0 zz0 (ta σ a i v) := KB_cg h rfl rfl rfl rfl
theorem KB_tA {a : Nat} {f : Nat → Int32} (h : KB nn0 zz0 σ) : KB nn0 zz0 (tA σ a f) := KB_cg h rfl rfl rfl rfl
theorem KB_tb {a i : Nat} {v : Int64} (h : KB nn0 zz0 σ) : KB nn0 zz0 (tb σ a i v) := KB_cg h rfl rfl rfl rfl
theorem KB_tB {a : Nat} {f : Nat → Int64} (h : KB nn0 zz0 σ) : KB nn0 zz0 (tB σ a f) := KB_cg h rfl rfl rfl rfl
theorem kb_Ki_makeOpen (F : Nat) (σ : zS) (h : KB nn0 zz0 σ) : pp (KB nn0 zz0) (Ki_makeOpen F σ) := by
  obtain ⟨S, a1, a2, a3, a4⟩ := h
  intro r σ' e
  rw [Ki_makeOpen, a1] at e
  by_cases c : S < 1713
  · rw [if_pos (show nI S < (1713 : Int32) from nI_lt (b := 1713) c (by omega)), gd_t (inb_nI (by omega) (by omega)), nI_clamp (by omega), nI_1] at e
    cases e
    refine ⟨S + 1, by simp [zs], by omega, by omega, fun k hk => ?_⟩
    obtain ⟨b1, b2, b3⟩ := a4 k hk
    exact ⟨by simp [zs, up_at, show ¬ k = S by omega]; exact b1, by simp [zs]; exact b2, by simp [zs, up_at, show ¬ k = S by omega]; exact b3⟩
  · rw [if_neg (show ¬ nI S < (1713 : Int32) from nI_nlt (b := 1713) (by omega) (by omega))] at e
    cases e
    exact ⟨S, a1, a2, a3, a4⟩
theorem kb_Ki_makeArrow (F : Nat) (σ : zS) (x1 : Int32) (x2 : Int32) (h : KB nn0 zz0 σ) : pp (KB nn0 zz0) (Ki_makeArrow F σ x1 x2) := by
  obtain ⟨S, a1, a2, a3, a4⟩ := h
  intro r σ' e
  rw [Ki_makeArrow, a1] at e
  by_cases c : S < 1713
  · rw [if_pos (show nI S < (1713 : Int32) from nI_lt (b := 1713) c (by omega)), gd_t (inb_nI (by omega) (by omega)), nI_clamp (by omega), nI_1] at e
    cases e
    refine ⟨S + 1, by simp [zs], by omega, by omega, fun k hk => ?_⟩
    obtain ⟨b1, b2, b3⟩ := a4 k hk
    exact ⟨by simp [zs, up_at, show ¬ k = S by omega]; exact b1, by simp [zs, up_at, show ¬ k = S by omega]; exact b2, by simp [zs, up_at, show ¬ k = S by omega]; exact b3⟩
  · rw [if_neg (show ¬ nI S < (1713 : Int32) from nI_nlt (b := 1713) (by omega) (by omega))] at e
    cases e
    exact ⟨S, a1, a2, a3, a4⟩
theorem kb_Ro_termEnd_25 (F : Nat) (σ : zS) (s0 : Int32) (h : KB nn0 zz0 σ) : pp (KB nn0 zz0) (Ro_termEnd_25 F σ s0) := by
  unfold Ro_termEnd_25
  repeat' (first | assumption | (with_reducible apply pq_ite) | (with_reducible apply pp_ite) | (with_reducible apply pq_gd) | (with_reducible apply pp_gd) | (with_reducible apply pq_bv) | (with_reducible apply pp_bv) | (with_reducible apply pq_bi) | (with_reducible apply pp_bi) | (with_reducible apply pq_some) | (with_reducible apply pp_some) | (with_reducible apply KB_si) | (with_reducible apply KB_sa) | (with_reducible apply KB_sA) | (with_reducible apply KB_sb) | (with_reducible apply KB_sl) | (with_reducible apply KB_sr) | (with_reducible apply KB_ti) | (with_reducible apply KB_ta) | (with_reducible apply KB_tA) | (with_reducible apply KB_tb) | (with_reducible apply KB_tB) | decide | (exact pp_none) | (exact pq_none) | (with_reducible apply pp_bl) | (with_reducible apply pq_bl) | (with_reducible apply pl_some) | (with_reducible apply pl_gd) | (intro _))
theorem kb_Ro_termEnd (F : Nat) (σ : zS) (x0 : Nat) (x1 : Int32) (h : KB nn0 zz0 σ) : pp (KB nn0 zz0) (Ro_termEnd F σ x0 x1) := by
  unfold Ro_termEnd
  repeat' (first | assumption | (with_reducible apply kb_Ro_termEnd_25) | (with_reducible apply pq_ite) | (with_reducible apply pp_ite) | (with_reducible apply pq_gd) | (with_reducible apply pp_gd) | (with_reducible apply pq_bv) | (with_reducible apply pp_bv) | (with_reducible apply pq_bi) | (with_reducible apply pp_bi) | (with_reducible apply pq_some) | (with_reducible apply pp_some) | (with_reducible apply KB_si) | (with_reducible apply KB_sa) | (with_reducible apply KB_sA) | (with_reducible apply KB_sb) | (with_reducible apply KB_sl) | (with_reducible apply KB_sr) | (with_reducible apply KB_ti) | (with_reducible apply KB_ta) | (with_reducible apply KB_tA) | (with_reducible apply KB_tb) | (with_reducible apply KB_tB) | decide | (exact pp_none) | (exact pq_none) | (with_reducible apply pp_bl) | (with_reducible apply pq_bl) | (with_reducible apply pl_some) | (with_reducible apply pl_gd) | (intro _))
theorem kb_Ro_fixedOf_29 (F : Nat) (σ : zS) (s0 : Int32) (h : KB nn0 zz0 σ) : pp (KB nn0 zz0) (Ro_fixedOf_29 F σ s0) := by
  unfold Ro_fixedOf_29
  repeat' (first | assumption | (with_reducible apply pq_ite) | (with_reducible apply pp_ite) | (with_reducible apply pq_gd) | (with_reducible apply pp_gd) | (with_reducible apply pq_bv) | (with_reducible apply pp_bv) | (with_reducible apply pq_bi) | (with_reducible apply pp_bi) | (with_reducible apply pq_some) | (with_reducible apply pp_some) | (with_reducible apply KB_si) | (with_reducible apply KB_sa) | (with_reducible apply KB_sA) | (with_reducible apply KB_sb) | (with_reducible apply KB_sl) | (with_reducible apply KB_sr) | (with_reducible apply KB_ti) | (with_reducible apply KB_ta) | (with_reducible apply KB_tA) | (with_reducible apply KB_tb) | (with_reducible apply KB_tB) | decide | (exact pp_none) | (exact pq_none) | (with_reducible apply pp_bl) | (with_reducible apply pq_bl) | (with_reducible apply pl_some) | (with_reducible apply pl_gd) | (intro _))
theorem kb_Ro_fixedOf (F : Nat) (σ : zS) (x0 : Nat) (x1 : Int32) (h : KB nn0 zz0 σ) : pp (KB nn0 zz0) (Ro_fixedOf F σ x0 x1) := by
  unfold Ro_fixedOf
  repeat' (first | assumption | (with_reducible apply kb_Ro_fixedOf_29) | (with_reducible apply pq_ite) | (with_reducible apply pp_ite) | (with_reducible apply pq_gd) | (with_reducible apply pp_gd) | (with_reducible apply pq_bv) | (with_reducible apply pp_bv) | (with_reducible apply pq_bi) | (with_reducible apply pp_bi) | (with_reducible apply pq_some) | (with_reducible apply pp_some) | (with_reducible apply KB_si) | (with_reducible apply KB_sa) | (with_reducible apply KB_sA) | (with_reducible apply KB_sb) | (with_reducible apply KB_sl) | (with_reducible apply KB_sr) | (with_reducible apply KB_ti) | (with_reducible apply KB_ta) | (with_reducible apply KB_tA) | (with_reducible apply KB_tb) | (with_reducible apply KB_tB) | decide | (exact pp_none) | (exact pq_none) | (with_reducible apply pp_bl) | (with_reducible apply pq_bl) | (with_reducible apply pl_some) | (with_reducible apply pl_gd) | (intro _))
theorem kb_Te_has_17 (F : Nat) (σ : zS) (s0 : Int32) (h : KB nn0 zz0 σ) : pp (KB nn0 zz0) (Te_has_17 F σ s0) := by
  unfold Te_has_17
  repeat' (first | assumption | (with_reducible apply pq_ite) | (with_reducible apply pp_ite) | (with_reducible apply pq_gd) | (with_reducible apply pp_gd) | (with_reducible apply pq_bv) | (with_reducible apply pp_bv) | (with_reducible apply pq_bi) | (with_reducible apply pp_bi) | (with_reducible apply pq_some) | (with_reducible apply pp_some) | (with_reducible apply KB_si) | (with_reducible apply KB_sa) | (with_reducible apply KB_sA) | (with_reducible apply KB_sb) | (with_reducible apply KB_sl) | (with_reducible apply KB_sr) | (with_reducible apply KB_ti) | (with_reducible apply KB_ta) | (with_reducible apply KB_tA) | (with_reducible apply KB_tb) | (with_reducible apply KB_tB) | decide | (exact pp_none) | (exact pq_none) | (with_reducible apply pp_bl) | (with_reducible apply pq_bl) | (with_reducible apply pl_some) | (with_reducible apply pl_gd) | (intro _))
theorem kb_Te_has_16 (F : Nat) (σ : zS) (h : KB nn0 zz0 σ) : pp (KB nn0 zz0) (Te_has_16 F σ) := by
  unfold Te_has_16
  repeat' (first | assumption | (with_reducible apply kb_Te_has_17) | (with_reducible apply pq_ite) | (with_reducible apply pp_ite) | (with_reducible apply pq_gd) | (with_reducible apply pp_gd) | (with_reducible apply pq_bv) | (with_reducible apply pp_bv) | (with_reducible apply pq_bi) | (with_reducible apply pp_bi) | (with_reducible apply pq_some) | (with_reducible apply pp_some) | (with_reducible apply KB_si) | (with_reducible apply KB_sa) | (with_reducible apply KB_sA) | (with_reducible apply KB_sb) | (with_reducible apply KB_sl) | (with_reducible apply KB_sr) | (with_reducible apply KB_ti) | (with_reducible apply KB_ta) | (with_reducible apply KB_tA) | (with_reducible apply KB_tb) | (with_reducible apply KB_tB) | decide | (exact pp_none) | (exact pq_none) | (with_reducible apply pp_bl) | (with_reducible apply pq_bl) | (with_reducible apply pl_some) | (with_reducible apply pl_gd) | (intro _))
theorem kb_Te_has (F : Nat) (σ : zS) (x1 : Int32) (h : KB nn0 zz0 σ) : pp (KB nn0 zz0) (Te_has F σ x1) := by
  unfold Te_has
  repeat' (first | assumption | (with_reducible apply kb_Te_has_16) | (with_reducible apply kb_Te_has_17) | (with_reducible apply pq_ite) | (with_reducible apply pp_ite) | (with_reducible apply pq_gd) | (with_reducible apply pp_gd) | (with_reducible apply pq_bv) | (with_reducible apply pp_bv) | (with_reducible apply pq_bi) | (with_reducible apply pp_bi) | (with_reducible apply pq_some) | (with_reducible apply pp_some) | (with_reducible apply KB_si) | (with_reducible apply KB_sa) | (with_reducible apply KB_sA) | (with_reducible apply KB_sb) | (with_reducible apply KB_sl) | (with_reducible apply KB_sr) | (with_reducible apply KB_ti) | (with_reducible apply KB_ta) | (with_reducible apply KB_tA) | (with_reducible apply KB_tb) | (with_reducible apply KB_tB) | decide | (exact pp_none) | (exact pq_none) | (with_reducible apply pp_bl) | (with_reducible apply pq_bl) | (with_reducible apply pl_some) | (with_reducible apply pl_gd) | (intro _))
theorem kb_Te_findType_33 (F : Nat) (rc2 : zS → Int64 → Int32 → Option (Int32 × zS)) (σ : zS) (x1 : Int64) (x3 : Int32) (hrc2 : ∀ y0 y1 y2, KB nn0 zz0 y0 → pp (KB nn0 zz0) (rc2 y0 y1 y2)) (h : KB nn0 zz0 σ) : pp (KB nn0 zz0) (Te_findType_33 F rc2 σ x1 x3) := by
  unfold Te_findType_33
  repeat' (first | assumption | (with_reducible apply hrc2) | (with_reducible apply pq_ite) | (with_reducible apply pp_ite) | (with_reducible apply pq_gd) | (with_reducible apply pp_gd) | (with_reducible apply pq_bv) | (with_reducible apply pp_bv) | (with_reducible apply pq_bi) | (with_reducible apply pp_bi) | (with_reducible apply pq_some) | (with_reducible apply pp_some) | (with_reducible apply KB_si) | (with_reducible apply KB_sa) | (with_reducible apply KB_sA) | (with_reducible apply KB_sb) | (with_reducible apply KB_sl) | (with_reducible apply KB_sr) | (with_reducible apply KB_ti) | (with_reducible apply KB_ta) | (with_reducible apply KB_tA) | (with_reducible apply KB_tb) | (with_reducible apply KB_tB) | decide | (exact pp_none) | (exact pq_none) | (with_reducible apply pp_bl) | (with_reducible apply pq_bl) | (with_reducible apply pl_some) | (with_reducible apply pl_gd) | (intro _))
theorem kb_Te_findType_b2 (F : Nat) (rc2 : zS → Int64 → Int32 → Option (Int32 × zS)) (σ : zS) (x1 : Int64) (x3 : Int32) (hrc2 : ∀ y0 y1 y2, KB nn0 zz0 y0 → pp (KB nn0 zz0) (rc2 y0 y1 y2)) (h : KB nn0 zz0 σ) : pp (KB nn0 zz0) (Te_findType_b2 F rc2 σ x1 x3) := by
  unfold Te_findType_b2
  repeat' (first | assumption | (with_reducible apply hrc2) | (with_reducible apply kb_Te_findType_33) | (with_reducible apply pq_ite) | (with_reducible apply pp_ite) | (with_reducible apply pq_gd) | (with_reducible apply pp_gd) | (with_reducible apply pq_bv) | (with_reducible apply pp_bv) | (with_reducible apply pq_bi) | (with_reducible apply pp_bi) | (with_reducible apply pq_some) | (with_reducible apply pp_some) | (with_reducible apply KB_si) | (with_reducible apply KB_sa) | (with_reducible apply KB_sA) | (with_reducible apply KB_sb) | (with_reducible apply KB_sl) | (with_reducible apply KB_sr) | (with_reducible apply KB_ti) | (with_reducible apply KB_ta) | (with_reducible apply KB_tA) | (with_reducible apply KB_tb) | (with_reducible apply KB_tB) | decide | (exact pp_none) | (exact pq_none) | (with_reducible apply pp_bl) | (with_reducible apply pq_bl) | (with_reducible apply pl_some) | (with_reducible apply pl_gd) | (intro _))
theorem kb_Te_findType_2 (F : Nat) : ∀ (n : Nat) (a0 : zS) (a1 : Int64) (a2 : Int32), KB nn0 zz0 a0 → pp (KB nn0 zz0) (Te_findType_2 F n a0 a1 a2)
  | 0, _, _, _, _ => pp_none
  | n + 1, a0, a1, a2, h => kb_Te_findType_b2 F (Te_findType_2 F n) a0 a1 a2  (kb_Te_findType_2 F  n) h
theorem kb_Te_findType (F : Nat) (σ : zS) (x1 : Int64) (h : KB nn0 zz0 σ) : pp (KB nn0 zz0) (Te_findType F σ x1) := by
  unfold Te_findType
  repeat' (first | assumption | (with_reducible apply kb_Te_findType_2) | (with_reducible apply pq_ite) | (with_reducible apply pp_ite) | (with_reducible apply pq_gd) | (with_reducible apply pp_gd) | (with_reducible apply pq_bv) | (with_reducible apply pp_bv) | (with_reducible apply pq_bi) | (with_reducible apply pp_bi) | (with_reducible apply pq_some) | (with_reducible apply pp_some) | (with_reducible apply KB_si) | (with_reducible apply KB_sa) | (with_reducible apply KB_sA) | (with_reducible apply KB_sb) | (with_reducible apply KB_sl) | (with_reducible apply KB_sr) | (with_reducible apply KB_ti) | (with_reducible apply KB_ta) | (with_reducible apply KB_tA) | (with_reducible apply KB_tb) | (with_reducible apply KB_tB) | decide | (exact pp_none) | (exact pq_none) | (with_reducible apply pp_bl) | (with_reducible apply pq_bl) | (with_reducible apply pl_some) | (with_reducible apply pl_gd) | (intro _))
theorem kb_Te_findDeclared_b2 (F : Nat) (rc2 : zS → Int64 → Int32 → Option (Int32 × zS)) (σ : zS) (x1 : Int64) (x3 : Int32) (hrc2 : ∀ y0 y1 y2, KB nn0 zz0 y0 → pp (KB nn0 zz0) (rc2 y0 y1 y2)) (h : KB nn0 zz0 σ) : pp (KB nn0 zz0) (Te_findDeclared_b2 F rc2 σ x1 x3) := by
  unfold Te_findDeclared_b2
  repeat' (first | assumption | (with_reducible apply hrc2) | (with_reducible apply pq_ite) | (with_reducible apply pp_ite) | (with_reducible apply pq_gd) | (with_reducible apply pp_gd) | (with_reducible apply pq_bv) | (with_reducible apply pp_bv) | (with_reducible apply pq_bi) | (with_reducible apply pp_bi) | (with_reducible apply pq_some) | (with_reducible apply pp_some) | (with_reducible apply KB_si) | (with_reducible apply KB_sa) | (with_reducible apply KB_sA) | (with_reducible apply KB_sb) | (with_reducible apply KB_sl) | (with_reducible apply KB_sr) | (with_reducible apply KB_ti) | (with_reducible apply KB_ta) | (with_reducible apply KB_tA) | (with_reducible apply KB_tb) | (with_reducible apply KB_tB) | decide | (exact pp_none) | (exact pq_none) | (with_reducible apply pp_bl) | (with_reducible apply pq_bl) | (with_reducible apply pl_some) | (with_reducible apply pl_gd) | (intro _))
theorem kb_Te_findDeclared_2 (F : Nat) : ∀ (n : Nat) (a0 : zS) (a1 : Int64) (a2 : Int32), KB nn0 zz0 a0 → pp (KB nn0 zz0) (Te_findDeclared_2 F n a0 a1 a2)
  | 0, _, _, _, _ => pp_none
  | n + 1, a0, a1, a2, h => kb_Te_findDeclared_b2 F (Te_findDeclared_2 F n) a0 a1 a2  (kb_Te_findDeclared_2 F  n) h
theorem kb_Te_findDeclared (F : Nat) (σ : zS) (x1 : Int64) (h : KB nn0 zz0 σ) : pp (KB nn0 zz0) (Te_findDeclared F σ x1) := by
  unfold Te_findDeclared
  repeat' (first | assumption | (with_reducible apply kb_Te_findDeclared_2) | (with_reducible apply pq_ite) | (with_reducible apply pp_ite) | (with_reducible apply pq_gd) | (with_reducible apply pp_gd) | (with_reducible apply pq_bv) | (with_reducible apply pp_bv) | (with_reducible apply pq_bi) | (with_reducible apply pp_bi) | (with_reducible apply pq_some) | (with_reducible apply pp_some) | (with_reducible apply KB_si) | (with_reducible apply KB_sa) | (with_reducible apply KB_sA) | (with_reducible apply KB_sb) | (with_reducible apply KB_sl) | (with_reducible apply KB_sr) | (with_reducible apply KB_ti) | (with_reducible apply KB_ta) | (with_reducible apply KB_tA) | (with_reducible apply KB_tb) | (with_reducible apply KB_tB) | decide | (exact pp_none) | (exact pq_none) | (with_reducible apply pp_bl) | (with_reducible apply pq_bl) | (with_reducible apply pl_some) | (with_reducible apply pl_gd) | (intro _))
theorem kb_Te_findParam_b3 (F : Nat) (rc3 : zS → Int32 → Int64 → Int32 → Option (Int32 × zS)) (σ : zS) (x1 : Int32) (x2 : Int64) (x4 : Int32) (hrc3 : ∀ y0 y1 y2 y3, KB nn0 zz0 y0 → pp (KB nn0 zz0) (rc3 y0 y1 y2 y3)) (h : KB nn0 zz0 σ) : pp (KB nn0 zz0) (Te_findParam_b3 F rc3 σ x1 x2 x4) := by
  unfold Te_findParam_b3
  repeat' (first | assumption | (with_reducible apply hrc3) | (with_reducible apply pq_ite) | (with_reducible apply pp_ite) | (with_reducible apply pq_gd) | (with_reducible apply pp_gd) | (with_reducible apply pq_bv) | (with_reducible apply pp_bv) | (with_reducible apply pq_bi) | (with_reducible apply pp_bi) | (with_reducible apply pq_some) | (with_reducible apply pp_some) | (with_reducible apply KB_si) | (with_reducible apply KB_sa) | (with_reducible apply KB_sA) | (with_reducible apply KB_sb) | (with_reducible apply KB_sl) | (with_reducible apply KB_sr) | (with_reducible apply KB_ti) | (with_reducible apply KB_ta) | (with_reducible apply KB_tA) | (with_reducible apply KB_tb) | (with_reducible apply KB_tB) | decide | (exact pp_none) | (exact pq_none) | (with_reducible apply pp_bl) | (with_reducible apply pq_bl) | (with_reducible apply pl_some) | (with_reducible apply pl_gd) | (intro _))
theorem kb_Te_findParam_3 (F : Nat) : ∀ (n : Nat) (a0 : zS) (a1 : Int32) (a2 : Int64) (a3 : Int32), KB nn0 zz0 a0 → pp (KB nn0 zz0) (Te_findParam_3 F n a0 a1 a2 a3)
  | 0, _, _, _, _, _ => pp_none
  | n + 1, a0, a1, a2, a3, h => kb_Te_findParam_b3 F (Te_findParam_3 F n) a0 a1 a2 a3  (kb_Te_findParam_3 F  n) h
theorem kb_Te_findParam (F : Nat) (σ : zS) (x1 : Int32) (x2 : Int64) (h : KB nn0 zz0 σ) : pp (KB nn0 zz0) (Te_findParam F σ x1 x2) := by
  unfold Te_findParam
  repeat' (first | assumption | (with_reducible apply kb_Te_findParam_3) | (with_reducible apply pq_ite) | (with_reducible apply pp_ite) | (with_reducible apply pq_gd) | (with_reducible apply pp_gd) | (with_reducible apply pq_bv) | (with_reducible apply pp_bv) | (with_reducible apply pq_bi) | (with_reducible apply pp_bi) | (with_reducible apply pq_some) | (with_reducible apply pp_some) | (with_reducible apply KB_si) | (with_reducible apply KB_sa) | (with_reducible apply KB_sA) | (with_reducible apply KB_sb) | (with_reducible apply KB_sl) | (with_reducible apply KB_sr) | (with_reducible apply KB_ti) | (with_reducible apply KB_ta) | (with_reducible apply KB_tA) | (with_reducible apply KB_tb) | (with_reducible apply KB_tB) | decide | (exact pp_none) | (exact pq_none) | (with_reducible apply pp_bl) | (with_reducible apply pq_bl) | (with_reducible apply pl_some) | (with_reducible apply pl_gd) | (intro _))
theorem kb_So_equate_50 (F : Nat) (σ : zS) (h : KB nn0 zz0 σ) : pq (KB nn0 zz0) (So_equate_50 F σ) := by
  unfold So_equate_50
  repeat' (first | assumption | (with_reducible apply pq_ite) | (with_reducible apply pp_ite) | (with_reducible apply pq_gd) | (with_reducible apply pp_gd) | (with_reducible apply pq_bv) | (with_reducible apply pp_bv) | (with_reducible apply pq_bi) | (with_reducible apply pp_bi) | (with_reducible apply pq_some) | (with_reducible apply pp_some) | (with_reducible apply KB_si) | (with_reducible apply KB_sa) | (with_reducible apply KB_sA) | (with_reducible apply KB_sb) | (with_reducible apply KB_sl) | (with_reducible apply KB_sr) | (with_reducible apply KB_ti) | (with_reducible apply KB_ta) | (with_reducible apply KB_tA) | (with_reducible apply KB_tb) | (with_reducible apply KB_tB) | decide | (exact pp_none) | (exact pq_none) | (with_reducible apply pp_bl) | (with_reducible apply pq_bl) | (with_reducible apply pl_some) | (with_reducible apply pl_gd) | (intro _))
theorem kb_So_equate (F : Nat) (σ : zS) (x1 : Int32) (x2 : Int32) (x3 : Int32) (h : KB nn0 zz0 σ) : pq (KB nn0 zz0) (So_equate F σ x1 x2 x3) := by
  unfold So_equate
  repeat' (first | assumption | (with_reducible apply kb_So_equate_50) | (with_reducible apply pq_ite) | (with_reducible apply pp_ite) | (with_reducible apply pq_gd) | (with_reducible apply pp_gd) | (with_reducible apply pq_bv) | (with_reducible apply pp_bv) | (with_reducible apply pq_bi) | (with_reducible apply pp_bi) | (with_reducible apply pq_some) | (with_reducible apply pp_some) | (with_reducible apply KB_si) | (with_reducible apply KB_sa) | (with_reducible apply KB_sA) | (with_reducible apply KB_sb) | (with_reducible apply KB_sl) | (with_reducible apply KB_sr) | (with_reducible apply KB_ti) | (with_reducible apply KB_ta) | (with_reducible apply KB_tA) | (with_reducible apply KB_tb) | (with_reducible apply KB_tB) | decide | (exact pp_none) | (exact pq_none) | (with_reducible apply pp_bl) | (with_reducible apply pq_bl) | (with_reducible apply pl_some) | (with_reducible apply pl_gd) | (intro _))
theorem kb_So_joinFrame_69 (F : Nat) (σ : zS) (x2 : Int32) (h : KB nn0 zz0 σ) : pq (KB nn0 zz0) (So_joinFrame_69 F σ x2) := by
  unfold So_joinFrame_69
  repeat' (first | assumption | (with_reducible apply pq_ite) | (with_reducible apply pp_ite) | (with_reducible apply pq_gd) | (with_reducible apply pp_gd) | (with_reducible apply pq_bv) | (with_reducible apply pp_bv) | (with_reducible apply pq_bi) | (with_reducible apply pp_bi) | (with_reducible apply pq_some) | (with_reducible apply pp_some) | (with_reducible apply KB_si) | (with_reducible apply KB_sa) | (with_reducible apply KB_sA) | (with_reducible apply KB_sb) | (with_reducible apply KB_sl) | (with_reducible apply KB_sr) | (with_reducible apply KB_ti) | (with_reducible apply KB_ta) | (with_reducible apply KB_tA) | (with_reducible apply KB_tb) | (with_reducible apply KB_tB) | decide | (exact pp_none) | (exact pq_none) | (with_reducible apply pp_bl) | (with_reducible apply pq_bl) | (with_reducible apply pl_some) | (with_reducible apply pl_gd) | (intro _))
theorem kb_So_joinFrame (F : Nat) (σ : zS) (x1 : Nat) (x2 : Int32) (x3 : Int32) (x4 : Int32) (h : KB nn0 zz0 σ) : pq (KB nn0 zz0) (So_joinFrame F σ x1 x2 x3 x4) := by
  unfold So_joinFrame
  repeat' (first | assumption | (with_reducible apply kb_Ro_fixedOf) | (with_reducible apply kb_Ki_makeOpen) | (with_reducible apply kb_Ki_makeArrow) | (with_reducible apply kb_So_equate) | (with_reducible apply kb_So_joinFrame_69) | (with_reducible apply pq_ite) | (with_reducible apply pp_ite) | (with_reducible apply pq_gd) | (with_reducible apply pp_gd) | (with_reducible apply pq_bv) | (with_reducible apply pp_bv) | (with_reducible apply pq_bi) | (with_reducible apply pp_bi) | (with_reducible apply pq_some) | (with_reducible apply pp_some) | (with_reducible apply KB_si) | (with_reducible apply KB_sa) | (with_reducible apply KB_sA) | (with_reducible apply KB_sb) | (with_reducible apply KB_sl) | (with_reducible apply KB_sr) | (with_reducible apply KB_ti) | (with_reducible apply KB_ta) | (with_reducible apply KB_tA) | (with_reducible apply KB_tb) | (with_reducible apply KB_tB) | decide | (exact pp_none) | (exact pq_none) | (with_reducible apply pp_bl) | (with_reducible apply pq_bl) | (with_reducible apply pl_some) | (with_reducible apply pl_gd) | (intro _))
theorem kb_So_closeFrames_111 (F : Nat) (σ : zS) (h : KB nn0 zz0 σ) : pq (KB nn0 zz0) (So_closeFrames_111 F σ) := by
  unfold So_closeFrames_111
  repeat' (first | assumption | (with_reducible apply pq_ite) | (with_reducible apply pp_ite) | (with_reducible apply pq_gd) | (with_reducible apply pp_gd) | (with_reducible apply pq_bv) | (with_reducible apply pp_bv) | (with_reducible apply pq_bi) | (with_reducible apply pp_bi) | (with_reducible apply pq_some) | (with_reducible apply pp_some) | (with_reducible apply KB_si) | (with_reducible apply KB_sa) | (with_reducible apply KB_sA) | (with_reducible apply KB_sb) | (with_reducible apply KB_sl) | (with_reducible apply KB_sr) | (with_reducible apply KB_ti) | (with_reducible apply KB_ta) | (with_reducible apply KB_tA) | (with_reducible apply KB_tb) | (with_reducible apply KB_tB) | decide | (exact pp_none) | (exact pq_none) | (with_reducible apply pp_bl) | (with_reducible apply pq_bl) | (with_reducible apply pl_some) | (with_reducible apply pl_gd) | (intro _))
theorem kb_So_closeFrames_105 (F : Nat) (rc2 : zS → Nat → Int32 → Option zS) (σ : zS) (x1 : Nat) (x2 : Int32) (hrc2 : ∀ y0 y1 y2, KB nn0 zz0 y0 → pq (KB nn0 zz0) (rc2 y0 y1 y2)) (h : KB nn0 zz0 σ) : pq (KB nn0 zz0) (So_closeFrames_105 F rc2 σ x1 x2) := by
  unfold So_closeFrames_105
  repeat' (first | assumption | (with_reducible apply hrc2) | (with_reducible apply pq_ite) | (with_reducible apply pp_ite) | (with_reducible apply pq_gd) | (with_reducible apply pp_gd) | (with_reducible apply pq_bv) | (with_reducible apply pp_bv) | (with_reducible apply pq_bi) | (with_reducible apply pp_bi) | (with_reducible apply pq_some) | (with_reducible apply pp_some) | (with_reducible apply KB_si) | (with_reducible apply KB_sa) | (with_reducible apply KB_sA) | (with_reducible apply KB_sb) | (with_reducible apply KB_sl) | (with_reducible apply KB_sr) | (with_reducible apply KB_ti) | (with_reducible apply KB_ta) | (with_reducible apply KB_tA) | (with_reducible apply KB_tb) | (with_reducible apply KB_tB) | decide | (exact pp_none) | (exact pq_none) | (with_reducible apply pp_bl) | (with_reducible apply pq_bl) | (with_reducible apply pl_some) | (with_reducible apply pl_gd) | (intro _))
theorem kb_So_closeFrames_b2 (F : Nat) (rc2 : zS → Nat → Int32 → Option zS) (σ : zS) (x1 : Nat) (x2 : Int32) (hrc2 : ∀ y0 y1 y2, KB nn0 zz0 y0 → pq (KB nn0 zz0) (rc2 y0 y1 y2)) (h : KB nn0 zz0 σ) : pq (KB nn0 zz0) (So_closeFrames_b2 F rc2 σ x1 x2) := by
  unfold So_closeFrames_b2
  repeat' (first | assumption | (with_reducible apply hrc2) | (with_reducible apply kb_So_closeFrames_111) | (with_reducible apply kb_So_closeFrames_105) | (with_reducible apply kb_So_joinFrame) | (with_reducible apply pq_ite) | (with_reducible apply pp_ite) | (with_reducible apply pq_gd) | (with_reducible apply pp_gd) | (with_reducible apply pq_bv) | (with_reducible apply pp_bv) | (with_reducible apply pq_bi) | (with_reducible apply pp_bi) | (with_reducible apply pq_some) | (with_reducible apply pp_some) | (with_reducible apply KB_si) | (with_reducible apply KB_sa) | (with_reducible apply KB_sA) | (with_reducible apply KB_sb) | (with_reducible apply KB_sl) | (with_reducible apply KB_sr) | (with_reducible apply KB_ti) | (with_reducible apply KB_ta) | (with_reducible apply KB_tA) | (with_reducible apply KB_tb) | (with_reducible apply KB_tB) | decide | (exact pp_none) | (exact pq_none) | (with_reducible apply pp_bl) | (with_reducible apply pq_bl) | (with_reducible apply pl_some) | (with_reducible apply pl_gd) | (intro _))
theorem kb_So_closeFrames_2 (F : Nat) : ∀ (n : Nat) (a0 : zS) (a1 : Nat) (a2 : Int32), KB nn0 zz0 a0 → pq (KB nn0 zz0) (So_closeFrames_2 F n a0 a1 a2)
  | 0, _, _, _, _ => pq_none
  | n + 1, a0, a1, a2, h => kb_So_closeFrames_b2 F (So_closeFrames_2 F n) a0 a1 a2  (kb_So_closeFrames_2 F  n) h
theorem kb_So_closeFrames (F : Nat) (σ : zS) (x1 : Nat) (h : KB nn0 zz0 σ) : pq (KB nn0 zz0) (So_closeFrames F σ x1) := by
  unfold So_closeFrames
  repeat' (first | assumption | (with_reducible apply kb_So_closeFrames_2) | (with_reducible apply pq_ite) | (with_reducible apply pp_ite) | (with_reducible apply pq_gd) | (with_reducible apply pp_gd) | (with_reducible apply pq_bv) | (with_reducible apply pp_bv) | (with_reducible apply pq_bi) | (with_reducible apply pp_bi) | (with_reducible apply pq_some) | (with_reducible apply pp_some) | (with_reducible apply KB_si) | (with_reducible apply KB_sa) | (with_reducible apply KB_sA) | (with_reducible apply KB_sb) | (with_reducible apply KB_sl) | (with_reducible apply KB_sr) | (with_reducible apply KB_ti) | (with_reducible apply KB_ta) | (with_reducible apply KB_tA) | (with_reducible apply KB_tb) | (with_reducible apply KB_tB) | decide | (exact pp_none) | (exact pq_none) | (with_reducible apply pp_bl) | (with_reducible apply pq_bl) | (with_reducible apply pl_some) | (with_reducible apply pl_gd) | (intro _))
theorem kb_So_freeKind_82 (F : Nat) (σ : zS) (x3 : Int32) (h : KB nn0 zz0 σ) : pp (KB nn0 zz0) (So_freeKind_82 F σ x3) := by
  unfold So_freeKind_82
  repeat' (first | assumption | (with_reducible apply pq_ite) | (with_reducible apply pp_ite) | (with_reducible apply pq_gd) | (with_reducible apply pp_gd) | (with_reducible apply pq_bv) | (with_reducible apply pp_bv) | (with_reducible apply pq_bi) | (with_reducible apply pp_bi) | (with_reducible apply pq_some) | (with_reducible apply pp_some) | (with_reducible apply KB_si) | (with_reducible apply KB_sa) | (with_reducible apply KB_sA) | (with_reducible apply KB_sb) | (with_reducible apply KB_sl) | (with_reducible apply KB_sr) | (with_reducible apply KB_ti) | (with_reducible apply KB_ta) | (with_reducible apply KB_tA) | (with_reducible apply KB_tb) | (with_reducible apply KB_tB) | decide | (exact pp_none) | (exact pq_none) | (with_reducible apply pp_bl) | (with_reducible apply pq_bl) | (with_reducible apply pl_some) | (with_reducible apply pl_gd) | (intro _))
theorem kb_So_freeKind_b2 (F : Nat) (rc2 : zS → Int64 → Int32 → Option (Int32 × zS)) (σ : zS) (x1 : Int64) (x3 : Int32) (hrc2 : ∀ y0 y1 y2, KB nn0 zz0 y0 → pp (KB nn0 zz0) (rc2 y0 y1 y2)) (h : KB nn0 zz0 σ) : pp (KB nn0 zz0) (So_freeKind_b2 F rc2 σ x1 x3) := by
  unfold So_freeKind_b2
  repeat' (first | assumption | (with_reducible apply hrc2) | (with_reducible apply kb_Ki_makeOpen) | (with_reducible apply kb_So_freeKind_82) | (with_reducible apply pq_ite) | (with_reducible apply pp_ite) | (with_reducible apply pq_gd) | (with_reducible apply pp_gd) | (with_reducible apply pq_bv) | (with_reducible apply pp_bv) | (with_reducible apply pq_bi) | (with_reducible apply pp_bi) | (with_reducible apply pq_some) | (with_reducible apply pp_some) | (with_reducible apply KB_si) | (with_reducible apply KB_sa) | (with_reducible apply KB_sA) | (with_reducible apply KB_sb) | (with_reducible apply KB_sl) | (with_reducible apply KB_sr) | (with_reducible apply KB_ti) | (with_reducible apply KB_ta) | (with_reducible apply KB_tA) | (with_reducible apply KB_tb) | (with_reducible apply KB_tB) | decide | (exact pp_none) | (exact pq_none) | (with_reducible apply pp_bl) | (with_reducible apply pq_bl) | (with_reducible apply pl_some) | (with_reducible apply pl_gd) | (intro _))
theorem kb_So_freeKind_2 (F : Nat) : ∀ (n : Nat) (a0 : zS) (a1 : Int64) (a2 : Int32), KB nn0 zz0 a0 → pp (KB nn0 zz0) (So_freeKind_2 F n a0 a1 a2)
  | 0, _, _, _, _ => pp_none
  | n + 1, a0, a1, a2, h => kb_So_freeKind_b2 F (So_freeKind_2 F n) a0 a1 a2  (kb_So_freeKind_2 F  n) h
theorem kb_So_freeKind (F : Nat) (σ : zS) (x1 : Int64) (h : KB nn0 zz0 σ) : pp (KB nn0 zz0) (So_freeKind F σ x1) := by
  unfold So_freeKind
  repeat' (first | assumption | (with_reducible apply kb_So_freeKind_2) | (with_reducible apply pq_ite) | (with_reducible apply pp_ite) | (with_reducible apply pq_gd) | (with_reducible apply pp_gd) | (with_reducible apply pq_bv) | (with_reducible apply pp_bv) | (with_reducible apply pq_bi) | (with_reducible apply pp_bi) | (with_reducible apply pq_some) | (with_reducible apply pp_some) | (with_reducible apply KB_si) | (with_reducible apply KB_sa) | (with_reducible apply KB_sA) | (with_reducible apply KB_sb) | (with_reducible apply KB_sl) | (with_reducible apply KB_sr) | (with_reducible apply KB_ti) | (with_reducible apply KB_ta) | (with_reducible apply KB_tA) | (with_reducible apply KB_tb) | (with_reducible apply KB_tB) | decide | (exact pp_none) | (exact pq_none) | (with_reducible apply pp_bl) | (with_reducible apply pq_bl) | (with_reducible apply pl_some) | (with_reducible apply pl_gd) | (intro _))
theorem kb_So_startKind_116 (F : Nat) (σ : zS) (s0 : Int32) (h : KB nn0 zz0 σ) : pp (KB nn0 zz0) (So_startKind_116 F σ s0) := by
  unfold So_startKind_116
  repeat' (first | assumption | (with_reducible apply pq_ite) | (with_reducible apply pp_ite) | (with_reducible apply pq_gd) | (with_reducible apply pp_gd) | (with_reducible apply pq_bv) | (with_reducible apply pp_bv) | (with_reducible apply pq_bi) | (with_reducible apply pp_bi) | (with_reducible apply pq_some) | (with_reducible apply pp_some) | (with_reducible apply KB_si) | (with_reducible apply KB_sa) | (with_reducible apply KB_sA) | (with_reducible apply KB_sb) | (with_reducible apply KB_sl) | (with_reducible apply KB_sr) | (with_reducible apply KB_ti) | (with_reducible apply KB_ta) | (with_reducible apply KB_tA) | (with_reducible apply KB_tb) | (with_reducible apply KB_tB) | decide | (exact pp_none) | (exact pq_none) | (with_reducible apply pp_bl) | (with_reducible apply pq_bl) | (with_reducible apply pl_some) | (with_reducible apply pl_gd) | (intro _))
theorem kb_So_startKind_86 (F : Nat) (σ : zS) (x3 : Int32) (x4 : Int64) (s0 : Int32) (h : KB nn0 zz0 σ) : pp (KB nn0 zz0) (So_startKind_86 F σ x3 x4 s0) := by
  unfold So_startKind_86
  repeat' (first | assumption | (with_reducible apply kb_So_startKind_116) | (with_reducible apply kb_So_freeKind) | (with_reducible apply pq_ite) | (with_reducible apply pp_ite) | (with_reducible apply pq_gd) | (with_reducible apply pp_gd) | (with_reducible apply pq_bv) | (with_reducible apply pp_bv) | (with_reducible apply pq_bi) | (with_reducible apply pp_bi) | (with_reducible apply pq_some) | (with_reducible apply pp_some) | (with_reducible apply KB_si) | (with_reducible apply KB_sa) | (with_reducible apply KB_sA) | (with_reducible apply KB_sb) | (with_reducible apply KB_sl) | (with_reducible apply KB_sr) | (with_reducible apply KB_ti) | (with_reducible apply KB_ta) | (with_reducible apply KB_tA) | (with_reducible apply KB_tb) | (with_reducible apply KB_tB) | decide | (exact pp_none) | (exact pq_none) | (with_reducible apply pp_bl) | (with_reducible apply pq_bl) | (with_reducible apply pl_some) | (with_reducible apply pl_gd) | (intro _))
theorem kb_So_startKind_48 (F : Nat) (σ : zS) (s0 : Int32) (h : KB nn0 zz0 σ) : pp (KB nn0 zz0) (So_startKind_48 F σ s0) := by
  unfold So_startKind_48
  repeat' (first | assumption | (with_reducible apply pq_ite) | (with_reducible apply pp_ite) | (with_reducible apply pq_gd) | (with_reducible apply pp_gd) | (with_reducible apply pq_bv) | (with_reducible apply pp_bv) | (with_reducible apply pq_bi) | (with_reducible apply pp_bi) | (with_reducible apply pq_some) | (with_reducible apply pp_some) | (with_reducible apply KB_si) | (with_reducible apply KB_sa) | (with_reducible apply KB_sA) | (with_reducible apply KB_sb) | (with_reducible apply KB_sl) | (with_reducible apply KB_sr) | (with_reducible apply KB_ti) | (with_reducible apply KB_ta) | (with_reducible apply KB_tA) | (with_reducible apply KB_tb) | (with_reducible apply KB_tB) | decide | (exact pp_none) | (exact pq_none) | (with_reducible apply pp_bl) | (with_reducible apply pq_bl) | (with_reducible apply pl_some) | (with_reducible apply pl_gd) | (intro _))
theorem kb_So_startKind (F : Nat) (σ : zS) (x1 : Nat) (x2 : Int32) (x3 : Int32) (h : KB nn0 zz0 σ) : pp (KB nn0 zz0) (So_startKind F σ x1 x2 x3) := by
  unfold So_startKind
  repeat' (first | assumption | (with_reducible apply kb_Te_findType) | (with_reducible apply kb_So_startKind_48) | (with_reducible apply kb_Te_has) | (with_reducible apply kb_So_startKind_86) | (with_reducible apply kb_Te_findParam) | (with_reducible apply pq_ite) | (with_reducible apply pp_ite) | (with_reducible apply pq_gd) | (with_reducible apply pp_gd) | (with_reducible apply pq_bv) | (with_reducible apply pp_bv) | (with_reducible apply pq_bi) | (with_reducible apply pp_bi) | (with_reducible apply pq_some) | (with_reducible apply pp_some) | (with_reducible apply KB_si) | (with_reducible apply KB_sa) | (with_reducible apply KB_sA) | (with_reducible apply KB_sb) | (with_reducible apply KB_sl) | (with_reducible apply KB_sr) | (with_reducible apply KB_ti) | (with_reducible apply KB_ta) | (with_reducible apply KB_tA) | (with_reducible apply KB_tb) | (with_reducible apply KB_tB) | decide | (exact pp_none) | (exact pq_none) | (with_reducible apply pp_bl) | (with_reducible apply pq_bl) | (with_reducible apply pl_some) | (with_reducible apply pl_gd) | (intro _))
theorem kb_So_listTerm_108 (F : Nat) (σ : zS) (h : KB nn0 zz0 σ) : pq (KB nn0 zz0) (So_listTerm_108 F σ) := by
  unfold So_listTerm_108
  repeat' (first | assumption | (with_reducible apply pq_ite) | (with_reducible apply pp_ite) | (with_reducible apply pq_gd) | (with_reducible apply pp_gd) | (with_reducible apply pq_bv) | (with_reducible apply pp_bv) | (with_reducible apply pq_bi) | (with_reducible apply pp_bi) | (with_reducible apply pq_some) | (with_reducible apply pp_some) | (with_reducible apply KB_si) | (with_reducible apply KB_sa) | (with_reducible apply KB_sA) | (with_reducible apply KB_sb) | (with_reducible apply KB_sl) | (with_reducible apply KB_sr) | (with_reducible apply KB_ti) | (with_reducible apply KB_ta) | (with_reducible apply KB_tA) | (with_reducible apply KB_tb) | (with_reducible apply KB_tB) | decide | (exact pp_none) | (exact pq_none) | (with_reducible apply pp_bl) | (with_reducible apply pq_bl) | (with_reducible apply pl_some) | (with_reducible apply pl_gd) | (intro _))
theorem kb_So_listTerm_b32 (F : Nat) (rc32 : zS → Nat → Int32 → Int32 → Int32 → Option zS) (σ : zS) (x1 : Nat) (x3 : Int32) (x4 : Int32) (x5 : Int32) (hrc32 : ∀ y0 y1 y2 y3 y4, KB nn0 zz0 y0 → pq (KB nn0 zz0) (rc32 y0 y1 y2 y3 y4)) (h : KB nn0 zz0 σ) : pq (KB nn0 zz0) (So_listTerm_b32 F rc32 σ x1 x3 x4 x5) := by
  unfold So_listTerm_b32
  repeat' (first | assumption | (with_reducible apply hrc32) | (with_reducible apply kb_So_listTerm_108) | (with_reducible apply kb_So_startKind) | (with_reducible apply kb_So_closeFrames) | (with_reducible apply pq_ite) | (with_reducible apply pp_ite) | (with_reducible apply pq_gd) | (with_reducible apply pp_gd) | (with_reducible apply pq_bv) | (with_reducible apply pp_bv) | (with_reducible apply pq_bi) | (with_reducible apply pp_bi) | (with_reducible apply pq_some) | (with_reducible apply pp_some) | (with_reducible apply KB_si) | (with_reducible apply KB_sa) | (with_reducible apply KB_sA) | (with_reducible apply KB_sb) | (with_reducible apply KB_sl) | (with_reducible apply KB_sr) | (with_reducible apply KB_ti) | (with_reducible apply KB_ta) | (with_reducible apply KB_tA) | (with_reducible apply KB_tb) | (with_reducible apply KB_tB) | decide | (exact pp_none) | (exact pq_none) | (with_reducible apply pp_bl) | (with_reducible apply pq_bl) | (with_reducible apply pl_some) | (with_reducible apply pl_gd) | (intro _))
theorem kb_So_listTerm_32 (F : Nat) : ∀ (n : Nat) (a0 : zS) (a1 : Nat) (a2 : Int32) (a3 : Int32) (a4 : Int32), KB nn0 zz0 a0 → pq (KB nn0 zz0) (So_listTerm_32 F n a0 a1 a2 a3 a4)
  | 0, _, _, _, _, _, _ => pq_none
  | n + 1, a0, a1, a2, a3, a4, h => kb_So_listTerm_b32 F (So_listTerm_32 F n) a0 a1 a2 a3 a4  (kb_So_listTerm_32 F  n) h
theorem kb_So_listTerm (F : Nat) (σ : zS) (x1 : Nat) (x2 : Int32) (h : KB nn0 zz0 σ) : pq (KB nn0 zz0) (So_listTerm F σ x1 x2) := by
  unfold So_listTerm
  repeat' (first | assumption | (with_reducible apply kb_Ro_termEnd) | (with_reducible apply kb_So_listTerm_32) | (with_reducible apply pq_ite) | (with_reducible apply pp_ite) | (with_reducible apply pq_gd) | (with_reducible apply pp_gd) | (with_reducible apply pq_bv) | (with_reducible apply pp_bv) | (with_reducible apply pq_bi) | (with_reducible apply pp_bi) | (with_reducible apply pq_some) | (with_reducible apply pp_some) | (with_reducible apply KB_si) | (with_reducible apply KB_sa) | (with_reducible apply KB_sA) | (with_reducible apply KB_sb) | (with_reducible apply KB_sl) | (with_reducible apply KB_sr) | (with_reducible apply KB_ti) | (with_reducible apply KB_ta) | (with_reducible apply KB_tA) | (with_reducible apply KB_tb) | (with_reducible apply KB_tB) | decide | (exact pp_none) | (exact pq_none) | (with_reducible apply pp_bl) | (with_reducible apply pq_bl) | (with_reducible apply pl_some) | (with_reducible apply pl_gd) | (intro _))
theorem kb_So_listMembers_82 (F : Nat) (rc10 : zS → Int32 → Nat → Int32 → Option zS) (σ : zS) (x1 : Int32) (x2 : Nat) (x3 : Int32) (hrc10 : ∀ y0 y1 y2 y3, KB nn0 zz0 y0 → pq (KB nn0 zz0) (rc10 y0 y1 y2 y3)) (h : KB nn0 zz0 σ) : pq (KB nn0 zz0) (So_listMembers_82 F rc10 σ x1 x2 x3) := by
  unfold So_listMembers_82
  repeat' (first | assumption | (with_reducible apply hrc10) | (with_reducible apply pq_ite) | (with_reducible apply pp_ite) | (with_reducible apply pq_gd) | (with_reducible apply pp_gd) | (with_reducible apply pq_bv) | (with_reducible apply pp_bv) | (with_reducible apply pq_bi) | (with_reducible apply pp_bi) | (with_reducible apply pq_some) | (with_reducible apply pp_some) | (with_reducible apply KB_si) | (with_reducible apply KB_sa) | (with_reducible apply KB_sA) | (with_reducible apply KB_sb) | (with_reducible apply KB_sl) | (with_reducible apply KB_sr) | (with_reducible apply KB_ti) | (with_reducible apply KB_ta) | (with_reducible apply KB_tA) | (with_reducible apply KB_tb) | (with_reducible apply KB_tB) | decide | (exact pp_none) | (exact pq_none) | (with_reducible apply pp_bl) | (with_reducible apply pq_bl) | (with_reducible apply pl_some) | (with_reducible apply pl_gd) | (intro _))
theorem kb_So_listMembers_b10 (F : Nat) (rc10 : zS → Int32 → Nat → Int32 → Option zS) (σ : zS) (x1 : Int32) (x2 : Nat) (x3 : Int32) (hrc10 : ∀ y0 y1 y2 y3, KB nn0 zz0 y0 → pq (KB nn0 zz0) (rc10 y0 y1 y2 y3)) (h : KB nn0 zz0 σ) : pq (KB nn0 zz0) (So_listMembers_b10 F rc10 σ x1 x2 x3) := by
  unfold So_listMembers_b10
  repeat' (first | assumption | (with_reducible apply hrc10) | (with_reducible apply kb_Te_has) | (with_reducible apply kb_So_listMembers_82) | (with_reducible apply kb_So_listTerm) | (with_reducible apply kb_So_equate) | (with_reducible apply pq_ite) | (with_reducible apply pp_ite) | (with_reducible apply pq_gd) | (with_reducible apply pp_gd) | (with_reducible apply pq_bv) | (with_reducible apply pp_bv) | (with_reducible apply pq_bi) | (with_reducible apply pp_bi) | (with_reducible apply pq_some) | (with_reducible apply pp_some) | (with_reducible apply KB_si) | (with_reducible apply KB_sa) | (with_reducible apply KB_sA) | (with_reducible apply KB_sb) | (with_reducible apply KB_sl) | (with_reducible apply KB_sr) | (with_reducible apply KB_ti) | (with_reducible apply KB_ta) | (with_reducible apply KB_tA) | (with_reducible apply KB_tb) | (with_reducible apply KB_tB) | decide | (exact pp_none) | (exact pq_none) | (with_reducible apply pp_bl) | (with_reducible apply pq_bl) | (with_reducible apply pl_some) | (with_reducible apply pl_gd) | (intro _))
theorem kb_So_listMembers_10 (F : Nat) : ∀ (n : Nat) (a0 : zS) (a1 : Int32) (a2 : Nat) (a3 : Int32), KB nn0 zz0 a0 → pq (KB nn0 zz0) (So_listMembers_10 F n a0 a1 a2 a3)
  | 0, _, _, _, _, _ => pq_none
  | n + 1, a0, a1, a2, a3, h => kb_So_listMembers_b10 F (So_listMembers_10 F n) a0 a1 a2 a3  (kb_So_listMembers_10 F  n) h
theorem kb_So_listMembers (F : Nat) (σ : zS) (x1 : Int32) (h : KB nn0 zz0 σ) : pq (KB nn0 zz0) (So_listMembers F σ x1) := by
  unfold So_listMembers
  repeat' (first | assumption | (with_reducible apply kb_So_listMembers_10) | (with_reducible apply pq_ite) | (with_reducible apply pp_ite) | (with_reducible apply pq_gd) | (with_reducible apply pp_gd) | (with_reducible apply pq_bv) | (with_reducible apply pp_bv) | (with_reducible apply pq_bi) | (with_reducible apply pp_bi) | (with_reducible apply pq_some) | (with_reducible apply pp_some) | (with_reducible apply KB_si) | (with_reducible apply KB_sa) | (with_reducible apply KB_sA) | (with_reducible apply KB_sb) | (with_reducible apply KB_sl) | (with_reducible apply KB_sr) | (with_reducible apply KB_ti) | (with_reducible apply KB_ta) | (with_reducible apply KB_tA) | (with_reducible apply KB_tb) | (with_reducible apply KB_tB) | decide | (exact pp_none) | (exact pq_none) | (with_reducible apply pp_bl) | (with_reducible apply pq_bl) | (with_reducible apply pl_some) | (with_reducible apply pl_gd) | (intro _))
theorem kb_So_listTold_90 (F : Nat) (rc2 : zS → Int32 → Int32 → Option zS) (σ : zS) (x1 : Int32) (x2 : Int32) (hrc2 : ∀ y0 y1 y2, KB nn0 zz0 y0 → pq (KB nn0 zz0) (rc2 y0 y1 y2)) (h : KB nn0 zz0 σ) : pq (KB nn0 zz0) (So_listTold_90 F rc2 σ x1 x2) := by
  unfold So_listTold_90
  repeat' (first | assumption | (with_reducible apply hrc2) | (with_reducible apply pq_ite) | (with_reducible apply pp_ite) | (with_reducible apply pq_gd) | (with_reducible apply pp_gd) | (with_reducible apply pq_bv) | (with_reducible apply pp_bv) | (with_reducible apply pq_bi) | (with_reducible apply pp_bi) | (with_reducible apply pq_some) | (with_reducible apply pp_some) | (with_reducible apply KB_si) | (with_reducible apply KB_sa) | (with_reducible apply KB_sA) | (with_reducible apply KB_sb) | (with_reducible apply KB_sl) | (with_reducible apply KB_sr) | (with_reducible apply KB_ti) | (with_reducible apply KB_ta) | (with_reducible apply KB_tA) | (with_reducible apply KB_tb) | (with_reducible apply KB_tB) | decide | (exact pp_none) | (exact pq_none) | (with_reducible apply pp_bl) | (with_reducible apply pq_bl) | (with_reducible apply pl_some) | (with_reducible apply pl_gd) | (intro _))
theorem kb_So_listTold_46 (F : Nat) (rc2 : zS → Int32 → Int32 → Option zS) (σ : zS) (x1 : Int32) (x2 : Int32) (s0 : Int32) (hrc2 : ∀ y0 y1 y2, KB nn0 zz0 y0 → pq (KB nn0 zz0) (rc2 y0 y1 y2)) (h : KB nn0 zz0 σ) : pq (KB nn0 zz0) (So_listTold_46 F rc2 σ x1 x2 s0) := by
  unfold So_listTold_46
  repeat' (first | assumption | (with_reducible apply hrc2) | (with_reducible apply kb_So_listTold_90) | (with_reducible apply kb_So_equate) | (with_reducible apply pq_ite) | (with_reducible apply pp_ite) | (with_reducible apply pq_gd) | (with_reducible apply pp_gd) | (with_reducible apply pq_bv) | (with_reducible apply pp_bv) | (with_reducible apply pq_bi) | (with_reducible apply pp_bi) | (with_reducible apply pq_some) | (with_reducible apply pp_some) | (with_reducible apply KB_si) | (with_reducible apply KB_sa) | (with_reducible apply KB_sA) | (with_reducible apply KB_sb) | (with_reducible apply KB_sl) | (with_reducible apply KB_sr) | (with_reducible apply KB_ti) | (with_reducible apply KB_ta) | (with_reducible apply KB_tA) | (with_reducible apply KB_tb) | (with_reducible apply KB_tB) | decide | (exact pp_none) | (exact pq_none) | (with_reducible apply pp_bl) | (with_reducible apply pq_bl) | (with_reducible apply pl_some) | (with_reducible apply pl_gd) | (intro _))
theorem kb_So_listTold_b2 (F : Nat) (rc2 : zS → Int32 → Int32 → Option zS) (σ : zS) (x1 : Int32) (x2 : Int32) (hrc2 : ∀ y0 y1 y2, KB nn0 zz0 y0 → pq (KB nn0 zz0) (rc2 y0 y1 y2)) (h : KB nn0 zz0 σ) : pq (KB nn0 zz0) (So_listTold_b2 F rc2 σ x1 x2) := by
  unfold So_listTold_b2
  repeat' (first | assumption | (with_reducible apply hrc2) | (with_reducible apply kb_Te_findDeclared) | (with_reducible apply kb_So_listTold_46) | (with_reducible apply pq_ite) | (with_reducible apply pp_ite) | (with_reducible apply pq_gd) | (with_reducible apply pp_gd) | (with_reducible apply pq_bv) | (with_reducible apply pp_bv) | (with_reducible apply pq_bi) | (with_reducible apply pp_bi) | (with_reducible apply pq_some) | (with_reducible apply pp_some) | (with_reducible apply KB_si) | (with_reducible apply KB_sa) | (with_reducible apply KB_sA) | (with_reducible apply KB_sb) | (with_reducible apply KB_sl) | (with_reducible apply KB_sr) | (with_reducible apply KB_ti) | (with_reducible apply KB_ta) | (with_reducible apply KB_tA) | (with_reducible apply KB_tb) | (with_reducible apply KB_tB) | decide | (exact pp_none) | (exact pq_none) | (with_reducible apply pp_bl) | (with_reducible apply pq_bl) | (with_reducible apply pl_some) | (with_reducible apply pl_gd) | (intro _))
theorem kb_So_listTold_2 (F : Nat) : ∀ (n : Nat) (a0 : zS) (a1 : Int32) (a2 : Int32), KB nn0 zz0 a0 → pq (KB nn0 zz0) (So_listTold_2 F n a0 a1 a2)
  | 0, _, _, _, _ => pq_none
  | n + 1, a0, a1, a2, h => kb_So_listTold_b2 F (So_listTold_2 F n) a0 a1 a2  (kb_So_listTold_2 F  n) h
theorem kb_So_listTold (F : Nat) (σ : zS) (x1 : Int32) (h : KB nn0 zz0 σ) : pq (KB nn0 zz0) (So_listTold F σ x1) := by
  unfold So_listTold
  repeat' (first | assumption | (with_reducible apply kb_So_listTold_2) | (with_reducible apply pq_ite) | (with_reducible apply pp_ite) | (with_reducible apply pq_gd) | (with_reducible apply pp_gd) | (with_reducible apply pq_bv) | (with_reducible apply pp_bv) | (with_reducible apply pq_bi) | (with_reducible apply pp_bi) | (with_reducible apply pq_some) | (with_reducible apply pp_some) | (with_reducible apply KB_si) | (with_reducible apply KB_sa) | (with_reducible apply KB_sA) | (with_reducible apply KB_sb) | (with_reducible apply KB_sl) | (with_reducible apply KB_sr) | (with_reducible apply KB_ti) | (with_reducible apply KB_ta) | (with_reducible apply KB_tA) | (with_reducible apply KB_tb) | (with_reducible apply KB_tB) | decide | (exact pp_none) | (exact pq_none) | (with_reducible apply pp_bl) | (with_reducible apply pq_bl) | (with_reducible apply pl_some) | (with_reducible apply pl_gd) | (intro _))
theorem kb_So_wholeKind_b50 (F : Nat) (rc50 : zS → Int32 → Int32 → Int32 → Option (Int32 × zS)) (σ : zS) (x2 : Int32) (x3 : Int32) (x4 : Int32) (hrc50 : ∀ y0 y1 y2 y3, KB nn0 zz0 y0 → pp (KB nn0 zz0) (rc50 y0 y1 y2 y3)) (h : KB nn0 zz0 σ) : pp (KB nn0 zz0) (So_wholeKind_b50 F rc50 σ x2 x3 x4) := by
  unfold So_wholeKind_b50
  repeat' (first | assumption | (with_reducible apply hrc50) | (with_reducible apply kb_Ki_makeArrow) | (with_reducible apply pq_ite) | (with_reducible apply pp_ite) | (with_reducible apply pq_gd) | (with_reducible apply pp_gd) | (with_reducible apply pq_bv) | (with_reducible apply pp_bv) | (with_reducible apply pq_bi) | (with_reducible apply pp_bi) | (with_reducible apply pq_some) | (with_reducible apply pp_some) | (with_reducible apply KB_si) | (with_reducible apply KB_sa) | (with_reducible apply KB_sA) | (with_reducible apply KB_sb) | (with_reducible apply KB_sl) | (with_reducible apply KB_sr) | (with_reducible apply KB_ti) | (with_reducible apply KB_ta) | (with_reducible apply KB_tA) | (with_reducible apply KB_tb) | (with_reducible apply KB_tB) | decide | (exact pp_none) | (exact pq_none) | (with_reducible apply pp_bl) | (with_reducible apply pq_bl) | (with_reducible apply pl_some) | (with_reducible apply pl_gd) | (intro _))
theorem kb_So_wholeKind_50 (F : Nat) : ∀ (n : Nat) (a0 : zS) (a1 : Int32) (a2 : Int32) (a3 : Int32), KB nn0 zz0 a0 → pp (KB nn0 zz0) (So_wholeKind_50 F n a0 a1 a2 a3)
  | 0, _, _, _, _, _ => pp_none
  | n + 1, a0, a1, a2, a3, h => kb_So_wholeKind_b50 F (So_wholeKind_50 F n) a0 a1 a2 a3  (kb_So_wholeKind_50 F  n) h
theorem kb_So_wholeKind (F : Nat) (σ : zS) (x1 : Int32) (h : KB nn0 zz0 σ) : pp (KB nn0 zz0) (So_wholeKind F σ x1) := by
  unfold So_wholeKind
  repeat' (first | assumption | (with_reducible apply kb_So_wholeKind_50) | (with_reducible apply pq_ite) | (with_reducible apply pp_ite) | (with_reducible apply pq_gd) | (with_reducible apply pp_gd) | (with_reducible apply pq_bv) | (with_reducible apply pp_bv) | (with_reducible apply pq_bi) | (with_reducible apply pp_bi) | (with_reducible apply pq_some) | (with_reducible apply pp_some) | (with_reducible apply KB_si) | (with_reducible apply KB_sa) | (with_reducible apply KB_sA) | (with_reducible apply KB_sb) | (with_reducible apply KB_sl) | (with_reducible apply KB_sr) | (with_reducible apply KB_ti) | (with_reducible apply KB_ta) | (with_reducible apply KB_tA) | (with_reducible apply KB_tb) | (with_reducible apply KB_tB) | decide | (exact pp_none) | (exact pq_none) | (with_reducible apply pp_bl) | (with_reducible apply pq_bl) | (with_reducible apply pl_some) | (with_reducible apply pl_gd) | (intro _))
theorem kb_So_makeKinds_112 (F : Nat) (rc2 : zS → Int32 → Int32 → Option zS) (σ : zS) (x1 : Int32) (x2 : Int32) (hrc2 : ∀ y0 y1 y2, KB nn0 zz0 y0 → pq (KB nn0 zz0) (rc2 y0 y1 y2)) (h : KB nn0 zz0 σ) : pq (KB nn0 zz0) (So_makeKinds_112 F rc2 σ x1 x2) := by
  unfold So_makeKinds_112
  repeat' (first | assumption | (with_reducible apply hrc2) | (with_reducible apply pq_ite) | (with_reducible apply pp_ite) | (with_reducible apply pq_gd) | (with_reducible apply pp_gd) | (with_reducible apply pq_bv) | (with_reducible apply pp_bv) | (with_reducible apply pq_bi) | (with_reducible apply pp_bi) | (with_reducible apply pq_some) | (with_reducible apply pp_some) | (with_reducible apply KB_si) | (with_reducible apply KB_sa) | (with_reducible apply KB_sA) | (with_reducible apply KB_sb) | (with_reducible apply KB_sl) | (with_reducible apply KB_sr) | (with_reducible apply KB_ti) | (with_reducible apply KB_ta) | (with_reducible apply KB_tA) | (with_reducible apply KB_tb) | (with_reducible apply KB_tB) | decide | (exact pp_none) | (exact pq_none) | (with_reducible apply pp_bl) | (with_reducible apply pq_bl) | (with_reducible apply pl_some) | (with_reducible apply pl_gd) | (intro _))
theorem kb_So_makeKinds_97 (F : Nat) (rc2 : zS → Int32 → Int32 → Option zS) (σ : zS) (x1 : Int32) (x2 : Int32) (s1 : Int32) (s2 : Int32) (hrc2 : ∀ y0 y1 y2, KB nn0 zz0 y0 → pq (KB nn0 zz0) (rc2 y0 y1 y2)) (h : KB nn0 zz0 σ) : pq (KB nn0 zz0) (So_makeKinds_97 F rc2 σ x1 x2 s1 s2) := by
  unfold So_makeKinds_97
  repeat' (first | assumption | (with_reducible apply hrc2) | (with_reducible apply kb_So_wholeKind) | (with_reducible apply kb_So_makeKinds_112) | (with_reducible apply pq_ite) | (with_reducible apply pp_ite) | (with_reducible apply pq_gd) | (with_reducible apply pp_gd) | (with_reducible apply pq_bv) | (with_reducible apply pp_bv) | (with_reducible apply pq_bi) | (with_reducible apply pp_bi) | (with_reducible apply pq_some) | (with_reducible apply pp_some) | (with_reducible apply KB_si) | (with_reducible apply KB_sa) | (with_reducible apply KB_sA) | (with_reducible apply KB_sb) | (with_reducible apply KB_sl) | (with_reducible apply KB_sr) | (with_reducible apply KB_ti) | (with_reducible apply KB_ta) | (with_reducible apply KB_tA) | (with_reducible apply KB_tb) | (with_reducible apply KB_tB) | decide | (exact pp_none) | (exact pq_none) | (with_reducible apply pp_bl) | (with_reducible apply pq_bl) | (with_reducible apply pl_some) | (with_reducible apply pl_gd) | (intro _))
theorem kb_So_makeKinds_b26 (F : Nat) (rc2 : zS → Int32 → Int32 → Option zS) (rc26 : zS → Int32 → Int32 → Int32 → Option zS) (σ : zS) (x1 : Int32) (x2 : Int32) (x3 : Int32) (hrc2 : ∀ y0 y1 y2, KB nn0 zz0 y0 → pq (KB nn0 zz0) (rc2 y0 y1 y2)) (hrc26 : ∀ y0 y1 y2 y3, KB nn0 zz0 y0 → pq (KB nn0 zz0) (rc26 y0 y1 y2 y3)) (h : KB nn0 zz0 σ) : pq (KB nn0 zz0) (So_makeKinds_b26 F rc2 rc26 σ x1 x2 x3) := by
  unfold So_makeKinds_b26
  repeat' (first | assumption | (with_reducible apply hrc2) | (with_reducible apply hrc26) | (with_reducible apply kb_Ki_makeOpen) | (with_reducible apply kb_So_makeKinds_97) | (with_reducible apply pq_ite) | (with_reducible apply pp_ite) | (with_reducible apply pq_gd) | (with_reducible apply pp_gd) | (with_reducible apply pq_bv) | (with_reducible apply pp_bv) | (with_reducible apply pq_bi) | (with_reducible apply pp_bi) | (with_reducible apply pq_some) | (with_reducible apply pp_some) | (with_reducible apply KB_si) | (with_reducible apply KB_sa) | (with_reducible apply KB_sA) | (with_reducible apply KB_sb) | (with_reducible apply KB_sl) | (with_reducible apply KB_sr) | (with_reducible apply KB_ti) | (with_reducible apply KB_ta) | (with_reducible apply KB_tA) | (with_reducible apply KB_tb) | (with_reducible apply KB_tB) | decide | (exact pp_none) | (exact pq_none) | (with_reducible apply pp_bl) | (with_reducible apply pq_bl) | (with_reducible apply pl_some) | (with_reducible apply pl_gd) | (intro _))
theorem kb_So_makeKinds_26 (F : Nat) (rc2 : zS → Int32 → Int32 → Option zS) (hrc2 : ∀ y0 y1 y2, KB nn0 zz0 y0 → pq (KB nn0 zz0) (rc2 y0 y1 y2)) : ∀ (n : Nat) (a0 : zS) (a1 : Int32) (a2 : Int32) (a3 : Int32), KB nn0 zz0 a0 → pq (KB nn0 zz0) (So_makeKinds_26 F rc2 n a0 a1 a2 a3)
  | 0, _, _, _, _, _ => pq_none
  | n + 1, a0, a1, a2, a3, h => kb_So_makeKinds_b26 F rc2 (So_makeKinds_26 F rc2 n) a0 a1 a2 a3 hrc2 (kb_So_makeKinds_26 F rc2 hrc2 n) h
theorem kb_So_makeKinds_b2 (F : Nat) (rc2 : zS → Int32 → Int32 → Option zS) (σ : zS) (x1 : Int32) (x2 : Int32) (hrc2 : ∀ y0 y1 y2, KB nn0 zz0 y0 → pq (KB nn0 zz0) (rc2 y0 y1 y2)) (h : KB nn0 zz0 σ) : pq (KB nn0 zz0) (So_makeKinds_b2 F rc2 σ x1 x2) := by
  unfold So_makeKinds_b2
  repeat' (first | assumption | (with_reducible apply hrc2) | (with_reducible apply kb_So_makeKinds_112) | (with_reducible apply kb_So_makeKinds_26) | (with_reducible apply pq_ite) | (with_reducible apply pp_ite) | (with_reducible apply pq_gd) | (with_reducible apply pp_gd) | (with_reducible apply pq_bv) | (with_reducible apply pp_bv) | (with_reducible apply pq_bi) | (with_reducible apply pp_bi) | (with_reducible apply pq_some) | (with_reducible apply pp_some) | (with_reducible apply KB_si) | (with_reducible apply KB_sa) | (with_reducible apply KB_sA) | (with_reducible apply KB_sb) | (with_reducible apply KB_sl) | (with_reducible apply KB_sr) | (with_reducible apply KB_ti) | (with_reducible apply KB_ta) | (with_reducible apply KB_tA) | (with_reducible apply KB_tb) | (with_reducible apply KB_tB) | decide | (exact pp_none) | (exact pq_none) | (with_reducible apply pp_bl) | (with_reducible apply pq_bl) | (with_reducible apply pl_some) | (with_reducible apply pl_gd) | (intro _))
theorem kb_So_makeKinds_2 (F : Nat) : ∀ (n : Nat) (a0 : zS) (a1 : Int32) (a2 : Int32), KB nn0 zz0 a0 → pq (KB nn0 zz0) (So_makeKinds_2 F n a0 a1 a2)
  | 0, _, _, _, _ => pq_none
  | n + 1, a0, a1, a2, h => kb_So_makeKinds_b2 F (So_makeKinds_2 F n) a0 a1 a2  (kb_So_makeKinds_2 F  n) h
theorem kb_So_makeKinds (F : Nat) (σ : zS) (x1 : Int32) (h : KB nn0 zz0 σ) : pq (KB nn0 zz0) (So_makeKinds F σ x1) := by
  unfold So_makeKinds
  repeat' (first | assumption | (with_reducible apply kb_So_makeKinds_2) | (with_reducible apply pq_ite) | (with_reducible apply pp_ite) | (with_reducible apply pq_gd) | (with_reducible apply pp_gd) | (with_reducible apply pq_bv) | (with_reducible apply pp_bv) | (with_reducible apply pq_bi) | (with_reducible apply pp_bi) | (with_reducible apply pq_some) | (with_reducible apply pp_some) | (with_reducible apply KB_si) | (with_reducible apply KB_sa) | (with_reducible apply KB_sA) | (with_reducible apply KB_sb) | (with_reducible apply KB_sl) | (with_reducible apply KB_sr) | (with_reducible apply KB_ti) | (with_reducible apply KB_ta) | (with_reducible apply KB_tA) | (with_reducible apply KB_tb) | (with_reducible apply KB_tB) | decide | (exact pp_none) | (exact pq_none) | (with_reducible apply pp_bl) | (with_reducible apply pq_bl) | (with_reducible apply pl_some) | (with_reducible apply pl_gd) | (intro _))
/-- so what hung below still hangs below -/
theorem kb_tz {G0 G : SG} (h : KB (gn G0) zz0 σ) (h0 : CS zz0 G0) (hn : noO G0) (hC : CS σ G) : tz (gn G0) G := by
  obtain ⟨S, a1, a2, a3, a4⟩ := h
  obtain ⟨b1, b2, b3, b4, b5, b6, b7⟩ := h0
  obtain ⟨c1, c2, c3, c4, c5, c6, c7⟩ := hC
  have hS : S = gn G := (nI_eq (by omega) (by omega)).mp (a1.symm.trans c1)
  intro k hk
  obtain ⟨q1, q2, q3⟩ := a4 k hk
  obtain ⟨d1, d2, d3⟩ := b7 k hk
  obtain ⟨e1, e2, e3⟩ := c7 k (by omega)
  have hup0 := (b6.1 k hk).2.1
  have hup := (c6.1 k (by omega)).2.1
  have eup : gup G k = gup G0 k := by
    by_cases z0 : gup G0 k = k
    · by_cases z1 : gup G k = k
      · rw [z0, z1]
      · have := e2 z1
        rw [q3, d1 z0] at this
        exact absurd this.symm (nI_m1 _ (by omega))
    · by_cases z1 : gup G k = k
      · have := e1 z1
        rw [q3, d2 z0] at this
        exact absurd this (nI_m1 _ (by omega))
      · have := e2 z1
        rw [q3, d2 z0] at this
        exact ((nI_eq (by omega) (by omega)).mp this).symm
  refine ⟨by rw [eup]; exact hup0, fun z => ?_⟩
  rw [eup] at z
  have hso0 := hn k hk z
  by_cases k0 : k = 0
  · subst k0; rw [c5]; decide
  · intro y
    rcases d3 k0 with ⟨w, _⟩ | ⟨w1, w2, w3⟩
    · exact hso0 w
    · rcases e3 k0 with ⟨_, v2⟩ | ⟨v1, _, _⟩
      · rw [q1, w2] at v2
        exact nI_m1 _ (by have := ((b6.1 k hk).2.2 w1).1; omega) v2
      · rw [y] at v1; cases v1

end L
