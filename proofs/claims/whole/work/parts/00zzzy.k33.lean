/-! The reference solves a group: the whole. Own text. -/
section A
variable {F : Nat} {σ τ0 : zS} {lg : Nat → Bool} {lx : Nat → TE} {N D M g : Nat} {gp : Nat → Bool} {KA TT : Nat → TE}
theorem c4_up (σ : zS) {a b : Nat} (h : a ≤ b) : c4 σ a ≤ c4 σ b := by
  induction b with
  | zero => obtain rfl : a = 0 := by omega
            exact Nat.le_refl _
  | succ b ih =>
    rcases Nat.lt_or_ge a (b + 1) with z | z
    · have := ih (by omega)
      rw [c4]; omega
    · obtain rfl : a = b + 1 := by omega
      exact Nat.le_refl _
/-- told kinds, in the reference -/
def wsH (σ τ : zS) (H : SG) (dom : Nat → Prop) (m : Nat → Nat) (D M : Nat) (gp : Nat → Bool) (KA TT : Nat → TE) : Prop := (∀ y, y < D → gp y = true → ∃ k, ga τ 49 y = nI k ∧ rp H dom m k (KA y)) ∧ ∀ i, i < M → ga σ 43 i = 4 → fDe σ (gb σ 44 i) D 0 ≠ -1 ∧ gb τ 42 (c4 σ i) = gb σ 44 i ∧ ga τ 43 (c4 σ i) = ga σ 45 i ∧ ∃ k, ga τ 44 (c4 σ i) = nI k ∧ rp H dom m k (TT i)
theorem ws_all (hF : 20000 ≤ F) (hdc : dcN σ τ0 D) (hgp : ∀ i, i < D → (ga τ0 48 i = nI g ↔ gp i = true)) (h62 : gi τ0 62 = nI (c4 σ M)) (hM : M ≤ 600) (hc : c4 σ M ≤ 300) {H0 : SG} {dom : Nat → Prop} {m : Nat → Nat} (hW : wsH σ τ0 H0 dom m D M gp KA TT) : ∀ (d f i : Nat) (τ : zS) (H : SG), i + d = M → d < f → SV τ0 lg lx 0 N τ H dom m (tdE σ D gp KA TT i) → xt H0 dom m H dom m → gn H = gn H0 → (∃ τ' H', Md_solve_98 F f τ (nI g) (nI (c4 σ i)) = Md_solve_162 F τ' (nI g) ∧ SV τ0 lg lx 0 N τ' H' dom m (tdE σ D gp KA TT M) ∧ xt H0 dom m H' dom m ∧ gn H' = gn H0) ∨ (∃ τ' Ea e Eb, Md_solve_98 F f τ (nI g) (nI (c4 σ i)) = some τ' ∧ tdE σ D gp KA TT M = Ea ++ e :: Eb ∧ sx [8, 9, 10, 48, 79, 80] [6, 26, 27, 28, 29, 30, 53, 54] τ0 τ' ∧ rvF τ' Ea e ∧ knd τ' (gn H0)) := by
  have hD := hdc.2.2.1
  have pre : ∀ i j, i ≤ j → ∃ L, tdE σ D gp KA TT j = tdE σ D gp KA TT i ++ L := by
    intro i j hij
    induction j with
    | zero => obtain rfl : i = 0 := by omega
              exact ⟨[], by simp⟩
    | succ j ihj =>
      rcases Nat.lt_or_ge i (j + 1) with z | z
      · obtain ⟨L, hL⟩ := ihj (by omega)
        exact ⟨L ++ (if inG σ D gp j = true then [(KA (fDe σ (gb σ 44 j) D 0).toNatClampNeg, TT j, nC (ga σ 45 j))] else []), by rw [tdE, hL, List.append_assoc]⟩
      · obtain rfl : i = j + 1 := by omega
        exact ⟨[], by simp⟩
  intro d
  induction d with
  | zero =>
    intro f i τ H hi hf hS hx hn
    obtain ⟨f, rfl⟩ : ∃ f', f = f' + 1 := ⟨f - 1, by omega⟩
    obtain rfl : i = M := by omega
    refine Or.inl ⟨τ, H, ?_, hS, hx, hn⟩
    rw [Md_solve_98, Md_solve_b98, hS.1.1 62 (by decide), h62, if_pos (nI_le (Nat.le_refl _) (by omega))]
  | succ d ih =>
    intro f i τ H hi hf hS hx hn
    obtain ⟨f, rfl⟩ : ∃ f', f = f' + 1 := ⟨f - 1, by omega⟩
    by_cases c : ga σ 43 i = 4
    · have hc1 : c4 σ (i + 1) = c4 σ i + 1 := by rw [c4, if_pos c]
      have hlt := c4_lt M i (by omega) c
      obtain ⟨w1, w2, w3, kz, w4, w5⟩ := hW.2 i (by omega) c
      obtain ⟨y, y1, y2, y3, y4⟩ := (fDe_rng σ (gb σ 44 i) D 0).resolve_left w1
      have hdc' : dcN σ τ D := dcN_tx hdc hS.1 (by decide) (by decide)
      have e0 : Md_solve_98 F (f + 1) τ (nI g) (nI (c4 σ i)) = if ga τ0 48 y = nI g then bv (Md_equate F τ (ga τ0 49 y) (nI kz) (ga σ 45 i)) (fun σ9 => Md_solve_98 F f σ9 (nI g) (nI (c4 σ (i + 1)))) else Md_solve_98 F f τ (nI g) (nI (c4 σ (i + 1))) := by
        rw [Md_solve_98, Md_solve_b98, hS.1.1 62 (by decide), h62, if_neg (nI_ge hlt (by omega)), if_pos hS.2.1.2.2.2.1, gd_t (inb_nI (by omega) (by omega)), nI_clamp (by omega), sx_gb hS.1, w2, (findD (F := F) (by omega) hdc' (gb σ 44 i)).2, bi_some, y3]
        show gd (inb (nI y) 16) (if ga τ 48 (nI y).toNatClampNeg = nI g then bv (Md_equate F τ (ga τ 49 (nI y).toNatClampNeg) (ga τ 44 (c4 σ i)) (ga τ 43 (c4 σ i))) (fun σ9 => Md_solve_156 F (Md_solve_98 F f) σ9 (nI g) (nI (c4 σ i))) else Md_solve_156 F (Md_solve_98 F f) τ (nI g) (nI (c4 σ i))) = _
        rw [gd_t (inb_nI (by omega) (by omega)), nI_clamp (by omega), hS.1.2.1 48 (by decide), hS.1.2.1 49 (by decide), hS.1.2.1 44 (by decide), hS.1.2.1 43 (by decide), w3, w4, hc1]
        simp only [Md_solve_156, nI_1]
      rw [e0]
      by_cases cg : gp y = true
      · obtain ⟨k, k1, k2⟩ := hW.1 y (by omega) cg
        have hin : inG σ D gp i = true := by
          unfold inG
          rw [y3, nI_clamp (by omega), cg]
          simp [c, nI_m1 y (by omega)]
        have e1 : tdE σ D gp KA TT (i + 1) = tdE σ D gp KA TT i ++ [(KA y, TT i, nC (ga σ 45 i))] := by
          rw [tdE, if_pos hin, y3, nI_clamp (by omega)]
        obtain ⟨τ1, b1, b2⟩ := rv_eq (F := F) (x := k) (y := kz) (p := nC (ga σ 45 i)) hF hS.2.1 (hx _ _ k2) (hx _ _ w5)
        rw [if_pos ((hgp y (by omega)).mpr cg), k1, show ga σ 45 i = nI (nC (ga σ 45 i)) from (nI_bv _).symm, b1, bv_some]
        rcases b2 with ⟨c1, H', c2, c3, c5⟩ | ⟨c1, c2⟩
        · exact ih f (i + 1) τ1 H' (by omega) (by omega) ⟨sx_tr hS.1 (sx_mono (by decide) (by decide) c1), by rw [e1]; exact c2, lkI_cg hS.2.2 (fun l _ => by rw [c1.2.1 6 (by decide)]) c3⟩ (xt_tr hx c3) (by omega)
        · have h8 : gi τ1 8 ≠ 0 := by
            obtain ⟨_, _, _, _, _, _, _, _, _, _, w, _⟩ := rvG_F c2
            rw [w]; decide
          have s1 : sx [8, 9, 10, 48, 79, 80] [6, 26, 27, 28, 29, 30, 53, 54] τ0 τ1 := sx_tr (sx_mono (by decide) (by decide) hS.1) (sx_mono (by decide) (by decide) c1)
          obtain ⟨L, hL⟩ := pre (i + 1) M (by omega)
          refine Or.inr ⟨τ1, _, _, L, ?_, by rw [hL, e1, List.append_assoc]; rfl, s1, rvG_F c2, gn H, (c1.1 48 (by decide)).trans hS.2.1.1.1, by omega⟩
          have h162 : Md_solve_162 F τ1 (nI g) = some τ1 := by
            rw [Md_solve_162, show (0 : Int32) = nI 0 from nI_0.symm]
            exact sf_164 (D := D) hF h8 (by rw [s1.1 52 (by decide)]; exact hdc.2.1) hD D F 0 (by omega) (by omega)
          obtain ⟨f, rfl⟩ : ∃ f', f = f' + 1 := ⟨f - 1, by omega⟩
          rw [Md_solve_98, Md_solve_b98, if_neg h8, h162]
          split <;> rfl
      · have e1 : tdE σ D gp KA TT (i + 1) = tdE σ D gp KA TT i := by
          rw [tdE, if_neg (by unfold inG; rw [y3, nI_clamp (by omega)]; simp [cg]), List.append_nil]
        rw [if_neg (fun z => cg ((hgp y (by omega)).mp z))]
        exact ih f (i + 1) τ H (by omega) (by omega) (by rw [e1]; exact hS) hx hn
    · have hc1 : c4 σ (i + 1) = c4 σ i := by rw [c4, if_neg c]; rfl
      have e1 : tdE σ D gp KA TT (i + 1) = tdE σ D gp KA TT i := by
        rw [tdE, if_neg (by unfold inG; simp [c]), List.append_nil]
      rw [← hc1]
      exact ih (f + 1) (i + 1) τ H (by omega) (by omega) (by rw [e1]; exact hS) hx hn
end A
