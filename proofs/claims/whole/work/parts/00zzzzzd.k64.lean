/-! kindOf(). Own text. -/
section R
variable {F : Nat} {σ τ : zS} {G H : SG} {D : Nat}
theorem pair_show (hG : wfG G) {k k' : Nat} (h : pairT G H k k') : ∃ d, dpt d (gT G k) ∧ dpt d (gT H k') ∧ prT (fun _ => 42) d (gT G k) = prT (fun _ => 42) d (gT H k') := by
  obtain ⟨_, _, e, d, hd⟩ := h
  exact ⟨d, hd, by rw [← e]; exact hd, by rw [e]⟩
theorem kindOf_ok (hF : 20000 ≤ F) (hSL : SL σ τ) (hTD : TD σ τ D) (h85 : gi τ 85 = 0) (hC : 0 < D → CS σ G ∧ MS τ H ∧ ∀ y, y < D → dPr σ τ G H y) (x y : Int32) : ∃ r σ' τ', Q_kindOf F σ x y = some (r, σ') ∧ Md_kindOf F τ x y = some (r, τ') ∧ frSh σ σ' ∧ sx [0, 82, 84] [53, 55, 56] τ τ' ∧ SL σ' τ' := by
  have hSL0 : SL σ (si τ 0 0) := by
    obtain ⟨h1, L, hL, h2, h3, h4⟩ := hSL
    exact ⟨h1, L, hL, h2, by simp [zs]; exact h3, h4⟩
  have s0 : sx [0, 82, 84] [53, 55, 56] τ (si τ 0 0) := sx_si (sx_rfl _ _ _) (by decide) _
  have fr0 : frSh σ σ := ⟨fun _ _ => rfl, fun _ _ => rfl, fun _ => rfl, fun _ => rfl, fun _ _ _ => rfl, fun _ _ _ => rfl, fun _ _ _ => rfl, fun _ => rfl⟩
  have e85 : gi (si τ 0 0) 85 = 0 := by simp [zs]; exact h85
  obtain ⟨h1, h2, h3, h4, h5, h6⟩ := hTD
  have hD := h2.2.1
  have t52 : gi (si τ 0 0) 52 = nI D := by simp [zs]; exact h1.2.1
  rcases dc_ix (F := F) hD x with ⟨a, ha, e, c1, c2⟩ | ⟨c1, c2⟩
  · obtain ⟨hCS, hMS, hdp⟩ := hC (by omega)
    obtain ⟨so, q, _, hq, p1, p2, p3, p4, p5, p6, _⟩ := h1.2.2.2 a ha
    obtain ⟨d1, d2, d3⟩ := hdp a ha
    have hM0 : MS (si τ 0 0) H := MS_sx s0 (by decide) (by decide) (by decide) (by decide) (by decide) hMS
    have sh : ∀ k k', pairT G H k k' → ∃ r σ' τ', Q_kindOf_61 F σ (nI k) = some (r, σ') ∧ Md_kindOf_54 F (si τ 0 0) (nI k') = some (r, τ') ∧ frSh σ σ' ∧ sx [0, 82, 84] [53, 55, 56] τ τ' ∧ SL σ' τ' := by
      intro k k' hp
      obtain ⟨d, q1, q2, q3⟩ := pair_show (G := G) (H := H) hCS.2.2.2.2.2.1 hp
      obtain ⟨r, σ', τ', v1, v2, v3, v4, v5, v6, v7⟩ := showK (F := F) hF hSL0 hCS hM0 e85 hp.1 hp.2.1 q1 q2 q3
      exact ⟨r, σ', τ', by rw [Q_kindOf_61, v1, bi_some], by rw [Md_kindOf_54, v2, bi_some], v6, sx_tr s0 (sx_mono (by decide) (by decide) v7), v3⟩
    have t36 : ga (si τ 0 0) 36 a = nI q := p6
    have t50 : ga (si τ 0 0) 50 = ga τ 50 := rfl
    have t49 : ga (si τ 0 0) 49 = ga τ 49 := rfl
    rw [Q_kindOf, c1 σ h1.1, bi_some, if_neg (show ¬ (1 : Int32) = 0 by decide), Md_kindOf, c2 _ t52, bi_some, if_neg (show ¬ (1 : Int32) = 0 by decide)]
    by_cases y1 : y < -1
    · rw [if_pos y1, if_pos y1]; exact ⟨-1, σ, _, rfl, rfl, fr0, s0, hSL0⟩
    rw [if_neg y1, if_neg y1, e, gd_t (inb_nI (by omega) (by omega)), gd_t (inb_nI (by omega) (by omega)), nI_clamp (by omega), p5, t36]
    by_cases y2 : y < nI q
    · rw [if_pos y2, if_pos y2]
      by_cases y3 : 0 ≤ y
      · rw [if_pos y3, if_pos y3]
        rcases pk_ix y (n := q) (by omega) with c | c | ⟨j, hj, ey⟩
        · exfalso
          rw [Int32.lt_iff_toInt_lt] at c
          rw [Int32.le_iff_toInt_le] at y3
          omega
        · exfalso
          rw [Int32.le_iff_toInt_le] at c
          rw [Int32.lt_iff_toInt_lt] at y2
          omega
        · have k1 : nI a * (3 : Int32) + y = nI (3 * a + j) := by
            rw [ey, show (3 : Int32) = nI 3 from rfl, pk_mul, nI_add, Nat.mul_comm]
          have k2 : (3 : Int32) * nI a + y = nI (3 * a + j) := by
            rw [ey, show (3 : Int32) = nI 3 from rfl, pk_mul, nI_add]
          rw [k1, k2, gd_t (inb_nI (by omega) (by omega)), gd_t (inb_nI (by omega) (by omega)), nI_clamp (by omega), t50]
          have hjq : j < qN σ a := by
            unfold qN
            rw [p5, nI_clamp (by omega)]; exact hj
          obtain ⟨k, k', v1, v2, v3⟩ := d2 j hjq
          rw [v1, v2]
          exact sh k k' v3
      · rw [if_neg y3, if_neg y3, gd_t (inb_nI (by omega) (by omega)), t49]
        obtain ⟨k, k', v1, v2, v3⟩ := d1
        rw [v1, v2]
        exact sh k k' v3
    · rw [if_neg y2, if_neg y2]; exact ⟨-1, σ, _, rfl, rfl, fr0, s0, hSL0⟩
  · refine ⟨-1, σ, si τ 0 0, ?_, ?_, fr0, s0, hSL0⟩
    · rw [Q_kindOf, c1 σ h1.1, bi_some, if_pos rfl]; rfl
    · rw [Md_kindOf, c2 _ t52, bi_some, if_pos rfl]; rfl
end R
