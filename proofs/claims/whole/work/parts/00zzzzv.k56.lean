/-! read(): what lies around. Own text. -/
section R
variable {F : Nat} {σ τ : zS}
/-- a text's state when the tape's length is gone -/
theorem txt_101 {B : Nat → Int32} {n c M D S R : Nat} {TL : List TR} (h : TXT B n c σ τ M D S R TL) : TXT B n c (si σ 101 0) τ M D S R TL := by
  obtain ⟨σ0, τ0, k, s, N, a, ⟨⟨⟨⟨hC, hO, hme, hs, hN2, ha⟩, ⟨⟨h7, how⟩, hcT, hmT, hso⟩, es, ea, hWK, hfr, hfm⟩, ⟨hmB, hS3, hc4⟩, hDC⟩, hAB, hMC, hSY, hCL⟩, hend⟩ := h
  have ec : ∀ i, c4 (si σ 101 0) i = c4 σ i := fun i => c4_fr i (fun j _ => rfl)
  have hcT' : cTL (si σ 101 0) M 0 0 TL := by
    have : ∀ (l : List TR) (j s : Nat), cTL σ M j s l → cTL (si σ 101 0) M j s l := by
      intro l
      induction l with
      | nil => intro j s _; trivial
      | cons e l ih =>
        intro j s hc
        obtain ⟨o, t, nn, As, me⟩ := e
        obtain ⟨⟨c1, c2, c3, c4, c5⟩, c6⟩ := hc
        exact ⟨⟨c1, c2, c3, rwL_fr (σ := σ) (σ' := si σ 101 0) _ _ (fun i _ _ => ⟨rfl, rfl, rfl, rfl⟩) c4, c5⟩, ih _ _ c6⟩
    exact this TL 0 0 hcT
  refine ⟨si σ0 101 0, τ0, k, s, N, a, ⟨⟨⟨⟨?_, hO, hme, hs, hN2, ha⟩, ⟨⟨h7, how⟩, hcT', hmT, hso⟩, es, ea, ?_, ?_, hfm⟩, ⟨hmB, hS3, by rw [ec]; exact hc4⟩, ?_⟩, hAB, hMC, hSY, hCL⟩, hend⟩
  · obtain ⟨c1, c2, c3, c4, c5, c6, c7, c8⟩ := hC
    exact ⟨by simp only [zs]; exact c1, c2, by simp only [zs]; exact c3, c4, c5, c6, by simp only [zs]; exact c7, by simp only [zs]; exact c8⟩
  · obtain ⟨w1, w2, w3, w4, w5, w6, w7⟩ := hWK
    refine ⟨by rw [ec]; exact w1, by simp only [zs]; exact w2, w3, w4, w5, w6, fun i hi hr => ?_⟩
    obtain ⟨v1, v2, T, x, z, v3, v4, v5, v6⟩ := w7 i hi hr
    rw [ec]
    exact ⟨v1, v2, T, x, z, v3, v4, kdC_mono (σ := σ) (σ' := si σ 101 0) (Nat.le_refl _) (Nat.le_refl _) (fun i _ _ => ⟨rfl, rfl, rfl⟩) T x v5, v6⟩
  · obtain ⟨f1, f2, f3, f4, f5, f6, f7, f8⟩ := hfr
    refine ⟨fun j hj => ?_, f2, f3, f4, f5, f6, f7, f8⟩
    by_cases e : j = 101
    · subst e; simp [zs]
    · simp only [zs, if_neg e]; exact f1 j hj
  · obtain ⟨d1, d2, d3, d4⟩ := hDC
    exact ⟨by simp only [zs]; exact d1, d2, d3, d4⟩
/-- nothing is looked at behind a fault -/
theorem ck_flt (hF : 20000 ≤ F) (h : gi σ 200 ≠ 0) : Ch_checkText F σ = some σ := by
  have ft : Fa_isThere F σ = some (1, σ) := by rw [Fa_isThere, if_neg h]; rfl
  obtain ⟨F', hF'⟩ : ∃ F', F = F' + 1 := ⟨F - 1, by omega⟩
  have n1 : ∀ F', Ch_checkNames_2 F (F' + 1) σ 0 = some σ := by
    intro F'
    rw [Ch_checkNames_2, Ch_checkNames_b2, ft, bi_some]
    split
    · rfl
    · rfl
  have l1 : ∀ F', Ch_checkLacks_2 F (F' + 1) σ 0 = some σ := by
    intro F'
    rw [Ch_checkLacks_2, Ch_checkLacks_b2, ft, bi_some]
    split
    · rfl
    · rfl
  have n2 : Ch_checkNames F σ = some σ := by
    have := n1 F'
    rw [← hF'] at this
    exact this
  have l2 : Ch_checkLacks F σ = some σ := by
    have := l1 F'
    rw [← hF'] at this
    exact this
  rw [Ch_checkText, n2, bv_some, ft, bi_some]
  show (if (1 : Int32) = 0 then _ else _) = _
  rw [if_neg (by decide), Ch_checkText_22, l2, bv_some]
theorem lacks_flt (hF : 20000 ≤ F) (h : gi σ 200 ≠ 0) : Ch_checkLacks F σ = some σ := by
  have ft : Fa_isThere F σ = some (1, σ) := by rw [Fa_isThere, if_neg h]; rfl
  obtain ⟨F', hF'⟩ : ∃ F', F = F' + 1 := ⟨F - 1, by omega⟩
  have l1 : ∀ F', Ch_checkLacks_2 F (F' + 1) σ 0 = some σ := by
    intro F'
    rw [Ch_checkLacks_2, Ch_checkLacks_b2, ft, bi_some]
    split
    · rfl
    · rfl
  have := l1 F'
  rw [← hF'] at this
  exact this
/-- the end of read() with a fault -/
def clr (σ : zS) : zS := ti (ti (si (si σ 400 0) 412 0) 1004 0) 1007 0
theorem rd_fltC (h : gi σ 200 ≠ 0) : Q_read_81 F σ = some (-10 - gi σ 200, clr σ) := by
  have ft : Fa_isThere F σ = some (1, σ) := by rw [Fa_isThere, if_neg h]; rfl
  rw [Q_read_81, ft, bi_some]
  show (if (1 : Int32) = 0 then _ else _) = _
  rw [if_neg (by decide), Te_clear, gd_t (by decide), Ro_clear, gd_t (by decide), bv_some, bv_some]
  show some ((-10 : Int32) - gi (clr σ) 200, clr σ) = _
  have : gi (clr σ) 200 = gi σ 200 := by unfold clr; simp [zs]
  rw [this]
/-- what is kept of kinds for questions -/
theorem copyB {R : Nat} (hF : 20000 ≤ F) (hR : R ≤ 4000) (h48 : gi τ 48 = nI R) : ∃ fc, Md_copy F τ 29 58 (gi τ 48) = some (sA τ 58 fc) ∧ ∀ i, i < R → fc i = ga τ 29 i := by
  obtain ⟨fc, c1, c2, _⟩ := md_copy (F := F) (x0 := 29) (x1 := 58) (by decide) (by decide) (by decide) hR R F 0 τ (by omega) (by omega) (by omega)
  refine ⟨fc, ?_, fun i hi => ?_⟩
  · rw [Md_copy, h48, ← nI_0]; exact c1
  · exact c2 i (by omega) hi
end R
