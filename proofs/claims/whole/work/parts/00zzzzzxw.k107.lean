/-! The states at the start. Own text. -/
def G00 : SG := (1, fun _ => 1, fun _ => 0, fun _ => 0, fun k => k)
theorem G00_w : wfG G00 := by
  refine ⟨fun k hk => ?_, fun k hk => ?_⟩
  · have hk' : k < 1 := hk
    exact ⟨show (1 : Nat) ≤ 2 by omega, hk, fun z => absurd (show (1 : Nat) = 2 from z) (by omega)⟩
  · exact ⟨0, k, ⟨rfl, rfl⟩, hk, Nat.zero_le _⟩
theorem RL_st {σ τ : zS} (h1 : ∀ r, r ≠ 306 → r ≠ 307 → gi σ r = 0) (h2 : gi σ 307 = 1) (h3 : ga σ 25 0 = -1) (h4 : ∀ j, mi σ j = 0) (h5 : gr σ 10 = 17 ∧ gr σ 11 = 18 ∧ gr σ 901 = 12 ∧ gr σ 902 = 13 ∧ gr σ 903 = 14) (t1 : ∀ r, r ≠ 9 → r ≠ 48 → r ≠ 88 → gi τ r = 0) (t2 : gi τ 9 = -3 ∧ gi τ 88 = 1) (t3 : ga τ 26 0 = 1 ∧ ga τ 58 0 = 0) : RL σ τ := by
  obtain ⟨r10, r11, r901, r902, r903⟩ := h5
  have hdN : dcN σ τ 0 := ⟨h1 400 (by omega) (by omega), t1 52 (by omega) (by omega) (by omega), by omega, fun i hi => absurd hi (by omega)⟩
  have hdO : dcO σ 0 := ⟨h1 400 (by omega) (by omega), by omega, fun i hi => absurd hi (by omega)⟩
  refine ⟨⟨0, by omega, h1 101 (by omega) (by omega), t1 2 (by omega) (by omega) (by omega), fun i hi => absurd hi (by omega)⟩, ⟨Or.inl ⟨r10, r11⟩, 0, by omega, h4 _, t1 84 (by omega) (by omega) (by omega), fun i hi => absurd hi (by omega)⟩, Or.inl ⟨h1 200 (by omega) (by omega), t1 8 (by omega) (by omega) (by omega), t2.1, t1 10 (by omega) (by omega) (by omega)⟩, t1 85 (by omega) (by omega) (by omega), ?_, 0, 0, G00, G00, ⟨hdN, hdO, ⟨t1 52 (by omega) (by omega) (by omega), by omega, fun i hi => absurd hi (by omega)⟩, fun i hi => absurd hi (by omega), ⟨0, by omega, h1 412 (by omega) (by omega), t1 71 (by omega) (by omega) (by omega)⟩, fun i j hi => absurd hi (by omega)⟩, ⟨?_, ?_, ?_, ?_, ?_, fun w hw => ((hw 0 (show 0 < 1 by omega)).2 rfl).1 rfl, fun z => absurd z (by omega), fun y hy => absurd hy (by omega), t1 89 (by omega) (by omega) (by omega), by omega, t1 49 (by omega) (by omega) (by omega), rfl, hdN, hdO⟩, fun z => absurd z (by omega), fun y hy => absurd hy (by omega)⟩
  · unfold RWs isP
    rw [r901, r902, r903]
    omega
  · refine ⟨?_, Nat.le_refl 1, show (1 : Nat) ≤ 1713 by omega, rfl, rfl, G00_w, fun k hk => ?_⟩
    · have : gi (si σ 306 (gi σ 307)) 306 = gi σ 307 := by simp [zs]
      rw [this, h2]; rfl
    · have hk0 : k = 0 := by
        have : k < 1 := hk
        omega
      subst hk0
      exact ⟨fun _ => h3, fun z => absurd rfl z, fun z => absurd rfl z⟩
  · intro k hk _
    exact fun z => absurd (show (1 : Nat) = 0 from z) (by omega)
  · exact show (1 : Nat) ≤ 1113 by omega
  · refine ⟨?_, Nat.le_refl 1, show (1 : Nat) ≤ 4000 by omega, G00_w, fun k hk => ?_⟩
    · have : gi (sA (si τ 48 (gi τ 88)) 29 (ga τ 58)) 48 = gi τ 88 := by simp [zs]
      rw [this, t2.2]; rfl
    · have hk0 : k = 0 := by
        have : k < 1 := hk
        omega
      subst hk0
      refine ⟨?_, ?_, fun z => absurd (show (1 : Nat) = 2 from z) (by omega)⟩
      · have : ga (sA (si τ 48 (gi τ 88)) 29 (ga τ 58)) 26 = ga τ 26 := by simp [zs]
        rw [this, t3.1]; rfl
      · have : ga (sA (si τ 48 (gi τ 88)) 29 (ga τ 58)) 29 = ga τ 58 := by simp [zs]
        rw [this, t3.2]; rfl
  · exact show (1 : Nat) ≤ 3000 by omega
