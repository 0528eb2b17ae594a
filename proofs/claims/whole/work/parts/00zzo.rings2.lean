/-! Synonyms in rings, in both. Own text. -/
section N
variable {F : Nat} {σ τ : zS} {D M : Nat}
theorem cr_syn (hF : 1300 ≤ F) (h400 : gi σ 400 = nI D) (hD : D ≤ 16) : ∀ (d f i : Nat) (x : Int32), i + d = D → d < f → (∀ j, j < 32 → bq x j = (decide (j < i) && decide (ga σ 29 j = 1))) → ∃ x', Ch_checkRings_4 F f σ x (nI i) = Ch_checkRings_46 F F σ x' 0 ∧ ∀ j, j < 32 → bq x' j = (decide (j < D) && decide (ga σ 29 j = 1)) := by
  intro d
  induction d with
  | zero =>
    intro f i x hi hf hx
    obtain ⟨f, rfl⟩ : ∃ f', f = f' + 1 := ⟨f - 1, by omega⟩
    have : i = D := by omega
    subst this
    exact ⟨x, by rw [Ch_checkRings_4, Ch_checkRings_b4, h400, if_pos (nI_le (by omega) (by omega))], hx⟩
  | succ d ih =>
    intro f i x hi hf hx
    obtain ⟨f, rfl⟩ : ∃ f', f = f' + 1 := ⟨f - 1, by omega⟩
    have ci : (nI i).toNatClampNeg = i := nI_clamp (by omega)
    obtain ⟨y, hy⟩ : ∃ y : Int32, y = if ga σ 29 i = 1 then (1 : Int32) <<< (nI i &&& 31) else 0 := ⟨_, rfl⟩
    have key : Ch_checkRings_4 F (f + 1) σ x (nI i) = Ch_checkRings_4 F f σ (x ||| y) (nI (i + 1)) := by
      rw [Ch_checkRings_4, Ch_checkRings_b4, h400, if_neg (nI_ge (by omega) (by omega)), gd_t (inb_nI (by omega) (by omega)), ci, Ch_checkRings_36, Ch_checkRings_36, nI_1, hy]
      split <;> rfl
    rw [key]
    apply ih f (i + 1) _ (by omega) (by omega)
    intro j hj
    rw [bq_or, hx j hj, hy]
    by_cases e : ga σ 29 i = 1
    · rw [if_pos e, bq_shl (by omega)]
      by_cases ej : j = i
      · subst ej; simp [e]
      · have : (j < i + 1) ↔ j < i := by omega
        simp [ej, this]
    · rw [if_neg e, bq_0, Bool.or_false]
      by_cases ej : j = i
      · subst ej; simp [e]
      · have : (j < i + 1) ↔ j < i := by omega
        simp [this]
theorem cr_set (hF : 1300 ≤ F) (h400 : gi σ 400 = nI D) (hD : D ≤ 16) {x : Int32} : ∀ (d f i : Nat) (g : Nat → Int32), i + d = D → d < f → (∀ j, j < i → g j = if ga σ 29 j = 1 then ga σ 37 j &&& x else 0) → ∃ g', Ch_checkRings_46 F f (sA σ 48 g) x (nI i) = bv (Te_closeMasks F (sA σ 48 g') 48) (fun σ2 => Ch_checkRings_110 F F σ2 (0 : Int32)) ∧ (∀ j, j < D → g' j = if ga σ 29 j = 1 then ga σ 37 j &&& x else 0) := by
  intro d
  induction d with
  | zero =>
    intro f i g hi hf hg
    obtain ⟨f, rfl⟩ : ∃ f', f = f' + 1 := ⟨f - 1, by omega⟩
    have : i = D := by omega
    subst this
    exact ⟨g, by rw [Ch_checkRings_46, Ch_checkRings_b46, show gi (sA σ 48 g) 400 = nI i by simp only [zs, h400], if_pos (nI_le (by omega) (by omega))], hg⟩
  | succ d ih =>
    intro f i g hi hf hg
    obtain ⟨f, rfl⟩ : ∃ f', f = f' + 1 := ⟨f - 1, by omega⟩
    have ci : (nI i).toNatClampNeg = i := nI_clamp (by omega)
    have key : Ch_checkRings_46 F (f + 1) (sA σ 48 g) x (nI i) = Ch_checkRings_46 F f (sA σ 48 (upd g i (if ga σ 29 i = 1 then ga σ 37 i &&& x else 0))) x (nI (i + 1)) := by
      rw [Ch_checkRings_46, Ch_checkRings_b46, show gi (sA σ 48 g) 400 = nI D by simp only [zs, h400], if_neg (nI_ge (by omega) (by omega)), gd_t (inb_nI (by omega) (by omega)), ci, show ga (sA σ 48 g) 29 = ga σ 29 by simp [zs], show ga (sA σ 48 g) 37 = ga σ 37 by simp [zs], Ch_checkRings_90, Ch_checkRings_90, gd_t (inb_nI (by omega) (by omega)), gd_t (inb_nI (by omega) (by omega)), ci, nI_1, sa_sA', sa_sA']
      split <;> rfl
    rw [key]
    apply ih f (i + 1) _ (by omega) (by omega)
    intro j hj
    rw [up_at]
    by_cases e : j = i
    · rw [if_pos e, e]
    · rw [if_neg e, hg j (by omega)]
/-- the last loops -/
theorem cr_loop (hF : 1300 ≤ F) {A : Nat → Nat → Bool} (h : dcN σ τ D) (h200 : gi σ 200 = 0) (h8 : gi τ 8 = 0) (hm : mkR σ 48 D A) (hr : rwR τ 47 A) (hA : ∀ i j, A i j = true → ga σ 29 i = 1) : ∀ (d f i : Nat), i + d = D → d + 1 < f → ∃ σ' τ', Ch_checkRings_110 F f σ (nI i) = some σ' ∧ Md_lookRings_6 F f τ (nI i) = some τ' ∧ ((σ' = σ ∧ τ' = τ) ∨ (∃ j, j < D ∧ σ' = si (si σ 200 4) 201 (ga σ 31 j) ∧ τ' = si (si τ 8 4) 9 (ga σ 31 j))) := by
  obtain ⟨h1, h2, hD, h4⟩ := h
  intro d
  induction d with
  | zero =>
    intro f i hi hf
    obtain ⟨f, rfl⟩ : ∃ f', f = f' + 1 := ⟨f - 1, by omega⟩
    refine ⟨σ, τ, ?_, ?_, Or.inl ⟨rfl, rfl⟩⟩
    · rw [Ch_checkRings_110, Ch_checkRings_b110, h1, if_pos (nI_le (by omega) (by omega))]; rfl
    · rw [Md_lookRings_6, Md_lookRings_b6, h2, if_pos (nI_le (by omega) (by omega))]; rfl
  | succ d ih =>
    intro f i hi hf
    obtain ⟨f, rfl⟩ : ∃ f', f = f' + 1 := ⟨f - 1, by omega⟩
    have ci : (nI i).toNatClampNeg = i := nI_clamp (by omega)
    obtain ⟨so, q1, b1, b2, b3, b4, b5, b6, b7, b8, b9⟩ := h4 i (by omega)
    have hb : bq (ga σ 48 i) i = A i i := hm i (by omega) i (by omega)
    have e17 : (17 : Int32) * nI i = nI (16 * i + i) := by
      rw [show (17 : Int32) = nI 17 from rfl, pk_mul]; congr 1; omega
    have e1 : Ch_checkRings_110 F (f + 1) σ (nI i) = if A i i = false then Ch_checkRings_110 F f σ (nI (i + 1)) else Ch_checkRings_110 F f (si (si σ 200 4) 201 (ga σ 31 i)) (nI (i + 1)) := by
      rw [Ch_checkRings_110, Ch_checkRings_b110, h1, if_neg (nI_ge (by omega) (by omega)), fa_there, if_pos h200, bi_some, if_pos rfl, gd_t (inb_nI (by omega) (by omega)), ci, Fa_raise, bv_some, Ch_checkRings_161, Ch_checkRings_161, nI_1]
      simp only [bq_test _ (show i < 32 by omega), hb]
    have e2 : Md_lookRings_6 F (f + 1) τ (nI i) = if A i i = false then Md_lookRings_6 F f τ (nI (i + 1)) else Md_lookRings_6 F f (si (si τ 8 4) 9 (ga σ 31 i)) (nI (i + 1)) := by
      rw [Md_lookRings_6, Md_lookRings_b6, h2, if_neg (nI_ge (by omega) (by omega)), if_pos h8, gd_t (inb_nI (by omega) (by omega)), ci, e17, gd_t (inb_nI (by omega) (by omega)), nI_clamp (by omega), Md_wrong, if_pos h8, Md_wrong_17, bv_some, Md_lookRings_54, Md_lookRings_54, nI_1, hr i i (by omega) (by omega), b4, ← b3, b6]
      by_cases s : ga σ 29 i = 1
      · rw [if_pos s]
        cases A i i <;> rfl
      · rw [if_neg s]
        have : A i i = false := by
          cases hc : A i i with
          | false => rfl
          | true => exact absurd (hA i i hc) s
        rw [if_pos this]
    cases hc : A i i with
    | false =>
      rw [if_pos hc] at e1 e2
      obtain ⟨σ', τ', w1, w2, w3⟩ := ih f (i + 1) (by omega) (by omega)
      exact ⟨σ', τ', by rw [e1, w1], by rw [e2, w2], w3⟩
    | true =>
      rw [if_neg (by rw [hc]; decide)] at e1 e2
      obtain ⟨f, rfl⟩ : ∃ f', f = f' + 1 := ⟨f - 1, by omega⟩
      refine ⟨_, _, ?_, ?_, Or.inr ⟨i, by omega, rfl, rfl⟩⟩
      · have g400 : gi (si (si σ 200 4) 201 (ga σ 31 i)) 400 = nI D := by simp [zs, h1]
        have g200 : ¬ gi (si (si σ 200 4) 201 (ga σ 31 i)) 200 = 0 := by simp [zs]
        rw [e1, Ch_checkRings_110, Ch_checkRings_b110, g400]
        by_cases z : nI D ≤ nI (i + 1)
        · rw [if_pos z]; rfl
        · rw [if_neg z, fa_there, if_neg g200, bi_some, if_neg (by decide)]; rfl
      · have g52 : gi (si (si τ 8 4) 9 (ga σ 31 i)) 52 = nI D := by simp [zs, h2]
        have g8 : ¬ gi (si (si τ 8 4) 9 (ga σ 31 i)) 8 = 0 := by simp [zs]
        rw [e2, Md_lookRings_6, Md_lookRings_b6, g52]
        by_cases z : nI D ≤ nI (i + 1)
        · rw [if_pos z]; rfl
        · rw [if_neg z, if_neg g8]; rfl
theorem nbS_out {σ : zS} {D : Nat} (M i j : Nat) (h : nbS σ D M i j = true) : i < D ∧ j < D := by
  unfold nbS at h
  simp only [Bool.and_eq_true] at h
  exact nbA_out M i j h.1.1
theorem rings_ok (hF : 1300 ≤ F) (h : nmR σ τ D M true) (h37 : ∀ i, i < D → ga σ 37 i = 0) (h200 : gi σ 200 = 0) (h8 : gi τ 8 = 0) : ∃ σ1 σ' τ', Ch_noteNames F σ = some σ1 ∧ Ch_checkRings F σ1 = some σ' ∧ Md_lookRings F τ = some τ' ∧ sx [200, 201] [37, 48] σ σ' ∧ sx [8, 9] [46, 47] τ τ' ∧ mkR σ' 37 D (nbA σ D M) ∧ rwR τ' 46 (cw (nbA σ D M) D) ∧ ((gi σ' 200 = 0 ∧ gi σ' 201 = gi σ 201 ∧ gi τ' 8 = 0 ∧ gi τ' 9 = gi τ 9) ∨ (∃ j, j < D ∧ gi σ' 200 = 4 ∧ gi σ' 201 = ga σ 31 j ∧ gi τ' 8 = 4 ∧ gi τ' 9 = ga σ 31 j)) := by
  have hdc := h.1
  have hD := h.1.2.2.1
  obtain ⟨g, e1, w1⟩ := note_ok (F := F) hF h h37
  obtain ⟨p, q, e2, w2, w3⟩ := needs_ok (F := F) hF h
  obtain ⟨σ1, hσ1⟩ : ∃ σ1, σ1 = sA σ 37 g := ⟨_, rfl⟩
  obtain ⟨τ1, hτ1⟩ : ∃ τ1, τ1 = sA (sA τ 46 p) 47 q := ⟨_, rfl⟩
  rw [← hσ1] at e1 w1
  rw [← hτ1] at e2 w2 w3
  have g400 : gi σ1 400 = nI D := by rw [hσ1]; simp [zs, hdc.1]
  have g29 : ga σ1 29 = ga σ 29 := by rw [hσ1]; simp [zs]
  obtain ⟨x, e3, w4⟩ := cr_syn (F := F) (σ := σ1) hF g400 hD D F 0 0 (by omega) (by omega) (fun j hj => by rw [bq_0]; simp)
  obtain ⟨g2, e4, w5⟩ := cr_set (F := F) (σ := σ1) (x := x) hF g400 hD D F 0 (ga σ1 48) (by omega) (by omega) (fun j hj => by omega)
  rw [sA_self] at e4
  have hmk : mkR (sA σ1 48 g2) 48 D (nbS σ D M) := by
    intro i hi j hj
    rw [ga_sA, w5 i hi, nbS]
    by_cases s : ga σ 29 i = 1
    · rw [g29, if_pos s, bq_and, w1 i hi j hj, w4 j hj, g29]
      by_cases hjD : j < D
      · simp [s, hjD]
      · have : nbA σ D M i j = false := by
          cases hc : nbA σ D M i j with
          | false => rfl
          | true => exact absurd (nbA_out M i j hc).2 hjD
        simp [this]
    · rw [g29, if_neg s, bq_0]; simp [s]
  obtain ⟨g3, e5, w6⟩ := closeM (F := F) (σ := sA σ1 48 g2) (A := nbS σ D M) hF (a := 48) (by decide) (by simp only [zs]; exact g400) hD hmk
  rw [sA_sA] at e5 w6
  obtain ⟨σ2, hσ2⟩ : ∃ σ2, σ2 = sA σ1 48 g3 := ⟨_, rfl⟩
  rw [← hσ2] at e5 w6
  have sC : sx [200, 201] [37, 48] σ σ2 := by
    rw [hσ2, hσ1]
    exact sx_sA (sx_sA (sx_rfl _ _ σ) (by decide) _) (by decide) _
  have sM : sx [8, 9] [46, 47] τ τ1 := by
    rw [hτ1]
    exact sx_sA (sx_sA (sx_rfl _ _ τ) (by decide) _) (by decide) _
  have h2dc : dcN σ2 τ1 D := by
    refine dcN_cg (σ := σ) (τ := τ) (sC.1 400 (by decide)) (sM.1 52 (by decide)) ?_ (fun a _ => sx_gb sC a) ?_ (fun a _ => sx_gb sM a) hdc
    · rintro a (rfl | rfl | rfl) <;> exact sC.2.1 _ (by decide)
    · rintro a (rfl | rfl | rfl) <;> exact sM.2.1 _ (by decide)
  have hcw : cw (nbS σ D M) 16 = cw (nbS σ D M) D := by
    have := cw_ge (A := nbS σ D M) (D := D) (fun i j => nbS_out M i j) (16 - D)
    rw [show D + (16 - D) = 16 by omega] at this
    exact this
  have hcw2 : cw (nbA σ D M) 16 = cw (nbA σ D M) D := by
    have := cw_ge (A := nbA σ D M) (D := D) (fun i j => nbA_out M i j) (16 - D)
    rw [show D + (16 - D) = 16 by omega] at this
    exact this
  rw [hcw] at w3
  rw [hcw2] at w2
  have q200 : gi σ2 200 = 0 := by rw [hσ2, hσ1]; simp [zs, h200]
  have q201 : gi σ2 201 = gi σ 201 := by rw [hσ2, hσ1]; simp [zs]
  have q8 : gi τ1 8 = 0 := by rw [hτ1]; simp [zs, h8]
  have q9 : gi τ1 9 = gi τ 9 := by rw [hτ1]; simp [zs]
  have q31 : ga σ2 31 = ga σ 31 := sC.2.1 31 (by decide)
  have q29 : ga σ2 29 = ga σ 29 := sC.2.1 29 (by decide)
  have hA : ∀ i j, cw (nbS σ D M) D i j = true → ga σ2 29 i = 1 := by
    intro i j z
    obtain ⟨⟨k, z1⟩, _⟩ := cw_from D i j z
    rw [q29]
    unfold nbS at z1
    simp only [Bool.and_eq_true, decide_eq_true_eq] at z1
    exact z1.1.2
  obtain ⟨σ', τ', r1, r2, r3⟩ := cr_loop (F := F) hF h2dc q200 q8 w6 w3 hA D F 0 (by omega) (by omega)
  have m37 : mkR σ2 37 D (nbA σ D M) := by
    intro i hi j hj
    rw [← w1 i hi j hj, hσ2]; simp only [zs]; rfl
  refine ⟨σ1, σ', τ', e1, ?_, ?_, ?_⟩
  · rw [Ch_checkRings, show Ch_checkRings_4 F F σ1 0 0 = Ch_checkRings_4 F F σ1 0 (nI 0) from rfl, e3, show Ch_checkRings_46 F F σ1 x 0 = Ch_checkRings_46 F F σ1 x (nI 0) from rfl, e4, e5, bv_some]
    exact r1
  · rw [Md_lookRings, e2, bv_some]
    exact r2
  · rcases r3 with ⟨z1, z2⟩ | ⟨j, hj, z1, z2⟩
    · rw [z1, z2]
      exact ⟨sC, sM, m37, w2, Or.inl ⟨q200, q201, q8, q9⟩⟩
    · rw [z1, z2, q31]
      refine ⟨sx_si (sx_si sC (by decide) _) (by decide) _, sx_si (sx_si sM (by decide) _) (by decide) _, ?_, ?_, Or.inr ⟨j, hj, by simp [zs], by simp [zs], by simp [zs], by simp [zs]⟩⟩
      · intro i hi j' hj'; simp only [zs]; exact m37 i hi j' hj'
      · intro i j' hi hj'; simp only [zs]; exact w2 i j' hi hj'
end N
