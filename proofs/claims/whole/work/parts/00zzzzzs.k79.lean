/-! kind(): both answer alike. Own text. -/
section K
variable {F : Nat} {σ τ σ' τ' : zS} {D N0 : Nat} {G H : SG}
theorem BS_cg (h : BS σ τ D G H N0) (h1 : ∀ r, r = 307 ∨ r = 400 → gi σ' r = gi σ r) (h2 : ∀ a, a ∈ [23, 24, 25, 29, 31, 32, 35, 40, 41] → ga σ' a = ga σ a) (h3 : ∀ b, b = 30 ∨ b = 33 → gb σ' b = gb σ b) (t1 : ∀ r, r ∈ [88, 89, 49, 52] → gi τ' r = gi τ r) (t2 : ∀ a, a ∈ [26, 27, 28, 58, 33, 35, 36, 49, 50, 52] → ga τ' a = ga τ a) (t3 : ∀ b, b = 34 ∨ b = 37 → gb τ' b = gb τ b) : BS σ' τ' D G H N0 := by
  obtain ⟨a1, a2, a3, a4, a5, a6, a7, a8, a9, a10, a11, a12, a13, a14⟩ := h
  refine ⟨CS_cg ?_ (fun k _ => ?_) a1, a2, a3, MS_cg ?_ (fun k _ => ?_) a4, a5, a6, a7, fun y hy => dPr_cg (a8 y hy) (fun a ha => h2 a (by simp; omega)) (h2 32 (by decide)) (h2 29 (by decide)) (fun a ha => t2 a (by simp; omega)), by rw [t1 89 (by decide)]; exact a9, a10, by rw [t1 49 (by decide)]; exact a11, by rw [fTy_cg (h2 29 (by decide)) (h3 30 (by simp))]; exact a12, dcN_cg (h1 400 (by simp)) (t1 52 (by decide)) (fun a ha => h2 a (by simp; omega)) (fun a ha => h3 a ha) (fun a ha => t2 a (by simp; omega)) (fun a ha => t3 a ha) a13, dcO_cg a14 (h1 400 (by simp)) (h2 29 (by decide)) (h2 32 (by decide))⟩
  · have e1 : gi (si σ' 306 (gi σ' 307)) 306 = gi σ' 307 := by simp [zs]
    have e2 : gi (si σ 306 (gi σ 307)) 306 = gi σ 307 := by simp [zs]
    rw [e1, e2, h1 307 (by simp)]
  · have e1 : ∀ a, ga (si σ' 306 (gi σ' 307)) a = ga σ' a := fun a => by simp [zs]
    have e2 : ∀ a, ga (si σ 306 (gi σ 307)) a = ga σ a := fun a => by simp [zs]
    rw [e1, e1, e1, e2, e2, e2, h2 23 (by decide), h2 24 (by decide), h2 25 (by decide)]
    exact ⟨rfl, rfl, rfl⟩
  · have e1 : gi (sA (si τ' 48 (gi τ' 88)) 29 (ga τ' 58)) 48 = gi τ' 88 := by simp [zs]
    have e2 : gi (sA (si τ 48 (gi τ 88)) 29 (ga τ 58)) 48 = gi τ 88 := by simp [zs]
    rw [e1, e2, t1 88 (by decide)]
  · have e1 : ∀ a, a ≠ 29 → ga (sA (si τ' 48 (gi τ' 88)) 29 (ga τ' 58)) a = ga τ' a := fun a ha => by simp [zs, ha]
    have e2 : ∀ a, a ≠ 29 → ga (sA (si τ 48 (gi τ 88)) 29 (ga τ 58)) a = ga τ a := fun a ha => by simp [zs, ha]
    have e3 : ga (sA (si τ' 48 (gi τ' 88)) 29 (ga τ' 58)) 29 = ga τ' 58 := by simp [zs]
    have e4 : ga (sA (si τ 48 (gi τ 88)) 29 (ga τ 58)) 29 = ga τ 58 := by simp [zs]
    rw [e1 26 (by decide), e1 27 (by decide), e1 28 (by decide), e2 26 (by decide), e2 27 (by decide), e2 28 (by decide), e3, e4, t2 26 (by decide), t2 27 (by decide), t2 28 (by decide), t2 58 (by decide)]
    exact ⟨rfl, rfl, rfl, rfl⟩
theorem BS_0 (h : BS σ τ D G H N0) : BS σ (si τ 0 0) D G H N0 := by
  have s0 : sx [0] [] τ (si τ 0 0) := sx_si (sx_rfl _ _ _) (by decide) _
  exact BS_cg h (fun _ _ => rfl) (fun _ _ => rfl) (fun _ _ => rfl) (fun r hr => s0.1 r (by simp at hr ⊢; omega)) (fun a _ => s0.2.1 a (by simp)) (fun b _ => sx_gb s0 b)
theorem rT_0 (h : rTape σ τ) : rTape σ (si τ 0 0) := by
  obtain ⟨n, h1, h2, h3, h4⟩ := h
  exact ⟨n, h1, h2, by simp [zs]; exact h3, fun i hi => by simpa only [zs] using h4 i hi⟩
/-- the line shown stays over a question -/
theorem SL_fr (h : SL σ τ) (h1 : ∀ a, a = 10 ∨ a = 11 → gr σ' a = gr σ a) (h2 : ∀ j, j = 1701 ∨ j = 1801 → mi σ' j = mi σ j) (h3 : ∀ a, a = lA 17 ∨ a = lA 18 → ma σ' a = ma σ a) (t1 : gi τ' 84 = gi τ 84) (t2 : ga τ' 56 = ga τ 56) : SL σ' τ' := by
  obtain ⟨a1, L, a2, a3, a4, a5⟩ := h
  have e10 := h1 10 (by simp)
  have e11 := h1 11 (by simp)
  refine ⟨by rw [e10, e11]; exact a1, L, a2, ?_, by rw [t1]; exact a4, fun i hi => ?_⟩
  · rw [e10, h2 _ (by rcases a1 with ⟨z, _⟩ | ⟨z, _⟩ <;> rw [z] <;> simp)]; exact a3
  · rw [e10, h3 _ (by rcases a1 with ⟨z, _⟩ | ⟨z, _⟩ <;> rw [z] <;> simp), t2]; exact a5 i hi
theorem SL_q (h : SL σ τ) (hq : frQ σ σ') (hp : frPa N0 τ τ') : SL σ' τ' := by
  refine SL_fr h (fun a ha => hq.2.2.2.1 a (by omega)) (fun j hj => hq.2.2.2.2.1 j (by simp; omega)) (fun a ha => hq.2.2.2.2.2.1 a ?_ ?_ ?_) (hp.1 84 (by unfold exAm exM; omega) (by decide)) (funext fun i => hp.2.1 56 i (by omega) (by omega) (by decide))
  · rcases ha with z | z <;> rw [z] <;> decide
  · rcases ha with z | z <;> rw [z] <;> decide
  · rcases ha with z | z <;> rw [z] <;> decide
theorem FT_r (h : FT σ τ) (hn : gi σ 200 ≠ 0) : gi τ 8 = gi σ 200 ∧ ¬ gi τ 8 ≤ 0 := by
  rcases h with ⟨z, _⟩ | ⟨f, f1, f2, f3, f4, _⟩ | ⟨p, H, x, y, d, a1, a2, a3, _⟩
  · exact absurd z hn
  · rw [f3, f4]
    exact ⟨rfl, fun z => absurd z (nI_ge (a := 0) (b := f) (by omega) (by omega))⟩
  · rw [a1, a3]; exact ⟨rfl, by decide⟩
theorem FT_fr (h : FT σ τ) (h1 : gi σ' 200 = gi σ 200 ∧ gi σ' 201 = gi σ 201) (h2 : ∀ x, x = 15 ∨ x = 16 → mi σ' (100 * x + 1) = mi σ (100 * x + 1) ∧ ma σ' (lA x) = ma σ (lA x)) (h3 : ∀ r, r = 8 ∨ r = 9 ∨ r = 10 ∨ r = 48 ∨ r = 79 ∨ r = 80 → gi τ' r = gi τ r) (h4 : ∀ a, a = 26 ∨ a = 27 ∨ a = 28 ∨ a = 29 → ga τ' a = ga τ a) : FT σ' τ' := by
  rcases h with ⟨a1, a2, a3, a4⟩ | ⟨f, f1, f2, f3, f4, f5, f6⟩ | h
  · exact Or.inl ⟨by rw [h1.1]; exact a1, by rw [h3 8 (by simp)]; exact a2, by rw [h3 9 (by simp)]; exact a3, by rw [h3 10 (by simp)]; exact a4⟩
  · exact Or.inr (Or.inl ⟨f, f1, f2, by rw [h1.1]; exact f3, by rw [h3 8 (by simp)]; exact f4, by rw [h1.2, h3 9 (by simp)]; exact f5, by rw [h3 10 (by simp)]; exact f6⟩)
  · exact Or.inr (Or.inr (six_fr h h1 h2 h3 h4))
theorem kind_ok (hF : 20000 ≤ F) (hBS : BS σ τ D G H N0) (hT : rTape σ τ) (hSL : SL σ τ) (h85 : gi τ 85 = 0) : ∃ r σ1 τ1 σ' τ', Q_kind F σ = some (r, σ') ∧ Md_kind F τ = some (r, τ') ∧ AO σ (si τ 0 0) σ1 τ1 D G H N0 ∧ FT σ1 τ1 ∧ frSh σ1 σ' ∧ sx [82, 84] [53, 55, 56] τ1 τ' ∧ SL σ' τ' := by
  obtain ⟨b, rr, σ1, τ1, q1, q2, q3, q4⟩ := ask1_ok (F := F) hF (BS_0 hBS) (rT_0 hT)
  have hSL0 : SL σ (si τ 0 0) := SL_fr hSL (fun _ _ => rfl) (fun _ _ => rfl) (fun _ _ => rfl) (by simp [zs]) (by simp [zs])
  have hSL1 : SL σ1 τ1 := SL_q hSL0 q3.2.2.1 q3.2.2.2.1
  have e85 : gi τ1 85 = 0 := by
    rw [q3.2.2.2.1.1 85 (by unfold exAm exM; omega) (by decide)]; simp [zs]; exact h85
  rcases q4 with ⟨b0, hn, hFT⟩ | ⟨b1, hAW, hQK, _⟩
  · obtain ⟨r1, r2⟩ := FT_r hFT hn
    refine ⟨-10 - gi σ1 200, σ1, τ1, σ1, τ1, ?_, ?_, q3, hFT, ⟨fun _ _ => rfl, fun _ _ => rfl, fun _ => rfl, fun _ => rfl, fun _ _ _ => rfl, fun _ _ _ => rfl, fun _ _ _ => rfl, fun _ => rfl⟩, sx_rfl _ _ _, hSL1⟩
    · rw [Q_kind, q1, bi_some, if_pos b0]
    · rw [Md_kind, q2, bi_some, if_neg r2, r1]; rfl
  · obtain ⟨Gc, Hc, k, k', nn, d, w1, w2, w3, w4, w5, w6, w7, w8, w9, w10, w11⟩ := hQK
    obtain ⟨a1, a2, a3, a4⟩ := hAW
    obtain ⟨r, σ', τ', s1, s2, s3, s4, s5, s6, s7⟩ := showK (F := F) hF hSL1 w1 w2 e85 w7 w8 w9 w10 w11
    refine ⟨r, σ1, τ1, σ', τ', ?_, ?_, q3, Or.inl ⟨a1, a2, a3, a4⟩, s6, s7, s3⟩
    · rw [Q_kind, q1, bi_some, if_neg (by rw [b1]; decide), w5, s1, bi_some]
    · rw [Md_kind, q2, bi_some, if_pos (by rw [a2]; decide), w3, gd_t (inb_nI (by omega) (by omega)), nI_clamp (by omega), w6, s2, bi_some]; rfl
end K
