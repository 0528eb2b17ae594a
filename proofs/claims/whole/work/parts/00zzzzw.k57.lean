/-! read(): both. Own text. -/
def kpC (σ σ' : zS) : Prop := gr σ' 10 = gr σ 10 ∧ gr σ' 11 = gr σ 11 ∧ (∀ x, x = 17 ∨ x = 18 → mi σ' (100 * x + 1) = mi σ (100 * x + 1) ∧ ma σ' (lA x) = ma σ (lA x)) ∧ ga σ' 19 = ga σ 19 ∧ ∀ a, a = 901 ∨ a = 902 ∨ a = 903 → gr σ' a = gr σ a
def kpM (τ τ' : zS) : Prop := ga τ' 56 = ga τ 56 ∧ gi τ' 84 = gi τ 84 ∧ ga τ' 1 = ga τ 1 ∧ gi τ' 85 = gi τ 85
theorem kpC_tr {σ σ1 σ2 : zS} (h : kpC σ σ1) (g : kpC σ1 σ2) : kpC σ σ2 := ⟨g.1.trans h.1, g.2.1.trans h.2.1, fun x hx => ⟨((g.2.2.1 x hx).1).trans (h.2.2.1 x hx).1, ((g.2.2.1 x hx).2).trans (h.2.2.1 x hx).2⟩, g.2.2.2.1.trans h.2.2.2.1, fun a ha => (g.2.2.2.2 a ha).trans (h.2.2.2.2 a ha)⟩
theorem kpM_tr {τ τ1 τ2 : zS} (h : kpM τ τ1) (g : kpM τ1 τ2) : kpM τ τ2 := ⟨g.1.trans h.1, g.2.1.trans h.2.1, g.2.2.1.trans h.2.2.1, g.2.2.2.trans h.2.2.2⟩
theorem kpC_sx {I A : List Nat} {σ σ' : zS} (h : sx I A σ σ') (hA : 19 ∉ A) : kpC σ σ' := ⟨sx_gr h 10, sx_gr h 11, fun x _ => ⟨by rw [sx_mi h], by rw [sx_ma h]⟩, h.2.1 19 hA, fun a _ => sx_gr h a⟩
theorem kpM_sx {I A : List Nat} {τ τ' : zS} (h : sx I A τ τ') (hI : 84 ∉ I ∧ 85 ∉ I) (hA : 56 ∉ A ∧ 1 ∉ A) : kpM τ τ' := ⟨h.2.1 56 hA.1, h.1 84 hI.1, h.2.1 1 hA.2, h.1 85 hI.2⟩
theorem kpC_fr {σ σ' : zS} (h : frGC σ σ') : kpC σ σ' := by
  obtain ⟨a1, a2, a3, a4, a5, a6, a7, a8⟩ := h
  refine ⟨a5 10, a5 11, fun x hx => ?_, a2 19 (by decide), fun a _ => a5 a⟩
  rcases hx with z | z <;> subst z
  · exact ⟨a6 _ (by decide) (by decide), a7 _ (by decide) (by decide)⟩
  · exact ⟨a6 _ (by decide) (by decide), a7 _ (by decide) (by decide)⟩
theorem kpC_clr (σ : zS) : kpC σ (clr σ) := by
  refine ⟨rfl, rfl, fun x hx => ?_, rfl, fun _ _ => rfl⟩
  rcases hx with z | z <;> subst z
  · exact ⟨by unfold clr; simp [zs], rfl⟩
  · exact ⟨by unfold clr; simp [zs], rfl⟩
def bsC (σ : zS) : Prop := ∃ G, CS (si σ 306 (gi σ 307)) G ∧ noO G ∧ gn G ≤ 1113
def bsM (τ : zS) : Prop := ∃ H N, MS τ H ∧ gn H ≤ 3000 ∧ (∀ w, Sol H w → w 0 = iS) ∧ gi τ 88 = nI (gn H) ∧ (∀ k, k < gn H → ga τ 58 k = ga τ 29 k) ∧ gi τ 89 = nI N ∧ N ≤ 500 ∧ gi τ 49 = 0
/-- read() has found a fault -/
def RDf (σ τ : zS) (r : Int32) : Prop := ∃ f, 1 ≤ f ∧ f ≤ 6 ∧ r = -10 - nI f ∧ gi σ 200 = nI f ∧ gi τ 8 = nI f ∧ gi σ 201 = gi τ 9 ∧ gi σ 400 = 0 ∧ gi σ 412 = 0 ∧ mi σ 1007 = 0 ∧ gi τ 52 = 0 ∧ gi τ 71 = 0 ∧ (f ≠ 6 → gi τ 10 = 0) ∧ (f = 6 → six σ τ) ∧ bsC σ ∧ bsM τ
theorem six_cg {σ σ' τ τ' : zS} (h : six σ τ) (h1 : gi σ' 200 = gi σ 200 ∧ gi σ' 201 = gi σ 201) (h2 : ∀ x, x = 15 ∨ x = 16 → mi σ' (100 * x + 1) = mi σ (100 * x + 1) ∧ ma σ' (lA x) = ma σ (lA x)) (hs : sx [2, 52, 71, 88, 89] [58] τ τ') : six σ' τ' := by
  obtain ⟨p, H, x, y, d, x1, x2, x3, x4, x5, x6, x7, x8, x9, x10, x11, x12, x13, x14, x15⟩ := h
  have ln : ∀ x P, (x = 15 ∨ x = 16) → lnR σ x P → lnR σ' x P := by
    intro x P hx h
    obtain ⟨q1, q2⟩ := h2 x hx
    rcases h with ⟨⟨w1, w2⟩, w3⟩ | ⟨z, w1, w2, w3, w4⟩
    · exact Or.inl ⟨⟨q1.trans w1, fun i v hv => by rw [q2]; exact w2 i v hv⟩, w3⟩
    · exact Or.inr ⟨z, q1.trans w1, w2, w3, w4⟩
  exact ⟨p, H, x, y, d, h1.1.trans x1, h1.2.trans x2, (hs.1 8 (by decide)).trans x3, (hs.1 9 (by decide)).trans x4, (hs.1 10 (by decide)).trans x5, MS_sx hs (by decide) (by decide) (by decide) (by decide) (by decide) x6, x7, x8, (hs.1 79 (by decide)).trans x9, (hs.1 80 (by decide)).trans x10, x11, x12, ln 15 _ (Or.inl rfl) x13, ln 16 _ (Or.inr rfl) x14, x15⟩
section R
variable {F : Nat} {σ τ : zS}
/-- the end of the reference's read() with a fault -/
theorem rd_fltM (hF : 20000 ≤ F) {f N : Nat} {H : SG} (hf : 1 ≤ f ∧ f ≤ 6) (h8 : gi τ 8 = nI f) (hM : MS τ H) (hgn : gn H ≤ 3000) (hst : ∀ w, Sol H w → w 0 = iS) (h16 : gi τ 16 = nI N) (hN : N ≤ 500) (h49 : gi τ 49 = 0) : ∃ τ', Md_read_54 F τ = some (-10 - nI f, τ') ∧ sx [2, 52, 71, 88, 89] [58] τ τ' ∧ gi τ' 2 = 0 ∧ gi τ' 52 = 0 ∧ gi τ' 71 = 0 ∧ bsM τ' := by
  obtain ⟨τ1, hτ1⟩ : ∃ x, x = si (si (si (si (si τ 2 0) 52 0) 71 0) 88 (nI (gn H))) 89 (nI N) := ⟨_, rfl⟩
  have s1 : sx [2, 52, 71, 88, 89] [58] τ τ1 := by rw [hτ1]; exact sx_si (sx_si (sx_si (sx_si (sx_si (sx_rfl _ _ _) (by decide) _) (by decide) _) (by decide) _) (by decide) _) (by decide) _
  have h48 : gi τ1 48 = nI (gn H) := (s1.1 48 (by decide)).trans hM.1
  obtain ⟨fc, c1, c2⟩ := copyB (F := F) (τ := τ1) hF hM.2.2.1 h48
  have s2 : sx [2, 52, 71, 88, 89] [58] τ (sA τ1 58 fc) := sx_sA s1 (by decide) _
  refine ⟨sA τ1 58 fc, ?_, s2, by rw [hτ1]; simp [zs], by rw [hτ1]; simp [zs], by rw [hτ1]; simp [zs], H, N, MS_sx s2 (by decide) (by decide) (by decide) (by decide) (by decide) hM, hgn, hst, by rw [hτ1]; simp [zs], fun k hk => ?_, by rw [hτ1]; simp [zs], hN, by rw [s2.1 49 (by decide)]; exact h49⟩
  · have n8 : ¬ nI f ≤ 0 := nI_nle (by omega) (by omega)
    have e1 : si (si (si (si (si τ 2 0) 52 0) 71 0) 88 (gi (si (si (si τ 2 0) 52 0) 71 0) 48)) 89 (gi (si (si (si (si τ 2 0) 52 0) 71 0) 88 (gi (si (si (si τ 2 0) 52 0) 71 0) 48)) 16) = τ1 := by
      have q1 : gi (si (si (si τ 2 0) 52 0) 71 0) 48 = nI (gn H) := by simp only [zs]; exact hM.1
      rw [q1, hτ1]
      have q2 : gi (si (si (si (si τ 2 0) 52 0) 71 0) 88 (nI (gn H))) 16 = nI N := by simp only [zs]; exact h16
      rw [q2]
    have e8 : gi (sA τ1 58 fc) 8 = nI f := (s2.1 8 (by decide)).trans h8
    have e16 : gi (si (si (si τ 2 0) 52 0) 71 0) 16 = gi (si (si (si (si τ 2 0) 52 0) 71 0) 88 (gi (si (si (si τ 2 0) 52 0) 71 0) 48)) 16 := by simp [zs]
    have e48 : gi (si (si (si τ 2 0) 52 0) 71 0) 48 = gi τ1 48 := by rw [hτ1]; simp [zs]
    rw [Md_read_54, h8, if_neg n8, Md_read_76, e16, e1, e48, c1, bv_some, e8, if_neg n8]
    rfl
  · have e58 : ga (sA τ1 58 fc) 58 = fc := by simp only [zs, if_true]
    have e29 : ga (sA τ1 58 fc) 29 = ga τ1 29 := by simp only [zs]; rfl
    rw [e58, e29]; exact c2 k hk
theorem CS_one (h : ga σ 25 0 = -1) : ∃ G, CS (si σ 306 1) G ∧ noO G ∧ gn G ≤ 1113 := by
  refine ⟨iniG 1 (fun _ => 0) (fun _ => 0), ⟨by simp [zs]; rfl, Nat.le_refl _, by decide, rfl, rfl, iniG_wf (fun k k1 k2 => by omega), fun k hk => ⟨fun _ => ?_, fun z => absurd rfl z, fun k0 => ?_⟩⟩, iniG_no _ _ _, by show 1 ≤ 1113; decide⟩
  · have : k = 0 := by have : k < 1 := hk; omega
    subst this
    simp only [zs]; exact h
  · exact absurd (show k = 0 by have : k < 1 := hk; omega) k0
/-- a fault behind which no kinds were made -/
theorem rd_flt (hF : 20000 ≤ F) {f N : Nat} {H : SG} (hf : 1 ≤ f ∧ f ≤ 5) (h200 : gi σ 200 = nI f) (h8 : gi τ 8 = nI f) (hp : gi σ 201 = gi τ 9) (h10 : gi τ 10 = 0) (h307 : gi σ 307 = 1) (h25 : ga σ 25 0 = -1) (hM : MS τ H) (hgn : gn H ≤ 3000) (hst : ∀ w, Sol H w → w 0 = iS) (h16 : gi τ 16 = nI N) (hN : N ≤ 500) (h49 : gi τ 49 = 0) : ∃ τ', Q_read_81 F σ = some (-10 - nI f, clr σ) ∧ Md_read_54 F τ = some (-10 - nI f, τ') ∧ sx [2, 52, 71, 88, 89] [58] τ τ' ∧ gi τ' 2 = 0 ∧ RDf (clr σ) τ' (-10 - nI f) := by
  obtain ⟨τ', a1, a2, a3, a4, a5, a6⟩ := rd_fltM (F := F) hF ⟨hf.1, by omega⟩ h8 hM hgn hst h16 hN h49
  have hne : gi σ 200 ≠ 0 := by rw [h200]; exact nI_ne0 (by omega) (by omega)
  have e1 := rd_fltC (F := F) hne
  rw [h200] at e1
  obtain ⟨G, g1, g2, g3⟩ := CS_one (σ := clr σ) (by unfold clr; simp only [zs]; exact h25)
  refine ⟨τ', e1, a1, a2, a3, f, hf.1, by omega, rfl, by unfold clr; simp [zs]; exact h200, (a2.1 8 (by decide)).trans h8, by rw [a2.1 9 (by decide), ← hp]; unfold clr; simp [zs], by unfold clr; simp [zs], by unfold clr; simp [zs], by unfold clr; simp [zs], a4, a5, fun _ => (a2.1 10 (by decide)).trans h10, fun z => by omega, ⟨G, ?_, g2, g3⟩, a6⟩
  have : gi (clr σ) 307 = 1 := by unfold clr; simp [zs]; exact h307
  rw [this]; exact g1
end R
