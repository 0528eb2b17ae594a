/-! What holds between two calls; plain(): both answer alike. Own text. -/
/-- both sides, but for the tape and the line shown -/
def RK (σ τ : zS) : Prop := FT σ τ ∧ gi τ 85 = 0 ∧ RWs σ ∧ ∃ D N0 G H, TD σ τ D ∧ BS σ τ D G H N0 ∧ (0 < D → ∃ Gc Hc, CS σ Gc ∧ MS τ Hc ∧ ∀ y, y < D → dPr σ τ Gc Hc y) ∧ SYQ σ τ D G N0
/-- both sides between two calls -/
def RL (σ τ : zS) : Prop := rTape σ τ ∧ SL σ τ ∧ RK σ τ
section R
variable {F : Nat} {σ τ σ' τ' : zS} {D N0 : Nat} {G H : SG}
theorem TD_cg (h : TD σ τ D) (h1 : ∀ r, r = 400 ∨ r = 412 → gi σ' r = gi σ r) (h2 : ∀ a, a ∈ [29, 31, 32, 34, 35, 36, 38] → ga σ' a = ga σ a) (h3 : ∀ b, b = 30 ∨ b = 33 → gb σ' b = gb σ b) (t1 : ∀ r, r = 52 ∨ r = 71 → gi τ' r = gi τ r) (t2 : ∀ a, a ∈ [33, 35, 36, 38, 46, 48, 52] → ga τ' a = ga τ a) (t3 : ∀ b, b = 34 ∨ b = 37 → gb τ' b = gb τ b) : TD σ' τ' D := by
  obtain ⟨a1, a2, a3, a4, ⟨K, b1, b2, b3⟩, a6⟩ := h
  refine ⟨dcN_cg (h1 400 (by simp)) (t1 52 (by simp)) (fun a ha => h2 a (by simp; omega)) (fun a ha => h3 a ha) (fun a ha => t2 a (by simp; omega)) (fun a ha => t3 a ha) a1, dcO_cg a2 (h1 400 (by simp)) (h2 29 (by simp)) (h2 32 (by simp)), dcP_cg a3 (t1 52 (by simp)) (t2 33 (by simp)) (t2 36 (by simp)), fun i hi => ?_, ⟨K, b1, by rw [h1 412 (by simp)]; exact b2, by rw [t1 71 (by simp)]; exact b3⟩, fun i j hi hj => ?_⟩
  · rw [h2 36 (by simp), h2 34 (by simp), h2 35 (by simp), t2 48 (by simp), t2 38 (by simp), t2 52 (by simp)]; exact a4 i hi
  · rw [h2 38 (by simp), t2 46 (by simp)]; exact a6 i j hi hj
theorem RWs_fr (h : RWs σ) (h1 : ∀ a, a = 901 ∨ a = 902 ∨ a = 903 → gr σ' a = gr σ a) : RWs σ' := by
  unfold RWs
  rw [h1 901 (by simp), h1 902 (by simp), h1 903 (by simp)]; exact h
theorem RK_fr (h : RK σ τ) (hRW : RWs σ') (h85 : gi τ' 85 = 0) (c1 : ∀ r, r ∉ [101, 105, 106, 309, 907, 908] → gi σ' r = gi σ r) (c2 : ∀ a, a ∉ [19, 20, 22, 28, 57, 58, 59] → ga σ' a = ga σ a) (c3 : ∀ b, b ≠ 21 → gb σ' b = gb σ b) (c4 : ∀ j, j = 1004 ∨ j = 1007 ∨ j = 1501 ∨ j = 1601 → mi σ' j = mi σ j) (c5 : ∀ a, (60 ≤ a ∧ a < 66) ∨ a = lA 15 ∨ a = lA 16 → ma σ' a = ma σ a) (c6 : mb σ' 61 = mb σ 61) (m1 : ∀ r, r ∉ [0, 2, 82, 84, 85, 87, 95, 96, 97] → gi τ' r = gi τ r) (m2 : ∀ a, a ∉ [1, 53, 54, 55, 56, 57, 59, 60, 61, 62] → ga τ' a = ga τ a) (m3 : ∀ b, gb τ' b = gb τ b) : RK σ' τ' := by
  obtain ⟨h1, _, _, D, N0, G, H, h4, h5, h6, h7⟩ := h
  have hD := h5.2.2.2.2.2.2.2.2.2.2.2.2.1.2.2.1
  refine ⟨FT_fr h1 ⟨c1 200 (by simp), c1 201 (by simp)⟩ (fun x hx => ⟨c4 _ (by omega), c5 _ (by rcases hx with z | z <;> rw [z] <;> simp)⟩) (fun r hr => m1 r (by simp; omega)) (fun a ha => m2 a (by simp; omega)), h85, hRW, D, N0, G, H, TD_cg h4 (fun r hr => c1 r (by simp; omega)) (fun a ha => c2 a (by simp at ha ⊢; omega)) (fun b hb => c3 b (by omega)) (fun r hr => m1 r (by simp; omega)) (fun a ha => m2 a (by simp at ha ⊢; omega)) (fun b _ => m3 b), BS_cg h5 (fun r hr => c1 r (by simp; omega)) (fun a ha => c2 a (by simp at ha ⊢; omega)) (fun b hb => c3 b (by omega)) (fun r hr => m1 r (by simp at hr ⊢; omega)) (fun a ha => m2 a (by simp at ha ⊢; omega)) (fun b _ => m3 b), fun h0 => ?_, SYQ_cg h7 hD (fun _ _ => rfl) (fun a ha => c2 a (by simp; omega)) (fun b hb => c3 b (by omega)) (fun j hj => c4 j (by omega)) (fun a a1 a2 => c5 a (by omega)) c6 (fun i _ => by rw [m2 2 (by simp), m3 3, m2 4 (by simp), m2 5 (by simp)]; exact ⟨rfl, rfl, rfl, rfl⟩) (m2 41 (by simp))⟩
  obtain ⟨Gc, Hc, e1, e2, e3⟩ := h6 h0
  exact ⟨Gc, Hc, CS_cg (c1 306 (by simp)) (fun k _ => by rw [c2 23 (by simp), c2 24 (by simp), c2 25 (by simp)]; exact ⟨rfl, rfl, rfl⟩) e1, MS_cg (m1 48 (by simp)) (fun k _ => by rw [m2 26 (by simp), m2 27 (by simp), m2 28 (by simp), m2 29 (by simp)]; exact ⟨rfl, rfl, rfl, rfl⟩) e2, fun y hy => dPr_cg (e3 y hy) (fun a ha => c2 a (by simp; omega)) (c2 32 (by simp)) (c2 29 (by simp)) (fun a ha => m2 a (by simp; omega))⟩
/-- behind a question -/
theorem RK_ao (hTD : TD σ τ D) (hBS : BS σ τ D G H N0) (hS : SYQ σ τ D G N0) (hRW : RWs σ) (h85 : gi τ 85 = 0) (hA : AO σ τ σ' τ' D G H N0) (hFT : FT σ' τ') : rTape σ' τ' ∧ RK σ' τ' ∧ SYQ σ' τ' D G N0 ∧ dcN σ' τ' D ∧ N0 ≤ 500 := by
  obtain ⟨⟨G', a1, a2, a3⟩, a4, q, p, a5, a6⟩ := hA
  have hD := hBS.2.2.2.2.2.2.2.2.2.2.2.2.1.2.2.1
  have pg : ∀ a, a ∉ [2, 4, 5] → (a < 6 ∨ 30 < a) → a ∉ [53, 54] → ga τ' a = ga τ a := fun a h1 h2 h3 => funext fun i => p.2.1 a i (fun z => absurd z (by simp at h1; omega)) h2 h3
  have hS' : SYQ σ' τ' D G N0 := SYQ_cg hS hD (fun _ _ => rfl) (fun a ha => q.2.1 a (by simp; omega)) (fun b hb => q.2.2.1 b (by simp; omega)) (fun j hj => q.2.2.2.2.1 j (by simp; omega)) (fun a a1 a2 => q.2.2.2.2.2.1 a (by omega) (by unfold lA; omega) (by unfold lA; omega)) (q.2.2.2.2.2.2 61 (by omega)) (fun i hi => ⟨p.2.1 2 i (fun _ => hi) (by omega) (by decide), p.2.2 3 i (fun _ => hi) (by decide), p.2.1 4 i (fun _ => hi) (by omega) (by decide), p.2.1 5 i (fun _ => hi) (by omega) (by decide)⟩) (pg 41 (by simp) (by omega) (by simp))
  have hTD' : TD σ' τ' D := TD_cg hTD (fun r hr => q.1 r (by simp; omega)) (fun a ha => q.2.1 a (by simp at ha ⊢; omega)) (fun b hb => q.2.2.1 b (by simp; omega)) (fun r hr => p.1 r (by unfold exAm exM; omega) (by simp; omega)) (fun a ha => pg a (by simp at ha ⊢; omega) (by simp at ha; omega) (by simp at ha ⊢; omega)) (fun b hb => funext fun i => p.2.2 b i (fun z => absurd z (by omega)) (by omega))
  refine ⟨⟨0, by omega, a5, a6, fun i hi => absurd hi (by omega)⟩, ⟨hFT, ?_, RWs_fr hRW (fun a ha => q.2.2.2.1 a (by omega)), D, N0, G', H, hTD', a1, fun _ => a4, ?_⟩, hS', hTD'.1, hBS.2.2.2.2.2.2.2.2.2.1⟩
  · rw [p.1 85 (by unfold exAm exM; omega) (by decide)]; exact h85
  · refine SYQ_cg hS' hD (fun y hy => ?_) (fun _ _ => rfl) (fun _ _ => rfl) (fun _ _ => rfl) (fun _ _ _ => rfl) rfl (fun _ _ => ⟨rfl, rfl, rfl, rfl⟩) rfl
    obtain ⟨⟨k, k', b1, b2, b3, b4, b5, d, b6⟩, _⟩ := hBS.2.2.2.2.2.2.2.1 y hy
    have := hBS.2.2.1
    rw [q.2.1 40 (by decide), b1, nI_clamp (by omega)]
    exact a3 k d b3 b6
end R
