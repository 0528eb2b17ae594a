/-! A question: what stays. Own text. -/
section K
variable {F : Nat} {σ τ σa τa σ' τ' : zS} {D N0 : Nat} {G H Gc Hc : SG}
/-- a text's part of the class and of the reference behind a question -/
theorem bs_back (hBS : BS σ τ D G H N0) (hAX : AX σ τ σa τa N0 (gn H)) (hc : kC0 (si σa 101 0) σ' G Gc) (hm : kM0 τa τ' H Hc) {dom : Nat → Prop} {m : Nat → Nat} (hxC : xt G (fun _ => False) (fun z => z) Gc dom m) : BS σ' (si τ' 2 0) D (rsG (gn G) Gc) H N0 := by
  have e307 := bs_307 hBS
  have e88 := bs_88 hBS
  obtain ⟨hCa, hMa⟩ := ax_st hBS hAX
  obtain ⟨d1, d2, d3⟩ := ax_dc hBS hAX
  obtain ⟨x1, x2, x3, x4, x5, x6⟩ := hAX
  obtain ⟨c1, c2, c3, c4, c5⟩ := hc
  obtain ⟨m1, m2, ⟨S, m3, m4, m5, m6⟩⟩ := hm
  obtain ⟨h1, h2, h3, h4, h5, h6, h7, h8, h9, h10, h11, h12, h13, h14⟩ := hBS
  have sb : sx [101] [] σa (si σa 101 0) := sx_si (sx_rfl _ _ _) (by decide) _
  have gaC : ∀ a, a ∉ [23, 24, 25, 26, 27, 28, 49, 50, 51, 52, 53, 54, 56] → a ≠ 20 → a ≠ 22 → (a < 43 ∨ 47 < a) → ga σ' a = ga σ a := fun a z1 z2 z3 z4 => by rw [c1.2.1 a z1, sb.2.1 a (by simp), x1.2.1 a z2 z3 z4]
  have giM : ∀ r, r ∉ [2, 8, 9, 10, 48, 79, 80] → ¬ exAm r → gi (si τ' 2 0) r = gi τ r := fun r z1 z2 => by
    simp at z1
    have : gi (si τ' 2 0) r = gi τ' r := by simp only [zs, if_neg z1.1]
    rw [this, m1.1 r (by simp; omega), x2.1 r z2]
  have gaM : ∀ a, a ∉ [6, 26, 27, 28, 29, 30, 53, 54] → 25 < a → ga (si τ' 2 0) a = ga τ a := fun a z1 z2 => by
    show ga τ' a = _
    rw [m1.2.1 a z1]
    funext i
    simp at z1
    exact x2.2.1 a i (by omega) (by omega) (by omega)
  have n307 : gi σ' 307 = nI (gn G) := by
    rw [c1.1 307 (by decide), sb.1 307 (by decide), x1.1 307 (by unfold exAi; omega)]; exact e307
  obtain ⟨r1, r2, r3⟩ := rs_CS (σ0 := si σa 101 0) (G0 := G) (n := gn G) (CS_sx sb (by decide) (by decide) (by decide) (by decide) hCa) rfl c2 c4 c3 (fun k hk => (c5 k hk).1) (fun k hk => (c5 k hk).2)
  have e29 : ga σ' 29 = ga σ 29 := gaC 29 (by decide) (by decide) (by decide) (by decide)
  have e32 : ga σ' 32 = ga σ 32 := gaC 32 (by decide) (by decide) (by decide) (by decide)
  have e400 : gi σ' 400 = gi σ 400 := by rw [c1.1 400 (by decide), sb.1 400 (by decide), x1.1 400 (by unfold exAi; omega)]
  have hwG := h1.2.2.2.2.2.1
  refine ⟨by rw [n307]; exact r1, r2, h3, ?_, h5, h6, h7, fun y hy => ?_, by rw [giM 89 (by decide) (by unfold exAm exM; omega)]; exact h9, h10, by rw [giM 49 (by decide) (by unfold exAm exM; omega)]; exact h11, ?_, ?_, dcO_cg h14 e400 e29 e32⟩
  · obtain ⟨q1, q2, q3, q4, q5⟩ := h4
    refine ⟨?_, q2, q3, q4, fun k hk => ?_⟩
    · have : gi (sA (si (si τ' 2 0) 48 (gi (si τ' 2 0) 88)) 29 (ga (si τ' 2 0) 58)) 48 = gi (si τ' 2 0) 88 := by simp [zs]
      rw [this, giM 88 (by decide) (by unfold exAm exM; omega)]; exact e88
    · obtain ⟨w1, w2, w3⟩ := q5 k hk
      obtain ⟨v1, v2, v3⟩ := m6 k hk
      have f26 : ga (sA (si (si τ' 2 0) 48 (gi (si τ' 2 0) 88)) 29 (ga (si τ' 2 0) 58)) 26 k = ga (sA (si τ 48 (gi τ 88)) 29 (ga τ 58)) 26 k := by
        have e1 : ga (sA (si (si τ' 2 0) 48 (gi (si τ' 2 0) 88)) 29 (ga (si τ' 2 0) 58)) 26 k = ga τ' 26 k := by simp only [zs]; rfl
        have e2 : ga (sA (si τ 48 (gi τ 88)) 29 (ga τ 58)) 26 k = ga τ 26 k := by simp only [zs]; rfl
        rw [e1, e2, v1, x2.2.1 26 k (by omega) (by decide) (by decide)]
      have f27 : ga (sA (si (si τ' 2 0) 48 (gi (si τ' 2 0) 88)) 29 (ga (si τ' 2 0) 58)) 27 k = ga (sA (si τ 48 (gi τ 88)) 29 (ga τ 58)) 27 k := by
        have e1 : ga (sA (si (si τ' 2 0) 48 (gi (si τ' 2 0) 88)) 29 (ga (si τ' 2 0) 58)) 27 k = ga τ' 27 k := by simp only [zs]; rfl
        have e2 : ga (sA (si τ 48 (gi τ 88)) 29 (ga τ 58)) 27 k = ga τ 27 k := by simp only [zs]; rfl
        rw [e1, e2, v2, x2.2.1 27 k (by omega) (by decide) (by decide)]
      have f28 : ga (sA (si (si τ' 2 0) 48 (gi (si τ' 2 0) 88)) 29 (ga (si τ' 2 0) 58)) 28 k = ga (sA (si τ 48 (gi τ 88)) 29 (ga τ 58)) 28 k := by
        have e1 : ga (sA (si (si τ' 2 0) 48 (gi (si τ' 2 0) 88)) 29 (ga (si τ' 2 0) 58)) 28 k = ga τ' 28 k := by simp only [zs]; rfl
        have e2 : ga (sA (si τ 48 (gi τ 88)) 29 (ga τ 58)) 28 k = ga τ 28 k := by simp only [zs]; rfl
        rw [e1, e2, v3, x2.2.1 28 k (by omega) (by decide) (by decide)]
      have f29 : ga (sA (si (si τ' 2 0) 48 (gi (si τ' 2 0) 88)) 29 (ga (si τ' 2 0) 58)) 29 k = ga (sA (si τ 48 (gi τ 88)) 29 (ga τ 58)) 29 k := by
        have e1 : ga (sA (si (si τ' 2 0) 48 (gi (si τ' 2 0) 88)) 29 (ga (si τ' 2 0) 58)) 29 = ga (si τ' 2 0) 58 := by simp [zs]
        have e2 : ga (sA (si τ 48 (gi τ 88)) 29 (ga τ 58)) 29 = ga τ 58 := by simp [zs]
        rw [e1, e2, gaM 58 (by decide) (by decide)]
      rw [f26, f27, f28, f29]
      exact ⟨w1, w2, w3⟩
  · refine dPr_cg (G := rsG (gn G) Gc) (σ := σ) (τ := τ) ?_ (fun a ha => gaC a (by rcases ha with z | z | z <;> subst z <;> decide) (by omega) (by omega) (by omega)) e32 e29 (fun a ha => gaM a (by rcases ha with z | z | z <;> subst z <;> decide) (by omega))
    have kp : ∀ k k', pairT G H k k' → pairT (rsG (gn G) Gc) H k k' := by
      intro k k' ⟨p1, p2, p3, d, p4⟩
      have e := (cl_keep hwG h2 hxC c2.2.2.2.2.2.1 p1 p4).2.1
      have e' : gT (rsG (gn G) Gc) k = gT G k := by rw [r3 k p1, e]
      exact ⟨p1, p2, by rw [e']; exact p3, d, by rw [e']; exact p4⟩
    obtain ⟨⟨k, k', q1, q2, q3⟩, q4, q5⟩ := h8 y hy
    refine ⟨⟨k, k', q1, q2, kp k k' q3⟩, fun j hj => ?_, q5⟩
    obtain ⟨k, k', q1, q2, q3⟩ := q4 j hj
    exact ⟨k, k', q1, q2, kp k k' q3⟩
  · rw [fTy_cg e29 (by rw [c1.2.2.1 30 (by decide), sx_gb sb, x1.2.2.2.1 30 (by decide) (by decide)])]; exact h12
  · refine dcN_cg e400 (giM 52 (by decide) (by unfold exAm exM; omega)) (fun a ha => gaC a (by rcases ha with z | z | z <;> subst z <;> decide) (by omega) (by omega) (by omega)) (fun a ha => by rw [c1.2.2.1 a (by omega), sx_gb sb, x1.2.2.2.1 a (by omega) (by omega)]) (fun a ha => gaM a (by rcases ha with z | z | z <;> subst z <;> decide) (by omega)) (fun a ha => ?_) h13
    show gb τ' a = gb τ a
    rw [sx_gb m1]
    funext i
    exact x2.2.2.2 a i (by omega) (by omega)
end K
