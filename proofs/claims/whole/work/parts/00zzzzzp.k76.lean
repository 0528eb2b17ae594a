/-! A question: kinds that are shown behind it. Own text. -/
section K
variable {F : Nat} {σ τ σa τa σ' τ' : zS} {D N0 : Nat} {G H Gc Hc : SG}
theorem cur_back (hBS : BS σ τ D G H N0) (hAX : AX σ τ σa τa N0 (gn H)) (hc : kC0 (si σa 101 0) σ' G Gc) (hm : kM0 τa τ' H Hc) {dom dom2 : Nat → Prop} {m m2 : Nat → Nat} (hxC : xt G (fun _ => False) (fun z => z) Gc dom m) (hxM : xt H (fun _ => False) (fun z => z) Hc dom2 m2) : ∀ y, y < D → dPr σ' (si τ' 2 0) Gc Hc y := by
  intro y hy
  obtain ⟨x1, x2, x3, x4, x5, x6⟩ := hAX
  obtain ⟨c1, c2, c3, c4, c5⟩ := hc
  obtain ⟨m1, m2', _⟩ := hm
  obtain ⟨h1, h2, h3, h4, h5, h6, h7, h8, _⟩ := hBS
  have sb : sx [101] [] σa (si σa 101 0) := sx_si (sx_rfl _ _ _) (by decide) _
  have gaC : ∀ a, a ∉ [23, 24, 25, 26, 27, 28, 49, 50, 51, 52, 53, 54, 56] → a ≠ 20 → a ≠ 22 → (a < 43 ∨ 47 < a) → ga σ' a = ga σ a := fun a z1 z2 z3 z4 => by rw [c1.2.1 a z1, sb.2.1 a (by simp), x1.2.1 a z2 z3 z4]
  have gaM : ∀ a, a ∉ [6, 26, 27, 28, 29, 30, 53, 54] → 25 < a → ga (si τ' 2 0) a = ga τ a := fun a z1 z2 => by
    show ga τ' a = _
    rw [m1.2.1 a z1]
    funext i
    simp at z1
    exact x2.2.1 a i (by omega) (by omega) (by omega)
  refine dPr_cg (G := Gc) (H := Hc) (σ := σ) (τ := τ) ?_ (fun a ha => gaC a (by rcases ha with z | z | z <;> subst z <;> decide) (by omega) (by omega) (by omega)) (gaC 32 (by decide) (by decide) (by decide) (by decide)) (gaC 29 (by decide) (by decide) (by decide) (by decide)) (fun a ha => gaM a (by rcases ha with z | z | z <;> subst z <;> decide) (by omega))
  have kp : ∀ k k', pairT G H k k' → pairT Gc Hc k k' := by
    intro k k' ⟨p1, p2, p3, d, p4⟩
    obtain ⟨e1, e2, _⟩ := cl_keep h1.2.2.2.2.2.1 h2 hxC c2.2.2.2.2.2.1 p1 p4
    obtain ⟨e3, e4, _⟩ := cl_keep h4.2.2.2.1 (h7 (by omega)) hxM m2'.2.2.2.1 p2 (by rw [← p3]; exact p4)
    exact ⟨e1, e3, by rw [e2, e4, p3], d, by rw [e2]; exact p4⟩
  obtain ⟨⟨k, k', q1, q2, q3⟩, q4, q5⟩ := h8 y hy
  refine ⟨⟨k, k', q1, q2, kp k k' q3⟩, fun j hj => ?_, q5⟩
  obtain ⟨k, k', q1, q2, q3⟩ := q4 j hj
  exact ⟨k, k', q1, q2, kp k k' q3⟩
/-- alike but for the open ones is shown alike -/
theorem alk_42 {ρ : Nat → Nat} : ∀ (d : Nat) (t u : IT), alk ρ t u → prT (fun _ => 42) d t = prT (fun _ => 42) d u
  | 0, t, u, h => by
    rw [prT, prT]
    rcases h [] with ⟨a, b⟩ | ⟨a, b⟩ | ⟨r, a, b⟩ <;> rw [a, b] <;> simp
  | d + 1, t, u, h => by
    have h1 := alk_1 h []
    have h2 := alk_1 h [false]
    rw [prT_e _ d t, prT_e _ d u, alk_42 d _ _ (alk_dw h false), alk_42 d _ _ (alk_dw h true)]
    by_cases c : t [] = 1
    · rw [if_pos c, if_pos (h1.mp c)]
      by_cases c2 : t [false] = 1
      · rw [if_pos c2, if_pos (h2.mp c2)]
      · rw [if_neg c2, if_neg (fun z => c2 (h2.mpr z))]
    · rw [if_neg c, if_neg (fun z => c (h1.mpr z))]
      rcases h [] with ⟨a, b⟩ | ⟨a, b⟩ | ⟨r, a, b⟩ <;> rw [a, b] <;> simp
end K
