/-! A question: its names. Own text. -/
section K
variable {F : Nat} {σ τ : zS} {D N0 M N s a T : Nat}
theorem leL_all {o : Int32} : ∀ (l : List Nat) (i0 i : Nat), leL σ o i0 l → i0 ≤ i → i < i0 + l.length → (ga σ 43 i = 5 ∨ ga σ 43 i = 6) ∧ ga σ 46 i = o
  | [], i0, i, _, h1, h2 => by simp at h2; omega
  | c :: l, i0, i, h, h1, h2 => by
    obtain ⟨⟨a1, a2, a3⟩, a4⟩ := h
    by_cases e : i = i0
    · subst e
      refine ⟨?_, a3⟩
      by_cases z : lfB c = 0
      · rw [if_pos z] at a1; exact Or.inl a1
      · rw [if_neg z] at a1; exact Or.inr a1
    · exact leL_all l (i0 + 1) i a4 (by omega) (by simp at h2; omega)
theorem leL_in {o : Int32} : ∀ (l : List Nat) (i0 c : Nat), leL σ o i0 l → c ∈ l → ∃ i, i0 ≤ i ∧ i < i0 + l.length ∧ ga σ 43 i = (if lfB c = 0 then 5 else 6) ∧ gb σ 44 i = lfN c
  | [], i0, c, _, h => by cases h
  | d :: l, i0, c, h, hc => by
    obtain ⟨⟨a1, a2, a3⟩, a4⟩ := h
    rcases List.mem_cons.mp hc with z | z
    · subst z; exact ⟨i0, Nat.le_refl _, by simp, a1, a2⟩
    · obtain ⟨i, b1, b2, b3⟩ := leL_in l (i0 + 1) c a4 z
      exact ⟨i, by omega, by simp; omega, b3⟩
/-- names of types that stand for something -/
def bnA (σ : zS) (D : Nat) (v : Int64) : Prop := v = 4812404 ∨ ∃ y, y < D ∧ fTy σ v D 0 = nI y
theorem bn_of (hF : 1300 ≤ F) (hn : nmR σ τ D M false) (hg : ∀ i, i < M → Ch_isBadName F σ (nI i) = some (0, σ)) {i : Nat} (hi : i < M) (h5 : ga σ 43 i = 5) : bnA σ D (gb σ 44 i) := by
  rcases good_5f hF hn hi (hg i hi) h5 with z | z
  · exact Or.inl z
  · obtain ⟨y, y1, y2, y3, _⟩ := (fTy_rng σ (gb σ 44 i) D 0).resolve_left z
    exact Or.inr ⟨y, by omega, y3⟩
theorem lf_of (hF : 1300 ≤ F) (hN0 : N0 ≤ 500) (hA : AC σ τ N0 M s N a T) (hn : nmR σ τ D M false) (h0 : fTy σ 4812404 D 0 = -1) (hg : ∀ i, i < M → Ch_isBadName F σ (nI i) = some (0, σ)) : lfA σ τ D N0 N := by
  obtain ⟨a1, a2, a3, a4, a5, a6, a7, a8, a9, a10, a11, a12, a13, a14, a15, ⟨N', M', l1, l2, l3, l4, l5⟩, _⟩ := hA
  have eN : N' = N := (nI_eq (by omega) (by omega)).mp (l1.symm.trans a11)
  have eM : M' = M := (nI_eq (by omega) (by omega)).mp (l2.symm.trans a5)
  subst eN; subst eM
  refine ⟨h0, fun n n1 n2 hl => ?_⟩
  have hl2 : ga τ 2 n = 0 ∨ ga τ 2 n = 1 := by
    unfold isLf at hl
    simpa using hl
  obtain ⟨i, i1, i2, i3, i4⟩ := l5 n n1 n2 hl2
  obtain ⟨m1, m2, m3, m4, m5⟩ := a7 i i1
  obtain ⟨r1, r2⟩ := hn.2.2.2.2.2.2 rfl i i1
  refine ⟨?_, fun z => ?_⟩
  · rw [← i4]
    rcases m4 with w | ⟨_, w⟩
    · rw [w, r2]; decide
    · exact w
  · rw [← i3, m1]
    have h5 : ga σ 43 i = 5 := by
      rcases r1 with w | w
      · exact w
      · rw [i2, z, w] at m3
        exact absurd m3 (by decide)
    exact bn_of hF hn hg i1 h5
theorem ev_of {G : SG} {KA : Nat → TE} {pr me : Int32} {dom : Nat → Prop} {m : Nat → Nat} (h0 : fTy σ 4812404 D 0 = -1) (hK : ∀ y, y < D → ∃ k, ga σ 40 y = nI k ∧ rp G dom m k (KA y)) (hD : D ≤ 16) : EV σ G dom m D (-1) pr me (tyF σ D KA) (fun v => .var (cfr pr me v + 1)) (bnA σ D) (fun _ => True) := by
  refine ⟨fun v hv => ?_, fun v _ => Or.inr ⟨rfl, Or.inl rfl⟩⟩
  rcases hv with z | ⟨y, y1, y2⟩
  · subst z
    exact Or.inl ⟨h0, by rw [tyF, if_pos h0]⟩
  · obtain ⟨k, k1, k2⟩ := hK y y1
    refine Or.inr ⟨y, k, y1, y2, k1, ?_⟩
    rw [tyF, if_neg (by rw [y2]; exact nI_m1 y (by omega)), y2, nI_clamp (by omega)]
    exact k2
end K
