/-! A question of one type: the whole. Own text. -/
def frQ (σ σ' : zS) : Prop := (∀ r, r ∉ [101, 105, 106, 200, 201, 306, 308, 309, 310, 505, 606, 807, 811, 814, 815] → gi σ' r = gi σ r) ∧ (∀ a, a ∉ [20, 22, 23, 24, 25, 26, 27, 28, 43, 44, 45, 46, 47, 49, 50, 51, 52, 53, 54, 56] → ga σ' a = ga σ a) ∧ (∀ b, b ∉ [21, 44, 55] → gb σ' b = gb σ b) ∧ (∀ a, a ≠ 605 → gr σ' a = gr σ a) ∧ (∀ j, j ∉ [1104, 1107, 1501, 1601] → mi σ' j = mi σ j) ∧ (∀ a, (a < 66 ∨ 71 < a) → a ≠ lA 15 → a ≠ lA 16 → ma σ' a = ma σ a) ∧ (∀ j, j ≠ 67 → mb σ' j = mb σ j)
def frPa (N0 : Nat) (τ τ' : zS) : Prop := (∀ j, ¬ exAm j → j ∉ [2, 79, 80] → gi τ' j = gi τ j) ∧ (∀ j i, (j = 2 ∨ j = 4 ∨ j = 5 → i < N0) → (j < 6 ∨ 30 < j) → j ∉ [53, 54] → ga τ' j i = ga τ j i) ∧ (∀ j i, (j = 3 → i < N0) → j ≠ 11 → gb τ' j i = gb τ j i)
section K
variable {F : Nat} {σ τ σa τa σ' τ' : zS} {D N0 : Nat} {G H Gc Hc : SG}
theorem frQ_of {R0 : Nat} (hAX : AX σ τ σa τa N0 R0) (h : frT (si σa 101 0) σ') : frQ σ σ' := by
  obtain ⟨⟨x1, x2, x3, x4, x5, x6, x7, x8⟩, _⟩ := hAX
  obtain ⟨c1, c2, c3, c4, c5, c6, c7, c8⟩ := h
  refine ⟨fun r hr => ?_, fun a ha => ?_, fun b hb => ?_, fun a ha => ?_, fun j hj => ?_, fun a ha h1 h2 => ?_, fun j hj => ?_⟩
  · simp at hr
    rw [c1 r (by simp; omega)]
    have : gi (si σa 101 0) r = gi σa r := by simp only [zs, if_neg hr.1]
    rw [this, x1 r (by unfold exAi; omega)]
  · simp at ha
    rw [c2 a (by simp; omega)]
    show ga σa a = _
    exact x2 a (by omega) (by omega) (by omega)
  · simp at hb
    rw [c3 b (by omega)]
    show gb σa b = _
    exact x4 b (by omega) (by omega)
  · rw [c5 a]; exact x5 a ha
  · simp at hj
    rw [c6 j (by omega) (by omega)]
    show mi σa j = _
    exact x6 j (by omega) (by omega)
  · rw [c7 a h1 h2]; exact x7 a ha
  · rw [c8 j]; exact x8 j hj
theorem frPa_of {R0 : Nat} (hAX : AX σ τ σa τa N0 R0) (h : sx [8, 9, 10, 48, 79, 80] [6, 26, 27, 28, 29, 30, 53, 54] τa τ') : frPa N0 τ (si τ' 2 0) := by
  obtain ⟨_, ⟨x1, x2, x3, x4⟩, _⟩ := hAX
  refine ⟨fun j h1 h2 => ?_, fun j i h1 h2 h3 => ?_, fun j i h1 h2 => ?_⟩
  · simp at h2
    have : gi (si τ' 2 0) j = gi τ' j := by simp only [zs, if_neg h2.1]
    rw [this, h.1 j (by unfold exAm exM at h1; simp; omega), x1 j h1]
  · show ga τ' j i = _
    simp at h3
    rw [h.2.1 j (by simp; omega)]
    by_cases c : j < 6
    · exact x2 j i h1 (by omega) (by omega)
    · exact x2 j i h1 (by omega) (by omega)
  · show gb τ' j i = _
    rw [sx_gb h]; exact x4 j i h1 h2
theorem tz_self (h : CS σ G) (hn : noO G) : tz (gn G) G := fun k hk => ⟨(h.2.2.2.2.2.1.1 k hk).2.1, hn k hk⟩
end K
