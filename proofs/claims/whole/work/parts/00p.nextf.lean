/-! next() with a fault; facts on tokens. Own text. -/
def frX (τ τ' : zS) : Prop := (∀ j, j ≠ 3 → j ≠ 4 → j ≠ 5 → gi τ' j = gi τ j) ∧ (∀ j, ga τ' j = ga τ j) ∧ (∀ j, gl τ' j = gl τ j) ∧ (∀ j, gb τ' j = gb τ j)
theorem next_flt {F : Nat} {τ : zS} {n : Nat} (hB : byt (ga τ 1) n) (hl : gi τ 2 = nI n) (h8 : 0 < gi τ 8) (hF : 1300 ≤ F) {a : Nat} (ha : a ≤ n) (h3 : gi τ 3 = nI a) : ∃ τ', Md_next F τ = some τ' ∧ frX τ τ' := by
  have hn := hB.1
  obtain ⟨m', e⟩ := nx_blank (F := F) hB hl (n - a) a F rfl (by omega) ha
  rw [si_same τ h3] at e
  obtain ⟨p, hp⟩ : ∃ p, p = sk (ga τ 1) n a := ⟨_, rfl⟩
  have hpn : p ≤ n := by rw [hp]; exact sk_le ha
  have hnb : p < n → blB (ga τ 1 p) = false := by
    intro hlt
    have := skF_idem (ga τ 1) n (n - a) a (Nat.le_refl _)
    cases hb : blB (ga τ 1 p)
    · rfl
    · exact absurd ⟨by show sk (ga τ 1) n a < n; rw [← hp]; exact hlt, by show blB (ga τ 1 (sk (ga τ 1) n a)) = true; rw [← hp]; exact hb⟩ this
  rw [← hp] at e
  have key : ∀ τ1 : zS, gi τ1 2 = nI n → ga τ1 1 = ga τ 1 → ∃ c, Md_byteAt F τ1 (nI p) = some (c, τ1) ∧ c ≠ 32 ∧ c ≠ 10 := by
    intro τ1 k2 k1
    rcases Nat.lt_or_ge p n with q | q
    · have hb := byteAt_in (F := F) (σ := τ1) (n := n) (i := p) k2 hn q
      refine ⟨_, hb, ?_, ?_⟩
      · intro z; have := hnb q; rw [k1] at z; rw [z] at this; exact absurd this (by decide)
      · intro z; have := hnb q; rw [k1] at z; rw [z] at this; exact absurd this (by decide)
    · exact ⟨-1, byteAt_out k2 q (by omega), by decide, by decide⟩
  obtain ⟨c1, b1, n1, n2⟩ := key (si τ 3 (nI p)) (by simp [zs, hl]) (by simp [zs])
  obtain ⟨c2, b2, n3, n4⟩ := key (si (si τ 3 (nI p)) 5 (nI p)) (by simp [zs, hl]) (by simp [zs])
  have e3 : gi (si τ 3 (nI p)) 3 = nI p := by simp only [zs, if_true]
  refine ⟨si (si (si τ 3 (nI p)) 5 (nI p)) 4 5, ?_, ?_⟩
  · rw [Md_next, e]
    show Md_next_b0 F (Md_next_0 F m') (si τ 3 (nI p)) = _
    rw [Md_next_b0, e3, b1, bi_some, if_neg n1, e3, b1, bi_some, if_neg n2, e3, b2, bi_some]
    have g8 : 0 < gi (si (si τ 3 (nI p)) 5 (nI p)) 8 := by simpa [zs] using h8
    rw [if_pos g8, Md_next_67]
  · refine ⟨fun j j1 j2 j3 => by simp [zs, j1, j2, j3], fun j => by simp [zs], fun j => by simp [zs], fun j => by simp [zs]⟩
theorem tokS_ne1 {B : Nat → Int32} {n p : Nat} (hB : byt B n) (hp : p < n) : (tokS B n p).1 ≠ 1 := by
  obtain ⟨c, hc, ec⟩ := hB.2 p hp
  have big : ∀ c, c < 256 → sgS (nI c) ≠ 1 := by decide +kernel
  unfold tokS
  split
  · split
    · dsimp only
      split
      · decide
      · rcases smS_rng (nVal B p (nmE B n p - p)) with ⟨s1, _⟩ | ⟨s1, _⟩
        · rw [s1]; decide
        · rcases s1 with s1 | s1 | s1 | s1 <;> rw [s1] <;> decide
    · dsimp only; decide
  · split
    · rename_i d
      dsimp only
      rcases d with d | d <;> rw [d.1] <;> decide
    · dsimp only
      rw [ec]
      exact big c hc
theorem tkS_ne1 {B : Nat → Int32} {n k : Nat} (hB : byt B n) (h : tkP B n k < n) : tkS B n k ≠ 1 := by
  unfold tkS
  rw [if_pos h]
  exact tokS_ne1 hB h
theorem tkS_end {B : Nat → Int32} {n k : Nat} (h : tkP B n k = n) : tkS B n k = 1 := by
  unfold tkS
  rw [if_neg (by omega)]
theorem tk_next {B : Nat → Int32} {n k : Nat} (h : tkP B n k < n) : lxE B n (k + 1) = (tokS B n (tkP B n k)).2.2 ∧ tkP B n k < tkP B n (k + 1) := by
  have h1 : lxE B n (k + 1) = (tokS B n (tkP B n k)).2.2 := by
    have h1 : sk B n (lxE B n k) = tkP B n k := rfl
    rw [lxE, h1, if_pos h]
  refine ⟨h1, ?_⟩
  have h2 := (tokS_gt (B := B) h).1
  have h3 := sk_ge B n (lxE B n (k + 1))
  show _ < sk B n (lxE B n (k + 1))
  omega
theorem nmE_stops (B : Nat → Int32) (n : Nat) : ∀ f p, n - p ≤ f → ¬ (nEnd B n f p < n ∧ nmB (B (nEnd B n f p)) = true) := by
  intro f
  induction f with
  | zero => intro p hf z; rw [nEnd] at z; omega
  | succ f ih =>
    intro p hf
    rw [nEnd]
    split
    · exact ih (p + 1) (by omega)
    · assumption
/-- sorts of tokens that are names -/
def nmT (s : Int32) : Prop := s = 2 ∨ s = 3
theorem nmT_letter {B : Nat → Int32} {n k : Nat} (hB : byt B n) (h : nmT (tkS B n k)) : tkP B n k < n ∧ (upB (B (tkP B n k)) || loB (B (tkP B n k))) = true ∧ (tokS B n (tkP B n k)).2.2 = nmE B n (tkP B n k) := by
  have h1 : tkP B n k < n := by
    rcases Nat.lt_or_ge (tkP B n k) n with q | q
    · exact q
    · rw [tkS_end (by have := tkP_le B n k; omega)] at h
      rcases h with h | h <;> exact absurd h (by decide)
  obtain ⟨c, hc, ec⟩ := hB.2 _ h1
  have big : ∀ c, c < 256 → sgS (nI c) ≠ 2 ∧ sgS (nI c) ≠ 3 := by decide +kernel
  refine ⟨h1, ?_⟩
  unfold tkS at h
  rw [if_pos h1] at h
  by_cases a : (upB (B (tkP B n k)) || loB (B (tkP B n k))) = true
  · refine ⟨a, ?_⟩
    unfold tokS
    rw [if_pos a]
    split <;> rfl
  · exfalso
    unfold tokS at h
    rw [if_neg a] at h
    split at h
    · rename_i d
      dsimp only at h
      rcases d with d | d <;> rw [d.1] at h <;> rcases h with h | h <;> exact absurd h (by decide)
    · dsimp only at h
      rw [ec] at h
      rcases h with h | h
      · exact (big c hc).1 h
      · exact (big c hc).2 h
/-- as many names as mentions so far have room ahead of token k -/
def mB (B : Nat → Int32) (n k M : Nat) : Prop := 2 * M ≤ tkP B n k + 1 ∧ (nmT (tkS B n k) → 2 * M ≤ tkP B n k)
theorem mB_step {B : Nat → Int32} {n k M : Nat} (h : mB B n k M) (hp : tkP B n k < n) : mB B n (k + 1) M := by
  have := (tk_next hp).2
  have h1 := h.1
  exact ⟨by omega, fun _ => by omega⟩
theorem mB_add {B : Nat → Int32} {n k M : Nat} (hB : byt B n) (h : mB B n k M) (hs : nmT (tkS B n k)) : M < 600 ∧ mB B n (k + 1) (M + 1) := by
  obtain ⟨l1, l2, l3⟩ := nmT_letter hB hs
  have h2 := h.2 hs
  have hn := hB.1
  have t := tk_next l1
  refine ⟨by omega, by omega, fun hs' => ?_⟩
  obtain ⟨m1, m2, m3⟩ := nmT_letter hB hs'
  rcases Nat.lt_or_ge (tkP B n k + 1) (tkP B n (k + 1)) with q | q
  · omega
  · exfalso
    have e1 : tkP B n (k + 1) = nmE B n (tkP B n k) := by
      have g1 := sk_ge B n (lxE B n (k + 1))
      have g2 := (tokS_gt (B := B) l1).1
      have g3 : tkP B n (k + 1) = sk B n (lxE B n (k + 1)) := rfl
      rw [t.1] at g1 g3
      rw [← l3]
      omega
    have := nmE_stops B n (n - tkP B n k) (tkP B n k) (Nat.le_refl _)
    apply this
    have e2 : nEnd B n (n - tkP B n k) (tkP B n k) = tkP B n (k + 1) := e1.symm
    rw [e2]
    exact ⟨m1, nm_of_letter m2⟩
