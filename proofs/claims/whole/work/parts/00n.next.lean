/-! The reference's next(). Own text. -/
theorem skF_idem (B : Nat → Int32) (n : Nat) : ∀ f p, n - p ≤ f → ¬ (skF B n f p < n ∧ blB (B (skF B n f p)) = true) := by
  intro f
  induction f with
  | zero => intro p hf z; rw [skF] at z; omega
  | succ f ih =>
    intro p hf
    rw [skF]
    split
    · exact ih (p + 1) (by omega)
    · assumption
theorem sk_idem (B : Nat → Int32) (n p : Nat) : sk B n (sk B n p) = sk B n p := sk_stop (skF_idem B n _ _ (Nat.le_refl _))
section NX
variable {F : Nat} {τ : zS} {n : Nat}
/-- blanks are stepped over -/
theorem nx_blank (hB : byt (ga τ 1) n) (hl : gi τ 2 = nI n) : ∀ (d a m : Nat), n - a = d → d < m → a ≤ n → ∃ m', Md_next_0 F m (si τ 3 (nI a)) = Md_next_0 F (m' + 1) (si τ 3 (nI (sk (ga τ 1) n a))) := by
  have hn := hB.1
  intro d
  induction d with
  | zero =>
    intro a m hd hm ha
    obtain ⟨m, rfl⟩ : ∃ m', m = m' + 1 := ⟨m - 1, by omega⟩
    rw [sk_stop (by omega)]
    exact ⟨m, rfl⟩
  | succ d ih =>
    intro a m hd hm ha
    obtain ⟨m, rfl⟩ : ∃ m', m = m' + 1 := ⟨m - 1, by omega⟩
    by_cases c : blB (ga τ 1 a) = true
    · rw [sk_step (by omega) c]
      have e3 : gi (si τ 3 (nI a)) 3 = nI a := by simp only [zs, if_true]
      have hb : Md_byteAt F (si τ 3 (nI a)) (nI a) = some (ga τ 1 a, si τ 3 (nI a)) := by
        have := byteAt_in (F := F) (σ := si τ 3 (nI a)) (n := n) (i := a) (by simp [zs, hl]) hn (by omega)
        rw [this]
        simp only [zs]
      have hstep : Md_next_0 F (m + 1) (si τ 3 (nI a)) = Md_next_0 F m (si τ 3 (nI (a + 1))) := by
        show Md_next_b0 F (Md_next_0 F m) (si τ 3 (nI a)) = _
        rw [Md_next_b0, e3, hb, bi_some]
        unfold Md_next_26
        rw [e3, nI_1, si_si]
        by_cases c1 : ga τ 1 a = 32
        · rw [if_pos c1]
        · rw [if_neg c1, hb, bi_some]
          have c2 : ga τ 1 a = 10 := by
            unfold blB at c
            simpa [c1] using c
          rw [if_pos c2, e3, nI_1, si_si]
      rw [hstep]
      exact ih (a + 1) m (by omega) (by omega) (by omega)
    · rw [sk_stop (fun z => c z.2)]
      exact ⟨m, rfl⟩
/-- the state at a token's first byte, its place noted -/
def nxA (τ : zS) (p : Nat) : zS := si (si τ 3 (nI p)) 5 (nI p)
theorem nxA_zs (p : Nat) : gi (nxA τ p) 3 = nI p ∧ gi (nxA τ p) 5 = nI p ∧ (∀ j, j ≠ 3 → j ≠ 5 → gi (nxA τ p) j = gi τ j) ∧ (∀ j, ga (nxA τ p) j = ga τ j) ∧ ∀ j, gl (nxA τ p) j = gl τ j := by
  unfold nxA
  refine ⟨by simp [zs], by simp [zs], fun j h1 h2 => by simp [zs, h1, h2], fun j => by simp [zs], fun j => by simp [zs]⟩
/-- next() at the end of the tape -/
theorem nx_end (hB : byt (ga τ 1) n) (hl : gi τ 2 = nI n) (h8 : gi τ 8 = 0) (hF : 1300 ≤ F) {a : Nat} (ha : a ≤ n) (h3 : gi τ 3 = nI a) (hp : sk (ga τ 1) n a = n) : Md_next F τ = some (si (nxA τ n) 4 5) := by
  have hn := hB.1
  obtain ⟨m', e⟩ := nx_blank (F := F) hB hl (n - a) a F rfl (by omega) ha
  rw [si_same τ h3] at e
  rw [Md_next, e, hp]
  show Md_next_b0 F (Md_next_0 F m') (si τ 3 (nI n)) = _
  have e3 : gi (si τ 3 (nI n)) 3 = nI n := by simp only [zs, if_true]
  have hb : Md_byteAt F (si τ 3 (nI n)) (nI n) = some (-1, si τ 3 (nI n)) := byteAt_out (by simp [zs, hl]) (Nat.le_refl _) (by omega)
  have hb2 : Md_byteAt F (si (si τ 3 (nI n)) 5 (nI n)) (nI n) = some (-1, si (si τ 3 (nI n)) 5 (nI n)) := byteAt_out (by simp [zs, hl]) (Nat.le_refl _) (by omega)
  rw [Md_next_b0, e3, hb, bi_some, if_neg (by decide), e3, hb, bi_some, if_neg (by decide), e3, hb2, bi_some]
  have g8 : ¬ 0 < gi (si (si τ 3 (nI n)) 5 (nI n)) 8 := by simp [zs, h8]
  rw [if_neg g8, if_neg (by decide), Md_next_67]
  rfl
/-- next() at a token: as far as its first byte -/
theorem nx_at (hB : byt (ga τ 1) n) (hl : gi τ 2 = nI n) (h8 : gi τ 8 = 0) (hF : 1300 ≤ F) {a p : Nat} (ha : a ≤ n) (h3 : gi τ 3 = nI a) (hp : sk (ga τ 1) n a = p) (hpn : p < n) : Md_next F τ = if (upB (ga τ 1 p) || loB (ga τ 1 p)) = true then Md_next_87 F (nxA τ p) (ga τ 1 p) else bi (Md_byteAt F (si (nxA τ p) 4 4) (nI (p + 1))) (fun r σ => if ga τ 1 p = 58 then (if r = 58 then Md_next_136 F σ (ga τ 1 p) else Md_next_124 F σ (ga τ 1 p) r) else Md_next_124 F σ (ga τ 1 p) r) := by
  have hn := hB.1
  obtain ⟨m', e⟩ := nx_blank (F := F) hB hl (n - a) a F rfl (by omega) ha
  rw [si_same τ h3] at e
  have hnb : blB (ga τ 1 p) = false := by
    cases hx : blB (ga τ 1 p)
    · rfl
    · have := sk_step hpn hx
      have h1 : sk (ga τ 1) n p = p := by rw [← hp]; exact sk_idem _ _ _
      have h2 := sk_ge (ga τ 1) n (p + 1)
      omega
  have c32 : ¬ ga τ 1 p = 32 := fun z => by rw [z] at hnb; exact absurd hnb (by decide)
  have c10 : ¬ ga τ 1 p = 10 := fun z => by rw [z] at hnb; exact absurd hnb (by decide)
  rw [Md_next, e, hp]
  show Md_next_b0 F (Md_next_0 F m') (si τ 3 (nI p)) = _
  have e3 : gi (si τ 3 (nI p)) 3 = nI p := by simp only [zs, if_true]
  have hb : Md_byteAt F (si τ 3 (nI p)) (nI p) = some (ga τ 1 p, si τ 3 (nI p)) := by
    have := byteAt_in (F := F) (σ := si τ 3 (nI p)) (n := n) (i := p) (by simp [zs, hl]) hn hpn
    rw [this]
    simp only [zs]
  have hb2 : Md_byteAt F (nxA τ p) (nI p) = some (ga τ 1 p, nxA τ p) := by
    have := byteAt_in (F := F) (σ := nxA τ p) (n := n) (i := p) (by simp [nxA, zs, hl]) hn hpn
    rw [this]
    simp only [nxA, zs]
  obtain ⟨k1, k2, k3, k4, k5⟩ := nxA_zs (τ := τ) p
  have g8 : ¬ 0 < gi (nxA τ p) 8 := by rw [k3 8 (by decide) (by decide), h8]; decide
  have g0 : 0 ≤ ga τ 1 p := by
    obtain ⟨c, hc, ec⟩ := hB.2 p hpn
    rw [ec]
    exact nI_pos' (by omega)
  rw [Md_next_b0, e3, hb, bi_some, if_neg c32, e3, hb, bi_some, if_neg c10, e3]
  show bi (Md_byteAt F (nxA τ p) (nI p)) _ = _
  rw [hb2, bi_some, if_neg g8, if_pos g0, upper_ok, bi_some]
  cases hu : upB (ga τ 1 p)
  · rw [if_pos (b2i_0.mpr rfl), lower_ok, bi_some]
    cases hlo : loB (ga τ 1 p)
    · rw [if_pos (b2i_0.mpr rfl), k1, nI_1]
      rfl
    · rw [if_neg (by decide)]
      rfl
  · rw [if_neg (by decide)]
    rfl
theorem nx_name (hB : byt (ga τ 1) n) (hl : gi τ 2 = nI n) (h8 : gi τ 8 = 0) (hF : 1300 ≤ F) {p : Nat} (hpn : p < n) : ∀ k, k = nmE (ga τ 1) n p - p → Md_next_87 F (nxA τ p) (ga τ 1 p) = some (if k ≤ 8 then si (nmSt (nxA τ p) p k) 4 (if upB (ga τ 1 p) = true then 1 else if kwB (nVal (ga τ 1) p k) = true then 3 else 2) else si (si (si (nmSt (nxA τ p) p k) 8 1) 9 (nI p)) 4 5) := by
  intro k hk
  obtain ⟨k1, k2, k3, k4, k5⟩ := nxA_zs (τ := τ) p
  rw [Md_next_87, upper_ok, bi_some]
  have := mdname_ok (F := F) (τ := nxA τ p) (n := n) (p := p) (by rw [k4]; exact hB) ((k3 2 (by decide) (by decide)).trans hl) (by omega) k1 ((k3 8 (by decide) (by decide)).trans h8) hF (x1 := b2i (upB (ga τ 1 p))) k (by rw [k4]; exact hk)
  rw [this, bv_some, k4, k2]
  cases hu : upB (ga τ 1 p)
  · rw [if_pos (b2i_0.mpr rfl)]
    rfl
  · rw [if_neg (show ¬ b2i true = 0 by decide)]
    rfl
/-- what next() makes of a sign -/
def nxG (τ : zS) (B : Nat → Int32) (n p : Nat) : zS :=
  if (B p = 58 ∧ p + 1 < n ∧ B (p + 1) = 58) ∨ (B p = 45 ∧ p + 1 < n ∧ B (p + 1) = 62) then si (si (si (nxA τ p) 4 4) 7 (if B p = 58 then 1001 else 1000)) 3 (nI (p + 2))
  else if sgnB (B p) = true then si (si (si (nxA τ p) 4 4) 7 (B p)) 3 (nI (p + 1))
  else si (si (si (si (si (si (nxA τ p) 4 4) 7 (B p)) 3 (nI (p + 1))) 8 1) 9 (nI p)) 4 5
theorem nx_sign (hB : byt (ga τ 1) n) (hl : gi τ 2 = nI n) (h8 : gi τ 8 = 0) {p : Nat} (hpn : p < n) : bi (Md_byteAt F (si (nxA τ p) 4 4) (nI (p + 1))) (fun r σ => if ga τ 1 p = 58 then (if r = 58 then Md_next_136 F σ (ga τ 1 p) else Md_next_124 F σ (ga τ 1 p) r) else Md_next_124 F σ (ga τ 1 p) r) = some (nxG τ (ga τ 1) n p) := by
  have hn := hB.1
  obtain ⟨k1, k2, k3, k4, k5⟩ := nxA_zs (τ := τ) p
  have l2 : gi (si (nxA τ p) 4 4) 2 = nI n := by simp [zs, k3 2 (by decide) (by decide), hl]
  have l3 : gi (si (nxA τ p) 4 4) 3 = nI p := by simp [zs, k1]
  have l5 : gi (si (nxA τ p) 4 4) 5 = nI p := by simp [zs, k2]
  have l8 : gi (si (si (si (nxA τ p) 4 4) 7 (ga τ 1 p)) 3 (nI (p + 1))) 8 = 0 := by simp [zs, k3 8 (by decide) (by decide), h8]
  have m136 : Md_next_136 F (si (nxA τ p) 4 4) (ga τ 1 p) = some (si (si (si (nxA τ p) 4 4) 7 (if ga τ 1 p = 58 then 1001 else 1000)) 3 (nI (p + 2))) := by
    unfold Md_next_136 Md_next_152
    rw [l3, show (2 : Int32) = nI 2 from by decide, nI_add]
    split <;> rfl
  have m166 : Md_next_166 F (si (nxA τ p) 4 4) (ga τ 1 p) = some (if sgnB (ga τ 1 p) = true then si (si (si (nxA τ p) 4 4) 7 (ga τ 1 p)) 3 (nI (p + 1)) else si (si (si (si (si (si (nxA τ p) 4 4) 7 (ga τ 1 p)) 3 (nI (p + 1))) 8 1) 9 (nI p)) 4 5) := by
    have z1 : Md_next_237 F (si (nxA τ p) 4 4) (ga τ 1 p) 0 = some (si (si (si (si (si (si (nxA τ p) 4 4) 7 (ga τ 1 p)) 3 (nI (p + 1))) 8 1) 9 (nI p)) 4 5) := by
      unfold Md_next_237 Md_next_271 Md_wrong Md_wrong_17
      rw [if_pos rfl, l3, l5, nI_1, if_pos l8, bv_some]
    have z2 : Md_next_232 F (si (nxA τ p) 4 4) (ga τ 1 p) = some (si (si (si (nxA τ p) 4 4) 7 (ga τ 1 p)) 3 (nI (p + 1))) := by
      unfold Md_next_232 Md_next_237 Md_next_271
      rw [if_neg (by decide), l3, nI_1]
    unfold Md_next_166
    rw [z1, z2]
    unfold sgnB
    generalize ga τ 1 p = x
    generalize si (si (si (nxA τ p) 4 4) 7 x) 3 (nI (p + 1)) = A
    by_cases a1 : x = 61
    · simp [a1]
    · by_cases a2 : x = 124
      · simp [a2]
      · by_cases a3 : x = 40
        · simp [a3]
        · by_cases a4 : x = 41
          · simp [a4]
          · by_cases a5 : x = 91
            · simp [a5]
            · by_cases a6 : x = 93
              · simp [a6]
              · by_cases a7 : x = 123
                · simp [a7]
                · by_cases a8 : x = 125
                  · simp [a8]
                  · by_cases a9 : x = 59
                    · simp [a9]
                    · by_cases b1 : x = 44
                      · simp [b1]
                      · by_cases b2 : x = 42
                        · simp [b2]
                        · simp [a1, a2, a3, a4, a5, a6, a7, a8, a9, b1, b2]
  have fin : ∀ r : Int32, (if ga τ 1 p = 58 then (if r = 58 then Md_next_136 F (si (nxA τ p) 4 4) (ga τ 1 p) else Md_next_124 F (si (nxA τ p) 4 4) (ga τ 1 p) r) else Md_next_124 F (si (nxA τ p) 4 4) (ga τ 1 p) r) = if (ga τ 1 p = 58 ∧ r = 58) ∨ (ga τ 1 p = 45 ∧ r = 62) then Md_next_136 F (si (nxA τ p) 4 4) (ga τ 1 p) else Md_next_166 F (si (nxA τ p) 4 4) (ga τ 1 p) := by
    intro r
    unfold Md_next_124
    by_cases c1 : ga τ 1 p = 58
    · have c2 : ¬ ga τ 1 p = 45 := by rw [c1]; decide
      by_cases c3 : r = 58
      · rw [if_pos c1, if_pos c3, if_pos (Or.inl ⟨c1, c3⟩)]
      · rw [if_pos c1, if_neg c3, if_neg c2, if_neg (fun z => z.elim (fun z => c3 z.2) (fun z => c2 z.1))]
    · by_cases c2 : ga τ 1 p = 45
      · by_cases c3 : r = 62
        · rw [if_neg c1, if_pos c2, if_pos c3, if_pos (Or.inr ⟨c2, c3⟩)]
        · rw [if_neg c1, if_pos c2, if_neg c3, if_neg (fun z => z.elim (fun z => c1 z.1) (fun z => c3 z.2))]
      · rw [if_neg c1, if_neg c2, if_neg (fun z => z.elim (fun z => c1 z.1) (fun z => c2 z.1))]
  unfold nxG
  by_cases c : p + 1 < n
  · rw [byteAt_in l2 hn c, bi_some, fin, m136, m166]
    have : ga (si (nxA τ p) 4 4) 1 = ga τ 1 := by simp only [zs, k4]
    rw [this]
    by_cases d : (ga τ 1 p = 58 ∧ ga τ 1 (p + 1) = 58) ∨ (ga τ 1 p = 45 ∧ ga τ 1 (p + 1) = 62)
    · rw [if_pos d, if_pos (d.elim (fun z => Or.inl ⟨z.1, c, z.2⟩) (fun z => Or.inr ⟨z.1, c, z.2⟩))]
    · rw [if_neg d, if_neg (show ¬ ((ga τ 1 p = 58 ∧ p + 1 < n ∧ ga τ 1 (p + 1) = 58) ∨ (ga τ 1 p = 45 ∧ p + 1 < n ∧ ga τ 1 (p + 1) = 62)) from fun z => d (z.elim (fun z => Or.inl ⟨z.1, z.2.2⟩) (fun z => Or.inr ⟨z.1, z.2.2⟩)))]
  · rw [byteAt_out l2 (by omega) (by omega), bi_some, fin, m136, m166, if_neg (show ¬ ((ga τ 1 p = 58 ∧ (-1 : Int32) = 58) ∨ (ga τ 1 p = 45 ∧ (-1 : Int32) = 62)) from fun z => z.elim (fun z => absurd z.2 (by decide)) (fun z => absurd z.2 (by decide))), if_neg (show ¬ ((ga τ 1 p = 58 ∧ p + 1 < n ∧ ga τ 1 (p + 1) = 58) ∨ (ga τ 1 p = 45 ∧ p + 1 < n ∧ ga τ 1 (p + 1) = 62)) from fun z => z.elim (fun z => c z.2.1) (fun z => c z.2.1))]
end NX
