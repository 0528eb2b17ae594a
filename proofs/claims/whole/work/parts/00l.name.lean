/-! The reference's name(). Own text. -/
theorem cmp0 (v w : Int64) : lg_cmp v w = 0 ↔ v = w := by
  unfold lg_cmp
  constructor
  · intro h
    split at h
    · exact absurd h (by decide)
    · split at h
      · assumption
      · exact absurd h (by decide)
  · intro h
    subst h
    rw [if_neg (by simp [Int64.lt_iff_toInt_lt]), if_pos rfl]
/-- a keyword's value tells its length -/
theorem kw_len {B : Nat → Int32} {n p k : Nat} (hB : byt B n) (hk : k ≤ 8) (hp : p + k ≤ n) (hnm : ∀ i, i < k → nmB (B (p + i)) = true) {c L : Nat} (hc : nVal B p k = lN c) (h1 : 256 ^ L ≤ c) (h2 : c < 256 ^ (L + 1)) (h3 : c < 2 ^ 63) : k = L + 1 := by
  obtain ⟨e, g1, g2, g3⟩ := nVal_vN hB k hk hp hnm
  have hv : vN B p k < 2 ^ 63 := by
    rcases Nat.eq_zero_or_pos k with rfl | h
    · exact Nat.lt_of_lt_of_le g1 (by decide)
    · have q := g3 h
      have : (256 : Nat) ^ (k - 1) ≤ 256 ^ 7 := Nat.pow_le_pow_right (by decide) (by omega)
      have h256 : (256 : Nat) ^ 7 = 72057594037927936 := by decide
      omega
  rw [e] at hc
  have ev : vN B p k = c := (pk_lEQ hv h3).mp hc
  rcases Nat.lt_trichotomy k (L + 1) with h | h | h
  · have : (256 : Nat) ^ k ≤ 256 ^ L := Nat.pow_le_pow_right (by decide) (by omega)
    omega
  · exact h
  · have q := g2 (by omega)
    have : (256 : Nat) ^ (L + 1) ≤ 256 ^ (k - 1) := Nat.pow_le_pow_right (by decide) (by omega)
    omega
def kwB (v : Int64) : Bool := decide (v = 1684108385) || decide (v = 1954115685) || decide (v = 427020088179) || decide (v = 1802071652)
section NM
variable {F : Nat} {τ : zS} {n p : Nat}
/-- the state within name(), k bytes read -/
def nmSt (τ : zS) (p k : Nat) : zS := si (sl τ 6 (nVal (ga τ 1) p (min k 8))) 3 (nI (p + k))
theorem nmSt_zs (k : Nat) : gi (nmSt τ p k) 3 = nI (p + k) ∧ gl (nmSt τ p k) 6 = nVal (ga τ 1) p (min k 8) ∧ (∀ j, j ≠ 3 → gi (nmSt τ p k) j = gi τ j) ∧ ∀ j, ga (nmSt τ p k) j = ga τ j := by
  unfold nmSt
  refine ⟨by simp [zs], by simp [zs], fun j hj => by simp [zs, hj], fun j => by simp [zs]⟩
theorem sl_sl (σ : zS) (k : Nat) (v w : Int64) : sl (sl σ k v) k w = sl σ k w := by
  unfold sl
  rw [fu_fu]
theorem nm_step (hB : byt (ga τ 1) n) (hl : gi τ 2 = nI n) {k m : Nat} {x1 : Int32} (hk : p + k < n) (hb : nmB (ga τ 1 (p + k)) = true) : Md_name_7 F (m + 1) (nmSt τ p k) x1 (nI k) = Md_name_7 F m (nmSt τ p (k + 1)) x1 (nI (k + 1)) := by
  obtain ⟨e1, e2, e3, e4⟩ := nmSt_zs (τ := τ) (p := p) k
  have hn := hB.1
  have hb2 : Md_byteAt F (nmSt τ p k) (nI (p + k)) = some (ga τ 1 (p + k), nmSt τ p k) := by
    rw [byteAt_in ((e3 2 (by decide)).trans hl) hn hk, e4]
  show Md_name_b7 F (Md_name_7 F m) (nmSt τ p k) x1 (nI k) = _
  rw [Md_name_b7, e1, hb2, bi_some, isOf_ok, bi_some, hb, if_neg (by decide), e1, hb2, bi_some, e2]
  unfold Md_name_52
  rw [e1, nI_1, nI_1]
  by_cases c : 8 ≤ k
  · rw [if_pos (show (8 : Int32) ≤ nI k from nI_le (a := 8) c (by omega))]
    congr 1
    unfold nmSt
    show si (si (sl (sl τ 6 _) 6 _) 3 _) 3 _ = _
    rw [sl_sl, si_si, show min k 8 = min (k + 1) 8 by omega]
    rfl
  · rw [if_neg (show ¬ (8 : Int32) ≤ nI k from nI_ge (b := 8) (by omega) (by decide))]
    congr 1
    unfold nmSt
    show si (si (sl (sl τ 6 _) 6 _) 3 _) 3 _ = _
    rw [sl_sl, si_si, show min k 8 = k by omega, show min (k + 1) 8 = k + 1 by omega]
    rfl
theorem nm_loop (hB : byt (ga τ 1) n) (hl : gi τ 2 = nI n) {x1 : Int32} : ∀ (d k m : Nat), n - (p + k) = d → d < m → p + k ≤ n → nmE (ga τ 1) n p = nmE (ga τ 1) n (p + k) → ∃ m', Md_name_7 F m (nmSt τ p k) x1 (nI k) = Md_name_7 F (m' + 1) (nmSt τ p (nmE (ga τ 1) n p - p)) x1 (nI (nmE (ga τ 1) n p - p)) := by
  intro d
  induction d with
  | zero =>
    intro k m hd hm hk he
    obtain ⟨m, rfl⟩ : ∃ m', m = m' + 1 := ⟨m - 1, by omega⟩
    have e2 : nmE (ga τ 1) n p = p + k := he.trans (nmE_stop (by omega))
    rw [e2, Nat.add_sub_cancel_left]
    exact ⟨m, rfl⟩
  | succ d ih =>
    intro k m hd hm hk he
    obtain ⟨m, rfl⟩ : ∃ m', m = m' + 1 := ⟨m - 1, by omega⟩
    cases hb : nmB (ga τ 1 (p + k))
    · have e2 : nmE (ga τ 1) n p = p + k := he.trans (nmE_stop (by rw [hb]; simp))
      rw [e2, Nat.add_sub_cancel_left]
      exact ⟨m, rfl⟩
    · rw [nm_step hB hl (by omega) hb]
      exact ih (k + 1) m (by omega) (by omega) (by omega) (he.trans (nmE_step (by omega) hb))
end NM
