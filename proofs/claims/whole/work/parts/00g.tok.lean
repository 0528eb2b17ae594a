/-! Tokens as functions of the bytes; the class's scan. Own text. -/
def nEnd (B : Nat → Int32) (n : Nat) : Nat → Nat → Nat
  | 0, p => p
  | f + 1, p => if p < n ∧ nmB (B p) = true then nEnd B n f (p + 1) else p
def nVal (B : Nat → Int32) (p : Nat) : Nat → Int64
  | 0 => 0
  | k + 1 => (nVal B p k <<< (Int32.toInt64 (8 : Int32) &&& 63)) ||| (Int32.toInt64 (B (p + k)))
/-- behind the name that begins at p -/
def nmE (B : Nat → Int32) (n p : Nat) : Nat := nEnd B n (n - p) p
theorem nEnd_ge (B : Nat → Int32) (n : Nat) : ∀ f p, p ≤ nEnd B n f p := by
  intro f
  induction f with
  | zero => intro p; exact Nat.le_refl _
  | succ f ih =>
    intro p
    rw [nEnd]
    split
    · exact Nat.le_trans (Nat.le_succ p) (ih (p + 1))
    · exact Nat.le_refl _
theorem nEnd_le (B : Nat → Int32) (n : Nat) : ∀ f p, p ≤ n → nEnd B n f p ≤ n := by
  intro f
  induction f with
  | zero => intro p h; exact h
  | succ f ih =>
    intro p h
    rw [nEnd]
    split
    · rename_i c
      exact ih (p + 1) c.1
    · exact h
/-- one step of the end of a name -/
theorem nmE_step {B : Nat → Int32} {n p : Nat} (hp : p < n) (h : nmB (B p) = true) : nmE B n p = nmE B n (p + 1) := by
  unfold nmE
  obtain ⟨f, hf⟩ : ∃ f, n - p = f + 1 := ⟨n - p - 1, by omega⟩
  rw [hf, nEnd, if_pos ⟨hp, h⟩, show n - (p + 1) = f by omega]
theorem nmE_stop {B : Nat → Int32} {n p : Nat} (h : ¬ (p < n ∧ nmB (B p) = true)) : nmE B n p = p := by
  unfold nmE
  cases hf : n - p with
  | zero => rfl
  | succ f => rw [nEnd, if_neg h]
def smS (v : Int64) : Int32 := if v = 1684108385 then 4 else if v = 1954115685 then 5 else if v = 427020088179 then 6 else if v = 1802071652 then 7 else 3
def sgS (x : Int32) : Int32 := if sgnB x = true then x else 0
/-- the token that begins at p: its sort as the class has it, its name, the place behind it -/
def tokS (B : Nat → Int32) (n p : Nat) : Int32 × Int64 × Nat :=
  if (upB (B p) || loB (B p)) = true then
    (if nmE B n p - p ≤ 8 then (if upB (B p) = true then 2 else smS (nVal B p (nmE B n p - p)), nVal B p (nmE B n p - p), nmE B n p) else (0, 0, nmE B n p))
  else if (B p = 58 ∧ p + 1 < n ∧ B (p + 1) = 58) ∨ (B p = 45 ∧ p + 1 < n ∧ B (p + 1) = 62) then (B p, 0, p + 2)
  else (sgS (B p), 0, p + 1)
def blB (x : Int32) : Bool := decide (x = 32) || decide (x = 10)
def skF (B : Nat → Int32) (n : Nat) : Nat → Nat → Nat
  | 0, p => p
  | f + 1, p => if p < n ∧ blB (B p) = true then skF B n f (p + 1) else p
/-- behind the blanks at p -/
def sk (B : Nat → Int32) (n p : Nat) : Nat := skF B n (n - p) p
theorem sk_step {B : Nat → Int32} {n p : Nat} (hp : p < n) (h : blB (B p) = true) : sk B n p = sk B n (p + 1) := by
  unfold sk
  obtain ⟨f, hf⟩ : ∃ f, n - p = f + 1 := ⟨n - p - 1, by omega⟩
  rw [hf, skF, if_pos ⟨hp, h⟩, show n - (p + 1) = f by omega]
theorem sk_stop {B : Nat → Int32} {n p : Nat} (h : ¬ (p < n ∧ blB (B p) = true)) : sk B n p = p := by
  unfold sk
  cases hf : n - p with
  | zero => rfl
  | succ f => rw [skF, if_neg h]
/-- where the search for token k begins; where token k begins -/
def lxE (B : Nat → Int32) (n : Nat) : Nat → Nat
  | 0 => 0
  | k + 1 => if sk B n (lxE B n k) < n then (tokS B n (sk B n (lxE B n k))).2.2 else sk B n (lxE B n k)
def tkP (B : Nat → Int32) (n k : Nat) : Nat := sk B n (lxE B n k)
def tkS (B : Nat → Int32) (n k : Nat) : Int32 := if tkP B n k < n then (tokS B n (tkP B n k)).1 else 1
def tkN (B : Nat → Int32) (n k : Nat) : Int64 := if tkP B n k < n then (tokS B n (tkP B n k)).2.1 else 0
/-- what is known of a tape -/
def byt (B : Nat → Int32) (n : Nat) : Prop := n ≤ 1200 ∧ ∀ i, i < n → ∃ c, c < 256 ∧ B i = nI c
theorem smS_ok {F : Nat} {σ : zS} {v : Int64} : Ta_sortOfSmall F σ v = some (smS v, σ) := by
  have q : ∀ w : Int64, lg_cmp v w = 0 ↔ v = w := by
    intro w
    unfold lg_cmp
    constructor
    · intro h
      split at h
      · exact absurd h (by decide)
      · split at h
        · assumption
        · exact absurd h (by decide)
    · intro h
      subst h
      rw [if_neg (by simp [Int64.lt_iff_toInt_lt]), if_pos rfl]
  unfold Ta_sortOfSmall Ta_sortOfSmall_45 smS
  simp only [q]
  split
  · rfl
  · split
    · rfl
    · split
      · rfl
      · split <;> rfl
section TK
variable {F : Nat} {σ : zS} {n : Nat}
theorem scanName_loop (hB : byt (ga σ 19) n) (h : gi σ 101 = nI n) {p : Nat} : ∀ (j m k : Nat), n - (p + k) = j → j < m → p + k ≤ n → (∀ i, i < k → nmB (ga σ 19 (p + i)) = true) → nmE (ga σ 19) n p = nmE (ga σ 19) n (p + k) → Ta_scanName_5 F m σ (nI p) (nVal (ga σ 19) p k) (nI (p + k)) = Ta_scanName_47 F σ (nI p) (nVal (ga σ 19) p (nmE (ga σ 19) n p - p)) (nI (nmE (ga σ 19) n p)) := by
  have hn := hB.1
  intro j
  induction j with
  | zero =>
    intro m k hj hm hk hnm he
    obtain ⟨m, rfl⟩ : ∃ m', m = m' + 1 := ⟨m - 1, by omega⟩
    have e2 : nmE (ga σ 19) n p = p + k := he.trans (nmE_stop (by omega))
    show Ta_scanName_b5 F _ σ (nI p) _ (nI (p + k)) = _
    rw [Ta_scanName_b5, h, if_pos (nI_le (by omega) (by omega)), e2, Nat.add_sub_cancel_left]
  | succ j ih =>
    intro m k hj hm hk hnm he
    obtain ⟨m, rfl⟩ : ∃ m', m = m' + 1 := ⟨m - 1, by omega⟩
    show Ta_scanName_b5 F _ σ (nI p) _ (nI (p + k)) = _
    rw [Ta_scanName_b5, h, if_neg (nI_ge (by omega) (by omega)), gd_t (inb_nI (by omega) (by omega)), nI_clamp (by omega), nameB_ok, bi_some]
    cases hb : nmB (ga σ 19 (p + k))
    · rw [if_pos (b2i_0.mpr rfl)]
      have e2 : nmE (ga σ 19) n p = p + k := he.trans (nmE_stop (by rw [hb]; simp))
      rw [e2, Nat.add_sub_cancel_left]
    · rw [if_neg (by decide), nI_1]
      have := ih m (k + 1) (by omega) (by omega) (by omega) (fun i hi => by
        rcases Nat.lt_or_ge i k with g | g
        · exact hnm i g
        · obtain rfl : i = k := by omega
          exact hb) (he.trans (nmE_step (by omega) hb))
      exact this
end TK
