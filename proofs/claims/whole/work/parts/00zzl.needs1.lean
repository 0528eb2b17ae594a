/-! Masks, and closing of who names whom: pure. Own text. -/
def bq (x : Int32) (j : Nat) : Bool := x.toBitVec.getLsbD j
theorem bq_or (x y : Int32) (j : Nat) : bq (x ||| y) j = (bq x j || bq y j) := by
  unfold bq; rw [Int32.toBitVec_or, BitVec.getLsbD_or]
theorem bq_and (x y : Int32) (j : Nat) : bq (x &&& y) j = (bq x j && bq y j) := by
  unfold bq; rw [Int32.toBitVec_and, BitVec.getLsbD_and]
theorem bq_not (x : Int32) {j : Nat} (hj : j < 32) : bq (~~~ x) j = !bq x j := by
  unfold bq; rw [Int32.toBitVec_not, BitVec.getLsbD_not]; simp [hj]
theorem bq_0 (j : Nat) : bq 0 j = false := by
  unfold bq; simp
theorem bq_ext {x y : Int32} (h : ∀ j, j < 32 → bq x j = bq y j) : x = y := by
  apply Int32.toBitVec_inj.mp
  exact BitVec.eq_of_getLsbD_eq (fun i hi => h i hi)
theorem nI_31 {m : Nat} (hm : m < 32) : nI m &&& 31 = nI m := by
  have : ∀ k : Fin 32, nI k.val &&& 31 = nI k.val := by decide
  exact this ⟨m, hm⟩
theorem bq_shl {m : Nat} (hm : m < 32) (j : Nat) : bq ((1 : Int32) <<< (nI m &&& 31)) j = decide (j = m) := by
  rw [nI_31 hm]
  by_cases hj : j < 32
  · have : ∀ k j : Fin 32, bq ((1 : Int32) <<< nI k.val) j.val = decide (j.val = k.val) := by decide
    exact this ⟨m, hm⟩ ⟨j, hj⟩
  · unfold bq
    rw [BitVec.getLsbD_of_ge _ _ (by omega)]
    simp; omega
theorem bq_val (x : Int32) {m : Nat} (hm : m < 32) : (x >>> (nI m &&& 31)) &&& 1 = if bq x m = true then 1 else 0 := by
  rw [nI_31 hm]
  apply bq_ext
  intro j hj
  rw [bq_and]
  have h1 : bq 1 j = decide (j = 0) := by
    have : ∀ j : Fin 32, bq 1 j.val = decide (j.val = 0) := by decide
    exact this ⟨j, hj⟩
  rw [h1]
  by_cases h0 : j = 0
  · subst h0
    have h2 : bq (x >>> nI m) 0 = bq x m := by
      unfold bq
      rw [Int32.toBitVec_shiftRight, BitVec.sshiftRight']
      have h3 : ((nI m).toBitVec.smod 32).toNat = m := by
        have : ∀ k : Fin 32, ((nI k.val).toBitVec.smod 32).toNat = k.val := by decide
        exact this ⟨m, hm⟩
      rw [h3, BitVec.getLsbD_sshiftRight]
      simp [hm]
    rw [h2]
    cases bq x m <;> simp <;> decide
  · cases bq x m
    · rw [if_neg (by decide), bq_0]; simp [h0]
    · rw [if_pos rfl, h1]; simp [h0]
theorem bq_test (x : Int32) {m : Nat} (hm : m < 32) : (x >>> (nI m &&& 31)) &&& 1 = 0 ↔ bq x m = false := by
  rw [bq_val x hm]
  cases bq x m <;> simp
/-- closing, one over the other -/
def cw (A : Nat → Nat → Bool) : Nat → Nat → Nat → Bool
  | 0 => A
  | m + 1 => fun i j => cw A m i j || (cw A m i m && cw A m m j)
theorem cw_s (A : Nat → Nat → Bool) (m i j : Nat) : cw A (m + 1) i j = (cw A m i j || (cw A m i m && cw A m m j)) := rfl
theorem cw_row (A : Nat → Nat → Bool) (m j : Nat) : cw A (m + 1) m j = cw A m m j := by
  rw [cw_s]; cases cw A m m j <;> cases cw A m m m <;> rfl
theorem cw_col (A : Nat → Nat → Bool) (m i : Nat) : cw A (m + 1) i m = cw A m i m := by
  rw [cw_s]; cases cw A m i m <;> cases cw A m m m <;> rfl
theorem cw_out {A : Nat → Nat → Bool} {D : Nat} (h : ∀ i j, A i j = true → i < D ∧ j < D) : ∀ m i j, cw A m i j = true → i < D ∧ j < D := by
  intro m
  induction m with
  | zero => exact h
  | succ m ih =>
    intro i j hij
    rw [cw_s] at hij
    simp only [Bool.or_eq_true, Bool.and_eq_true] at hij
    rcases hij with z | ⟨z1, z2⟩
    · exact ih i j z
    · exact ⟨(ih _ _ z1).1, (ih _ _ z2).2⟩
theorem cw_ge {A : Nat → Nat → Bool} {D : Nat} (h : ∀ i j, A i j = true → i < D ∧ j < D) (d : Nat) : cw A (D + d) = cw A D := by
  induction d with
  | zero => rfl
  | succ d ih =>
    funext i j
    rw [← Nat.add_assoc, cw_s]
    have z : cw A (D + d) i (D + d) = false := by
      cases hc : cw A (D + d) i (D + d) with
      | false => rfl
      | true => have := (cw_out h _ _ _ hc).2; omega
    rw [z, ih]; simp
theorem cw_from {A : Nat → Nat → Bool} : ∀ m i j, cw A m i j = true → (∃ k, A i k = true) ∧ ∃ k, A k j = true := by
  intro m
  induction m with
  | zero => intro i j h; exact ⟨⟨j, h⟩, ⟨i, h⟩⟩
  | succ m ih =>
    intro i j hij
    rw [cw_s] at hij
    simp only [Bool.or_eq_true, Bool.and_eq_true] at hij
    rcases hij with z | ⟨z1, z2⟩
    · exact ih i j z
    · exact ⟨(ih _ _ z1).1, (ih _ _ z2).2⟩
theorem cw_tr0 (A : Nat → Nat → Bool) : ∀ m k, k < m → ∀ i j, cw A m i k = true → cw A m k j = true → cw A m i j = true := by
  intro m
  induction m with
  | zero => intro k hk; omega
  | succ m ih =>
    intro k hk i j h1 h2
    by_cases hm : k = m
    · subst hm
      rw [cw_col] at h1; rw [cw_row] at h2
      rw [cw_s, h1, h2]; simp
    · have q := ih k (by omega)
      rw [cw_s] at h1 h2 ⊢
      simp only [Bool.or_eq_true, Bool.and_eq_true] at h1 h2 ⊢
      rcases h1 with a | ⟨a, b⟩ <;> rcases h2 with c | ⟨c, d⟩
      · exact Or.inl (q i j a c)
      · exact Or.inr ⟨q i m a c, d⟩
      · exact Or.inr ⟨a, q m j b c⟩
      · exact Or.inr ⟨a, d⟩
theorem cw_tr {A : Nat → Nat → Bool} {D : Nat} (h : ∀ i j, A i j = true → i < D ∧ j < D) {i k j : Nat} (h1 : cw A D i k = true) (h2 : cw A D k j = true) : cw A D i j = true :=
  cw_tr0 A D k (cw_out h _ _ _ h2).1 i j h1 h2
/-- masks of the class that tell A -/
def mkR (σ : zS) (a D : Nat) (A : Nat → Nat → Bool) : Prop := ∀ i, i < D → ∀ j, j < 32 → bq (ga σ a i) j = A i j
/-- rows of the reference that tell A -/
def rwR (τ : zS) (b : Nat) (A : Nat → Nat → Bool) : Prop := ∀ i j, i < 16 → j < 16 → ga τ b (16 * i + j) = if A i j = true then 1 else 0
