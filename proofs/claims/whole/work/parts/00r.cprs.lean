/-! The class's parser: its state, its small methods. Own text. -/
/-- the tape's tokens: c is the last one, END -/
def tEnd (B : Nat → Int32) (n c : Nat) : Prop := byt B n ∧ c ≤ n ∧ tkP B n c = n ∧ ∀ k, k < c → tkP B n k < n
theorem tEnd_s {B : Nat → Int32} {n c k : Nat} (h : tEnd B n c) (hk : k ≤ c) (hs : tkS B n k ≠ 1) : k < c ∧ tkP B n k < n := by
  rcases Nat.lt_or_ge k c with q | q
  · exact ⟨q, h.2.2.2 k q⟩
  · have : k = c := by omega
    subst this
    exact absurd (tkS_end h.2.2.1) hs
def cS (B : Nat → Int32) (n c X : Nat) (σ : zS) (k M s : Nat) : Prop :=
  gi σ 106 = nI k ∧ k ≤ c ∧ gi σ 105 = nI (c + 1) ∧ tkOk B n (c + 1) (ga σ 20) (gb σ 21) (ga σ 22) ∧ gr σ 605 = X ∧ mi σ (100 * X + 4) = nI s ∧ gi σ 505 = nI M ∧ gi σ 200 = 0
/-- what the parser of types leaves alone: mentions below M, rows of X below s -/
def frC (X M s : Nat) (σ σ' : zS) : Prop :=
  (∀ j, j ≠ 106 → j ≠ 505 → j ≠ 200 → j ≠ 201 → gi σ' j = gi σ j) ∧
  (∀ j i, (j < 43 ∨ 47 < j ∨ i < M) → ga σ' j i = ga σ j i) ∧
  (∀ j, gl σ' j = gl σ j) ∧
  (∀ j i, (j ≠ 44 ∨ i < M) → gb σ' j i = gb σ j i) ∧
  (∀ j, gr σ' j = gr σ j) ∧
  (∀ j, j ≠ 100 * X + 4 → mi σ' j = mi σ j) ∧
  (∀ j i, (j < rA X 0 ∨ rA X 3 < j ∨ i < s) → ma σ' j i = ma σ j i) ∧
  (∀ j i, (j ≠ rA X 1 ∨ i < s) → mb σ' j i = mb σ j i)
theorem frC_rfl (X M s : Nat) (σ : zS) : frC X M s σ σ := ⟨fun _ _ _ _ _ => rfl, fun _ _ _ => rfl, fun _ => rfl, fun _ _ _ => rfl, fun _ => rfl, fun _ _ => rfl, fun _ _ _ => rfl, fun _ _ _ => rfl⟩
theorem frC_tr {X M s M' s' : Nat} {σ σ1 σ2 : zS} (h1 : frC X M s σ σ1) (h2 : frC X M' s' σ1 σ2) (hM : M ≤ M') (hs : s ≤ s') : frC X M s σ σ2 := by
  obtain ⟨a1, a2, a3, a4, a5, a6, a7, a8⟩ := h1
  obtain ⟨b1, b2, b3, b4, b5, b6, b7, b8⟩ := h2
  refine ⟨fun j j1 j2 j3 j4 => (b1 j j1 j2 j3 j4).trans (a1 j j1 j2 j3 j4), fun j i h => (b2 j i (by omega)).trans (a2 j i h), fun j => (b3 j).trans (a3 j), fun j i h => (b4 j i (by omega)).trans (a4 j i h), fun j => (b5 j).trans (a5 j), fun j h => (b6 j h).trans (a6 j h), fun j i h => (b7 j i (by omega)).trans (a7 j i h), fun j i h => (b8 j i (by omega)).trans (a8 j i h)⟩
section PC
variable {F : Nat} {B : Nat → Int32} {n c X : Nat} {σ : zS} {k M s : Nat}
theorem tE_c (hT : tEnd B n c) : c ≤ 1200 := by have := hT.1.1; have := hT.2.1; omega
theorem c_at (hT : tEnd B n c) (h : cS B n c X σ k M s) : inb (gi σ 106) 1201 = true ∧ (gi σ 106).toNatClampNeg = k := by
  have := tE_c hT
  obtain ⟨h1, h2, _⟩ := h
  rw [h1, nI_clamp (by omega)]
  exact ⟨inb_nI (by omega) (by omega), rfl⟩
theorem c_sort (hT : tEnd B n c) (h : cS B n c X σ k M s) : Ta_sort F σ = some (tkS B n k, σ) := by
  obtain ⟨i1, i2⟩ := c_at hT h
  obtain ⟨h1, h2, h3, h4, _⟩ := h
  rw [Ta_sort, gd_t i1, i2, (h4 k (by omega)).1]
theorem c_name (hT : tEnd B n c) (h : cS B n c X σ k M s) : Ta_name F σ = some (tkN B n k, σ) := by
  obtain ⟨i1, i2⟩ := c_at hT h
  obtain ⟨h1, h2, h3, h4, _⟩ := h
  rw [Ta_name, gd_t i1, i2, (h4 k (by omega)).2.1]
theorem c_start (hT : tEnd B n c) (h : cS B n c X σ k M s) : Ta_start F σ = some (nI (tkP B n k), σ) := by
  obtain ⟨i1, i2⟩ := c_at hT h
  obtain ⟨h1, h2, h3, h4, _⟩ := h
  rw [Ta_start, gd_t i1, i2, (h4 k (by omega)).2.2]
theorem c_step (hT : tEnd B n c) (h : cS B n c X σ k M s) (hs : tkS B n k ≠ 1) : Ta_step F σ = some (si σ 106 (nI (k + 1))) ∧ cS B n c X (si σ 106 (nI (k + 1))) (k + 1) M s ∧ frC X M s σ (si σ 106 (nI (k + 1))) := by
  have hc := tE_c hT
  have hk := (tEnd_s hT h.2.1 hs).1
  obtain ⟨h1, h2, h3, h4, h5, h6, h7, h8⟩ := h
  refine ⟨?_, ⟨by simp [zs], by omega, by simp [zs, h3], ?_, by simp [zs, h5], by simp [zs, h6], by simp [zs, h7], by simp [zs, h8]⟩, ?_⟩
  · rw [Ta_step, h1, h3, nI_1, if_neg (nI_ge (by omega) (by omega)), Ta_step_23]
  · simpa only [zs] using h4
  · refine ⟨fun j j1 _ _ _ => by simp [zs, j1], fun j i _ => by simp [zs], fun j => by simp [zs], fun j i _ => by simp [zs], fun j => by simp [zs], fun j _ => by simp [zs], fun j i _ => by simp [zs], fun j i _ => by simp [zs]⟩
/-- a fault is raised at the token -/
theorem c_raise (hT : tEnd B n c) (h : cS B n c X σ k M s) (f : Int32) : ∃ σ', bi (Ta_start F σ) (fun r2 σ1 => bv (Fa_raise F σ1 f r2) (fun σ4 => some ((0 : Int32), σ4))) = some (0, σ') ∧ gi σ' 200 = f ∧ gi σ' 201 = nI (tkP B n k) ∧ frC X M s σ σ' := by
  refine ⟨si (si σ 200 f) 201 (nI (tkP B n k)), by rw [c_start hT h, bi_some, Fa_raise, bv_some], by simp [zs], by simp [zs], ?_⟩
  refine ⟨fun j _ _ j1 j2 => by simp [zs, j1, j2], fun j i _ => by simp [zs], fun j => by simp [zs], fun j i _ => by simp [zs], fun j => by simp [zs], fun j _ => by simp [zs], fun j i _ => by simp [zs], fun j i _ => by simp [zs]⟩
theorem c_misfit (hT : tEnd B n c) (h : cS B n c X σ k M s) : ∃ σ', Pa_misfit F σ = some (0, σ') ∧ gi σ' 200 = 1 ∧ gi σ' 201 = nI (tkP B n k) ∧ frC X M s σ σ' := c_raise hT h 1
theorem c_tooMuch (hT : tEnd B n c) (h : cS B n c X σ k M s) : ∃ σ', Pa_tooMuch F σ = some (0, σ') ∧ gi σ' 200 = 2 ∧ gi σ' 201 = nI (tkP B n k) ∧ frC X M s σ σ' := c_raise hT h 2
theorem c_expect1 (hT : tEnd B n c) (h : cS B n c X σ k M s) {x : Int32} (hx : tkS B n k = x) (h1 : x ≠ 1) : Pa_expect F σ x = some (1, si σ 106 (nI (k + 1))) := by
  rw [Pa_expect, c_sort hT h, bi_some, if_pos hx, (c_step hT h (by rw [hx]; exact h1)).1, bv_some]
theorem c_expect0 (hT : tEnd B n c) (h : cS B n c X σ k M s) {x : Int32} (hx : tkS B n k ≠ x) : ∃ σ', Pa_expect F σ x = some (0, σ') ∧ gi σ' 200 = 1 ∧ gi σ' 201 = nI (tkP B n k) ∧ frC X M s σ σ' := by
  obtain ⟨σ', a, b⟩ := c_raise (F := F) hT h 1
  refine ⟨σ', ?_, b⟩
  rw [Pa_expect, c_sort hT h, bi_some, if_neg hx]
  exact a
def stO (s : Int32) : Prop := s = 2 ∨ s = 3 ∨ s = 40 ∨ s = 91
theorem c_starts (hT : tEnd B n c) (h : cS B n c X σ k M s) : (stO (tkS B n k) → Pa_startsOne F σ = some (1, σ)) ∧ (¬ stO (tkS B n k) → Pa_startsOne F σ = some (0, σ)) := by
  constructor
  · intro g
    rw [Pa_startsOne, c_sort hT h, bi_some]
    rcases g with g | g | g | g <;> rw [g] <;> rfl
  · intro g
    unfold stO at g
    rw [Pa_startsOne, c_sort hT h, bi_some, if_neg (fun z => g (Or.inl z)), if_neg (fun z => g (Or.inr (Or.inl z))), if_neg (fun z => g (Or.inr (Or.inr (Or.inl z)))), if_neg (fun z => g (Or.inr (Or.inr (Or.inr z))))]
    rfl
end PC
theorem rA_ne {X i j : Nat} (h : i ≠ j) : rA X i ≠ rA X j := by unfold rA; omega
