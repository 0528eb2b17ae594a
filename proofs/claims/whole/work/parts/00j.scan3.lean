/-! scan; tokens depend on the tape's bytes alone. Own text. -/
theorem sA_self (σ : zS) (k : Nat) : sA σ k (ga σ k) = σ := by
  obtain ⟨a, b, r⟩ := σ
  show (a, fu b k (b k), r) = (a, b, r)
  rw [fu_self]
theorem sB_self (σ : zS) (k : Nat) : sB σ k (gb σ k) = σ := by
  obtain ⟨a, b, c, d, r⟩ := σ
  show (a, b, c, fu d k (d k), r) = (a, b, c, d, r)
  rw [fu_self]
theorem tkSt_0 (σ : zS) : si σ 105 (nI 0) = tkSt σ 0 (ga σ 20) (gb σ 21) (ga σ 22) := by
  unfold tkSt
  rw [sA_self, sB_self, sA_self]
theorem scan_ok {F : Nat} {σ : zS} {n : Nat} (hB : byt (ga σ 19) n) (hl : gi σ 101 = nI n) (hF : 1300 ≤ F) : ∃ c f g h, Ta_scan F σ = some (tkSt (si σ 106 0) (c + 1) f g h) ∧ c ≤ n ∧ tkP (ga σ 19) n c = n ∧ tkOk (ga σ 19) n (c + 1) f g h ∧ ∀ k, k < c → tkP (ga σ 19) n k < n := by
  have e : si (si σ 105 (0 : Int32)) 106 (0 : Int32) = tkSt (si σ 106 0) 0 (ga σ 20) (gb σ 21) (ga σ 22) := by
    rw [si_comm _ (by decide), show (0 : Int32) = nI 0 from by decide]
    exact tkSt_0 (si σ 106 (nI 0))
  rw [Ta_scan, e, show (0 : Int32) = nI 0 from by decide]
  have hn := hB.1
  exact scan_loop (F := F) (σ := si σ 106 (nI 0)) (n := n) hB (by simp only [zs]; exact hl) hF n F 0 0 0 (ga σ 20) (gb σ 21) (ga σ 22) (by omega) (by omega) (by omega) (by omega) (by omega) rfl (fun k hk => by omega) (fun k hk => by omega)
section CG
variable {B B' : Nat → Int32} {n : Nat}
theorem nEnd_cg (h : ∀ i, i < n → B i = B' i) : ∀ f p, nEnd B n f p = nEnd B' n f p := by
  intro f
  induction f with
  | zero => intro p; rfl
  | succ f ih =>
    intro p
    rw [nEnd, nEnd]
    by_cases c : p < n
    · rw [h p c, ih]
    · rw [if_neg (fun z => c z.1), if_neg (fun z => c z.1)]
theorem nmE_cg (h : ∀ i, i < n → B i = B' i) (p : Nat) : nmE B n p = nmE B' n p := nEnd_cg h _ _
theorem nVal_cg (h : ∀ i, i < n → B i = B' i) (p : Nat) : ∀ k, p + k ≤ n → nVal B p k = nVal B' p k := by
  intro k
  induction k with
  | zero => intro _; rfl
  | succ k ih => intro hk; rw [nVal, nVal, ih (by omega), h (p + k) (by omega)]
theorem tokS_cg (h : ∀ i, i < n → B i = B' i) {p : Nat} (hp : p < n) : tokS B n p = tokS B' n p := by
  have h1 : nmE B' n p ≤ n := nEnd_le _ _ _ _ (by omega)
  have h2 : p ≤ nmE B' n p := nEnd_ge _ _ _ _
  unfold tokS
  rw [nmE_cg h, nVal_cg h p _ (by omega), h p hp]
  by_cases c : p + 1 < n
  · rw [h (p + 1) c]
  · have e1 : ∀ x : Nat → Int32, ¬ ((B' p = 58 ∧ p + 1 < n ∧ x (p + 1) = 58) ∨ (B' p = 45 ∧ p + 1 < n ∧ x (p + 1) = 62)) := fun x z => z.elim (fun z => c z.2.1) (fun z => c z.2.1)
    rw [if_neg (e1 B), if_neg (e1 B')]
theorem skF_cg (h : ∀ i, i < n → B i = B' i) : ∀ f p, skF B n f p = skF B' n f p := by
  intro f
  induction f with
  | zero => intro p; rfl
  | succ f ih =>
    intro p
    rw [skF, skF]
    by_cases c : p < n
    · rw [h p c, ih]
    · rw [if_neg (fun z => c z.1), if_neg (fun z => c z.1)]
theorem sk_cg (h : ∀ i, i < n → B i = B' i) (p : Nat) : sk B n p = sk B' n p := skF_cg h _ _
theorem lxE_cg (h : ∀ i, i < n → B i = B' i) : ∀ k, lxE B n k = lxE B' n k := by
  intro k
  induction k with
  | zero => rfl
  | succ k ih =>
    rw [lxE, lxE, ih, sk_cg h]
    by_cases c : sk B' n (lxE B' n k) < n
    · rw [if_pos c, if_pos c, tokS_cg h c]
    · rw [if_neg c, if_neg c]
theorem tkP_cg (h : ∀ i, i < n → B i = B' i) (k : Nat) : tkP B n k = tkP B' n k := by
  unfold tkP
  rw [lxE_cg h, sk_cg h]
theorem tkS_cg (h : ∀ i, i < n → B i = B' i) (k : Nat) : tkS B n k = tkS B' n k := by
  unfold tkS
  rw [tkP_cg h]
  by_cases c : tkP B' n k < n
  · rw [if_pos c, if_pos c, tokS_cg h c]
  · rw [if_neg c, if_neg c]
theorem tkN_cg (h : ∀ i, i < n → B i = B' i) (k : Nat) : tkN B n k = tkN B' n k := by
  unfold tkN
  rw [tkP_cg h]
  by_cases c : tkP B' n k < n
  · rw [if_pos c, if_pos c, tokS_cg h c]
  · rw [if_neg c, if_neg c]
end CG
