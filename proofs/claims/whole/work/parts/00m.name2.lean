/-! The reference's name(): its end. Own text. -/
theorem nEnd_end (B : Nat → Int32) (n : Nat) : ∀ f p, n - p ≤ f → ¬ (nEnd B n f p < n ∧ nmB (B (nEnd B n f p)) = true) := by
  intro f
  induction f with
  | zero => intro p hf z; rw [nEnd] at z; omega
  | succ f ih =>
    intro p hf
    rw [nEnd]
    split
    · exact ih (p + 1) (by omega)
    · assumption
theorem nmE_end (B : Nat → Int32) (n p : Nat) : ¬ (nmE B n p < n ∧ nmB (B (nmE B n p)) = true) := nEnd_end B n _ _ (Nat.le_refl _)
theorem nEnd_in (B : Nat → Int32) (n : Nat) : ∀ f p i, p ≤ i → i < nEnd B n f p → nmB (B i) = true := by
  intro f
  induction f with
  | zero => intro p i h1 h2; rw [nEnd] at h2; omega
  | succ f ih =>
    intro p i h1 h2
    rw [nEnd] at h2
    split at h2
    · rename_i c
      rcases Nat.eq_or_lt_of_le h1 with rfl | h3
      · exact c.2
      · exact ih (p + 1) i h3 h2
    · omega
theorem si_same (σ : zS) {k : Nat} {v : Int32} (h : gi σ k = v) : si σ k v = σ := by
  subst h
  obtain ⟨a, r⟩ := σ
  show (fu a k (a k), r) = (a, r)
  rw [fu_self]
theorem sl_same (σ : zS) {k : Nat} {v : Int64} : sl (sl σ k v) k v = sl σ k v := sl_sl σ k v v
section NM
variable {F : Nat} {τ : zS} {n p : Nat}
theorem name149 {k : Nat} {s : Int32} (h8 : gi τ 8 = 0) (hk : k < 2 ^ 31) : Md_name_149 F (nmSt τ p k) (nI k) s = some (if k ≤ 8 then si (nmSt τ p k) 4 s else si (si (si (nmSt τ p k) 8 1) 9 (gi τ 5)) 4 5) := by
  obtain ⟨e1, e2, e3, e4⟩ := nmSt_zs (τ := τ) (p := p) k
  unfold Md_name_149 Md_name_172
  by_cases c : k ≤ 8
  · rw [if_pos (show nI k ≤ (8 : Int32) from nI_le (b := 8) c (by decide)), if_pos c]
  · rw [if_neg (show ¬ nI k ≤ (8 : Int32) from nI_ge (a := 8) (by omega) hk), if_neg c, e3 5 (by decide)]
    unfold Md_wrong Md_wrong_17
    have : gi (si (nmSt τ p k) 4 s) 8 = 0 := by simp [zs, e3 8 (by decide), h8]
    rw [if_pos this, bv_some]
    congr 1
    rw [si_comm (nmSt τ p k) (j := 4) (k := 8) (by decide), si_comm (si (nmSt τ p k) 8 1) (j := 4) (k := 9) (by decide), si_si]
theorem mdname_ok (hB : byt (ga τ 1) n) (hl : gi τ 2 = nI n) (hp : p ≤ n) (h3 : gi τ 3 = nI p) (h8 : gi τ 8 = 0) (hF : 1300 ≤ F) {x1 : Int32} : ∀ k, k = nmE (ga τ 1) n p - p → Md_name F τ x1 = some (if k ≤ 8 then si (nmSt τ p k) 4 (if x1 = 0 then (if kwB (nVal (ga τ 1) p k) = true then 3 else 2) else 1) else si (si (si (nmSt τ p k) 8 1) 9 (gi τ 5)) 4 5) := by
  intro k hk
  have hn := hB.1
  have q1 : p ≤ nmE (ga τ 1) n p := nEnd_ge _ _ _ _
  have q2 : nmE (ga τ 1) n p ≤ n := nEnd_le _ _ _ _ hp
  have ek : nmE (ga τ 1) n p = p + k := by omega
  have h0 : sl τ 6 (0 : Int64) = nmSt τ p 0 := by
    unfold nmSt
    rw [Nat.add_zero]
    exact (si_same (sl τ 6 (0 : Int64)) (k := 3) (by simp only [zs]; exact h3)).symm
  obtain ⟨m', e⟩ := nm_loop (F := F) (x1 := x1) (p := p) hB hl (n - p) 0 F (by omega) (by omega) (by omega) rfl
  have e' : Md_name_7 F F (nmSt τ p 0) x1 (0 : Int32) = Md_name_7 F (m' + 1) (nmSt τ p (nmE (ga τ 1) n p - p)) x1 (nI (nmE (ga τ 1) n p - p)) := e
  rw [Md_name, h0, e', ← hk]
  obtain ⟨e1, e2, e3, e4⟩ := nmSt_zs (τ := τ) (p := p) k
  have hb : ∃ r, Md_byteAt F (nmSt τ p k) (nI (p + k)) = some (r, nmSt τ p k) ∧ nmB r = false := by
    by_cases c : p + k < n
    · refine ⟨ga τ 1 (p + k), by rw [byteAt_in ((e3 2 (by decide)).trans hl) hn c, e4], ?_⟩
      have := nmE_end (ga τ 1) n p
      rw [ek] at this
      cases hx : nmB (ga τ 1 (p + k))
      · rfl
      · exact absurd ⟨c, hx⟩ this
    · exact ⟨-1, byteAt_out ((e3 2 (by decide)).trans hl) (by omega) (by omega), by decide⟩
  obtain ⟨r, hb1, hb2⟩ := hb
  show Md_name_b7 F (Md_name_7 F m') (nmSt τ p k) x1 (nI k) = _
  rw [Md_name_b7, e1, hb1, bi_some, isOf_ok, bi_some, hb2, if_pos (b2i_0.mpr rfl)]
  unfold Md_name_96 Md_name_112 Md_name_128 Md_name_144 Md_name_148
  simp only [cmp0, e2, name149 h8 (show k < 2 ^ 31 by omega)]
  by_cases c1 : x1 = 0
  · rw [if_pos c1]
    by_cases c8 : k ≤ 8
    · simp only [if_pos c8, if_pos c1]
      have hm : min k 8 = k := by omega
      rw [hm]
      have hnm : ∀ i, i < k → nmB (ga τ 1 (p + i)) = true := fun i hi => nEnd_in _ _ _ _ _ (Nat.le_add_right p i) (by show p + i < nmE (ga τ 1) n p; omega)
      have L : ∀ (c L : Nat), 256 ^ L ≤ c → c < 256 ^ (L + 1) → c < 2 ^ 63 → nVal (ga τ 1) p k = lN c → nI k = nI (L + 1) := fun c L g1 g2 g3 g4 => by rw [kw_len hB c8 (by omega) hnm g4 g1 g2 g3]
      have k1 : nVal (ga τ 1) p k = 1684108385 → nI k = 4 := fun h => (L 1684108385 3 (by decide) (by decide) (by decide) h).trans (by decide)
      have k2 : nVal (ga τ 1) p k = 1954115685 → nI k = 4 := fun h => (L 1954115685 3 (by decide) (by decide) (by decide) h).trans (by decide)
      have k3 : nVal (ga τ 1) p k = 427020088179 → nI k = 5 := fun h => (L 427020088179 4 (by decide) (by decide) (by decide) h).trans (by decide)
      have k4 : nVal (ga τ 1) p k = 1802071652 → nI k = 4 := fun h => (L 1802071652 3 (by decide) (by decide) (by decide) h).trans (by decide)
      unfold kwB
      by_cases a1 : nVal (ga τ 1) p k = 1684108385
      · rw [if_pos a1, if_pos (k1 a1), a1]
        rfl
      · rw [if_neg a1]
        by_cases a2 : nVal (ga τ 1) p k = 1954115685
        · rw [if_pos a2, if_pos (k2 a2), a2]
          rfl
        · rw [if_neg a2]
          by_cases a3 : nVal (ga τ 1) p k = 427020088179
          · rw [if_pos a3, if_pos (k3 a3), a3]
            rfl
          · rw [if_neg a3]
            by_cases a4 : nVal (ga τ 1) p k = 1802071652
            · rw [if_pos a4, if_pos (k4 a4), a4]
              rfl
            · rw [if_neg a4]
              simp [a1, a2, a3, a4]
    · simp only [if_neg c8]
      repeat (first | rfl | split)
  · rw [if_neg c1]
    simp only [if_neg c1]
end NM
