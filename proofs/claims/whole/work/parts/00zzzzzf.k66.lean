/-! A text's kinds behind a question. Own text. -/
theorem chn_uq {up : Nat → Nat} : ∀ (i j k r r' : Nat), chn up i k r → chn up j k r' → i = j
  | 0, 0, _, _, _, _, _ => rfl
  | 0, j + 1, k, r, r', h, g => by
    obtain ⟨e, h⟩ := h
    subst e
    exact absurd h g.1
  | i + 1, 0, k, r, r', h, g => by
    obtain ⟨e, g⟩ := g
    subst e
    exact absurd g h.1
  | i + 1, j + 1, k, r, r', h, g => by rw [chn_uq i j _ r r' h.2 g.2]
theorem cN_mo {p q : Nat → Bool} (h : ∀ k, p k = true → q k = true) : ∀ n, cN p n ≤ cN q n
  | 0 => Nat.le_refl _
  | n + 1 => by
    rw [cN, cN]
    have := cN_mo h n
    have := h n
    cases hp : p n <;> cases hq : q n <;> simp_all
    omega
theorem cN_st {p q : Nat → Bool} (h : ∀ k, p k = true → q k = true) {a : Nat} (ha : p a = false) (hb : q a = true) : ∀ n, a < n → cN p n + 1 ≤ cN q n
  | 0, z => by omega
  | n + 1, z => by
    rw [cN, cN]
    by_cases e : a = n
    · subst e
      have := cN_mo h a
      rw [ha, hb]
      simp
      exact this
    · have := cN_st h ha hb n (by omega)
      have := h n
      cases hp : p n <;> cases hq : q n <;> simp_all
      omega
/-- a way that stays below n is no longer than the linked ones there -/
theorem chn_bd {up : Nat → Nat} {n : Nat} (hu : ∀ k, k < n → up k < n) {r : Nat} : ∀ (j k : Nat), k < n → chn up j k r → j ≤ cN (fun x => @decide (up x ≠ x ∧ ∃ i, i ≤ j ∧ chn up i x r) (Classical.propDecidable _)) n
  | 0, _, _, _ => Nat.zero_le _
  | j + 1, k, hk, h => by
    have ih := chn_bd hu j (up k) (hu k hk) h.2
    refine Nat.le_trans (Nat.add_le_add_right ih 1) (cN_st (a := k) (fun x hx => ?_) ?_ ?_ n hk)
    · rw [@decide_eq_true_iff _ (Classical.propDecidable _)] at hx ⊢
      obtain ⟨h1, i, h2, h3⟩ := hx
      exact ⟨h1, i, by omega, h3⟩
    · rw [@decide_eq_false_iff_not _ (Classical.propDecidable _)]
      rintro ⟨_, i, h2, h3⟩
      have := chn_uq i (j + 1) k r r h3 h
      omega
    · rw [@decide_eq_true_iff _ (Classical.propDecidable _)]
      exact ⟨h.1, j + 1, Nat.le_refl _, h⟩
/-- the kinds below n -/
def rsG (n : Nat) (G : SG) : SG := (n, G.2)
section R
variable {σ σ0 : zS} {G G0 : SG} {n : Nat}
theorem rs_wf (hw : wfG G) (hn : n ≤ gn G) (ht : tz n G) (hlr : ∀ k, k < n → gso G k = 2 → gle G k < n ∧ gri G k < n) : wfG (rsG n G) := by
  refine ⟨fun k hk => ?_, fun k hk => ?_⟩
  · have hk' : k < n := hk
    obtain ⟨a1, a2, a3⟩ := hw.1 k (by omega)
    exact ⟨a1, (ht k hk').1, fun z => hlr k hk' z⟩
  · have hk' : k < n := hk
    obtain ⟨j, r, b1, b2, b3⟩ := hw.2 k (by omega)
    have hr : ∀ (j k : Nat), k < n → chn (gup G) j k r → r < n := by
      intro j
      induction j with
      | zero => intro k hk h; rw [← h.1]; exact hk
      | succ j ih => intro k hk h; exact ih _ (ht k hk).1 h.2
    refine ⟨j, r, b1, hr j k hk' b1, ?_⟩
    refine Nat.le_trans (chn_bd (fun k hk => (ht k hk).1) j k hk' b1) (cN_mo (fun x hx => ?_) n)
    rw [@decide_eq_true_iff _ (Classical.propDecidable _)] at hx
    exact decide_eq_true hx.1
theorem rs_no (ht : tz n G) : noO (rsG n G) := fun k hk z => (ht k hk).2 z
theorem rs_T (hw : wfG G) (hn : n ≤ gn G) (ht : tz n G) (hlr : ∀ k, k < n → gso G k = 2 → gle G k < n ∧ gri G k < n) {k : Nat} (hk : k < n) : gT (rsG n G) k = gT G k := by
  have hs : Sol (rsG n G) (gT G) := fun k hk => gT_sol hw k (Nat.lt_of_lt_of_le hk hn)
  exact (sol_noO (rs_wf hw hn ht hlr) (rs_no ht) hs hk).symm
/-- what a question leaves of a text's kinds -/
theorem rs_CS (h0 : CS σ0 G0) (hn : n = gn G0) (hC : CS σ G) (hle : n ≤ gn G) (ht : tz n G) (h23 : ∀ k, k < n → ga σ 23 k = ga σ0 23 k) (h24 : ∀ k, k < n → ga σ 24 k = ga σ0 24 k) : CS (si σ 306 (nI n)) (rsG n G) ∧ noO (rsG n G) ∧ ∀ k, k < n → gT (rsG n G) k = gT G k := by
  obtain ⟨b1, b2, b3, b4, b5, b6, b7⟩ := h0
  obtain ⟨c1, c2, c3, c4, c5, c6, c7⟩ := hC
  have hlr : ∀ k, k < n → gso G k = 2 → gle G k < n ∧ gri G k < n := by
    intro k hk h2
    have k0 : k ≠ 0 := by intro z; rw [z, c5] at h2; cases h2
    rcases (c7 k (by omega)).2.2 k0 with ⟨z, _⟩ | ⟨_, z1, z2⟩
    · rw [h2] at z; cases z
    · rw [h23 k hk] at z1
      rw [h24 k hk] at z2
      have hb := (c6.1 k (by omega)).2.2 h2
      rcases (b7 k (by omega)).2.2 k0 with ⟨_, y⟩ | ⟨y0, y1, y2⟩
      · exfalso
        rw [z1] at y
        exact nI_m1 _ (by omega) y
      · have hb0 := (b6.1 k (by omega)).2.2 y0
        have e1 : gle G k = gle G0 k := (nI_eq (by omega) (by omega)).mp (z1.symm.trans y1)
        have e2 : gri G k = gri G0 k := (nI_eq (by omega) (by omega)).mp (z2.symm.trans y2)
        omega
  refine ⟨⟨by simp [zs]; rfl, by show 1 ≤ n; omega, by show n ≤ 1713; omega, c4, c5, rs_wf c6 hle ht hlr, fun k hk => ?_⟩, rs_no ht, fun k hk => rs_T c6 hle ht hlr hk⟩
  exact c7 k (Nat.lt_of_lt_of_le hk hle)
end R
