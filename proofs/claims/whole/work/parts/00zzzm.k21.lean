/-! The class makes the kinds of all members of a group. Own text. -/
def dcO (σ : zS) (D : Nat) : Prop := gi σ 400 = nI D ∧ D ≤ 16 ∧ ∀ i, i < D → ∃ so q, ga σ 29 i = nI so ∧ so ≤ 2 ∧ ga σ 32 i = nI q ∧ q ≤ 3 ∧ (so = 2 → q = 1)
theorem dcO_cg {σ σ' : zS} {D : Nat} (h : dcO σ D) (h1 : gi σ' 400 = gi σ 400) (h2 : ga σ' 29 = ga σ 29) (h3 : ga σ' 32 = ga σ 32) : dcO σ' D := by
  unfold dcO
  rw [h1, h2, h3]
  exact h
theorem cN_up (p : Nat → Bool) {a b : Nat} (h : a ≤ b) : cN p a ≤ cN p b := by
  induction b with
  | zero => obtain rfl : a = 0 := by omega
            exact Nat.le_refl _
  | succ b ih =>
    rcases Nat.lt_or_ge a (b + 1) with z | z
    · have := ih (by omega)
      rw [cN]
      omega
    · obtain rfl : a = b + 1 := by omega
      exact Nat.le_refl _
section K
variable {F : Nat} {E : List EQ} {D : Nat} {gp : Nat → Bool} {x1 : Int32}
theorem mk_all (hF : 1300 ≤ F) (hx : ∀ j, j < 32 → bq x1 j = gp j) : ∀ (d f i : Nat) (σ : zS) (G : SG) (dom : Nat → Prop) (m : Nat → Nat), i + d = D → d < f → dcO σ D → lsE [] σ G dom m E → dmK2 i 0 dom → gn G + 7 * cN gp D ≤ 1713 + 7 * cN gp i → ∃ σ' G' dom' m', So_makeKinds_2 F f σ x1 (nI i) = some σ' ∧ lsE [] σ' G' dom' m' E ∧ gn G' + 7 * cN gp i ≤ gn G + 7 * cN gp D ∧ xt G dom m G' dom' m' ∧ dmK2 D 0 dom' ∧ (∀ l, i ≤ l → l < D → gp l = true → dkC σ' G' dom' m' l) ∧ sx [306] [23, 24, 25, 40, 41, 42] σ σ' ∧ ∀ l, (l < i ∨ gp l = false) → ga σ' 40 l = ga σ 40 l ∧ ga σ' 42 l = ga σ 42 l ∧ ∀ j, j < 3 → ga σ' 41 (3 * l + j) = ga σ 41 (3 * l + j) := by
  intro d
  induction d with
  | zero =>
    intro f i σ G dom m hi hf hd hL hdm hG
    obtain ⟨f, rfl⟩ : ∃ f', f = f' + 1 := ⟨f - 1, by omega⟩
    obtain rfl : i = D := by omega
    refine ⟨σ, G, dom, m, ?_, hL, Nat.le_refl _, xt_rfl _ _ _, hdm, fun l l1 l2 => by omega, sx_rfl _ _ _, fun l _ => ⟨rfl, rfl, fun _ _ => rfl⟩⟩
    rw [So_makeKinds_2, So_makeKinds_b2, hd.1, if_pos (nI_le (Nat.le_refl _) (by have := hd.2.1; omega))]
  | succ d ih =>
    intro f i σ G dom m hi hf hd hL hdm hG
    obtain ⟨f, rfl⟩ : ∃ f', f = f' + 1 := ⟨f - 1, by omega⟩
    have hD := hd.2.1
    have hcs : cN gp (i + 1) = cN gp i + if gp i = true then 1 else 0 := rfl
    have hle : cN gp (i + 1) ≤ cN gp D := cN_up gp (by omega)
    rw [So_makeKinds_2, So_makeKinds_b2, hd.1, if_neg (nI_ge (by omega) (by omega))]
    by_cases c : gp i = true
    · rw [if_pos c] at hcs
      rw [if_neg (fun z => by have := (bq_test x1 (m := i) (by omega)).mp z; rw [hx i (by omega), c] at this; cases this)]
      obtain ⟨so, q, b1, b2, b3, b4, b5⟩ := hd.2.2 i (by omega)
      obtain ⟨σ1, G1, dom1, m1, a1, a2, a3, a4, a5, a6, a7, a8, a9⟩ := mk_one (F := F) hF (So_makeKinds_2 F f) x1 (i := i) (by omega) b1 b2 b3 b4 b5 hL (by omega) hdm
      obtain ⟨σ', G', dom', m', e1, e2, e3, e4, e5, e6, e7, e8⟩ := ih f (i + 1) σ1 G1 dom1 m1 (by omega) (by omega) (dcO_cg hd (a7.1 400 (by decide)) (a7.2.1 29 (by decide)) (a7.2.1 32 (by decide))) a2 a5 (by omega)
      refine ⟨σ', G', dom', m', by rw [a1, e1], e2, by omega, xt_tr a4 e4, e5, fun l l1 l2 lg => ?_, sx_tr a7 e7, fun l hl => ?_⟩
      · by_cases el : l = i
        · subst el
          obtain ⟨q1, q2, q3⟩ := e8 l (Or.inl (by omega))
          exact dkC_cg a6 ⟨by rw [e7.2.1 29 (by decide)], by rw [e7.2.1 32 (by decide)], q1, q2⟩ q3 e4
        · exact e6 l (by omega) l2 lg
      · have hli : l ≠ i := by
          rcases hl with z | z
          · omega
          · intro z'; rw [z', c] at z; cases z
        obtain ⟨q1, q2, q3⟩ := e8 l (hl.imp (fun z => by omega) id)
        obtain ⟨r1, r2⟩ := a9 l hli
        exact ⟨q1.trans r1, q2.trans r2, fun j hj => (q3 j hj).trans (a8 _ (by omega))⟩
    · have cf : gp i = false := by cases h : gp i <;> simp_all
      rw [if_neg c] at hcs
      rw [if_pos ((bq_test x1 (m := i) (by omega)).mpr (by rw [hx i (by omega), cf])), So_makeKinds_112, nI_1]
      obtain ⟨σ', G', dom', m', e1, e2, e3, e4, e5, e6, e7, e8⟩ := ih f (i + 1) σ G dom m (by omega) (by omega) hd hL (fun z hz => by
        rcases hdm z hz with ⟨i', j', y1, y2, y3⟩ | ⟨i', y1, y2⟩
        · exact Or.inl ⟨i', j', y1, y2, by omega⟩
        · exact Or.inr ⟨i', by omega, y2⟩) (by omega)
      refine ⟨σ', G', dom', m', e1, e2, by omega, e4, e5, fun l l1 l2 lg => ?_, e7, fun l hl => ?_⟩
      · by_cases el : l = i
        · subst el; rw [cf] at lg; cases lg
        · exact e6 l (by omega) l2 lg
      · exact e8 l (hl.imp (fun z => by omega) id)
end K
