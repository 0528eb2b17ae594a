/-! Synonyms that lack types: both look alike. Own text. -/
section N
variable {F : Nat} {σ τ : zS} {D M : Nat} {inT : Bool}
/-- mention m has the ones that its synonym takes -/
def tkO (σ : zS) (D m : Nat) : Prop := ga σ 43 m = 5 → ∀ y, y < D → fTy σ (gb σ 44 m) D 0 = nI y → ga σ 29 y = 1 → ga σ 32 y ≤ ga σ 47 m
theorem synF (hF : 1300 ≤ F) (h : dcN σ τ D) (v : Int64) : Te_findSynonym F σ 2 v = some (if ∃ y, y < D ∧ fTy σ v D 0 = nI y ∧ ga σ 29 y = 1 then fTy σ v D 0 else -1, σ) := by
  obtain ⟨f1, f2⟩ := findT (F := F) hF h v
  have hD := h.2.2.1
  rw [Te_findSynonym, if_pos rfl, f1, bi_some, Te_findSynonym_14]
  rcases fTy_rng σ v D 0 with w | ⟨j, w1, w2, w3, w4, w5⟩
  · rw [w, if_pos (by decide), if_neg]
    · rfl
    · rintro ⟨y, y1, y2, _⟩
      exact nI_m1 y (by omega) y2.symm
  · rw [w3, if_neg (nI_pos (by omega)), gd_t (inb_nI (by omega) (by omega)), nI_clamp (by omega)]
    by_cases e : ga σ 29 j = 1
    · rw [if_pos e, if_pos ⟨j, by omega, rfl, e⟩]; rfl
    · rw [if_neg e, if_neg]
      · rfl
      · rintro ⟨y, y1, y2, y3⟩
        have := (nI_eq (a := j) (b := y) (by omega) (by omega)).mp y2
        subst this
        exact e y3
theorem take_step (hF : 1300 ≤ F) (h : nmR σ τ D M inT) (h200 : gi σ 200 = 0) (h8 : gi τ 8 = 0) {m : Nat} (hm : m < M) (f : Nat) : (tkO σ D m ∧ Ch_checkLacks_2 F (f + 1) σ (nI m) = Ch_checkLacks_2 F f σ (nI (m + 1)) ∧ Md_lookTakes_2 F (f + 1) τ (nI m) = Md_lookTakes_2 F f τ (nI (m + 1))) ∨ (Ch_checkLacks_2 F (f + 1) σ (nI m) = Ch_checkLacks_2 F f (si (si σ 200 5) 201 (ga σ 45 m)) (nI (m + 1)) ∧ Md_lookTakes_2 F (f + 1) τ (nI m) = Md_lookTakes_2 F f (si (si τ 8 5) 9 (ga σ 45 m)) (nI (m + 1))) := by
  obtain ⟨h1, h2, h2', h3', h4, h5, h6⟩ := h
  have hD := h1.2.2.1
  have cm : (nI m).toNatClampNeg = m := nI_clamp (by omega)
  obtain ⟨m1, m2, m3, m4, m5⟩ := h4 m hm
  have e1 : Ch_checkLacks_2 F (f + 1) σ (nI m) = if ga σ 43 m = 5 then Ch_checkLacks_41 F (Ch_checkLacks_2 F f) σ (nI m) 2 else Ch_checkLacks_41 F (Ch_checkLacks_2 F f) σ (nI m) 3 := by
    rw [Ch_checkLacks_2, Ch_checkLacks_b2, h2, if_neg (nI_ge (by omega) (by omega)), fa_there, if_pos h200, bi_some, if_pos rfl, gd_t (inb_nI (by omega) (by omega)), cm]
  have e2 : Md_lookTakes_2 F (f + 1) τ (nI m) = if ga σ 43 m = 5 then Md_lookTakes_41 F (Md_lookTakes_2 F f) τ (nI m) (fTy σ (gb σ 44 m) D 0) else Md_lookTakes_41 F (Md_lookTakes_2 F f) τ (nI m) (-1) := by
    rw [Md_lookTakes_2, Md_lookTakes_b2, h2', if_neg (nI_ge (by omega) (by omega)), if_pos h8, gd_t (inb_nI (by omega) (by omega)), cm, m3, m1, (findT (F := F) hF h1 (gb σ 44 m)).2, bi_some]
    by_cases r5 : ga σ 43 m = 5
    · rw [if_pos r5, if_pos ((rlM_iff _).2.2.2.1.mpr r5)]
    · rw [if_neg r5, if_neg (fun z => r5 ((rlM_iff _).2.2.2.1.mp z))]
  have g1 : Md_lookTakes_100 F (Md_lookTakes_2 F f) τ (nI m) = Md_lookTakes_2 F f τ (nI (m + 1)) := by rw [Md_lookTakes_100, nI_1]
  have g2 : Md_lookTakes_89 F (Md_lookTakes_2 F f) τ (nI m) = Md_lookTakes_2 F f (si (si τ 8 5) 9 (ga σ 45 m)) (nI (m + 1)) := by
    rw [Md_lookTakes_89, gd_t (inb_nI (by omega) (by omega)), cm, Md_wrong, if_pos h8, Md_wrong_17, bv_some, Md_lookTakes_100, nI_1, m2]
  have k1 : Ch_checkLacks_102 F (Ch_checkLacks_2 F f) σ (nI m) = Ch_checkLacks_2 F f σ (nI (m + 1)) := by rw [Ch_checkLacks_102, nI_1]
  have k2 : bv (Fa_raise F σ 5 (ga σ 45 m)) (fun σ8 => Ch_checkLacks_102 F (Ch_checkLacks_2 F f) σ8 (nI m)) = Ch_checkLacks_2 F f (si (si σ 200 5) 201 (ga σ 45 m)) (nI (m + 1)) := by
    rw [Fa_raise, bv_some, Ch_checkLacks_102, nI_1]
  by_cases r5 : ga σ 43 m = 5
  · rw [if_pos r5] at e1 e2
    rw [Ch_checkLacks_41, gd_t (inb_nI (by omega) (by omega)), cm, synF (F := F) hF h1, bi_some] at e1
    rw [Md_lookTakes_41] at e2
    by_cases hy : ∃ y, y < D ∧ fTy σ (gb σ 44 m) D 0 = nI y ∧ ga σ 29 y = 1
    · rw [if_pos hy] at e1
      obtain ⟨y, y1, y2, y3⟩ := hy
      obtain ⟨so, q, b1, b2, b3, b4, b5, b6, b7, b8, b9⟩ := h1.2.2.2 y y1
      have cy : (nI y).toNatClampNeg = y := nI_clamp (by omega)
      rw [y2, if_neg (nI_pos (by omega)), gd_t (inb_nI (by omega) (by omega)), cy, b7, k1, k2] at e1
      rw [y2, if_neg (nI_pos (by omega)), gd_t (inb_nI (by omega) (by omega)), cy, b4, ← b3, if_pos y3, b8, g1, g2, gd_t (inb_nI (by omega) (by omega)), cm] at e2
      have htk : ∀ v, ga σ 47 m = v → nI q ≤ v → tkO σ D m := by
        intro v hv hq _ y' z1 z2 z3
        have := (nI_eq (a := y) (b := y') (by omega) (by omega)).mp (y2.symm.trans z2)
        subst this
        rw [b7, hv]; exact hq
      rcases m5 r5 with ⟨n1, n2, b, n3, n4⟩ | ⟨n1, n2⟩
      · rw [n4] at e1
        rw [n1, n2, n4, if_neg (show ¬ (1 : Int32) = 0 by decide)] at e2
        by_cases hb : nI q ≤ nI b
        · rw [if_pos hb] at e1 e2
          refine Or.inl ⟨htk _ n4 hb, e1, ?_⟩
          rw [e2]
          split <;> rfl
        · rw [if_neg hb] at e1 e2
          refine Or.inr ⟨e1, ?_⟩
          rw [e2, if_neg]
          intro z
          apply hb
          have q0 : q = 0 := by
            by_cases hq : q = 0
            · exact hq
            · exact absurd z (nI_ge (a := 0) (b := q) (by omega) (by omega))
          subst q0
          exact nI_le (by omega) (by omega)
      · rw [n2] at e1
        rw [n1, if_pos rfl] at e2
        by_cases hb : nI q ≤ 0
        · rw [if_pos hb] at e1 e2
          exact Or.inl ⟨htk _ n2 hb, e1, e2⟩
        · rw [if_neg hb] at e1 e2
          exact Or.inr ⟨e1, e2⟩
    · rw [if_neg hy, if_pos (show (-1 : Int32) < 0 by decide), k1] at e1
      refine Or.inl ⟨fun _ y y1 y2 y3 => absurd ⟨y, y1, y2, y3⟩ hy, e1, ?_⟩
      rcases fTy_rng σ (gb σ 44 m) D 0 with w | ⟨j, w1, w2, w3, w4, w5⟩
      · rw [w, if_pos (show (-1 : Int32) < 0 by decide), g1] at e2
        exact e2
      · obtain ⟨so, q, b1, b2, b3, b4, b5, b6, b7, b8, b9⟩ := h1.2.2.2 j (by omega)
        have n1 : ¬ ga τ 33 j = 1 := by
          intro z
          exact hy ⟨j, by omega, w3, by rw [b3, ← b4]; exact z⟩
        rw [w3, if_neg (nI_pos (by omega)), gd_t (inb_nI (by omega) (by omega)), nI_clamp (by omega), if_neg n1, g1] at e2
        exact e2
  · rw [if_neg r5] at e1 e2
    rw [Ch_checkLacks_41, gd_t (inb_nI (by omega) (by omega)), Te_findSynonym, if_neg (by decide), Te_findSynonym_14, if_pos (by decide), Te_findSynonym_37, Te_findSynonym_38, bi_some, if_pos (by decide), k1] at e1
    rw [Md_lookTakes_41, if_pos (by decide), g1] at e2
    exact Or.inl ⟨fun z => absurd z r5, e1, e2⟩
theorem takes_loop (hF : 1300 ≤ F) (h : nmR σ τ D M inT) (h200 : gi σ 200 = 0) (h8 : gi τ 8 = 0) : ∀ (d f m : Nat), m + d = M → d + 1 < f → ∃ σ' τ', Ch_checkLacks_2 F f σ (nI m) = some σ' ∧ Md_lookTakes_2 F f τ (nI m) = some τ' ∧ ((σ' = σ ∧ τ' = τ ∧ ∀ i, m ≤ i → i < M → tkO σ D i) ∨ (∃ i, i < M ∧ σ' = si (si σ 200 5) 201 (ga σ 45 i) ∧ τ' = si (si τ 8 5) 9 (ga σ 45 i))) := by
  have hh := h
  obtain ⟨h1, h2, h2', h3', h4, h5, h6⟩ := h
  intro d
  induction d with
  | zero =>
    intro f m hm hf
    obtain ⟨f, rfl⟩ : ∃ f', f = f' + 1 := ⟨f - 1, by omega⟩
    refine ⟨σ, τ, ?_, ?_, Or.inl ⟨rfl, rfl, fun i i1 i2 => by omega⟩⟩
    · rw [Ch_checkLacks_2, Ch_checkLacks_b2, h2, if_pos (nI_le (by omega) (by omega))]; rfl
    · rw [Md_lookTakes_2, Md_lookTakes_b2, h2', if_pos (nI_le (by omega) (by omega))]; rfl
  | succ d ih =>
    intro f m hm hf
    obtain ⟨f, rfl⟩ : ∃ f', f = f' + 1 := ⟨f - 1, by omega⟩
    rcases take_step (F := F) hF hh h200 h8 (m := m) (by omega) f with ⟨t, e1, e2⟩ | ⟨e1, e2⟩
    · obtain ⟨σ', τ', w1, w2, w3⟩ := ih f (m + 1) (by omega) (by omega)
      refine ⟨σ', τ', by rw [e1, w1], by rw [e2, w2], ?_⟩
      rcases w3 with ⟨y1, y2, y3⟩ | y
      · refine Or.inl ⟨y1, y2, fun i i1 i2 => ?_⟩
        rcases Nat.eq_or_lt_of_le i1 with z | z
        · subst z; exact t
        · exact y3 i (by omega) i2
      · exact Or.inr y
    · obtain ⟨f, rfl⟩ : ∃ f', f = f' + 1 := ⟨f - 1, by omega⟩
      refine ⟨_, _, ?_, ?_, Or.inr ⟨m, by omega, rfl, rfl⟩⟩
      · have g505 : gi (si (si σ 200 5) 201 (ga σ 45 m)) 505 = nI M := by simp [zs, h2]
        have g200 : ¬ gi (si (si σ 200 5) 201 (ga σ 45 m)) 200 = 0 := by simp [zs]
        rw [e1, Ch_checkLacks_2, Ch_checkLacks_b2, g505]
        by_cases z : nI M ≤ nI (m + 1)
        · rw [if_pos z]; rfl
        · rw [if_neg z, fa_there, if_neg g200, bi_some, if_neg (by decide)]; rfl
      · have g31 : gi (si (si τ 8 5) 9 (ga σ 45 m)) 31 = nI M := by simp [zs, h2']
        have g8 : ¬ gi (si (si τ 8 5) 9 (ga σ 45 m)) 8 = 0 := by simp [zs]
        rw [e2, Md_lookTakes_2, Md_lookTakes_b2, g31]
        by_cases z : nI M ≤ nI (m + 1)
        · rw [if_pos z]; rfl
        · rw [if_neg z, if_neg g8]; rfl
theorem takes_ok (hF : 1300 ≤ F) (h : nmR σ τ D M inT) (h200 : gi σ 200 = 0) (h8 : gi τ 8 = 0) : ∃ σ' τ', Ch_checkLacks F σ = some σ' ∧ Md_lookTakes F τ = some τ' ∧ ((σ' = σ ∧ τ' = τ ∧ ∀ i, i < M → tkO σ D i) ∨ (∃ i, i < M ∧ σ' = si (si σ 200 5) 201 (ga σ 45 i) ∧ τ' = si (si τ 8 5) 9 (ga σ 45 i))) := by
  obtain ⟨σ', τ', w1, w2, w3⟩ := takes_loop (F := F) hF h h200 h8 M F 0 (by omega) (by have := h.2.2.2.1; omega)
  refine ⟨σ', τ', w1, w2, ?_⟩
  rcases w3 with ⟨y1, y2, y3⟩ | y
  · exact Or.inl ⟨y1, y2, fun i i1 => y3 i (Nat.zero_le _) i1⟩
  · exact Or.inr y
end N
