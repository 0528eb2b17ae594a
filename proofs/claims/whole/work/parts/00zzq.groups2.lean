/-! The class forms its groups. Own text. -/
section N
variable {F : Nat} {σ σ0 : zS} {D : Nat} {N : Nat → Nat → Bool}
def GI (N : Nat → Nat → Bool) (D : Nat) (σ0 σ : zS) (k : Nat) : Prop := sx [412] [36, 38, 39] σ0 σ ∧ mkR σ 38 D N ∧ gi σ 412 = nI k ∧ (∀ i, i < D → ∀ x, gS N D k i = some x → ga σ 36 i = nI x) ∧ (∀ l, l < k → ∃ i, ld N D l = some i ∧ mS1 (ga σ 39 l) (fun j => decide (j < D) && tg N i j))
theorem fg_in (h400 : gi σ0 400 = nI D) (hD : D ≤ 16) {k i : Nat} (hk : k < 16) (h412 : gi σ0 412 = nI k) {own P t : Int32} (ho : mS1 own (fun j => decide (j < D) && tg N i j)) (rc : zS → Int32 → Int32 → Option zS) : ∀ (d f j : Nat) (g : Nat → Int32), j + d = D → d < f → (∀ m, m < D → g m = if m < j ∧ tg N i m = true then nI k else ga σ0 36 m) → ∃ g', Te_formGroups_58 F rc f (sA σ0 36 g) P t own (nI j) = rc (si (sa (sA σ0 36 g') 39 k own) 412 (nI (k + 1))) (P ||| own) (t + 1) ∧ (∀ m, m < D → g' m = if tg N i m = true then nI k else ga σ0 36 m) := by
  intro d
  induction d with
  | zero =>
    intro f j g hj hf hg
    obtain ⟨f, rfl⟩ : ∃ f', f = f' + 1 := ⟨f - 1, by omega⟩
    refine ⟨g, ?_, fun m hm => ?_⟩
    · rw [Te_formGroups_58, Te_formGroups_b58, show gi (sA σ0 36 g) 400 = nI D by simp only [zs, h400], if_pos (nI_le (by omega) (by omega)), show gi (sA σ0 36 g) 412 = nI k by simp only [zs, h412], gd_t (inb_nI (by omega) (by omega)), nI_clamp (by omega), nI_1]
    · rw [hg m hm]
      by_cases e : tg N i m = true
      · rw [if_pos e, if_pos ⟨by omega, e⟩]
      · rw [if_neg e, if_neg (fun z => e z.2)]
  | succ d ih =>
    intro f j g hj hf hg
    obtain ⟨f, rfl⟩ : ∃ f', f = f' + 1 := ⟨f - 1, by omega⟩
    have cj : (nI j).toNatClampNeg = j := nI_clamp (by omega)
    have hb : bq own j = tg N i j := by rw [ho j (by omega)]; simp [show j < D by omega]
    have key : Te_formGroups_58 F rc (f + 1) (sA σ0 36 g) P t own (nI j) = Te_formGroups_58 F rc f (sA σ0 36 (if tg N i j = true then upd g j (nI k) else g)) P t own (nI (j + 1)) := by
      rw [Te_formGroups_58, Te_formGroups_b58, show gi (sA σ0 36 g) 400 = nI D by simp only [zs, h400], if_neg (nI_ge (by omega) (by omega)), show gi (sA σ0 36 g) 412 = nI k by simp only [zs, h412], gd_t (inb_nI (by omega) (by omega)), cj, sa_sA', Te_formGroups_88, Te_formGroups_88, nI_1]
      simp only [bq_test _ (show j < 32 by omega), hb]
      cases tg N i j <;> rfl
    rw [key]
    apply ih f (j + 1) _ (by omega) (by omega)
    intro m hm
    by_cases e : m = j
    · subst e
      by_cases ht : tg N i m = true
      · rw [if_pos ht, up_at, if_pos rfl, if_pos ⟨by omega, ht⟩]
      · rw [if_neg ht, if_neg (fun z => ht z.2), hg m hm, if_neg (fun z => ht z.2)]
    · have e2 : (if tg N i j = true then upd g j (nI k) else g) m = g m := by
        split
        · rw [up_at, if_neg e]
        · rfl
      rw [e2, hg m hm]
      by_cases e3 : m < j ∧ tg N i m = true
      · rw [if_pos e3, if_pos ⟨by omega, e3.2⟩]
      · rw [if_neg e3, if_neg (fun z => e3 ⟨by omega, z.2⟩)]
theorem fg_loop (hF : 1300 ≤ F) (h400 : gi σ0 400 = nI D) (hD : D ≤ 16) (hN : ∀ i k j, N i k = true → N k j = true → N i j = true) (hO : ∀ i j, N i j = true → i < D ∧ j < D) : ∀ (d f k : Nat) (σ : zS) (P : Int32), k + d = D → d < f → GI N D σ0 σ k → mS1 P (fun j => decide (j < D) && (gS N D k j).isSome) → ∃ K σ', K ≤ D ∧ Te_formGroups_29 F f σ P (nI k) = some σ' ∧ GI N D σ0 σ' K ∧ ld N D K = none := by
  intro d
  induction d with
  | zero =>
    intro f k σ P hk hf hG hP
    obtain ⟨f, rfl⟩ : ∃ f', f = f' + 1 := ⟨f - 1, by omega⟩
    have : k = D := by omega
    subst this
    refine ⟨k, σ, Nat.le_refl _, ?_, hG, ld_none (fun i hi => gS_all hN hi)⟩
    rw [Te_formGroups_29, Te_formGroups_b29, hG.1.1 400 (by decide), h400, if_pos (nI_le (by omega) (by omega))]
  | succ d ih =>
    intro f k σ P hk hf hG hP
    obtain ⟨f, rfl⟩ : ∃ f', f = f' + 1 := ⟨f - 1, by omega⟩
    obtain ⟨g1, g2, g3, g4, g5⟩ := hG
    have q400 : gi σ 400 = nI D := by rw [g1.1 400 (by decide), h400]
    have en := nxt_loop (F := F) hF q400 hD g2 hO (G := gS N D k) hP D F 0 (by omega) (by omega)
    have e0 : Te_formGroups_29 F (f + 1) σ P (nI k) = bi (Te_nextOf F σ P) (fun r3 σ2 => if 0 ≤ r3 then (bi (Te_ringOf F σ2 r3) (fun r7 σ6 => Te_formGroups_58 F (Te_formGroups_29 F f) F σ6 P (nI k) r7 (0 : Int32))) else (some σ2)) := by
      rw [Te_formGroups_29, Te_formGroups_b29, q400, if_neg (nI_ge (by omega) (by omega))]
    have e1 : Te_nextOf F σ P = some (match ld N D k with | none => -1 | some j => nI j, σ) := en
    cases hl : ld N D k with
    | none =>
      rw [hl] at e1
      refine ⟨k, σ, by omega, ?_, ⟨g1, g2, g3, g4, g5⟩, hl⟩
      rw [e0, e1, bi_some, if_neg (by decide)]
    | some i =>
      rw [hl] at e1
      have hi : i < D := by have := (fst1_s D 0 i hl).2.1; omega
      obtain ⟨own, e2, w2⟩ := ringC (F := F) hF q400 hD g2 hi
      obtain ⟨g, e3, w3⟩ := fg_in (F := F) (σ0 := σ) (N := N) (P := P) (t := nI k) q400 hD (k := k) (i := i) (by omega) g3 w2 (Te_formGroups_29 F f) D F 0 (ga σ 36) (by omega) (by omega) (fun m hm => by rw [if_neg (show ¬ (m < 0 ∧ tg N i m = true) from fun z => by omega)])
      rw [sA_self] at e3
      have e4 : Te_formGroups_29 F (f + 1) σ P (nI k) = Te_formGroups_29 F f (si (sa (sA σ 36 g) 39 k own) 412 (nI (k + 1))) (P ||| own) (nI (k + 1)) := by
        rw [e0, e1, bi_some, if_pos (nI_pos' (by omega)), e2, bi_some, show (0 : Int32) = nI 0 from rfl, e3, nI_1]
      rw [e4]
      apply ih f (k + 1) _ _ (by omega) (by omega)
      · refine ⟨sx_si (sx_sa (sx_sA g1 (by decide) _) (by decide) _ _) (by decide) _, ?_, ?_, ?_, ?_⟩
        · intro a ha b hb
          rw [← g2 a ha b hb]; simp [zs]
        · simp [zs]
        · intro m hm x hx
          rw [gS_s N D k hl] at hx
          have r : ga (si (sa (sA σ 36 g) 39 k own) 412 (nI (k + 1))) 36 = g := by simp [zs]
          rw [r, w3 m hm]
          by_cases ht : tg N i m = true
          · rw [if_pos ht] at hx ⊢
            cases hx; rfl
          · rw [if_neg ht] at hx ⊢
            exact g4 m hm x hx
        · intro l hl2
          have r : ga (si (sa (sA σ 36 g) 39 k own) 412 (nI (k + 1))) 39 = upd (ga σ 39) k own := by simp [zs]
          rw [r, up_at]
          by_cases e : l = k
          · rw [if_pos e, e]
            exact ⟨i, hl, w2⟩
          · rw [if_neg e]
            exact g5 l (by omega)
      · intro j hj
        rw [bq_or, hP j hj, w2 j hj]
        simp only [gS_s N D k hl]
        by_cases hjD : j < D
        · by_cases ht : tg N i j = true
          · simp [ht, hjD]
          · simp [ht, hjD]
        · simp [hjD]
theorem forms_ok (hF : 1300 ≤ F) {A : Nat → Nat → Bool} (hA : ∀ i j, A i j = true → i < D ∧ j < D) (h400 : gi σ 400 = nI D) (hD : D ≤ 16) (h412 : gi σ 412 = 0) (hm : mkR σ 37 D A) : ∃ K σ', K ≤ D ∧ Te_formGroups F σ = some σ' ∧ GI (cw A D) D σ σ' K ∧ ld (cw A D) D K = none := by
  have hcp : cpG (0 : Int32) (0 : Int32) (gi σ 400) 16 16 = true := by
    rw [h400]
    unfold cpG
    rw [nI_clamp (by omega)]
    simp only [Bool.and_eq_true, decide_eq_true_eq]
    exact ⟨by decide, by decide, nI_pos (by omega), by simpa using hD, by simpa using hD⟩
  obtain ⟨f, hf⟩ : ∃ f, f = va_cpy (ga σ 37) (ga σ 38) (0 : Int32).toNatClampNeg (0 : Int32).toNatClampNeg (gi σ 400).toNatClampNeg := ⟨_, rfl⟩
  have hm0 : mkR (sA σ 38 f) 38 D A := by
    intro i hi j hj
    rw [ga_sA, hf, h400, nI_clamp (by omega)]
    rw [show (0 : Int32).toNatClampNeg = 0 from rfl]
    have : va_cpy (ga σ 37) (ga σ 38) 0 0 D i = ga σ 37 i := by
      unfold va_cpy
      simp [hi]
    rw [this]
    exact hm i hi j hj
  obtain ⟨g, e1, w1⟩ := closeM (F := F) (σ := sA σ 38 f) (A := A) hF (a := 38) (by decide) (by simp only [zs]; exact h400) hD hm0
  rw [sA_sA] at e1 w1
  obtain ⟨K, σ', k1, k2, k3, k4⟩ := fg_loop (F := F) (σ0 := σ) (N := cw A D) hF h400 hD (fun i k j h1 h2 => cw_tr hA h1 h2) (fun i j h => cw_out hA D i j h) D F 0 (sA σ 38 g) 0 (by omega) (by omega) ⟨sx_sA (sx_rfl _ _ σ) (by decide) _, w1, by simp only [zs]; exact h412, fun i _ x hx => (by cases hx), fun l hl => (by omega)⟩ (fun j hj => by rw [bq_0]; simp [gS])
  refine ⟨K, σ', k1, ?_, k3, k4⟩
  rw [Te_formGroups, gd_t hcp, ← hf, e1, bv_some]
  exact k2
end N
