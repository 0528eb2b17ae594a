/-! Small questions: place, out, told, groups, member, needs. Own text. -/
/-- the line shown last -/
def SL (σ τ : zS) : Prop := ((gr σ 10 = 17 ∧ gr σ 11 = 18) ∨ (gr σ 10 = 18 ∧ gr σ 11 = 17)) ∧ ∃ L : Nat, L ≤ 2400 ∧ mi σ (100 * gr σ 10 + 1) = nI L ∧ gi τ 84 = nI L ∧ ∀ i, i < L → ma σ (lA (gr σ 10)) i = ga τ 56 i
/-- the fault -/
def FT (σ τ : zS) : Prop := (gi σ 200 = 0 ∧ gi τ 8 = 0 ∧ gi τ 9 = -3 ∧ gi τ 10 = 0) ∨ (∃ f, 1 ≤ f ∧ f ≤ 5 ∧ gi σ 200 = nI f ∧ gi τ 8 = nI f ∧ gi σ 201 = gi τ 9 ∧ gi τ 10 = 0) ∨ six σ τ
/-- what is told of declarations -/
def TD (σ τ : zS) (D : Nat) : Prop := dcN σ τ D ∧ dcO σ D ∧ dcP τ D ∧ (∀ i, i < D → ga σ 36 i = ga τ 48 i ∧ ga σ 34 i = ga τ 38 i ∧ ga σ 35 i = ga τ 52 i) ∧ (∃ K, K ≤ 16 ∧ gi σ 412 = nI K ∧ gi τ 71 = nI K) ∧ ∀ i j, i < D → j < D → ∃ b : Bool, bq (ga σ 38 i) j = b ∧ ga τ 46 (16 * i + j) = if b = true then 1 else 0
section R
variable {F : Nat} {σ τ : zS} {D : Nat}
theorem place_ok (h : FT σ τ) : ∃ r, Q_place F σ = some (r, σ) ∧ Md_place F τ = some (r, si τ 0 0) := by
  rcases h with ⟨h1, h2, h3, h4⟩ | ⟨f, f1, f2, h1, h2, h3, h4⟩ | ⟨p, H, x, y, d, x1, x2, x3, x4, _⟩
  · refine ⟨-3, ?_, by rw [Md_place, h3]⟩
    rw [Q_place, Fa_isThere, if_pos h1, Fa_isThere_12, gd_t (by decide), bi_some]
    rfl
  · refine ⟨gi σ 201, ?_, by rw [Md_place, h3]⟩
    rw [Q_place, Fa_isThere, if_neg (by rw [h1]; exact nI_ne0 (by omega) (by omega)), Fa_isThere_12, gd_t (by decide), bi_some]
    rfl
  · refine ⟨gi σ 201, ?_, by rw [Md_place, x2, x4]⟩
    rw [Q_place, Fa_isThere, if_neg (by rw [x1]; decide), Fa_isThere_12, gd_t (by decide), bi_some]
    rfl
/-- a place among the declarations, or none -/
theorem dc_ix (hD : D ≤ 16) (x : Int32) : (∃ a, a < D ∧ x = nI a ∧ (∀ s, gi s 400 = nI D → Te_has F s x = some (1, s)) ∧ ∀ t, gi t 52 = nI D → Md_isDecl F t x = some (1, t)) ∨ ((∀ s, gi s 400 = nI D → Te_has F s x = some (0, s)) ∧ ∀ t, gi t 52 = nI D → Md_isDecl F t x = some (0, t)) := by
  rcases pk_ix x (n := D) (by omega) with c | c | ⟨a, ha, e⟩
  · exact Or.inr ⟨fun s hs => by rw [Te_has, if_pos c]; rfl, fun t ht => by rw [Md_isDecl, if_pos c]; rfl⟩
  · by_cases c1 : x < 0
    · exact Or.inr ⟨fun s hs => by rw [Te_has, if_pos c1]; rfl, fun t ht => by rw [Md_isDecl, if_pos c1]; rfl⟩
    · exact Or.inr ⟨fun s hs => by rw [Te_has, if_neg c1, hs, if_pos c]; rfl, fun t ht => by rw [Md_isDecl, if_neg c1, ht, if_pos c]; rfl⟩
  · exact Or.inl ⟨a, ha, e, fun s hs => by rw [Te_has, e, if_neg (nI_pos (by omega)), hs, if_neg (nI_ge ha (by omega))]; rfl, fun t ht => by rw [Md_isDecl, e, if_neg (nI_pos (by omega)), ht, if_neg (nI_ge ha (by omega))]; rfl⟩
theorem told_ok (h : TD σ τ D) (x y : Int32) : ∃ r, Q_told F σ x y = some (r, σ) ∧ Md_told F τ x y = some (r, si τ 0 0) := by
  obtain ⟨h1, h2, h3, h4, h5, h6⟩ := h
  have hD := h2.2.1
  have t52 : gi (si τ 0 0) 52 = nI D := by simp [zs]; exact h1.2.1
  rcases dc_ix (F := F) hD x with ⟨a, ha, e, c1, c2⟩ | ⟨c1, c2⟩
  · obtain ⟨so, q, _, _, p1, p2, p3, p4, p5, p6, _⟩ := h1.2.2.2 a ha
    obtain ⟨p7, p8, p9⟩ := h4 a ha
    have k1 : gd (inb x 16) = fun o : Option (Int32 × zS) => o := by funext o; rw [e, gd_t (inb_nI (by omega) (by omega))]
    have k2 : gd (inb x 17) = fun o : Option (Int32 × zS) => o := by funext o; rw [e, gd_t (inb_nI (by omega) (by omega))]
    have k3 : x.toNatClampNeg = a := by rw [e]; exact nI_clamp (by omega)
    rw [Q_told, Md_told, c1 σ h1.1, c2 _ t52, bi_some, bi_some]
    rw [if_neg (show ¬ (1 : Int32) = 0 by decide), if_neg (show ¬ (1 : Int32) = 0 by decide), k1, k2, k3]
    by_cases y0 : y = 0
    · rw [if_pos y0, if_pos y0]; exact ⟨_, rfl, by show some (ga τ 33 a, _) = _; rw [p2, p1]⟩
    rw [if_neg y0, if_neg y0]
    by_cases y1 : y = 1
    · rw [if_pos y1, if_pos y1]; exact ⟨_, rfl, by show some (ga τ 36 a, _) = _; rw [p6, p5]⟩
    rw [if_neg y1, if_neg y1]
    by_cases y2 : y = 2
    · rw [if_pos y2, if_pos y2]; exact ⟨_, rfl, by show some (ga τ 48 a, _) = _; rw [p7]⟩
    rw [if_neg y2, if_neg y2]
    by_cases y3 : y = 3
    · rw [if_pos y3, if_pos y3]; exact ⟨_, rfl, by show some (ga τ 35 a, _) = _; rw [p4]⟩
    rw [if_neg y3, if_neg y3]
    by_cases y4 : y = 4
    · rw [if_pos y4, if_pos y4]; exact ⟨_, rfl, by show some (ga τ 38 a, _) = _; rw [p8]⟩
    rw [if_neg y4, if_neg y4]
    by_cases y5 : y = 5
    · rw [if_pos y5, if_pos y5]; exact ⟨_, rfl, by show some (ga τ 52 a, _) = _; rw [p9]⟩
    rw [if_neg y5, if_neg y5]
    exact ⟨_, rfl, rfl⟩
  · refine ⟨-1, ?_, ?_⟩
    · rw [Q_told, c1 σ h1.1, bi_some, if_pos rfl]
    · rw [Md_told, c2 _ t52, bi_some, if_pos rfl]
theorem groups_ok (h : TD σ τ D) : ∃ r, Q_groups F σ = some (r, σ) ∧ Md_groups F τ = some (r, si τ 0 0) := by
  obtain ⟨_, _, _, _, ⟨K, _, k1, k2⟩, _⟩ := h
  exact ⟨nI K, by rw [Q_groups, k1], by rw [Md_groups, k2]⟩
theorem need_ok (h : TD σ τ D) (x y : Int32) : ∃ r, Q_needs F σ x y = some (r, σ) ∧ Md_needs F τ x y = some (r, si τ 0 0) := by
  obtain ⟨h1, h2, h3, h4, h5, h6⟩ := h
  have hD := h2.2.1
  have t52 : gi (si τ 0 0) 52 = nI D := by simp [zs]; exact h1.2.1
  rcases dc_ix (F := F) hD x with ⟨a, ha, e, c1, c2⟩ | ⟨c1, c2⟩
  · rcases dc_ix (F := F) hD y with ⟨b, hb, e', d1, d2⟩ | ⟨d1, d2⟩
    · obtain ⟨v, v1, v2⟩ := h6 a b ha hb
      rw [Q_needs, Md_needs, c1 σ h1.1, c2 _ t52, bi_some, bi_some, if_neg (show ¬ (1 : Int32) = 0 by decide), if_neg (show ¬ (1 : Int32) = 0 by decide), d1 σ h1.1, d2 _ t52, bi_some, bi_some, if_neg (show ¬ (1 : Int32) = 0 by decide), if_neg (show ¬ (1 : Int32) = 0 by decide)]
      have k0 : (16 : Int32) * x + y = nI (16 * a + b) := by
        rw [e, e', show (16 : Int32) = nI 16 from rfl, pk_mul, nI_add]
      rw [k0, gd_t (inb_nI (by omega) (by omega)), nI_clamp (by omega), show ga (si τ 0 0) 46 (16 * a + b) = ga τ 46 (16 * a + b) from rfl, v2, e, gd_t (inb_nI (by omega) (by omega)), nI_clamp (by omega), e']
      rw [bq_val (ga σ 38 a) (m := b) (by omega), v1]
      cases v
      · exact ⟨_, rfl, rfl⟩
      · exact ⟨_, rfl, rfl⟩
    · refine ⟨-1, ?_, ?_⟩
      · rw [Q_needs, c1 σ h1.1, bi_some, if_neg (show ¬ (1 : Int32) = 0 by decide), d1 σ h1.1, bi_some, if_pos rfl]; rfl
      · rw [Md_needs, c2 _ t52, bi_some, if_neg (show ¬ (1 : Int32) = 0 by decide), d2 _ t52, bi_some, if_pos rfl]; rfl
  · refine ⟨-1, ?_, ?_⟩
    · rw [Q_needs, c1 σ h1.1, bi_some, if_pos rfl]; rfl
    · rw [Md_needs, c2 _ t52, bi_some, if_pos rfl]; rfl
theorem out_ok (h : SL σ τ) (x : Int32) : ∃ r, Q_out F σ x = some (r, σ) ∧ Md_out F τ x = some (r, si τ 0 0) := by
  obtain ⟨h1, L, hL, h2, h3, h4⟩ := h
  have hl : isLine (gr σ 10) = true := by
    rcases h1 with ⟨z, _⟩ | ⟨z, _⟩ <;> rw [z] <;> decide
  rcases pk_ix x (n := L) (by omega) with c | c | ⟨a, ha, e⟩
  · exact ⟨-1, by rw [Q_out, if_pos c]; rfl, by rw [Md_out, if_pos c]; rfl⟩
  · by_cases c1 : x < 0
    · exact ⟨-1, by rw [Q_out, if_pos c1]; rfl, by rw [Md_out, if_pos c1]; rfl⟩
    · exact ⟨-1, by rw [Q_out, if_neg c1, gd_t hl, h2, if_pos c]; rfl, by rw [Md_out, if_neg c1, h3, if_pos c]; rfl⟩
  · refine ⟨ga τ 56 a, ?_, ?_⟩
    · rw [Q_out, e, if_neg (nI_pos (by omega)), gd_t hl, h2, if_neg (nI_ge ha (by omega)), gd_t (inb_nI (by omega) (by omega)), nI_clamp (by omega), h4 a ha]; rfl
    · rw [Md_out, e, if_neg (nI_pos (by omega)), h3, if_neg (nI_ge ha (by omega)), gd_t (inb_nI (by omega) (by omega)), nI_clamp (by omega)]; rfl
/-- the members of a group, from i on -/
theorem mem_loop (h : TD σ τ D) (x y : Int32) (hx : ¬ x < 0) (hy : ¬ y < 0) (hK : ¬ gi τ 71 ≤ x) : ∀ (d f f' i : Nat) (m : Int32), i + d = D → d < f → d < f' → ∃ r, Te_findMember_5 F f σ x y m (nI i) = some (r, σ) ∧ Md_member_10 F f' (si τ 0 0) x y m (nI i) = some (r, si τ 0 0) := by
  obtain ⟨h1, h2, h3, h4, h5, h6⟩ := h
  have hD := h2.2.1
  intro d
  induction d with
  | zero =>
    intro f f' i m hi hf hf'
    obtain ⟨f, rfl⟩ : ∃ f0, f = f0 + 1 := ⟨f - 1, by omega⟩
    obtain ⟨f', rfl⟩ : ∃ f0, f' = f0 + 1 := ⟨f' - 1, by omega⟩
    have t52 : gi (si τ 0 0) 52 = nI D := by simp [zs]; exact h1.2.1
    refine ⟨-1, ?_, ?_⟩
    · rw [Te_findMember_5, Te_findMember_b5, h1.1, if_pos (nI_le (by omega) (by omega))]
    · rw [Md_member_10, Md_member_b10, t52, if_pos (nI_le (by omega) (by omega))]; rfl
  | succ d ih =>
    intro f f' i m hi hf hf'
    obtain ⟨f, rfl⟩ : ∃ f0, f = f0 + 1 := ⟨f - 1, by omega⟩
    obtain ⟨f', rfl⟩ : ∃ f0, f' = f0 + 1 := ⟨f' - 1, by omega⟩
    have t52 : gi (si τ 0 0) 52 = nI D := by simp [zs]; exact h1.2.1
    have t71 : gi (si τ 0 0) 71 = gi τ 71 := by simp [zs]
    have t48 : ga (si τ 0 0) 48 i = ga τ 48 i := rfl
    rw [Te_findMember_5, Te_findMember_b5, h1.1, if_neg (nI_ge (by omega) (by omega)), gd_t (inb_nI (by omega) (by omega)), nI_clamp (by omega), Md_member_10, Md_member_b10, t52, if_neg (nI_ge (by omega) (by omega)), if_neg hx, t71, if_neg hK, if_neg hy, gd_t (inb_nI (by omega) (by omega)), nI_clamp (by omega), t48, (h4 i (by omega)).1]
    by_cases c1 : ga τ 48 i = x
    · rw [if_pos c1, if_pos c1]
      by_cases c2 : m = y
      · rw [if_pos c2, if_pos c2]; exact ⟨_, rfl, rfl⟩
      · rw [if_neg c2, if_neg c2, Te_findMember_36, Md_member_57, nI_1]
        exact ih f f' (i + 1) (m + 1) (by omega) (by omega) (by omega)
    · rw [if_neg c1, if_neg c1, Te_findMember_36, Md_member_57, nI_1]
      exact ih f f' (i + 1) m (by omega) (by omega) (by omega)
theorem member_ok (hF : 20000 ≤ F) (h : TD σ τ D) (x y : Int32) : ∃ r, Q_member F σ x y = some (r, σ) ∧ Md_member F τ x y = some (r, si τ 0 0) := by
  have hh := h
  obtain ⟨h1, h2, h3, h4, ⟨K, k0, k1, k2⟩, h6⟩ := h
  have hD := h2.2.1
  have t52 : gi (si τ 0 0) 52 = nI D := by simp [zs]; exact h1.2.1
  have t71 : gi (si τ 0 0) 71 = gi τ 71 := by simp [zs]
  have no : (x < 0 ∨ gi τ 71 ≤ x ∨ y < 0) → Md_member F τ x y = some (-1, si τ 0 0) := by
    intro hc
    obtain ⟨F', hF'⟩ : ∃ F', F = F' + 1 := ⟨F - 1, by omega⟩
    rw [Md_member, show Md_member_10 F F (si τ 0 0) x y 0 0 = Md_member_10 F (F' + 1) (si τ 0 0) x y 0 0 from by rw [← hF'], Md_member_10, Md_member_b10]
    by_cases c0 : gi (si τ 0 0) 52 ≤ 0
    · rw [if_pos c0]; rfl
    · rw [if_neg c0]
      by_cases c1 : x < 0
      · rw [if_pos c1]; rfl
      · rw [if_neg c1, t71]
        by_cases c2 : gi τ 71 ≤ x
        · rw [if_pos c2]; rfl
        · rw [if_neg c2, if_pos (by rcases hc with z | z | z; exact absurd z c1; exact absurd z c2; exact z)]; rfl
  have e71 : gi σ 412 = gi τ 71 := by rw [k1, k2]
  rw [Q_member]
  by_cases c1 : x < 0
  · rw [if_pos c1]; exact ⟨-1, rfl, no (Or.inl c1)⟩
  rw [if_neg c1, e71]
  by_cases c2 : gi τ 71 ≤ x
  · rw [if_pos c2]; exact ⟨-1, rfl, no (Or.inr (Or.inl c2))⟩
  rw [if_neg c2]
  by_cases c3 : y < 0
  · have : ¬ 0 ≤ y := by
      intro z
      rw [Int32.le_iff_toInt_le] at z
      rw [Int32.lt_iff_toInt_lt] at c3
      omega
    rw [if_neg this]; exact ⟨-1, rfl, no (Or.inr (Or.inr c3))⟩
  have : 0 ≤ y := by
    rw [Int32.lt_iff_toInt_lt] at c3
    rw [Int32.le_iff_toInt_le]
    omega
  rw [if_pos this]
  obtain ⟨r, r1, r2⟩ := mem_loop (F := F) hh x y c1 c3 c2 D F F 0 0 (by omega) (by omega) (by omega)
  refine ⟨r, ?_, ?_⟩
  · rw [Te_findMember, ← nI_0]
    rw [nI_0] at r1 ⊢
    rw [r1, bi_some]
  · rw [Md_member]
    rw [nI_0] at r2
    exact r2
end R
