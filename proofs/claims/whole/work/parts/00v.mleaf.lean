/-! The reference's reader of types: one step at a name, at a bracket. Own text. -/
/-- a mention as the reference has it -/
def meT (τ : zS) (i : Nat) (r : Int32) (v : Int64) (p o f w : Int32) : Prop := ga τ 10 i = r ∧ gb τ 11 i = v ∧ ga τ 12 i = p ∧ ga τ 13 i = o ∧ ga τ 15 i = f ∧ ga τ 16 i = w
theorem at_sa : (∀ (σ : zS) (k p : Nat) (v : Int32) (j i : Nat), ga (sa σ k p v) j i = if j = k ∧ i = p then v else ga σ j i) ∧ (∀ (σ : zS) (k p : Nat) (v : Int32) (j i : Nat), gb (sa σ k p v) j i = gb σ j i) ∧ (∀ (σ : zS) (k p : Nat) (v : Int32) (j i : Nat), ma (ta σ k p v) j i = if j = k ∧ i = p then v else ma σ j i) ∧ (∀ (σ : zS) (k p : Nat) (v : Int32) (j i : Nat), mb (ta σ k p v) j i = mb σ j i) := by
  refine ⟨?_, by intros; rfl, ?_, by intros; rfl⟩
  · intro σ k p v j i
    simp only [zs]
    by_cases q : j = k
    · subst q; simp [up_at]
    · simp [q]
  · intro σ k p v j i
    simp only [zs]
    by_cases q : j = k
    · subst q; simp [up_at]
    · simp [q]
theorem at_sb : (∀ (σ : zS) (k p : Nat) (v : Int64) (j i : Nat), gb (sb σ k p v) j i = if j = k ∧ i = p then v else gb σ j i) ∧ (∀ (σ : zS) (k p : Nat) (v : Int64) (j i : Nat), ga (sb σ k p v) j i = ga σ j i) ∧ (∀ (σ : zS) (k p : Nat) (v : Int64) (j i : Nat), mb (tb σ k p v) j i = if j = k ∧ i = p then v else mb σ j i) ∧ (∀ (σ : zS) (k p : Nat) (v : Int64) (j i : Nat), ma (tb σ k p v) j i = ma σ j i) := by
  refine ⟨?_, by intros; rfl, ?_, by intros; rfl⟩
  · intro σ k p v j i
    simp only [zs]
    by_cases q : j = k
    · subst q; simp [upL_at]
    · simp [q]
  · intro σ k p v j i
    simp only [zs]
    by_cases q : j = k
    · subst q; simp [upL_at]
    · simp [q]
theorem at_si : (∀ (σ : zS) (k : Nat) (v : Int32) (j i : Nat), ga (si σ k v) j i = ga σ j i) ∧ (∀ (σ : zS) (k : Nat) (v : Int32) (j i : Nat), gb (si σ k v) j i = gb σ j i) := ⟨by intros; rfl, by intros; rfl⟩
section PM
variable {F : Nat} {B : Nat → Int32} {n : Nat} {τ : zS} {k M s N a L : Nat}
theorem nI_pm (x : Nat) : nI x + 1 - 1 = nI x := by
  have := nI_pred x
  rw [nI_succ] at this
  exact this
theorem m_leaf (hB : byt B n) (hF : 1300 ≤ F) (h : mS B n τ k M s N a L) (hs : nmT (tkS B n k)) (hs2 : s < 200) (hN : N < 1000) (hM : M < 1400) : ∃ τ1, frM (L + 1) N a M τ τ1 ∧ mS B n τ1 (k + 1) (M + 1) (s + 1) (N + 1) a L ∧ (ga τ1 2 N = (if tkS B n k = 2 then 0 else 1) ∧ gb τ1 3 N = tkN B n k ∧ ga τ1 4 N = gi τ 32 ∧ ga τ1 5 N = gi τ 67) ∧ meT τ1 M (if tkS B n k = 2 then 5 else 6) (tkN B n k) (nI (tkP B n k)) (gi τ 32) 1 0 ∧ ∀ (rc : zS → Int32 → Option (Int32 × zS)) (x : Int32), Md_readOpen_55 F rc τ x = bv (Md_addOne F τ1 (nI N) (if tkS B n k = 2 then nI M else -1) (nI (tkP B n k))) (fun σ => rc σ x) := by
  have hne : tkS B n k ≠ 0 := by rcases hs with q | q <;> rw [q] <;> decide
  obtain ⟨f8, f3, f5, f4⟩ := m_flt h hne
  have hcb := (m_canB (F := F) hB h hne).1 (by rcases hs with q | q; exact Or.inl q; exact Or.inr (Or.inl q))
  obtain ⟨h1, h2, h3, h31, h17, h16, h23, h42, h18⟩ := h
  have f6 : gl τ 6 = tkN B n k := h3.2.2.2.2.1 (by rcases hs with q | q <;> rw [q] <;> decide)
  -- the state ahead of next()
  obtain ⟨b, hb⟩ : ∃ b : Int32, b = if tkS B n k = 2 then 0 else 1 := ⟨_, rfl⟩
  obtain ⟨r, hr⟩ : ∃ r : Int32, r = if tkS B n k = 2 then 5 else 6 := ⟨_, rfl⟩
  obtain ⟨τa, ea⟩ : ∃ τa, τa = si (sa (sa (sa (sa (sa (sb (sa (sb (si (sa (sa (sa (si τ 17 (nI (s + 1))) 2 N b) 4 N (gi τ 32)) 5 N (gi τ 67)) 16 (nI (N + 1))) 3 N (tkN B n k)) 10 M r) 11 M (tkN B n k)) 12 M (nI (tkP B n k))) 13 M (gi τ 32)) 14 M (nI N)) 15 M 1) 16 M 0) 31 (nI (M + 1)) := ⟨_, rfl⟩
  have g1 : ga τa 1 = B := by rw [ea]; simp [zs, h1]
  have g2 : gi τa 2 = nI n := by rw [ea]; simp [zs, h2]
  have g8 : gi τa 8 = 0 := by rw [ea]; simp [zs, f8]
  have g3 : gi τa 3 = nI (lxE B n (k + 1)) := by rw [ea]; simp [zs, f3]
  obtain ⟨τ1, e1, fr1, cu1⟩ := m_next (F := F) (k := k) hB hF g1 g2 g8 g3
  have frA : frM (L + 1) N a M τ τa := by
    subst ea
    refine ⟨fun j hj => ?_, fun j i hji => ?_, fun j _ => by simp [zs], fun j i j1 j2 => ?_, fun z => absurd f8 z, fun _ => by simp [zs]⟩
    · unfold exM at hj
      have j1 : j ≠ 17 := by omega
      have j2 : j ≠ 16 := by omega
      have j3 : j ≠ 31 := by omega
      simp [zs, j1, j2, j3]
    · unfold okM at hji
      simp only [at_si, at_sb, at_sa]
      rw [if_neg (by omega), if_neg (by omega), if_neg (by omega), if_neg (by omega), if_neg (by omega), if_neg (by omega), if_neg (by omega), if_neg (by omega), if_neg (by omega)]
    · simp only [at_si, at_sb, at_sa]
      rw [if_neg (by omega), if_neg (by omega)]
  have fr2 := frM_N (L + 1) (N + 1) a (M + 1) g8 fr1
  obtain ⟨fa1, fa2, fa3, fa4, _⟩ := fr1
  refine ⟨τ1, frM_tr frA fr2 (Nat.le_refl _) (by omega) (by omega) (by omega), ⟨by rw [fa2, g1], ?_, cu1, ?_, ?_, ?_, ?_, ?_, ?_⟩, ⟨?_, ?_, ?_, ?_⟩, ⟨?_, ?_, ?_, ?_, ?_, ?_⟩, ?_⟩
  · rw [fa1 2 (by decide) (by decide) (by decide) (by decide) (by decide) (by decide), g2]
  · rw [fa1 31 (by decide) (by decide) (by decide) (by decide) (by decide) (by decide), ea]; simp [zs]
  · rw [fa1 17 (by decide) (by decide) (by decide) (by decide) (by decide) (by decide), ea]; simp [zs]
  · rw [fa1 16 (by decide) (by decide) (by decide) (by decide) (by decide) (by decide), ea]; simp [zs]
  · rw [fa1 23 (by decide) (by decide) (by decide) (by decide) (by decide) (by decide), ea]; simp [zs, h23]
  · rw [fa1 42 (by decide) (by decide) (by decide) (by decide) (by decide) (by decide), ea]; simp [zs, h42]
  · rw [fa1 18 (by decide) (by decide) (by decide) (by decide) (by decide) (by decide), ea]; simp [zs, h18]
  · rw [fa2, ea]; simp [zs, up_at, hb]
  · rw [fa4, ea]; simp [zs, upL_at]
  · rw [fa2, ea]; simp [zs, up_at]
  · rw [fa2, ea]; simp [zs, up_at]
  · rw [fa2, ea]; simp [zs, up_at, hr]
  · rw [fa4, ea]; simp [zs, upL_at]
  · rw [fa2, ea]; simp [zs, up_at]
  · rw [fa2, ea]; simp [zs, up_at]
  · rw [fa2, ea]; simp [zs, up_at]
  · rw [fa2, ea]; simp [zs, up_at]
  · intro rc x
    have hcnt : Md_count F τ = some (si τ 17 (nI (s + 1))) := by
      rw [Md_count, h17, nI_1, if_pos (show nI (s + 1) ≤ (200 : Int32) from nI_le (b := 200) (by omega) (by omega)), Md_count_29]
    have hnode : ∀ b : Int32, Md_node F (si τ 17 (nI (s + 1))) b (gi τ 32) (gi τ 67) = some (nI N, si (sa (sa (sa (si τ 17 (nI (s + 1))) 2 N b) 4 N (gi τ 32)) 5 N (gi τ 67)) 16 (nI (N + 1))) := by
      intro b
      have e16 : gi (si τ 17 (nI (s + 1))) 16 = nI N := by simp [zs, h16]
      rw [Md_node, e16, gd_t (inb_nI hN (by omega)), nI_clamp (by omega), nI_pm, nI_1]
    have nar : vp_nar .boolean (1 : Int32) = 1 := by decide
    have htell : ∀ b r : Int32, Md_tell F (sb (si (sa (sa (sa (si τ 17 (nI (s + 1))) 2 N b) 4 N (gi τ 32)) 5 N (gi τ 67)) 16 (nI (N + 1))) 3 N (tkN B n k)) r (nI N) = some (si (sa (sa (sa (sa (sa (sb (sa (sb (si (sa (sa (sa (si τ 17 (nI (s + 1))) 2 N b) 4 N (gi τ 32)) 5 N (gi τ 67)) 16 (nI (N + 1))) 3 N (tkN B n k)) 10 M r) 11 M (tkN B n k)) 12 M (nI (tkP B n k))) 13 M (gi τ 32)) 14 M (nI N)) 15 M 1) 16 M 0) 31 (nI (M + 1))) := by
      intro b r
      rw [Md_tell]
      simp only [zs]
      simp only [show (31 : Nat) = 16 ↔ False from by decide, show (31 : Nat) = 17 ↔ False from by decide, show (5 : Nat) = 16 ↔ False from by decide, show (5 : Nat) = 17 ↔ False from by decide, show (32 : Nat) = 16 ↔ False from by decide, show (32 : Nat) = 17 ↔ False from by decide, if_false, h31, f6, f5, nar]
      rw [gd_t (inb_nI hM (by omega)), nI_clamp (by omega), nI_1]
    have g84 : ∀ b : Int32, gi (si (sa (sa (sa (si τ 17 (nI (s + 1))) 2 N b) 4 N (gi τ 32)) 5 N (gi τ 67)) 16 (nI (N + 1))) 4 = tokM (tkS B n k) := by intro b; simp [zs, f4]
    have g64 : ∀ b : Int32, gl (si (sa (sa (sa (si τ 17 (nI (s + 1))) 2 N b) 4 N (gi τ 32)) 5 N (gi τ 67)) 16 (nI (N + 1))) 6 = tkN B n k := by intro b; simp [zs, f6]
    have g31 : ∀ b : Int32, gi (si (sa (sa (sa (si τ 17 (nI (s + 1))) 2 N b) 4 N (gi τ 32)) 5 N (gi τ 67)) 16 (nI (N + 1))) 31 = nI M := by intro b; simp [zs, h31]
    have g85 : ∀ b : Int32, gi (sb (si (sa (sa (sa (si τ 17 (nI (s + 1))) 2 N b) 4 N (gi τ 32)) 5 N (gi τ 67)) 16 (nI (N + 1))) 3 N (tkN B n k)) 4 = tokM (tkS B n k) := by intro b; simp [zs, f4]
    have c8 : gi (si τ 17 (nI (s + 1))) 8 = 0 := by simp [zs, f8]
    have c4 : gi (si τ 17 (nI (s + 1))) 4 = tokM (tkS B n k) := by simp [zs, f4]
    have c32 : gi (si τ 17 (nI (s + 1))) 32 = gi τ 32 := by simp [zs]
    have c67 : gi (si τ 17 (nI (s + 1))) 67 = gi τ 67 := by simp [zs]
    rw [Md_readOpen_55, hcb, bi_some, if_neg (by decide), Md_beginOne, f4, f5]
    rcases hs with q | q
    · rw [if_pos (show tokM (tkS B n k) = 1 by rw [q]; decide), Md_beginOne_21, hcnt, bv_some, if_pos c8, c4, if_pos (show tokM (tkS B n k) = 1 by rw [q]; decide), Md_beginOne_46, c32, c67, hnode, bi_some, gd_t (inb_nI hN (by omega)), g84, if_pos (show tokM (tkS B n k) = 1 by rw [q]; decide), nI_clamp (by omega), g64, g31, Md_beginOne_84, g85, if_pos (show tokM (tkS B n k) = 1 by rw [q]; decide), Md_beginOne_100, htell, bv_some]
      rw [if_pos q] at hb hr
      subst hb hr
      rw [← ea, e1, bv_some, if_pos q, bv_bv]
      rfl
    · rw [if_neg (show ¬ tokM (tkS B n k) = 1 by rw [q]; decide), if_pos (show tokM (tkS B n k) = 2 by rw [q]; decide), Md_beginOne_21, hcnt, bv_some, if_pos c8, c4, if_neg (show ¬ tokM (tkS B n k) = 1 by rw [q]; decide), Md_beginOne_46, c32, c67, hnode, bi_some, gd_t (inb_nI hN (by omega)), g84, if_neg (show ¬ tokM (tkS B n k) = 1 by rw [q]; decide), nI_clamp (by omega), g64, Md_beginOne_84, g85, if_neg (show ¬ tokM (tkS B n k) = 1 by rw [q]; decide), Md_beginOne_100, htell, bv_some]
      rw [if_neg (show ¬ tkS B n k = 2 by rw [q]; decide)] at hb hr
      subst hb hr
      rw [← ea, e1, bv_some, if_neg (show ¬ tkS B n k = 2 by rw [q]; decide), bv_bv]
      rfl
end PM
