/-! The reference's reader of types: no room, brackets, addOne. Own text. -/
section PM
variable {F : Nat} {B : Nat → Int32} {n : Nat} {τ : zS} {k M s N a L : Nat}
/-- how a fault that was found while reading leaves the reference -/
def flM (N0 Lv N a M : Nat) (τ τ' : zS) (f : Int32) (p : Nat) : Prop := frM Lv N a M τ τ' ∧ gi τ' 8 = f ∧ gi τ' 9 = nI p ∧ (∃ a', a' ≤ 400 ∧ gi τ' 23 = nI a') ∧ ∃ N2, N2 ≤ N0 + 402 ∧ gi τ' 16 = nI N2
theorem flM_tr {N0 Lv N a M Lv' N' a' M' : Nat} {τ τ1 τ2 : zS} {f : Int32} {p : Nat} (h1 : frM Lv N a M τ τ1) (h2 : flM N0 Lv' N' a' M' τ1 τ2 f p) (hL : Lv ≤ Lv') (hN : N ≤ N') (ha : a ≤ a') (hM : M ≤ M') : flM N0 Lv N a M τ τ2 f p := ⟨frM_tr h1 h2.1 hL hN ha hM, h2.2⟩
theorem m_cnt1 (h17 : gi τ 17 = nI s) (hs : s < 200) : Md_count F τ = some (si τ 17 (nI (s + 1))) := by
  rw [Md_count, h17, nI_1, if_pos (show nI (s + 1) ≤ (200 : Int32) from nI_le (b := 200) (by omega) (by omega)), Md_count_29]
theorem m_cnt0 (h17 : gi τ 17 = nI 200) (h8 : gi τ 8 = 0) (Lv : Nat) : Md_count F τ = some (si (si (si τ 17 201) 8 2) 9 (gi τ 5)) ∧ frM Lv N a M τ (si (si (si τ 17 201) 8 2) 9 (gi τ 5)) := by
  have h8' : gi (si τ 17 201) 8 = 0 := by simp [zs, h8]
  obtain ⟨w1, w2⟩ := m_wrong (F := F) (L := Lv) (N := N) (a := a) (M := M) h8' (f := 2) (p := gi τ 5) (by decide)
  constructor
  · rw [Md_count, h17, if_neg (by decide), show nI 200 + 1 = (201 : Int32) by decide, w1, bv_some, Md_count_29]
  · refine frM_tr ⟨fun j hj => ?_, fun j i _ => by simp [zs], fun j _ => by simp [zs], fun j i _ _ => by simp [zs], fun z => absurd h8 z, fun _ => by simp [zs]⟩ w2 (Nat.le_refl _) (Nat.le_refl _) (Nat.le_refl _) (Nat.le_refl _)
    unfold exM at hj
    have j1 : j ≠ 17 := by omega
    simp [zs, j1]
theorem m_leaf0 (hB : byt B n) (h : mS B n τ k M 200 N a L) (hs : nmT (tkS B n k)) (ha : a ≤ 400) {N0 : Nat} (hN0 : N ≤ N0 + 402) : ∃ τ1, flM N0 (L + 1) N a M τ τ1 2 (tkP B n k) ∧ ∀ (rc : zS → Int32 → Option (Int32 × zS)) (x : Int32), Md_readOpen_55 F rc τ x = rc τ1 x := by
  have hne : tkS B n k ≠ 0 := by rcases hs with q | q <;> rw [q] <;> decide
  obtain ⟨f8, f3, f5, f4⟩ := m_flt h hne
  have hcb := (m_canB (F := F) hB h hne).1 (by rcases hs with q | q; exact Or.inl q; exact Or.inr (Or.inl q))
  obtain ⟨h1, h2, h3, h31, h17, h16, h23, h42, h18⟩ := h
  obtain ⟨c1, c2⟩ := m_cnt0 (F := F) (N := N) (a := a) (M := M) h17 f8 (L + 1)
  refine ⟨_, ⟨c2, by simp [zs], by simp [zs, f5], ⟨a, ha, by simp [zs, h23]⟩, N, hN0, by simp [zs, h16]⟩, fun rc x => ?_⟩
  have c8 : ¬ gi (si (si (si τ 17 201) 8 2) 9 (gi τ 5)) 8 = 0 := by simp [zs]
  have hbeg : Md_beginOne_21 F τ (gi τ 5) = some (si (si (si τ 17 201) 8 2) 9 (gi τ 5)) := by
    rw [Md_beginOne_21, c1, bv_some, if_neg c8]
    rfl
  rw [Md_readOpen_55, hcb, bi_some, if_neg (by decide), Md_beginOne, f4]
  rcases hs with q | q
  · rw [if_pos (show tokM (tkS B n k) = 1 by rw [q]; decide), hbeg, bv_some]
  · rw [if_neg (show ¬ tokM (tkS B n k) = 1 by rw [q]; decide), if_pos (show tokM (tkS B n k) = 2 by rw [q]; decide), hbeg, bv_some]
/-- the level's row of the reference: some, head, behindHead, somePlace, whole, lastArrow, wholePlace -/
def lvM (τ : zS) (L : Nat) (x hd bh sp w la wp : Int32) : Prop := ga τ 19 L = x ∧ ga τ 20 L = hd ∧ ga τ 21 L = bh ∧ ga τ 22 L = sp ∧ ga τ 23 L = w ∧ ga τ 24 L = la ∧ ga τ 25 L = wp
theorem m_open (hB : byt B n) (hF : 1300 ≤ F) (h : mS B n τ k M s N a L) (hs : tkS B n k = 40 ∨ tkS B n k = 91) (hL : L < 8) (hs2 : tkS B n k = 91 → s < 200) : ∃ τ1, frM (L + 1) N a M τ τ1 ∧ mS B n τ1 (k + 1) M (if tkS B n k = 91 then s + 1 else s) N a (L + 1) ∧ ga τ1 17 (L + 1) = (if tkS B n k = 91 then 2 else 1) ∧ ga τ1 18 (L + 1) = nI (tkP B n k) ∧ ga τ1 19 (L + 1) = -1 ∧ ga τ1 23 (L + 1) = -1 ∧ ga τ1 24 (L + 1) = -1 ∧ ga τ1 25 (L + 1) = -1 ∧ ∀ (rc : zS → Int32 → Option (Int32 × zS)) (x : Int32), Md_readOpen_55 F rc τ x = rc τ1 x := by
  have hne : tkS B n k ≠ 0 := by rcases hs with q | q <;> rw [q] <;> decide
  have hmS := h
  obtain ⟨f8, f3, f5, f4⟩ := m_flt h hne
  have hcb := (m_canB (F := F) hB h hne).1 (by rcases hs with q | q; exact Or.inr (Or.inr (Or.inl q)); exact Or.inr (Or.inr (Or.inr q)))
  obtain ⟨h1, h2, h3, h31, h17, h16, h23, h42, h18⟩ := h
  obtain ⟨s', hs'⟩ : ∃ s', s' = if tkS B n k = 91 then s + 1 else s := ⟨_, rfl⟩
  obtain ⟨w, hw⟩ : ∃ w : Int32, w = if tkS B n k = 91 then 2 else 1 := ⟨_, rfl⟩
  obtain ⟨τa, ea⟩ : ∃ τa, τa = sa (sa (sa (sa (sa (sa (si (si (si τ 18 (nI (L + 1))) 17 (nI s')) 42 (nI (L + 1))) 17 (L + 1) w) 18 (L + 1) (nI (tkP B n k))) 19 (L + 1) (-1)) 23 (L + 1) (-1)) 24 (L + 1) (-1)) 25 (L + 1) (-1) := ⟨_, rfl⟩
  have g1 : ga τa 1 = B := by rw [ea]; simp [zs, h1]
  have g2 : gi τa 2 = nI n := by rw [ea]; simp [zs, h2]
  have g8 : gi τa 8 = 0 := by rw [ea]; simp [zs, f8]
  have g3 : gi τa 3 = nI (lxE B n (k + 1)) := by rw [ea]; simp [zs, f3]
  obtain ⟨τ1, e1, fr1, cu1⟩ := m_next (F := F) (k := k) hB hF g1 g2 g8 g3
  have frA : frM (L + 1) N a M τ τa := by
    subst ea
    refine ⟨fun j hj => ?_, fun j i hji => ?_, fun j _ => by simp [zs], fun j i j1 j2 => by simp [zs], fun z => absurd f8 z, fun _ => by simp [zs]⟩
    · unfold exM at hj
      have j1 : j ≠ 17 := by omega
      have j2 : j ≠ 18 := by omega
      have j3 : j ≠ 42 := by omega
      simp [zs, j1, j2, j3]
    · unfold okM at hji
      simp only [at_si, at_sa]
      rw [if_neg (by omega), if_neg (by omega), if_neg (by omega), if_neg (by omega), if_neg (by omega), if_neg (by omega)]
  have fr2 := frM_N (L + 1) N a M g8 fr1
  obtain ⟨fa1, fa2, fa3, fa4, _⟩ := fr1
  refine ⟨τ1, frM_tr frA fr2 (Nat.le_refl _) (by omega) (by omega) (by omega), ⟨by rw [fa2, g1], ?_, cu1, ?_, ?_, ?_, ?_, ?_, ?_⟩, ?_, ?_, ?_, ?_, ?_, ?_, ?_⟩
  · rw [fa1 2 (by decide) (by decide) (by decide) (by decide) (by decide) (by decide), g2]
  · rw [fa1 31 (by decide) (by decide) (by decide) (by decide) (by decide) (by decide), ea]; simp [zs, h31]
  · rw [fa1 17 (by decide) (by decide) (by decide) (by decide) (by decide) (by decide), ea, ← hs']; simp [zs]
  · rw [fa1 16 (by decide) (by decide) (by decide) (by decide) (by decide) (by decide), ea]; simp [zs, h16]
  · rw [fa1 23 (by decide) (by decide) (by decide) (by decide) (by decide) (by decide), ea]; simp [zs, h23]
  · rw [fa1 42 (by decide) (by decide) (by decide) (by decide) (by decide) (by decide), ea]; simp [zs]
  · rw [fa1 18 (by decide) (by decide) (by decide) (by decide) (by decide) (by decide), ea]; simp [zs]
  · rw [fa2, ea, ← hw]; simp [at_sa]
  · rw [fa2, ea]; simp [at_sa]
  · rw [fa2, ea]; simp [at_sa]
  · rw [fa2, ea]; simp [at_sa]
  · rw [fa2, ea]; simp [at_sa]
  · rw [fa2, ea]; simp [at_sa]
  · intro rc x
    have hd : Md_deeper F τ = some (si τ 18 (nI (L + 1))) := by
      rw [Md_deeper, h18, nI_1, if_pos (show nI (L + 1) ≤ (8 : Int32) from nI_le (b := 8) (by omega) (by omega)), Md_deeper_28]
    -- the state behind deeper() is no mS: isSign by hand
    have hsg : Md_isSign F (si τ 18 (nI (L + 1))) 91 = some (if tkS B n k = 91 then 1 else 0, si τ 18 (nI (L + 1))) := by
      have c4 : tokM (tkS B n k) = 4 := by rcases hs with q | q <;> rw [q] <;> decide
      have c7 := h3.2.2.2.2.2 c4
      have k8 : gi (si τ 18 (nI (L + 1))) 8 = 0 := by simp [zs, f8]
      have k4 : gi (si τ 18 (nI (L + 1))) 4 = 4 := by simp [zs, f4, c4]
      have k7 : gi (si τ 18 (nI (L + 1))) 7 = sgM (tkS B n k) := by simp [zs, c7]
      rw [Md_isSign, if_pos k8, if_pos k4, k7]
      rcases hs with q | q <;> rw [q] <;> rfl
    have k8 : gi (si τ 18 (nI (L + 1))) 8 = 0 := by simp [zs, f8]
    have t1 : ¬ tokM (tkS B n k) = 1 := by rcases hs with q | q <;> rw [q] <;> decide
    have t2 : ¬ tokM (tkS B n k) = 2 := by rcases hs with q | q <;> rw [q] <;> decide
    have hopen : ∀ (τ2 : zS) (w : Int32), gi τ2 42 = nI L → gi τ2 5 = nI (tkP B n k) → Md_open F τ2 w = some (sa (sa (sa (sa (sa (sa (si τ2 42 (nI (L + 1))) 17 (L + 1) w) 18 (L + 1) (nI (tkP B n k))) 19 (L + 1) (-1)) 23 (L + 1) (-1)) 24 (L + 1) (-1)) 25 (L + 1) (-1)) := by
      intro τ2 w q1 q2
      rw [Md_open, q1, q2, nI_1, gd_t (inb_nI (by omega) (by omega)), nI_clamp (by omega)]
    rw [Md_readOpen_55, hcb, bi_some, if_neg (by decide), Md_beginOne, f4, if_neg t1, if_neg t2, hd, bv_some, hsg, bi_some, if_pos k8]
    by_cases q : tkS B n k = 91
    · rw [if_pos q] at hs' hw
      subst hs' hw
      have hc := m_cnt1 (F := F) (τ := si τ 18 (nI (L + 1))) (s := s) (by simp [zs, h17]) (hs2 q)
      rw [if_pos q, if_neg (by decide), hc, bv_some, Md_beginOne_142, if_pos (by simp [zs, f8]), if_neg (by decide), Md_beginOne_159, hopen _ _ (by simp [zs, h42]) (by simp [zs, f5]), bv_some, ← ea, e1, bv_some, Md_beginOne_166, bv_some]
    · rw [if_neg q] at hs' hw
      subst hs' hw
      have es : si (si τ 18 (nI (L + 1))) 17 (nI s') = si τ 18 (nI (L + 1)) := si_same _ (by simp [zs, h17])
      rw [es] at ea
      rw [if_neg q, if_pos rfl, Md_beginOne_142, if_pos k8, if_pos rfl, Md_beginOne_159, hopen _ _ (by simp [zs, h42]) (by simp [zs, f5]), bv_some, ← ea, e1, bv_some, Md_beginOne_166, bv_some]
theorem m_open0 (hB : byt B n) (h : mS B n τ k M s N a L) (hs : tkS B n k = 40 ∨ tkS B n k = 91) (hL : L ≤ 8) (hs2 : s ≤ 200) (hx : L = 8 ∨ (tkS B n k = 91 ∧ s = 200)) (ha : a ≤ 400) {N0 : Nat} (hN0 : N ≤ N0 + 402) : ∃ τ1, flM N0 (L + 1) N a M τ τ1 2 (tkP B n k) ∧ ∀ (rc : zS → Int32 → Option (Int32 × zS)) (x : Int32), Md_readOpen_55 F rc τ x = rc τ1 x := by
  have hne : tkS B n k ≠ 0 := by rcases hs with q | q <;> rw [q] <;> decide
  obtain ⟨f8, f3, f5, f4⟩ := m_flt h hne
  have hcb := (m_canB (F := F) hB h hne).1 (by rcases hs with q | q; exact Or.inr (Or.inr (Or.inl q)); exact Or.inr (Or.inr (Or.inr q)))
  obtain ⟨h1, h2, h3, h31, h17, h16, h23, h42, h18⟩ := h
  have t1 : ¬ tokM (tkS B n k) = 1 := by rcases hs with q | q <;> rw [q] <;> decide
  have t2 : ¬ tokM (tkS B n k) = 2 := by rcases hs with q | q <;> rw [q] <;> decide
  have fr18 : ∀ v, frM (L + 1) N a M τ (si τ 18 v) := by
    intro v
    refine ⟨fun j hj => ?_, fun j i _ => by simp [zs], fun j _ => by simp [zs], fun j i _ _ => by simp [zs], fun z => absurd f8 z, fun _ => by simp [zs]⟩
    unfold exM at hj
    have j1 : j ≠ 18 := by omega
    simp [zs, j1]
  by_cases q8 : L = 8
  · subst q8
    have k8 : gi (si τ 18 9) 8 = 0 := by simp [zs, f8]
    obtain ⟨w1, w2⟩ := m_wrong (F := F) (L := 9) (N := N) (a := a) (M := M) k8 (f := 2) (p := gi τ 5) (by decide)
    refine ⟨_, ⟨frM_tr (fr18 9) w2 (Nat.le_refl _) (Nat.le_refl _) (Nat.le_refl _) (Nat.le_refl _), by simp [zs], by simp [zs, f5], ⟨a, ha, by simp [zs, h23]⟩, N, hN0, by simp [zs, h16]⟩, fun rc x => ?_⟩
    have hd : Md_deeper F τ = some (si (si (si τ 18 9) 8 2) 9 (gi τ 5)) := by
      rw [Md_deeper, h18, if_neg (by decide), show nI 8 + 1 = (9 : Int32) by decide, w1, bv_some, Md_deeper_28]
    have kk : ¬ gi (si (si (si τ 18 9) 8 2) 9 (gi τ 5)) 8 = 0 := by simp [zs]
    have hsg : Md_isSign F (si (si (si τ 18 9) 8 2) 9 (gi τ 5)) 91 = some (0, si (si (si τ 18 9) 8 2) 9 (gi τ 5)) := by
      rw [Md_isSign, if_neg kk]; rfl
    rw [Md_readOpen_55, hcb, bi_some, if_neg (by decide), Md_beginOne, f4, if_neg t1, if_neg t2, hd, bv_some, hsg, bi_some, if_neg kk, Md_beginOne_142, if_neg kk, Md_beginOne_166, bv_some]
  · have hx' : tkS B n k = 91 ∧ s = 200 := by
      rcases hx with z | z
      · exact absurd z q8
      · exact z
    obtain ⟨q, hs200⟩ := hx'
    subst hs200
    have hd : Md_deeper F τ = some (si τ 18 (nI (L + 1))) := by
      rw [Md_deeper, h18, nI_1, if_pos (show nI (L + 1) ≤ (8 : Int32) from nI_le (b := 8) (by omega) (by omega)), Md_deeper_28]
    have k8 : gi (si τ 18 (nI (L + 1))) 8 = 0 := by simp [zs, f8]
    have hsg : Md_isSign F (si τ 18 (nI (L + 1))) 91 = some (1, si τ 18 (nI (L + 1))) := by
      have c4 : tokM (tkS B n k) = 4 := by rcases hs with q | q <;> rw [q] <;> decide
      have c7 := h3.2.2.2.2.2 c4
      have k4 : gi (si τ 18 (nI (L + 1))) 4 = 4 := by simp [zs, f4, c4]
      have k7 : gi (si τ 18 (nI (L + 1))) 7 = sgM (tkS B n k) := by simp [zs, c7]
      rw [Md_isSign, if_pos k8, if_pos k4, k7, q]
      rfl
    obtain ⟨c1, c2⟩ := m_cnt0 (F := F) (τ := si τ 18 (nI (L + 1))) (N := N) (a := a) (M := M) (by simp [zs, h17]) k8 (L + 1)
    have k5 : gi (si τ 18 (nI (L + 1))) 5 = gi τ 5 := by simp [zs]
    refine ⟨_, ⟨frM_tr (fr18 _) c2 (Nat.le_refl _) (Nat.le_refl _) (Nat.le_refl _) (Nat.le_refl _), by simp [zs], by simp [zs, f5], ⟨a, ha, by simp [zs, h23]⟩, N, hN0, by simp [zs, h16]⟩, fun rc x => ?_⟩
    have kk : ¬ gi (si (si (si (si τ 18 (nI (L + 1))) 17 201) 8 2) 9 (gi (si τ 18 (nI (L + 1))) 5)) 8 = 0 := by simp [zs]
    rw [Md_readOpen_55, hcb, bi_some, if_neg (by decide), Md_beginOne, f4, if_neg t1, if_neg t2, hd, bv_some, hsg, bi_some, if_pos k8, if_neg (by decide), c1, bv_some, Md_beginOne_142, if_neg kk, Md_beginOne_166, bv_some]
end PM
