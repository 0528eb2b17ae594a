/-! The reference's reader of types: want, closeOne. Own text. -/
section PM
variable {F : Nat} {B : Nat → Int32} {n : Nat} {τ : zS} {k M s N a L : Nat}
theorem m_want1 (hB : byt B n) (hF : 1300 ≤ F) (h : mS B n τ k M s N a L) (hne : tkS B n k ≠ 0) {y : Nat} (hy : y < 256) (h8 : 7 < y) (hs : tkS B n k = nI y) : ∃ τ', Md_want F τ (sgM (nI y)) = some τ' ∧ frN τ τ' ∧ curT B n (k + 1) τ' := by
  have hsg := (m_sign (F := F) hB h hne hy h8).1 hs
  obtain ⟨f8, f3, f5, f4⟩ := m_flt h hne
  obtain ⟨τ', e, fr, cu⟩ := m_next (F := F) (k := k) hB hF h.1 h.2.1 f8 f3
  refine ⟨τ', ?_, fr, cu⟩
  rw [Md_want, hsg, bi_some, if_neg (by decide), e, bv_some, Md_want_19]
theorem m_want0 (hB : byt B n) (h : mS B n τ k M s N a L) (hne : tkS B n k ≠ 0) {y : Nat} (hy : y < 256) (h8 : 7 < y) (hs : tkS B n k ≠ nI y) : Md_want F τ (sgM (nI y)) = some (si (si τ 8 1) 9 (nI (tkP B n k))) ∧ ∀ Lv N a M, frM Lv N a M τ (si (si τ 8 1) 9 (nI (tkP B n k))) := by
  have hsg := (m_sign (F := F) hB h hne hy h8).2 hs
  obtain ⟨f8, f3, f5, f4⟩ := m_flt h hne
  constructor
  · obtain ⟨w1, w2⟩ := m_wrong (F := F) (L := L) (N := N) (a := a) (M := M) f8 (f := 1) (p := nI (tkP B n k)) (by decide)
    rw [Md_want, hsg, bi_some, if_pos rfl, Md_cannot, f5, w1, bv_some, bv_some, Md_want_19]
  · intro Lv N a M
    exact (m_wrong (F := F) (L := Lv) (N := N) (a := a) (M := M) f8 (f := 1) (p := nI (tkP B n k)) (by decide)).2
theorem m_act {τ : zS} {a : Nat} (h23 : gi τ 23 = nI a) (ha : a < 1600) (x y p : Int32) : Md_act F τ x y p = some (si (sa (sa (sa τ 7 a x) 8 a y) 9 a p) 23 (nI (a + 1))) := by
  rw [Md_act, h23, gd_t (inb_nI ha (by omega)), nI_clamp (by omega), nI_1]
theorem m_node {τ : zS} {N : Nat} (h16 : gi τ 16 = nI N) (hN : N < 1000) (x l r : Int32) : Md_node F τ x l r = some (nI N, si (sa (sa (sa τ 2 N x) 4 N l) 5 N r) 16 (nI (N + 1))) := by
  rw [Md_node, h16, gd_t (inb_nI hN (by omega)), nI_clamp (by omega), nI_pm, nI_1]
theorem fr_act (Lv N a M : Nat) (τ : zS) (x y p : Int32) {b : Nat} (hb : a ≤ b) : frM Lv N a M τ (si (sa (sa (sa τ 7 b x) 8 b y) 9 b p) 23 (nI (b + 1))) := by
  refine ⟨fun j hj => ?_, fun j i hji => ?_, fun j _ => by simp [zs], fun j i _ _ => by simp [zs], fun _ => ⟨by simp [zs], by simp [zs]⟩, fun _ => by simp [zs]⟩
  · unfold exM at hj
    have j1 : j ≠ 23 := by omega
    simp [zs, j1]
  · unfold okM at hji
    simp only [at_sa, at_si]
    rw [if_neg (by omega), if_neg (by omega), if_neg (by omega)]
theorem fr_node (Lv N a M : Nat) (τ : zS) (x y p : Int32) {b : Nat} (hb : N ≤ b) : frM Lv N a M τ (si (sa (sa (sa τ 2 b x) 4 b y) 5 b p) 16 (nI (b + 1))) := by
  refine ⟨fun j hj => ?_, fun j i hji => ?_, fun j _ => by simp [zs], fun j i _ _ => by simp [zs], fun _ => ⟨by simp [zs], by simp [zs]⟩, fun _ => by simp [zs]⟩
  · unfold exM at hj
    have j1 : j ≠ 16 := by omega
    simp [zs, j1]
  · unfold okM at hji
    simp only [at_sa, at_si]
    rw [if_neg (by omega), if_neg (by omega), if_neg (by omega)]
theorem fr_1842 (Lv N a M : Nat) (τ : zS) (x y : Int32) : frM Lv N a M τ (si (si τ 18 x) 42 y) := by
  refine ⟨fun j hj => ?_, fun j i _ => by simp [zs], fun j _ => by simp [zs], fun j i _ _ => by simp [zs], fun _ => ⟨by simp [zs], by simp [zs]⟩, fun _ => by simp [zs]⟩
  unfold exM at hj
  have j1 : j ≠ 18 := by omega
  have j2 : j ≠ 42 := by omega
  simp [zs, j1, j2]
/-- closeOne() as far as addOne(): q is the bracket, 41 or 93 -/
theorem m_close (hB : byt B n) (hF : 1300 ≤ F) (h : mS B n τ k M s N a (L + 1)) (hne : tkS B n k ≠ 0) (hL : L < 8) (hN : N < 1000) (ha : a < 1600) {q nn p pw : Nat} (hq : q = 41 ∨ q = 93) (l17 : ga τ 17 (L + 1) = (if q = 93 then 2 else 1)) (l18 : ga τ 18 (L + 1) = nI p) (l23 : ga τ 23 (L + 1) = nI nn) (l25 : ga τ 25 (L + 1) = nI pw) : ∃ τ3 N3 a3 n3, Md_closeOne F τ = bv (Md_addOne F τ3 (nI n3) (-1) (nI p)) (fun σ => some σ) ∧ mZ B n τ3 M s N3 a3 L ∧ frM (L + 1) N a M τ τ3 ∧ (q = 93 → n3 = N ∧ N3 = N + 1 ∧ a3 = a + 1 ∧ ga τ3 2 N = 3 ∧ ga τ3 4 N = nI nn ∧ acL τ3 a [(1, nn, pw)]) ∧ (q = 41 → n3 = nn ∧ N3 = N ∧ a3 = a) ∧ (∀ j, 10 ≤ j → j ≤ 16 → ga τ3 j = ga τ j) ∧ gb τ3 11 = gb τ 11 ∧ (tkS B n k = nI q → curT B n (k + 1) τ3) ∧ (tkS B n k ≠ nI q → gi τ3 8 = 1 ∧ gi τ3 9 = nI (tkP B n k)) := by
  have hh := h
  obtain ⟨f8, f3, f5, f4⟩ := m_flt h hne
  obtain ⟨h1, h2, h3, h31, h17, h16, h23, h42, h18⟩ := h
  have c42 : inb (gi τ 42) 12 = true := by rw [h42]; exact inb_nI (by omega) (by omega)
  have z42 : (gi τ 42).toNatClampNeg = L + 1 := by rw [h42, nI_clamp (by omega)]
  -- the part from want() on, of a state that may have one act more
  have core : ∀ (τ1 : zS) (a1 : Nat), a ≤ a1 → mS B n τ1 k M s N a1 (L + 1) → frM (L + 1) N a M τ τ1 → ∃ τ2, Md_want F τ1 (nI q) = some τ2 ∧ mZ B n (si (si τ2 18 (gi τ2 18 - 1)) 42 (gi τ2 42 - 1)) M s N a1 L ∧ frM (L + 1) N a M τ (si (si τ2 18 (gi τ2 18 - 1)) 42 (gi τ2 42 - 1)) ∧ (∀ j, ga τ2 j = ga τ1 j) ∧ (∀ j, gb τ2 j = gb τ1 j) ∧ (tkS B n k = nI q → curT B n (k + 1) τ2) ∧ (tkS B n k ≠ nI q → gi τ2 8 = 1 ∧ gi τ2 9 = nI (tkP B n k)) := by
    intro τ1 a1 ha1 hm fr1
    have hq2 : 7 < q ∧ q < 256 ∧ sgM (nI q) = nI q := by rcases hq with z | z <;> subst z <;> decide
    have f81 := (m_flt hm hne).1
    obtain ⟨k1, k2, k3, k31, k17, k16, k23, k42, k18⟩ := hm
    have hm : mS B n τ1 k M s N a1 (L + 1) := ⟨k1, k2, k3, k31, k17, k16, k23, k42, k18⟩
    by_cases e : tkS B n k = nI q
    · obtain ⟨τ2, w1, w2, w3⟩ := m_want1 hB hF hm hne hq2.2.1 hq2.1 e
      rw [hq2.2.2] at w1
      have fr2 := frM_N (L + 1) N a M f81 w2
      obtain ⟨fa1, fa2, fa3, fa4, _⟩ := w2
      have e18 : gi τ2 18 = nI (L + 1) := by rw [fa1 18 (by decide) (by decide) (by decide) (by decide) (by decide) (by decide), k18]
      have e42 : gi τ2 42 = nI (L + 1) := by rw [fa1 42 (by decide) (by decide) (by decide) (by decide) (by decide) (by decide), k42]
      refine ⟨τ2, w1, ?_⟩
      rw [e18, e42, nI_pred]
      refine ⟨⟨?_, ?_, ?_, ?_, ?_, ?_, ?_, ?_⟩, frM_tr (frM_tr fr1 fr2 (Nat.le_refl _) (Nat.le_refl _) (Nat.le_refl _) (Nat.le_refl _)) (fr_1842 _ _ _ _ _ _ _) (Nat.le_refl _) (Nat.le_refl _) (Nat.le_refl _) (Nat.le_refl _), fa2, fa4, fun _ => w3, fun z => absurd e z⟩
      · simp [zs, fa2, k1]
      · simp [zs, fa1, k2]
      · simp [zs, fa1, k31]
      · simp [zs, fa1, k17]
      · simp [zs, fa1, k16]
      · simp [zs, fa1, k23]
      · simp [zs]
      · simp [zs]
    · obtain ⟨w1, w2⟩ := m_want0 (F := F) hB hm hne hq2.2.1 hq2.1 e
      rw [hq2.2.2] at w1
      have e18 : gi (si (si τ1 8 1) 9 (nI (tkP B n k))) 18 = nI (L + 1) := by simp [zs, k18]
      have e42 : gi (si (si τ1 8 1) 9 (nI (tkP B n k))) 42 = nI (L + 1) := by simp [zs, k42]
      refine ⟨_, w1, ?_, ?_, fun j => by simp [zs], fun j => by simp [zs], fun z => absurd z e, fun _ => ⟨by simp [zs], by simp [zs]⟩⟩
      · rw [e18, e42, nI_pred]
        exact ⟨by simp [zs, k1], by simp [zs, k2], by simp [zs, k31], by simp [zs, k17], by simp [zs, k16], by simp [zs, k23], by simp [zs], by simp [zs]⟩
      · exact frM_tr (frM_tr fr1 (w2 (L + 1) N a M) (Nat.le_refl _) (Nat.le_refl _) (Nat.le_refl _) (Nat.le_refl _)) (fr_1842 _ _ _ _ _ _ _) (Nat.le_refl _) (Nat.le_refl _) (Nat.le_refl _) (Nat.le_refl _)
  rcases hq with z | z
  · subst z
    rw [if_neg (by decide)] at l17
    obtain ⟨τ2, w1, w2, w3, w4, w5, w6, w7⟩ := core τ a (Nat.le_refl _) hh (frM_rfl _ _ _ _ _)
    refine ⟨_, N, a, nn, ?_, w2, w3, fun z => absurd z (by decide), fun _ => ⟨rfl, rfl, rfl⟩, fun j _ _ => by simp [zs, w4], by simp [zs, w5], fun z => curT_of (w6 z) (by simp [zs]) (by simp [zs]) (by simp [zs]) (by simp [zs]) (by simp [zs]) (by simp [zs]) (by simp [zs]), fun z => ⟨by simp [zs, (w7 z).1], by simp [zs, (w7 z).2]⟩⟩
    rw [Md_closeOne, gd_t c42, z42, l17, if_neg (by decide), Md_closeOne_18, gd_t c42, if_pos rfl, z42, l23, l18, Md_closeOne_58, if_pos rfl, Md_closeOne_70, show (41 : Int32) = nI 41 from rfl, w1, bv_some, if_pos rfl, Md_closeOne_109]
  · subst z
    rw [if_pos rfl] at l17
    have ha1 := m_act (F := F) h23 ha 1 (nI nn) (nI pw)
    have hm1 : mS B n (si (sa (sa (sa τ 7 a 1) 8 a (nI nn)) 9 a (nI pw)) 23 (nI (a + 1))) k M s N (a + 1) (L + 1) := ⟨by simp [zs, h1], by simp [zs, h2], curT_of h3 (by simp [zs]) (by simp [zs]) (by simp [zs]) (by simp [zs]) (by simp [zs]) (by simp [zs]) (by simp [zs]), by simp [zs, h31], by simp [zs, h17], by simp [zs, h16], by simp [zs], by simp [zs, h42], by simp [zs, h18]⟩
    obtain ⟨τ2, w1, w2, w3, w4, w5, w6, w7⟩ := core _ (a + 1) (by omega) hm1 (fr_act _ _ _ _ _ _ _ _ (Nat.le_refl _))
    have hnd := m_node (F := F) (τ := si (si τ2 18 (gi τ2 18 - 1)) 42 (gi τ2 42 - 1)) w2.2.2.2.2.1 hN 3 (nI nn) 0
    refine ⟨_, N + 1, a + 1, N, ?_, ?_, frM_tr w3 (fr_node _ N a M _ 3 (nI nn) 0 (Nat.le_refl N)) (Nat.le_refl _) (Nat.le_refl _) (Nat.le_refl _) (Nat.le_refl _), fun _ => ⟨rfl, rfl, rfl, ?_, ?_, ?_⟩, fun z => absurd z (by decide), ?_, ?_, ?_, ?_⟩
    · rw [Md_closeOne, gd_t c42, z42, l17, if_pos rfl, Md_closeOne_18, gd_t c42, if_neg (by decide), z42, l23, l18, l25, ha1, bv_some, Md_closeOne_58, if_neg (by decide), Md_closeOne_70, show (93 : Int32) = nI 93 from rfl, w1, bv_some, if_neg (by decide), hnd, bi_some, Md_closeOne_109]
    · obtain ⟨k1, k2, k31, k17, k16, k23, k42, k18⟩ := w2
      exact ⟨by simp only [zs] at k1 ⊢; simpa using k1, by simp only [zs] at k2 ⊢; simpa using k2, by simp only [zs] at k31 ⊢; simpa using k31, by simp only [zs] at k17 ⊢; simpa using k17, by simp [zs], by simp only [zs] at k23 ⊢; simpa using k23, by simp only [zs] at k42 ⊢; simpa using k42, by simp only [zs] at k18 ⊢; simpa using k18⟩
    · simp [at_sa, at_si]
    · simp [at_sa, at_si]
    · refine ⟨⟨?_, ?_, ?_⟩, trivial⟩ <;> simp only [at_sa, at_si, w4] <;> simp <;> rfl
    · intro j j1 j2
      have q1 : j ≠ 2 := by omega
      have q2 : j ≠ 4 := by omega
      have q3 : j ≠ 5 := by omega
      have q4 : j ≠ 7 := by omega
      have q5 : j ≠ 8 := by omega
      have q6 : j ≠ 9 := by omega
      simp [zs, w4, q1, q2, q3, q4, q5, q6]
    · simp [zs, w5]
    · intro z
      exact curT_of (w6 z) (by simp [zs]) (by simp [zs]) (by simp [zs]) (by simp [zs]) (by simp [zs]) (by simp [zs]) (by simp [zs])
    · intro z
      exact ⟨by simp [zs, (w7 z).1], by simp [zs, (w7 z).2]⟩
end PM
