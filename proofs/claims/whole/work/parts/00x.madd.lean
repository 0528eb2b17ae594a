/-! The reference's reader of types: addOne, endSome. Own text. -/
theorem curT_of {B : Nat → Int32} {n k : Nat} {τ τ' : zS} (h : curT B n k τ) (h3 : gi τ' 3 = gi τ 3) (h4 : gi τ' 4 = gi τ 4) (h5 : gi τ' 5 = gi τ 5) (h7 : gi τ' 7 = gi τ 7) (h8 : gi τ' 8 = gi τ 8) (h9 : gi τ' 9 = gi τ 9) (h6 : gl τ' 6 = gl τ 6) : curT B n k τ' := by
  unfold curT at h ⊢
  rw [h3, h4, h5, h7, h8, h9, h6]
  exact h
def mZ (B : Nat → Int32) (n : Nat) (τ : zS) (M s N a L : Nat) : Prop :=
  ga τ 1 = B ∧ gi τ 2 = nI n ∧ gi τ 31 = nI M ∧ gi τ 17 = nI s ∧ gi τ 16 = nI N ∧ gi τ 23 = nI a ∧ gi τ 42 = nI L ∧ gi τ 18 = nI L
theorem mS_Z {B : Nat → Int32} {n : Nat} {τ : zS} {k M s N a L : Nat} (h : mS B n τ k M s N a L) : mZ B n τ M s N a L ∧ curT B n k τ := ⟨⟨h.1, h.2.1, h.2.2.2⟩, h.2.2.1⟩
theorem mZ_S {B : Nat → Int32} {n : Nat} {τ : zS} {k M s N a L : Nat} (h : mZ B n τ M s N a L) (g : curT B n k τ) : mS B n τ k M s N a L := ⟨h.1, h.2.1, g, h.2.2⟩
section PM
variable {F : Nat} {B : Nat → Int32} {n : Nat} {τ : zS} {k M s N a L : Nat}
theorem m_add1 (h : mZ B n τ M s N a L) (hL : L < 12) {x hd bh sp w la wp : Int32} (hv : lvM τ L x hd bh sp w la wp) (hx : x < 0) (nn mt p : Int32) : ∃ τ', Md_addOne F τ nn mt p = some τ' ∧ mZ B n τ' M s N a L ∧ (∀ j, gi τ' j = gi τ j) ∧ (∀ j, gl τ' j = gl τ j) ∧ (∀ N' a' M', frM L N' a' M' τ τ') ∧ lvM τ' L nn mt 0 p w la (if wp < 0 then p else wp) ∧ (∀ j, j < 17 → ga τ' j = ga τ j) ∧ (∀ j, gb τ' j = gb τ j) ∧ ga τ' 17 = ga τ 17 ∧ ga τ' 18 = ga τ 18 := by
  obtain ⟨h1, h2, h31, h17, h16, h23, h42, h18⟩ := h
  obtain ⟨v1, v2, v3, v4, v5, v6, v7⟩ := hv
  refine ⟨sa (sa (sa (sa (sa τ 19 L nn) 20 L mt) 21 L 0) 22 L p) 25 L (if wp < 0 then p else wp), ?_, ⟨by simp [zs, h1], by simp [zs, h2], by simp [zs, h31], by simp [zs, h17], by simp [zs, h16], by simp [zs, h23], by simp [zs, h42], by simp [zs, h18]⟩, fun j => by simp [zs], fun j => by simp [zs], fun N' a' M' => ⟨fun j _ => by simp [zs], fun j i hji => ?_, fun j _ => by simp [zs], fun j i _ _ => by simp [zs], fun _ => ⟨by simp [zs], by simp [zs]⟩, fun _ => by simp [zs]⟩, ⟨?_, ?_, ?_, ?_, ?_, ?_, ?_⟩, fun j hj => ?_, fun j => by simp [zs], by simp [zs], by simp [zs]⟩
  · rw [Md_addOne, h42, nI_clamp (by omega), gd_t (inb_nI hL (by omega)), v1, v7, if_neg (show ¬ 0 ≤ x by rw [Int32.le_iff_toInt_le]; rw [Int32.lt_iff_toInt_lt] at hx; omega)]
    unfold Md_addOne_85
    rw [gd_t (inb_nI hL (by omega)), gd_t (inb_nI hL (by omega)), nI_clamp (by omega)]
    by_cases q : wp < 0
    · rw [if_pos q, if_neg (show ¬ 0 ≤ wp by rw [Int32.le_iff_toInt_le]; rw [Int32.lt_iff_toInt_lt] at q; omega)]
    · rw [if_neg q, if_pos (show 0 ≤ wp by rw [Int32.le_iff_toInt_le]; rw [Int32.lt_iff_toInt_lt] at q; omega)]
  · unfold okM at hji
    simp only [at_sa]
    rw [if_neg (by omega), if_neg (by omega), if_neg (by omega), if_neg (by omega), if_neg (by omega)]
  · simp [at_sa]
  · simp [at_sa]
  · simp [at_sa]
  · simp [at_sa]
  · simp [at_sa, v5]
  · simp [at_sa, v6]
  · simp [at_sa]
  · have j1 : j ≠ 19 := by omega
    have j2 : j ≠ 20 := by omega
    have j3 : j ≠ 21 := by omega
    have j4 : j ≠ 22 := by omega
    have j5 : j ≠ 25 := by omega
    simp [zs, j1, j2, j3, j4, j5]
theorem m_addn (h : mZ B n τ M s N a L) (hL : L < 12) (hN : N < 1000) (ha : a < 1600) {x b : Nat} (hx : x < 1000) {hd sp w la wp : Int32} (hv : lvM τ L (nI x) hd (nI b) sp w la wp) (nn p : Int32) {mt : Int32} {M0 : Nat} (hmt : mt = -1 ∨ ∃ m, mt = nI m ∧ M0 ≤ m ∧ m < 1400) : ∃ τ', Md_addOne F τ nn mt p = some τ' ∧ mZ B n τ' M s (N + 1) (a + 1) L ∧ (∀ j, j ≠ 16 → j ≠ 23 → gi τ' j = gi τ j) ∧ (∀ j, gl τ' j = gl τ j) ∧ frM L N a M0 τ τ' ∧ lvM τ' L (nI N) hd (nI (b + 1)) sp w la wp ∧ (ga τ' 2 N = 2 ∧ ga τ' 4 N = nI x ∧ ga τ' 5 N = nn) ∧ (ga τ' 7 a = 0 ∧ ga τ' 8 a = nI N ∧ ga τ' 9 a = p) ∧ (∀ j, 10 ≤ j → j < 15 → ga τ' j = ga τ j) ∧ ga τ' 16 = ga τ 16 ∧ (∀ j, gb τ' j = gb τ j) ∧ (∀ m, mt = nI m → m < 1400 → ga τ' 15 m = 0) ∧ (∀ i, (∀ m, mt = nI m → m < 1400 → i ≠ m) → ga τ' 15 i = ga τ 15 i) ∧ ga τ' 17 = ga τ 17 ∧ ga τ' 18 = ga τ 18 := by
  obtain ⟨h1, h2, h31, h17, h16, h23, h42, h18⟩ := h
  obtain ⟨v1, v2, v3, v4, v5, v6, v7⟩ := hv
  have nar : vp_nar .boolean (0 : Int32) = 0 := by decide
  have core : ∀ τ1 : zS, gi τ1 42 = nI L → ga τ1 19 L = nI x → ga τ1 21 L = nI b → gi τ1 16 = nI N → gi τ1 23 = nI a → Md_addOne_98 F τ1 nn p = some (sa (si (sa (sa (sa (sa (si (sa (sa (sa τ1 2 N 2) 4 N (nI x)) 5 N nn) 16 (nI (N + 1))) 19 L (nI N)) 7 a 0) 8 a (nI N)) 9 a p) 23 (nI (a + 1))) 21 L (nI (b + 1))) := by
    intro τ1 q42 q19 q21 q16 q23
    have hnode : Md_node F τ1 2 (nI x) nn = some (nI N, si (sa (sa (sa τ1 2 N 2) 4 N (nI x)) 5 N nn) 16 (nI (N + 1))) := by
      rw [Md_node, q16, gd_t (inb_nI hN (by omega)), nI_clamp (by omega), nI_pm, nI_1]
    rw [Md_addOne_98, q42, gd_t (inb_nI hL (by omega)), nI_clamp (by omega), q19, hnode, bi_some]
    have e42 : gi (si (sa (sa (sa τ1 2 N 2) 4 N (nI x)) 5 N nn) 16 (nI (N + 1))) 42 = nI L := by simp [zs, q42]
    have e19 : ga (sa (si (sa (sa (sa τ1 2 N 2) 4 N (nI x)) 5 N nn) 16 (nI (N + 1))) 19 L (nI N)) 19 L = nI N := by simp [at_sa]
    rw [e42, gd_t (inb_nI hL (by omega)), nI_clamp (by omega), e19]
    have hact : Md_act F (sa (si (sa (sa (sa τ1 2 N 2) 4 N (nI x)) 5 N nn) 16 (nI (N + 1))) 19 L (nI N)) 0 (nI N) p = some (si (sa (sa (sa (sa (si (sa (sa (sa τ1 2 N 2) 4 N (nI x)) 5 N nn) 16 (nI (N + 1))) 19 L (nI N)) 7 a 0) 8 a (nI N)) 9 a p) 23 (nI (a + 1))) := by
      have e23 : gi (sa (si (sa (sa (sa τ1 2 N 2) 4 N (nI x)) 5 N nn) 16 (nI (N + 1))) 19 L (nI N)) 23 = nI a := by simp [zs, q23]
      rw [Md_act, e23, gd_t (inb_nI ha (by omega)), nI_clamp (by omega), nI_1]
    rw [hact, bv_some]
    have f42 : gi (si (sa (sa (sa (sa (si (sa (sa (sa τ1 2 N 2) 4 N (nI x)) 5 N nn) 16 (nI (N + 1))) 19 L (nI N)) 7 a 0) 8 a (nI N)) 9 a p) 23 (nI (a + 1))) 42 = nI L := by simp [zs, q42]
    have f21 : ga (si (sa (sa (sa (sa (si (sa (sa (sa τ1 2 N 2) 4 N (nI x)) 5 N nn) 16 (nI (N + 1))) 19 L (nI N)) 7 a 0) 8 a (nI N)) 9 a p) 23 (nI (a + 1))) 21 L = nI b := by simp [at_sa, at_si, q21]
    rw [f42, gd_t (inb_nI hL (by omega)), nI_clamp (by omega), f21, nI_1]
  obtain ⟨τ1, e1, r1, r2, r3, r4, r5, r6⟩ : ∃ τ1, Md_addOne F τ nn mt p = Md_addOne_98 F τ1 nn p ∧ (∀ j, gi τ1 j = gi τ j) ∧ (∀ j, j ≠ 15 → ga τ1 j = ga τ j) ∧ (∀ j, gl τ1 j = gl τ j) ∧ (∀ j, gb τ1 j = gb τ j) ∧ (∀ m, mt = nI m → m < 1400 → ga τ1 15 m = 0) ∧ (∀ i, (∀ m, mt = nI m → m < 1400 → i ≠ m) → ga τ1 15 i = ga τ 15 i) := by
    rcases hmt with q | ⟨m, q, hm, hm2⟩
    · refine ⟨τ, ?_, fun _ => rfl, fun _ _ => rfl, fun _ => rfl, fun _ => rfl, ?_, fun _ _ => rfl⟩
      · rw [Md_addOne, h42, nI_clamp (by omega), gd_t (inb_nI hL (by omega)), v1, if_pos (nI_pos' (by omega)), if_pos (by rw [q]; decide)]
      · intro m e hm
        rw [q] at e
        have := nI_pos (n := m) (by omega)
        rw [← e] at this
        exact absurd (by decide) this
    · refine ⟨sa τ 15 m 0, ?_, fun _ => by simp [zs], fun j hj => by simp [zs, hj], fun _ => by simp [zs], fun _ => by simp [zs], ?_, ?_⟩
      · rw [Md_addOne, h42, nI_clamp (by omega), gd_t (inb_nI hL (by omega)), v1, if_pos (nI_pos' (by omega)), q, if_neg (nI_pos (by omega)), gd_t (inb_nI hm2 (by omega)), nI_clamp (by omega), nar]
      · intro m' e hm'
        rw [q] at e
        have := (nI_eq (a := m) (b := m') (by omega) (by omega)).mp e
        subst this
        simp [at_sa]
      · intro i hi
        have := hi m q hm2
        simp [at_sa, this]
  have e2 := core τ1 (by rw [r1, h42]) (by rw [r2 19 (by decide), v1]) (by rw [r2 21 (by decide), v3]) (by rw [r1, h16]) (by rw [r1, h23])
  refine ⟨_, e1.trans e2, ⟨?_, ?_, ?_, ?_, ?_, ?_, ?_, ?_⟩, fun j j1 j2 => by simp [zs, j1, j2, r1], fun j => by simp [zs, r3], ⟨fun j hj => ?_, fun j i hji => ?_, fun j _ => ?_, fun j i _ _ => ?_, fun _ => ⟨?_, ?_⟩, fun _ => ?_⟩, ⟨?_, ?_, ?_, ?_, ?_, ?_, ?_⟩, ⟨?_, ?_, ?_⟩, ⟨?_, ?_, ?_⟩, fun j j1 j2 => ?_, ?_, fun j => ?_, fun m e hm => ?_, fun i hi => ?_, ?_, ?_⟩
  · simp [zs, r2, h1]
  · simp [zs, r1, h2]
  · simp [zs, r1, h31]
  · simp [zs, r1, h17]
  · simp [zs]
  · simp [zs]
  · simp [zs, r1, h42]
  · simp [zs, r1, h18]
  · unfold exM at hj
    have j1 : j ≠ 16 := by omega
    have j2 : j ≠ 23 := by omega
    simp [zs, j1, j2, r1]
  · unfold okM at hji
    simp only [at_sa, at_si]
    rw [if_neg (by omega), if_neg (by omega), if_neg (by omega), if_neg (by omega), if_neg (by omega), if_neg (by omega), if_neg (by omega), if_neg (by omega)]
    by_cases q : j = 15
    · subst q
      apply r6
      intro m e hm
      rcases hmt with z | ⟨m', z, z1, z2⟩
      · rw [z] at e
        have := nI_pos (n := m) (by omega)
        rw [← e] at this
        exact absurd (by decide) this
      · rw [z] at e
        have := (nI_eq (a := m') (b := m) (by omega) (by omega)).mp e
        have := hji.2.2.1 (by omega)
        omega
    · rw [r2 j q]
  · simp [zs, r3]
  · simp [zs, r4]
  · simp [zs, r1]
  · simp [zs, r1]
  · simp [zs, r1]
  · simp [at_sa, at_si]
  · simp [at_sa, at_si, r2, v2]
  · simp [at_sa]
  · simp [at_sa, at_si, r2, v4]
  · simp [at_sa, at_si, r2, v5]
  · simp [at_sa, at_si, r2, v6]
  · simp [at_sa, at_si, r2, v7]
  · simp [at_sa, at_si]
  · simp [at_sa, at_si]
  · simp [at_sa, at_si]
  · simp [at_sa, at_si]
  · simp [at_sa, at_si]
  · simp [at_sa, at_si]
  · have k1 : j ≠ 2 := by omega
    have k2 : j ≠ 4 := by omega
    have k3 : j ≠ 5 := by omega
    have k4 : j ≠ 7 := by omega
    have k5 : j ≠ 8 := by omega
    have k6 : j ≠ 9 := by omega
    have k7 : j ≠ 19 := by omega
    have k8 : j ≠ 21 := by omega
    have k9 : j ≠ 15 := by omega
    simp [zs, k1, k2, k3, k4, k5, k6, k7, k8, r2 j k9]
  · simp [zs, r2]
  · simp [zs, r4]
  · have := r5 m e hm
    simp [at_sa, at_si, this]
  · have := r6 i hi
    simp [at_sa, at_si, this]
  · simp [zs, r2]
  · simp [zs, r2]
end PM
