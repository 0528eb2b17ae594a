/-! The reference at an arrow, and at a type's end. Own text. -/
section PM
variable {F : Nat} {B : Nat → Int32} {n : Nat} {τ : zS} {k M s N a L : Nat}
theorem ro_55s (hB : byt B n) (h : mS B n τ k M s N a L) (hne : tkS B n k ≠ 0) (hst : ¬ stO (tkS B n k)) (hL : L < 12) {nn : Nat} (hnn : nn < 1000) (h19 : ga τ 19 L = nI nn) (rc : zS → Int32 → Option (Int32 × zS)) (x : Int32) : (tkS B n k = 45 → Md_readOpen_55 F rc τ x = bv (Md_count F τ) (fun σ17 => bv (Md_endSome F σ17) (fun σ19 => gd (inb (gi σ19 42) 12) (bv (Md_act F σ19 (1 : Int32) (ga σ19 19 (gi σ19 42).toNatClampNeg) (ga σ19 22 (gi σ19 42).toNatClampNeg)) (fun σ22 => gd (inb (gi σ22 42) 12) (bv (Md_next F (sa σ22 19 (gi σ22 42).toNatClampNeg (-1 : Int32))) (fun σ25 => rc σ25 x))))))) ∧ (tkS B n k ≠ 45 → Md_readOpen_55 F rc τ x = bv (Md_endSome F τ) (fun σ11 => gd (inb (gi σ11 42) 12) (if (ga σ11 24 (gi σ11 42).toNatClampNeg) < 0 then (Md_readOpen_185 F rc σ11 x) else (bv (Md_act F σ11 (1 : Int32) (ga σ11 19 (gi σ11 42).toNatClampNeg) (ga σ11 22 (gi σ11 42).toNatClampNeg)) (fun σ15 => Md_readOpen_185 F rc σ15 x))))) := by
  have sg := m_sign (F := F) hB h hne (y := 45) (by omega) (by omega)
  have e45 : sgM (nI 45) = 1000 := by decide
  rw [e45] at sg
  have h42 := h.2.2.2.2.2.2.2.1
  have hin : inb (gi τ 42) 12 = true := by rw [h42]; exact inb_nI hL (by omega)
  have hcl : (gi τ 42).toNatClampNeg = L := by rw [h42, nI_clamp (by omega)]
  constructor
  · intro q
    rw [Md_readOpen_55, (m_canB hB h hne).2 hst, bi_some, if_pos rfl, gd_t hin, hcl, h19, if_pos (nI_pos' (by omega)), sg.1 q, bi_some, if_neg (by decide)]
  · intro q
    rw [Md_readOpen_55, (m_canB hB h hne).2 hst, bi_some, if_pos rfl, gd_t hin, hcl, h19, if_pos (nI_pos' (by omega)), sg.2 q, bi_some, if_pos rfl]
theorem lvM_of {τ τ' : zS} {x hd bh sp w la wp : Int32} (h : lvM τ L x hd bh sp w la wp) (g : ∀ j, 17 ≤ j → ga τ' j = ga τ j) : lvM τ' L x hd bh sp w la wp := by
  unfold lvM at h ⊢
  rw [g 19 (by omega), g 20 (by omega), g 21 (by omega), g 22 (by omega), g 23 (by omega), g 24 (by omega), g 25 (by omega)]
  exact h
/-- the arrow: count, endSome, act, next -/
theorem m_arrow (hB : byt B n) (hF : 1300 ≤ F) (h : mS B n τ k M s N a L) (hne : tkS B n k ≠ 0) (hs : tkS B n k = 45) (hL : L < 12) (hN : N < 1000) (ha : a < 1600) (hs2 : s ≤ 200) {hd sp w la wp pr me : Int32} {nn b lo Ns Mh : Nat} (hv : lvM τ L (nI nn) hd (nI b) sp w la wp) (hhd : hd = -1 ∨ ∃ m, hd = nI m ∧ m < 1400 ∧ Mh ≤ m) {ls : List TE} {t : TE} {Ap At : List AE} (hp : pdM τ pr me lo Ns ls w la Ap) (hlo : lo ≤ Ns) (hNs : Ns ≤ N) (ht : nd τ pr me Ns N t nn At) (hR : isR t = false) : ∃ τ' N' w' la', N ≤ N' ∧ N' ≤ N + 1 ∧ (ls = [] → N' = N) ∧ frM L lo a Mh τ τ' ∧ (s < 200 → mS B n τ' (k + 1) M (s + 1) N' (a + 1) L) ∧ (s = 200 → gi τ' 8 = 2 ∧ gi τ' 9 = nI (tkP B n k)) ∧ (gi τ' 23 = nI (a + 1) ∧ gi τ' 16 = nI N') ∧ (∀ j, 10 ≤ j → j < 16 → ga τ' j = ga τ j) ∧ (∀ j, gb τ' j = gb τ j) ∧ (∀ m, hd = nI m → m < 1400 → ga τ' 16 m = nI b) ∧ (∀ i, (∀ m, hd = nI m → m < 1400 → i ≠ m) → ga τ' 16 i = ga τ 16 i) ∧ lvM τ' L (-1) hd (nI b) sp w' la' wp ∧ ga τ' 17 = ga τ 17 ∧ ga τ' 18 = ga τ 18 ∧ pdM τ' pr me lo N' (ls ++ [t]) w' la' (Ap ++ (At ++ [(1, nn, plT t)])) ∧ (∀ i, i < a → ga τ' 7 i = ga τ 7 i ∧ ga τ' 8 i = ga τ 8 i ∧ ga τ' 9 i = ga τ 9 i) ∧ (ga τ' 7 a = 1 ∧ ga τ' 8 a = nI nn ∧ ga τ' 9 a = sp) ∧ ∀ (rc : zS → Int32 → Option (Int32 × zS)) (x : Int32), Md_readOpen_55 F rc τ x = rc τ' x := by
  have hst : ¬ stO (tkS B n k) := by rw [hs]; unfold stO; decide
  have hnn := (nd_lt t nn At ht).2
  have h55 := fun rc x => (ro_55s (F := F) hB h hne hst hL (nn := nn) (by omega) hv.1 rc x).1 hs
  obtain ⟨f8, f3, f5, f4⟩ := m_flt h hne
  have hx := h
  obtain ⟨h1, h2, h3, h31, h17, h16, h23, h42, h18⟩ := h
  -- count
  obtain ⟨τa, ca, sa', hsa, hZa, fra, gaa, gba, gla, ra, ra8⟩ : ∃ τa, Md_count F τ = some τa ∧ ∃ s', (s < 200 → s' = s + 1) ∧ mZ B n τa M s' N a L ∧ frM L lo a Mh τ τa ∧ (∀ j, ga τa j = ga τ j) ∧ (∀ j, gb τa j = gb τ j) ∧ (∀ j, gl τa j = gl τ j) ∧ (∀ j, j ≠ 17 → j ≠ 8 → j ≠ 9 → gi τa j = gi τ j) ∧ ((s < 200 ∧ gi τa 8 = gi τ 8 ∧ gi τa 9 = gi τ 9) ∨ (s = 200 ∧ gi τa 8 = 2 ∧ gi τa 9 = nI (tkP B n k))) := by
    rcases Nat.lt_or_ge s 200 with q | q
    · refine ⟨_, m_cnt1 h17 q, s + 1, fun _ => rfl, ⟨by simp [zs, h1], by simp [zs, h2], by simp [zs, h31], by simp [zs], by simp [zs, h16], by simp [zs, h23], by simp [zs, h42], by simp [zs, h18]⟩, ⟨fun j hj => ?_, fun j i _ => by simp [zs], fun j _ => by simp [zs], fun j i _ _ => by simp [zs], fun z => absurd f8 z, fun _ => by simp [zs]⟩, fun j => by simp [zs], fun j => by simp [zs], fun j => by simp [zs], fun j j1 _ _ => by simp [zs, j1], Or.inl ⟨q, by simp [zs], by simp [zs]⟩⟩
      unfold exM at hj
      have j1 : j ≠ 17 := by omega
      simp [zs, j1]
    · have : s = 200 := by omega
      subst this
      obtain ⟨c1, c2⟩ := m_cnt0 (F := F) (N := lo) (a := a) (M := Mh) h17 f8 L
      refine ⟨_, c1, 201, fun z => absurd z (by omega), ⟨by simp [zs, h1], by simp [zs, h2], by simp [zs, h31], ?_, by simp [zs, h16], by simp [zs, h23], by simp [zs, h42], by simp [zs, h18]⟩, c2, fun j => by simp [zs], fun j => by simp [zs], fun j => by simp [zs], fun j j1 j2 j3 => by simp [zs, j1, j2, j3], Or.inr ⟨rfl, by simp [zs], by simp [zs, f5]⟩⟩
      simp [zs]; rfl
  have lowA : ∀ i, ga τa 2 i = ga τ 2 i ∧ gb τa 3 i = gb τ 3 i ∧ ga τa 4 i = ga τ 4 i ∧ ga τa 5 i = ga τ 5 i := fun i => ⟨by rw [gaa], by rw [gba], by rw [gaa], by rw [gaa]⟩
  obtain ⟨τb, N', w', la', nw, eb, N1, N2, N3, hZb, ib, lb, bb, frb, ab, mb1, mb2, lvb, l17, l18, hla, hw', hnw, pdb, ndb⟩ := m_es (F := F) hZa hL hN (lvM_of hv (fun j _ => gaa j)) hhd (pdM_fr (Nat.le_refl _) (fun i _ => lowA i) hp) hlo hNs (nd_mono (τ := τ) (Nat.le_refl _) (Nat.le_refl _) (fun i _ _ => lowA i) t nn At ht) hR hnn
  obtain ⟨b1, b2, b31, b17, b16, b23, b42, b18⟩ := hZb
  -- act
  have hact := m_act (F := F) b23 ha 1 (nI nn) sp
  obtain ⟨τd, ed⟩ : ∃ τd, τd = sa (si (sa (sa (sa τb 7 a 1) 8 a (nI nn)) 9 a sp) 23 (nI (a + 1))) 19 L (-1) := ⟨_, rfl⟩
  have d1 : ga τd 1 = B := by rw [ed]; simp [zs, b1]
  have d2 : gi τd 2 = nI n := by rw [ed]; simp [zs, b2]
  have d3 : gi τd 3 = nI (lxE B n (k + 1)) := by rw [ed]; simp [zs, ib, ra, f3]
  have d8 : gi τd 8 = gi τa 8 := by rw [ed]; simp [zs, ib]
  have d9 : gi τd 9 = gi τa 9 := by rw [ed]; simp [zs, ib]
  have frd : frM L lo a Mh τb τd := by
    subst ed
    refine ⟨fun j hj => ?_, fun j i hji => ?_, fun j _ => by simp [zs], fun j i _ _ => by simp [zs], fun _ => ⟨by simp [zs], by simp [zs]⟩, fun _ => by simp [zs]⟩
    · unfold exM at hj
      have j1 : j ≠ 23 := by omega
      simp [zs, j1]
    · unfold okM at hji
      simp only [at_sa, at_si]
      rw [if_neg (by omega), if_neg (by omega), if_neg (by omega), if_neg (by omega)]
  have frad : frM L lo a Mh τ τd := frM_tr (frM_tr fra frb (Nat.le_refl _) (Nat.le_refl _) (Nat.le_refl _) (Nat.le_refl _)) frd (Nat.le_refl _) (Nat.le_refl _) (Nat.le_refl _) (Nat.le_refl _)
  -- next
  obtain ⟨τ', e', fr', ga', gb', gi', cu'⟩ : ∃ τ', Md_next F τd = some τ' ∧ frM L lo a Mh τd τ' ∧ (∀ j, ga τ' j = ga τd j) ∧ (∀ j, gb τ' j = gb τd j) ∧ (∀ j, j ≠ 3 → j ≠ 4 → j ≠ 5 → j ≠ 7 → j ≠ 8 → j ≠ 9 → gi τ' j = gi τd j) ∧ ((s < 200 ∧ curT B n (k + 1) τ') ∨ (s = 200 ∧ gi τ' 8 = 2 ∧ gi τ' 9 = nI (tkP B n k))) := by
    rcases ra8 with ⟨q, q8, q9⟩ | ⟨q, q8, q9⟩
    · obtain ⟨τ', e, fr, cu⟩ := m_next (F := F) (k := k) hB hF d1 d2 (by rw [d8, q8, f8]) d3
      exact ⟨τ', e, frM_N _ _ _ _ (by rw [d8, q8, f8]) fr, fr.2.1, fr.2.2.2.1, fr.1, Or.inl ⟨q, cu⟩⟩
    · subst d1
      obtain ⟨τ', e, fr⟩ := next_flt (F := F) (τ := τd) hB d2 (by rw [d8, q8]; decide) hF (a := lxE (ga τd 1) n (k + 1)) (lxE_le _ _ _) d3
      exact ⟨τ', e, frM_X _ _ _ _ fr, fr.2.1, fr.2.2.2, fun j j1 j2 j3 _ _ _ => fr.1 j j1 j2 j3, Or.inr ⟨q, by rw [fr.1 8 (by decide) (by decide) (by decide), d8, q8], by rw [fr.1 9 (by decide) (by decide) (by decide), d9, q9]⟩⟩
  have low : ∀ i, ga τ' 2 i = ga τb 2 i ∧ gb τ' 3 i = gb τb 3 i ∧ ga τ' 4 i = ga τb 4 i ∧ ga τ' 5 i = ga τb 5 i := fun i => ⟨by rw [ga', ed]; simp [zs], by rw [gb', ed]; simp [zs], by rw [ga', ed]; simp [zs], by rw [ga', ed]; simp [zs]⟩
  refine ⟨τ', N', w', la', N1, N2, N3, frM_tr frad fr' (Nat.le_refl _) (Nat.le_refl _) (Nat.le_refl _) (Nat.le_refl _), fun q => ?_, fun q => ?_, ?_, fun j j1 j2 => ?_, fun j => ?_, fun m q hm => ?_, fun i hi => ?_, ⟨?_, ?_, ?_, ?_, ?_, ?_, ?_⟩, ?_, ?_, pdM_fr (Nat.le_refl _) (fun i _ => low i) pdb, fun i hi => ?_, ⟨?_, ?_, ?_⟩, fun rc x => ?_⟩
  · rcases cu' with ⟨_, cu⟩ | ⟨q2, _⟩
    · have := hsa q
      subst this
      refine ⟨by rw [ga', d1], ?_, cu, ?_, ?_, ?_, ?_, ?_, ?_⟩
      · rw [gi' 2 (by decide) (by decide) (by decide) (by decide) (by decide) (by decide), d2]
      · rw [gi' 31 (by decide) (by decide) (by decide) (by decide) (by decide) (by decide), ed]; simp [zs, b31]
      · rw [gi' 17 (by decide) (by decide) (by decide) (by decide) (by decide) (by decide), ed]; simp [zs, b17]
      · rw [gi' 16 (by decide) (by decide) (by decide) (by decide) (by decide) (by decide), ed]; simp [zs, b16]
      · rw [gi' 23 (by decide) (by decide) (by decide) (by decide) (by decide) (by decide), ed]; simp [zs]
      · rw [gi' 42 (by decide) (by decide) (by decide) (by decide) (by decide) (by decide), ed]; simp [zs, b42]
      · rw [gi' 18 (by decide) (by decide) (by decide) (by decide) (by decide) (by decide), ed]; simp [zs, b18]
    · omega
  · rcases cu' with ⟨q2, _⟩ | ⟨_, q2⟩
    · omega
    · exact q2
  · constructor
    · rw [gi' 23 (by decide) (by decide) (by decide) (by decide) (by decide) (by decide), ed]; simp [zs]
    · rw [gi' 16 (by decide) (by decide) (by decide) (by decide) (by decide) (by decide), ed]; simp [zs, b16]
  · have k1 : j ≠ 7 := by omega
    have k2 : j ≠ 8 := by omega
    have k3 : j ≠ 9 := by omega
    have k4 : j ≠ 19 := by omega
    rw [ga', ed]
    simp [zs, k1, k2, k3, k4, ab j (by omega) j2, gaa]
  · rw [gb', ed]; simp [zs, bb, gba]
  · rw [ga', ed]; simp [zs, mb1 m q hm]
  · rw [ga', ed]; simp [zs, mb2 i hi, gaa]
  · rw [ga', ed]; simp [at_sa]
  · rw [ga', ed]; simp [zs, lvb.2.1]
  · rw [ga', ed]; simp [zs, lvb.2.2.1]
  · rw [ga', ed]; simp [zs, lvb.2.2.2.1]
  · rw [ga', ed]; simp [zs, lvb.2.2.2.2.1]
  · rw [ga', ed]; simp [zs, lvb.2.2.2.2.2.1]
  · rw [ga', ed]; simp [zs, lvb.2.2.2.2.2.2]
  · rw [ga', ed]; simp [zs, l17, gaa]
  · rw [ga', ed]; simp [zs, l18, gaa]
  · have hi2 : i ≠ a := by omega
    rw [ga', ga', ga', ed]
    simp [at_sa, at_si, hi2, ab 7 (by omega) (by omega), ab 8 (by omega) (by omega), ab 9 (by omega) (by omega), gaa]
  · rw [ga', ed]; simp [at_sa, at_si]
  · rw [ga', ed]; simp [at_sa, at_si]
  · rw [ga', ed]; simp [at_sa, at_si]
  · have c42 : gi (si (sa (sa (sa τb 7 a 1) 8 a (nI nn)) 9 a sp) 23 (nI (a + 1))) 42 = nI L := by simp [zs, b42]
    rw [h55, ca, bv_some, eb, bv_some, b42, gd_t (inb_nI hL (by omega)), nI_clamp (by omega), lvb.1, lvb.2.2.2.1, hact, bv_some, c42, gd_t (inb_nI hL (by omega)), nI_clamp (by omega), ← ed, e', bv_some]
/-- the end of a type: endSome, and the act of its last part if there is an arrow -/
theorem m_tend (hB : byt B n) (h : mS B n τ k M s N a L) (hne : tkS B n k ≠ 0) (hst : ¬ stO (tkS B n k)) (hs : tkS B n k ≠ 45) (hL : L < 12) (hN : N < 1000) (ha : a < 1600) {hd sp w la wp pr me : Int32} {nn b lo Ns Mh : Nat} (hv : lvM τ L (nI nn) hd (nI b) sp w la wp) (hhd : hd = -1 ∨ ∃ m, hd = nI m ∧ m < 1400 ∧ Mh ≤ m) {ls : List TE} {t : TE} {Ap At : List AE} (hp : pdM τ pr me lo Ns ls w la Ap) (hlo : lo ≤ Ns) (hNs : Ns ≤ N) (ht : nd τ pr me Ns N t nn At) (hR : isR t = false) : ∃ τ' N' nw, N ≤ N' ∧ N' ≤ N + 1 ∧ (ls = [] → N' = N) ∧ frM L lo a Mh τ τ' ∧ mS B n τ' k M s N' (if ls = [] then a else a + 1) L ∧ (∀ j, 10 ≤ j → j < 16 → ga τ' j = ga τ j) ∧ (∀ j, gb τ' j = gb τ j) ∧ (∀ m, hd = nI m → m < 1400 → ga τ' 16 m = nI b) ∧ (∀ i, (∀ m, hd = nI m → m < 1400 → i ≠ m) → ga τ' 16 i = ga τ 16 i) ∧ ga τ' 23 L = nI nw ∧ ga τ' 25 L = wp ∧ ga τ' 17 = ga τ 17 ∧ ga τ' 18 = ga τ 18 ∧ nd τ' pr me lo N' (fT ls t) nw (Ap ++ (At ++ if ls = [] then [] else [(1, nn, plT t)])) ∧ (∀ i, i < a → ga τ' 7 i = ga τ 7 i ∧ ga τ' 8 i = ga τ 8 i ∧ ga τ' 9 i = ga τ 9 i) ∧ (ls ≠ [] → ga τ' 7 a = 1 ∧ ga τ' 8 a = nI nn ∧ ga τ' 9 a = sp) ∧ ∀ (rc : zS → Int32 → Option (Int32 × zS)) (x : Int32), Md_readOpen_55 F rc τ x = Md_readOpen_185 F rc τ' x := by
  have hnn := (nd_lt t nn At ht).2
  have h55 := fun rc x => (ro_55s (F := F) hB h hne hst hL (nn := nn) (by omega) hv.1 rc x).2 hs
  obtain ⟨hZ, hcu⟩ := mS_Z h
  obtain ⟨τb, N', w', la', nw, eb, N1, N2, N3, hZb, ib, lb, bb, frb, ab, mb1, mb2, lvb, l17, l18, hla, hw', hnw, pdb, ndb⟩ := m_es (F := F) hZ hL hN hv hhd hp hlo hNs ht hR hnn
  have hcub : curT B n k τb := curT_of hcu (ib 3 (by decide)) (ib 4 (by decide)) (ib 5 (by decide)) (ib 7 (by decide)) (ib 8 (by decide)) (ib 9 (by decide)) (lb 6)
  have b42 := hZb.2.2.2.2.2.2.1
  have b23 := hZb.2.2.2.2.2.1
  by_cases q : ls = []
  · rw [if_pos q]
    refine ⟨τb, N', nw, N1, N2, N3, frb, mZ_S hZb hcub, fun j j1 j2 => ab j (by omega) j2, bb, mb1, mb2, by rw [lvb.2.2.2.2.1, hw'], lvb.2.2.2.2.2.2, l17, l18, ?_, fun i _ => ⟨by rw [ab 7 (by omega) (by omega)], by rw [ab 8 (by omega) (by omega)], by rw [ab 9 (by omega) (by omega)]⟩, fun z => absurd q z, fun rc x => ?_⟩
    · exact ndb
    · rw [h55, eb, bv_some, b42, gd_t (inb_nI hL (by omega)), nI_clamp (by omega), lvb.2.2.2.2.2.1, if_pos (hla.mpr q)]
  · rw [if_neg q]
    have hact := m_act (F := F) b23 ha 1 (nI nn) sp
    obtain ⟨h1, h2, h31, h17, h16, h23, h42, h18⟩ := hZb
    refine ⟨_, N', nw, N1, N2, N3, frM_tr frb (fr_act L lo a Mh τb 1 (nI nn) sp (Nat.le_refl a)) (Nat.le_refl _) (Nat.le_refl _) (Nat.le_refl _) (Nat.le_refl _), ?_, fun j j1 j2 => ?_, fun j => ?_, fun m q hm => ?_, fun i hi => ?_, ?_, ?_, ?_, ?_, ?_, fun i hi => ?_, fun _ => ⟨?_, ?_, ?_⟩, fun rc x => ?_⟩
    · exact ⟨by simp [zs, h1], by simp [zs, h2], curT_of hcub (by simp [zs]) (by simp [zs]) (by simp [zs]) (by simp [zs]) (by simp [zs]) (by simp [zs]) (by simp [zs]), by simp [zs, h31], by simp [zs, h17], by simp [zs, h16], by simp [zs], by simp [zs, h42], by simp [zs, h18]⟩
    · have k1 : j ≠ 7 := by omega
      have k2 : j ≠ 8 := by omega
      have k3 : j ≠ 9 := by omega
      simp [zs, k1, k2, k3, ab j (by omega) j2]
    · simp [zs, bb]
    · simp [zs, mb1 m q hm]
    · simp [zs, mb2 i hi]
    · simp [zs, lvb.2.2.2.2.1, hw']
    · simp [zs, lvb.2.2.2.2.2.2]
    · simp [zs, l17]
    · simp [zs, l18]
    · exact nd_mono (τ := τb) (Nat.le_refl _) (Nat.le_refl _) (fun i i1 i2 => ⟨by simp [zs], by simp [zs], by simp [zs], by simp [zs]⟩) _ _ _ ndb
    · have hi2 : i ≠ a := by omega
      simp [at_sa, at_si, hi2, ab 7 (by omega) (by omega), ab 8 (by omega) (by omega), ab 9 (by omega) (by omega)]
    · simp [at_sa, at_si]
    · simp [at_sa, at_si]
    · simp [at_sa, at_si]
    · rw [h55, eb, bv_some, b42, gd_t (inb_nI hL (by omega)), nI_clamp (by omega), lvb.2.2.2.2.2.1, if_neg (fun z => q (hla.mp z)), lvb.1, lvb.2.2.2.1, hact, bv_some]
end PM
