/-! Arrows: the reference's chain of them, endSome. Own text. -/
def fT : List TE → TE → TE
  | [], x => x
  | l :: ls, x => tR l (fT ls x)
def ch (τ : zS) (pr me : Int32) (lo : Nat) : List TE → TE → Nat → Nat → List AE → Prop
  | [], _, _, _, _ => False
  | [l], x, w, la, As => w = la ∧ lo ≤ w ∧ ga τ 2 w = 4 ∧ ∃ n1 n2 A1 A2, ga τ 4 w = nI n1 ∧ ga τ 5 w = nI n2 ∧ nd τ pr me lo w l n1 A1 ∧ nd τ pr me lo w x n2 A2 ∧ As = A1 ++ ((1, n1, plT l) :: (A2 ++ [(1, n2, plT x)]))
  | l :: l' :: ls, x, w, la, As => w < la ∧ lo ≤ w ∧ ga τ 2 w = 4 ∧ ∃ n1 w' A1 As', ga τ 4 w = nI n1 ∧ ga τ 5 w = nI w' ∧ w < w' ∧ w' ≤ la ∧ nd τ pr me lo w l n1 A1 ∧ ch τ pr me lo (l' :: ls) x w' la As' ∧ As = A1 ++ ((1, n1, plT l) :: As')
theorem ch_lo {τ : zS} {pr me : Int32} {lo : Nat} : ∀ (ls : List TE) (x : TE) (w la : Nat) (As : List AE), ch τ pr me lo ls x w la As → lo ≤ w ∧ w ≤ la
  | [], _, _, _, _, h => h.elim
  | [_], _, _, _, _, h => ⟨h.2.1, Nat.le_of_eq h.1⟩
  | _ :: _ :: _, _, _, _, _, h => ⟨h.2.1, by have := h.1; omega⟩
theorem isR_fT : ∀ (ls : List TE) (x : TE), ls ≠ [] → isR (fT ls x) = true
  | [], _, h => absurd rfl h
  | _ :: _, _, _ => rfl
theorem ch_nd {τ : zS} {pr me : Int32} {lo hi : Nat} {x : TE} (hx : isR x = false) : ∀ (ls : List TE) (w la : Nat) (As : List AE), ch τ pr me lo ls x w la As → la < hi → nd τ pr me lo hi (fT ls x) w As
  | [], _, _, _, h, _ => h.elim
  | [l], w, la, As, h, hl => by
    obtain ⟨h1, h2, h3, n1, n2, A1, A2, h4, h5, h6, h7, h8⟩ := h
    refine ⟨h2, by omega, h3, n1, n2, A1, A2, h4, h5, nd_mono (τ := τ) (Nat.le_refl _) (by omega) (fun _ _ _ => ⟨rfl, rfl, rfl, rfl⟩) l n1 A1 h6, nd_mono (τ := τ) (Nat.le_refl _) (by omega) (fun _ _ _ => ⟨rfl, rfl, rfl, rfl⟩) x n2 A2 h7, ?_⟩
    rw [h8, show isR (fT [] x) = false from hx]
    simp [fT]
  | l :: l' :: ls, w, la, As, h, hl => by
    obtain ⟨h1, h2, h3, n1, w', A1, As', h4, h5, h6, h7, h8, h9, h10⟩ := h
    refine ⟨h2, by omega, h3, n1, w', A1, As', h4, h5, nd_mono (τ := τ) (Nat.le_refl _) (by omega) (fun _ _ _ => ⟨rfl, rfl, rfl, rfl⟩) l n1 A1 h8, ch_nd hx (l' :: ls) w' la As' h9 hl, ?_⟩
    rw [h10, isR_fT (l' :: ls) x (by simp)]
    simp
theorem ch_ext {τ τ' : zS} {pr me : Int32} {lo N nn : Nat} {x t : TE} {At : List AE} {la : Nat} (hN : la < N) (hf : ∀ i, i < N → ga τ' 2 i = ga τ 2 i ∧ gb τ' 3 i = gb τ 3 i ∧ ga τ' 4 i = ga τ 4 i ∧ (i ≠ la → ga τ' 5 i = ga τ 5 i)) (e1 : ga τ' 5 la = nI N) (e2 : ga τ' 2 N = 4) (e3 : ga τ' 4 N = ga τ 5 la) (e4 : ga τ' 5 N = nI nn) (ht : nd τ' pr me lo N t nn At) : ∀ (ls : List TE) (w : Nat) (As : List AE), ch τ pr me lo ls x w la As → ch τ' pr me lo (ls ++ [x]) t w N (As ++ (At ++ [(1, nn, plT t)]))
  | [], _, _, h => h.elim
  | [l], w, As, h => by
    obtain ⟨h1, h2, h3, n1, n2, A1, A2, h4, h5, h6, h7, h8⟩ := h
    subst h1
    have m : ∀ (u : TE) (nu : Nat) (Au : List AE) (hi : Nat), w ≤ hi → nd τ pr me lo w u nu Au → nd τ' pr me lo hi u nu Au := fun u nu Au hi hh hu => nd_mono (τ := τ) (Nat.le_refl _) hh (fun i i1 i2 => by obtain ⟨q1, q2, q3, q4⟩ := hf i (by omega); exact ⟨q1, q2, q3, q4 (by omega)⟩) u nu Au hu
    obtain ⟨q1, q2, q3, q4⟩ := hf w hN
    refine ⟨hN, h2, q1.trans h3, n1, N, A1, A2 ++ ((1, n2, plT x) :: (At ++ [(1, nn, plT t)])), q3.trans h4, e1, hN, Nat.le_refl _, m l n1 A1 w (Nat.le_refl _) h6, ?_, ?_⟩
    · exact ⟨rfl, by omega, e2, n2, nn, A2, At, e3.trans h5, e4, m x n2 A2 N (by omega) h7, ht, rfl⟩
    · rw [h8]; simp
  | l :: l' :: ls, w, As, h => by
    obtain ⟨h1, h2, h3, n1, w', A1, As', h4, h5, h6, h7, h8, h9, h10⟩ := h
    obtain ⟨q1, q2, q3, q4⟩ := hf w (by omega)
    refine ⟨by omega, h2, q1.trans h3, n1, w', A1, As' ++ (At ++ [(1, nn, plT t)]), q3.trans h4, (q4 (by omega)).trans h5, h6, by omega, ?_, ch_ext hN hf e1 e2 e3 e4 ht (l' :: ls) w' As' h9, by rw [h10]; simp⟩
    exact nd_mono (τ := τ) (Nat.le_refl _) (Nat.le_refl _) (fun i i1 i2 => by obtain ⟨q1, q2, q3, q4⟩ := hf i (by omega); exact ⟨q1, q2, q3, q4 (by omega)⟩) l n1 A1 h8
/-- what is read of a type, each part with an arrow behind it -/
def pdM (τ : zS) (pr me : Int32) (lo hi : Nat) (ls : List TE) (w la : Int32) (Ap : List AE) : Prop :=
  (ls = [] ∧ w = -1 ∧ la = -1 ∧ Ap = []) ∨ (∃ t n1 A1, ls = [t] ∧ w = nI n1 ∧ la = -1 ∧ n1 < hi ∧ nd τ pr me lo hi t n1 A1 ∧ Ap = A1 ++ [(1, n1, plT t)]) ∨ (∃ ls0 x wn ln, ls = ls0 ++ [x] ∧ w = nI wn ∧ la = nI ln ∧ ln < hi ∧ ch τ pr me lo ls0 x wn ln Ap)
theorem ch_fr {τ τ' : zS} {pr me : Int32} {lo hi : Nat} {x : TE} (hf : ∀ i, i < hi → ga τ' 2 i = ga τ 2 i ∧ gb τ' 3 i = gb τ 3 i ∧ ga τ' 4 i = ga τ 4 i ∧ ga τ' 5 i = ga τ 5 i) : ∀ (ls : List TE) (w la : Nat) (As : List AE), la < hi → ch τ pr me lo ls x w la As → ch τ' pr me lo ls x w la As
  | [], _, _, _, _, h => h.elim
  | [l], w, la, As, hl, h => by
    obtain ⟨h1, h2, h3, n1, n2, A1, A2, h4, h5, h6, h7, h8⟩ := h
    obtain ⟨q1, q2, q3, q4⟩ := hf w (by omega)
    exact ⟨h1, h2, q1.trans h3, n1, n2, A1, A2, q3.trans h4, q4.trans h5, nd_mono (τ := τ) (Nat.le_refl _) (Nat.le_refl _) (fun i i1 i2 => hf i (by omega)) l n1 A1 h6, nd_mono (τ := τ) (Nat.le_refl _) (Nat.le_refl _) (fun i i1 i2 => hf i (by omega)) x n2 A2 h7, h8⟩
  | l :: l' :: ls, w, la, As, hl, h => by
    obtain ⟨h1, h2, h3, n1, w', A1, As', h4, h5, h6, h7, h8, h9, h10⟩ := h
    obtain ⟨q1, q2, q3, q4⟩ := hf w (by omega)
    exact ⟨h1, h2, q1.trans h3, n1, w', A1, As', q3.trans h4, q4.trans h5, h6, h7, nd_mono (τ := τ) (Nat.le_refl _) (Nat.le_refl _) (fun i i1 i2 => hf i (by omega)) l n1 A1 h8, ch_fr hf (l' :: ls) w' la As' hl h9, h10⟩
theorem pdM_fr {τ τ' : zS} {pr me : Int32} {lo hi hi' : Nat} (hh : hi ≤ hi') (hf : ∀ i, i < hi → ga τ' 2 i = ga τ 2 i ∧ gb τ' 3 i = gb τ 3 i ∧ ga τ' 4 i = ga τ 4 i ∧ ga τ' 5 i = ga τ 5 i) {ls : List TE} {w la : Int32} {Ap : List AE} (h : pdM τ pr me lo hi ls w la Ap) : pdM τ' pr me lo hi' ls w la Ap := by
  rcases h with h | ⟨t, n1, A1, h1, h2, h3, h4, h5, h6⟩ | ⟨ls0, x, wn, ln, h1, h2, h3, h4, h5⟩
  · exact Or.inl h
  · exact Or.inr (Or.inl ⟨t, n1, A1, h1, h2, h3, by omega, nd_mono (τ := τ) (Nat.le_refl _) hh (fun i i1 i2 => hf i i2) t n1 A1 h5, h6⟩)
  · exact Or.inr (Or.inr ⟨ls0, x, wn, ln, h1, h2, h3, by omega, ch_fr hf ls0 wn ln Ap h4 h5⟩)
/-- endSome(): first the ones behind the head -/
def esA (τ : zS) (hd : Int32) (b : Nat) : zS := if hd < 0 then τ else sa τ 16 hd.toNatClampNeg (nI b)
section PM
variable {F : Nat} {B : Nat → Int32} {n : Nat} {τ : zS} {k M s N a L : Nat}
theorem esA_zs (τ : zS) (hd : Int32) (b : Nat) : (∀ j, gi (esA τ hd b) j = gi τ j) ∧ (∀ j, j ≠ 16 → ga (esA τ hd b) j = ga τ j) ∧ (∀ j, gl (esA τ hd b) j = gl τ j) ∧ (∀ j, gb (esA τ hd b) j = gb τ j) := by
  unfold esA
  split
  · exact ⟨fun _ => rfl, fun _ _ => rfl, fun _ => rfl, fun _ => rfl⟩
  · exact ⟨fun _ => by simp [zs], fun j hj => by simp [zs, hj], fun _ => by simp [zs], fun _ => by simp [zs]⟩
theorem es_head {x hd sp w la wp : Int32} {b : Nat} (h42 : gi τ 42 = nI L) (hL : L < 12) (hv : lvM τ L x hd (nI b) sp w la wp) (hhd : hd = -1 ∨ ∃ m, hd = nI m ∧ m < 1400) : Md_endSome F τ = Md_endSome_35 F (esA τ hd b) := by
  obtain ⟨v1, v2, v3, v4, v5, v6, v7⟩ := hv
  rw [Md_endSome, h42, gd_t (inb_nI hL (by omega)), nI_clamp (by omega), v2, v3]
  unfold esA
  rcases hhd with q | ⟨m, q, hm⟩
  · rw [q, if_pos (by decide), if_pos (by decide)]
  · rw [q, if_neg (nI_pos (by omega)), if_neg (nI_pos (by omega)), gd_t (inb_nI hm (by omega))]
theorem es_0 {x hd sp la wp : Int32} {b : Nat} (h42 : gi τ 42 = nI L) (hL : L < 12) (hv : lvM τ L x hd (nI b) sp (-1) la wp) (hhd : hd = -1 ∨ ∃ m, hd = nI m ∧ m < 1400) : Md_endSome F τ = some (sa (esA τ hd b) 23 L x) := by
  obtain ⟨z1, z2, z3, z4⟩ := esA_zs τ hd b
  rw [es_head h42 hL hv hhd, Md_endSome_35, z1, h42, gd_t (inb_nI hL (by omega)), nI_clamp (by omega), z2 23 (by decide), z2 19 (by decide), hv.2.2.2.2.1, hv.1, if_neg (by decide)]
theorem es_1 {x hd sp wp : Int32} {b wn : Nat} (h42 : gi τ 42 = nI L) (hL : L < 12) (hv : lvM τ L x hd (nI b) sp (nI wn) (-1) wp) (hhd : hd = -1 ∨ ∃ m, hd = nI m ∧ m < 1400) (h16 : gi τ 16 = nI N) (hN : N < 1000) (hw : wn < 1000) : Md_endSome F τ = some (sa (sa (si (sa (sa (sa (esA τ hd b) 2 N 4) 4 N (nI wn)) 5 N x) 16 (nI (N + 1))) 23 L (nI N)) 24 L (nI N)) := by
  obtain ⟨z1, z2, z3, z4⟩ := esA_zs τ hd b
  have q42 : gi (si (sa (sa (sa (esA τ hd b) 2 N 4) 4 N (nI wn)) 5 N x) 16 (nI (N + 1))) 42 = nI L := by simp [zs, z1, h42]
  have q43 : gi (sa (si (sa (sa (sa (esA τ hd b) 2 N 4) 4 N (nI wn)) 5 N x) 16 (nI (N + 1))) 23 L (nI N)) 42 = nI L := by simp [zs, z1, h42]
  rw [es_head h42 hL hv hhd, Md_endSome_35, z1, h42, gd_t (inb_nI hL (by omega)), nI_clamp (by omega), z2 23 (by decide), z2 24 (by decide), hv.2.2.2.2.1, hv.2.2.2.2.2.1, if_pos (nI_pos' (by omega)), if_neg (by decide), Md_endSome_100, z1, h42, gd_t (inb_nI hL (by omega)), nI_clamp (by omega), z2 19 (by decide), hv.1, m_node (by rw [z1, h16]) hN, bi_some, if_neg (by decide), q42, gd_t (inb_nI hL (by omega)), nI_clamp (by omega), Md_endSome_137, q43, gd_t (inb_nI hL (by omega)), nI_clamp (by omega)]
theorem es_2 {x hd sp wp : Int32} {b wn ln : Nat} (h42 : gi τ 42 = nI L) (hL : L < 12) (hv : lvM τ L x hd (nI b) sp (nI wn) (nI ln) wp) (hhd : hd = -1 ∨ ∃ m, hd = nI m ∧ m < 1400) (h16 : gi τ 16 = nI N) (hN : N < 1000) (hw : wn < 1000) (hl : ln < 1000) : Md_endSome F τ = some (sa (sa (si (sa (sa (sa (esA τ hd b) 2 N 4) 4 N (ga τ 5 ln)) 5 N x) 16 (nI (N + 1))) 5 ln (nI N)) 24 L (nI N)) := by
  obtain ⟨z1, z2, z3, z4⟩ := esA_zs τ hd b
  have q43 : gi (sa (si (sa (sa (sa (esA τ hd b) 2 N 4) 4 N (ga τ 5 ln)) 5 N x) 16 (nI (N + 1))) 5 ln (nI N)) 42 = nI L := by simp [zs, z1, h42]
  rw [es_head h42 hL hv hhd, Md_endSome_35, z1, h42, gd_t (inb_nI hL (by omega)), nI_clamp (by omega), z2 23 (by decide), z2 24 (by decide), hv.2.2.2.2.1, hv.2.2.2.2.2.1, if_pos (nI_pos' (by omega)), if_pos (nI_pos' (by omega)), gd_t (inb_nI hl (by omega)), nI_clamp (by omega), z2 5 (by decide), Md_endSome_100, z1, h42, gd_t (inb_nI hL (by omega)), nI_clamp (by omega), z2 19 (by decide), hv.1, m_node (by rw [z1, h16]) hN, bi_some, if_pos (nI_pos' (by omega)), gd_t (inb_nI hl (by omega)), nI_clamp (by omega), Md_endSome_137, q43, gd_t (inb_nI hL (by omega)), nI_clamp (by omega)]
end PM
