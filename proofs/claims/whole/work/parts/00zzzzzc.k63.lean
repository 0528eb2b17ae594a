/-! side(). Own text. -/
section R
variable {F : Nat} {σ τ : zS} {G H : SG}
theorem sideM (hF : 20000 ≤ F) (hM : MS τ H) {x y d k : Nat} (hx : x < gn H) (hy : y < gn H) (h79 : gi τ 79 = nI x) (h80 : gi τ 80 = nI y) (hdx : dpt d (gT H x)) (hdy : dpt d (gT H y)) (h10 : gi τ 10 ≠ 0) (x1 : Int32) (hk : (x1 = 0 ∧ k = x) ∨ (x1 ≠ 0 ∧ k = y)) : ∃ r τ', Md_side_17 F τ x1 = some (r, τ') ∧ MS τ' H ∧ sx [82, 84, 85, 87] [53, 54, 55, 56, 57] τ τ' ∧ gi τ' 85 = 0 ∧ (((prT (ltV (V2 d (gT H x) (gT H y))) d (gT H k)).length ≤ 2000 ∧ r = nI (prT (ltV (V2 d (gT H x) (gT H y))) d (gT H k)).length ∧ gi τ' 84 = r ∧ ∀ (i : Nat) (v : Int32), (prT (ltV (V2 d (gT H x) (gT H y))) d (gT H k))[i]? = some v → ga τ' 56 i = v) ∨ (2000 < (prT (ltV (V2 d (gT H x) (gT H y))) d (gT H k)).length ∧ r = -4 ∧ gi τ' 84 = gi τ 84 ∧ ga τ' 56 = ga τ 56)) := by
  have hw := hM.2.2.2.1
  obtain ⟨τ1, a1, a2, a3⟩ := unmarkM (F := F) hF hM
  obtain ⟨τ2, hτ2⟩ : ∃ s, s = si τ1 87 0 := ⟨_, rfl⟩
  have s2 : sx [87] [53, 54, 57] τ τ2 := by rw [hτ2]; exact sx_si (sx_mono (by decide) (by decide) a2) (by decide) _
  have g2 : glI τ2 H [] (fun _ => false) := by
    refine ⟨MS_sx s2 (by decide) (by decide) (by decide) (by decide) (by decide) hM, fun r hr => ?_, by rw [hτ2]; simp [zs]; exact nI_0.symm, fun i r z => (by cases z), by simp; exact unv_0 _, ⟨fun r z => (by cases z), fun r z => (by cases z)⟩⟩
    have : ga τ2 54 r = 0 := by rw [hτ2]; simp only [zs]; exact a3 r hr
    rw [this]; rfl
  obtain ⟨τ3, v3, b1, b2, b3⟩ := lettersM (F := F) hF g2 hx hdx
  obtain ⟨τ4, v4, c1, c2, c3⟩ := lettersM (F := F) hF b3 hy hdy
  have hV : ddp (ddp [] (oc d (gT H x))) (oc d (gT H y)) = V2 d (gT H x) (gT H y) := rfl
  rw [hV] at c3
  obtain ⟨V, hVV⟩ : ∃ V, V = V2 d (gT H x) (gT H y) := ⟨_, rfl⟩
  have hnd : V.Nodup := by rw [hVV]; exact ddp_nd _ _ (ddp_nd _ _ List.nodup_nil)
  have s4 : sx [87] [53, 54, 57] τ τ4 := sx_tr s2 (sx_tr b2 c2)
  obtain ⟨τ5, hτ5⟩ : ∃ s, s = si τ4 85 1 := ⟨_, rfl⟩
  have s5 : sx [82, 84, 85, 87] [53, 54, 55, 56, 57] τ τ5 := by rw [hτ5]; exact sx_si (sx_mono (by decide) (by decide) s4) (by decide) _
  have hM5 : MS τ5 H := MS_sx s5 (by decide) (by decide) (by decide) (by decide) (by decide) hM
  obtain ⟨lt, hlt⟩ : ∃ lt : Nat → Int32, lt = ga τ4 57 := ⟨_, rfl⟩
  have hl5 : hlM τ5 H lt := fun r _ _ => Or.inr ⟨by rw [hτ5]; simp [zs], by rw [hτ5, hlt]; simp only [zs]⟩
  have hkk : k < gn H ∧ dpt d (gT H k) ∧ ∀ p v, gT H k p = v + 2 → v ∈ V := by
    rw [hVV]
    rcases hk with ⟨_, e⟩ | ⟨_, e⟩
    · subst e
      exact ⟨hx, hdx, fun p v hp => (ddp_mem _ _ _).mpr (Or.inl ((ddp_mem _ _ _).mpr (Or.inr ((oc_mem d _ (gT_wfT hw hx) hdx v).mpr ⟨p, hp⟩))))⟩
    · subst e
      exact ⟨hy, hdy, fun p v hp => (ddp_mem _ _ _).mpr (Or.inr ((oc_mem d _ (gT_wfT hw hy) hdy v).mpr ⟨p, hp⟩))⟩
  obtain ⟨k1, k2, k3⟩ := hkk
  have eP : prT lt d (gT H k) = prT (ltV V) d (gT H k) := by
    refine prT_cg d _ (fun p v hp => ?_)
    obtain ⟨i, hi⟩ := List.mem_iff_getElem?.mp (k3 p v hp)
    have e1 := c3.2.2.2.1 i v (by rw [← hVV]; exact hi)
    rw [hlt, e1]
    unfold ltV
    rw [idx_of hnd hi]
  obtain ⟨r, τ6, d1, d2, d3, d4⟩ := showMd (F := F) hF hl5 hM5 k1 k2
  rw [eP] at d4
  rw [← hVV]
  have s6 : sx [82, 84, 85, 87] [53, 54, 55, 56, 57] τ (si τ6 85 0) := sx_si (sx_tr s5 (sx_mono (by decide) (by decide) d3)) (by decide) _
  refine ⟨r, si τ6 85 0, ?_, MS_sx s6 (by decide) (by decide) (by decide) (by decide) (by decide) hM, s6, by simp [zs], ?_⟩
  · have e79 : gi τ1 79 = nI x := (a2.1 79 (by decide)).trans h79
    have e80 : gi τ3 80 = nI y := by rw [b2.1 80 (by decide), s2.1 80 (by decide)]; exact h80
    rw [Md_side_17, if_neg h10, a1, bv_some, e79, ← hτ2, b1, bv_some, e80, c1, bv_some, ← hτ5]
    have f79 : gi τ4 79 = nI x := by rw [s4.1 79 (by decide)]; exact h79
    have f80 : gi τ4 80 = nI y := by rw [s4.1 80 (by decide)]; exact h80
    rw [f79, f80]
    rcases hk with ⟨z, e⟩ | ⟨z, e⟩
    · subst e; rw [if_pos z, Md_side_73, d1, bi_some]
    · subst e; rw [if_neg z, Md_side_73, d1, bi_some]
  · have e1 : gi (si τ6 85 0) 84 = gi τ6 84 := by simp [zs]
    have e2 : ga (si τ6 85 0) 56 = ga τ6 56 := rfl
    rw [e1, e2]
    rcases d4 with q | ⟨q1, q2, q3, q4⟩
    · exact Or.inl q
    · exact Or.inr ⟨q1, q2, by rw [q3, show gi τ5 84 = gi τ 84 from by rw [hτ5]; simp [zs]; exact s4.1 84 (by decide)], by rw [q4, show ga τ5 56 = ga τ 56 from by rw [hτ5]; simp only [zs]; exact s4.2.1 56 (by decide)]⟩
theorem fit_lt : ∀ i, fits .byte (.int (ltI i)) = true := by
  intro i
  unfold ltI
  obtain ⟨m, hm, e⟩ : ∃ m, m < 26 ∧ (if i < 25 then i else 25) = m := ⟨_, by split <;> omega, rfl⟩
  rw [e]
  revert m
  intro m hm _
  exact (show ∀ m, m < 26 → fits .byte (.int (nI (97 + m))) = true by decide) m hm
theorem fit_prT (lt : Nat → Int32) (h : ∀ r, fits .byte (.int (lt r)) = true) : ∀ (d : Nat) (t : IT) (v : Int32), v ∈ prT lt d t → fits .byte (.int v) = true := by
  intro d
  induction d with
  | zero =>
    intro t v hv
    rw [prT] at hv
    simp only [List.mem_singleton] at hv
    rw [hv]
    split
    · decide
    · exact h _
  | succ d ih =>
    intro t v hv
    rw [prT] at hv
    split at hv
    · rw [List.mem_append] at hv
      rcases hv with hv | hv
      · split at hv
        · rw [List.mem_cons, List.mem_append, List.mem_singleton] at hv
          rcases hv with z | z | z
          · rw [z]; decide
          · exact ih _ _ z
          · rw [z]; decide
        · exact ih _ _ hv
      · rw [List.mem_cons, List.mem_cons] at hv
        rcases hv with z | z | z
        · rw [z]; decide
        · rw [z]; decide
        · exact ih _ _ z
    · simp only [List.mem_singleton] at hv
      rw [hv]
      split
      · decide
      · exact h _
/-- a line of the class is copied to the shown one -/
theorem copyL {x y L : Nat} {P : List Int32} (hx : isLine x = true) (hy : isLine y = true) (h : lnC σ x P) (hP : P.length ≤ 2000) (hf : ∀ v, v ∈ P → fits .byte (.int v) = true) : ∃ f, Li_copy F σ y x = some (ti (tA σ (lA y) f) (100 * y + 1) (nI P.length)) ∧ ∀ (i : Nat) (v : Int32), P[i]? = some v → f i = v := by
  obtain ⟨h1, h2⟩ := h
  refine ⟨va_cpy (ma σ (lA x)) (ma σ (lA y)) 0 0 P.length, ?_, fun i v hv => ?_⟩
  · have e0 : (0 : Int32).toNatClampNeg = 0 := by decide
    rw [Li_copy, gd_t hx, gd_t hy, h1, e0, nI_clamp (by omega)]
    have c1 : cpG 0 0 (nI P.length) 2400 2400 = true := by
      unfold cpG
      rw [nI_clamp (by omega), e0]
      simp only [Bool.and_eq_true, decide_eq_true_eq]
      exact ⟨by decide, by decide, nI_pos (by omega), by omega, by omega⟩
    have c2 : cpB (ma σ (lA x)) 0 P.length = true := by
      unfold cpB
      rw [List.all_eq_true]
      intro i hi
      rw [List.mem_range] at hi
      have hv : P[i]? = some (P[i]) := List.getElem?_eq_getElem hi
      rw [Nat.zero_add, h2 i _ hv]
      exact hf _ (List.getElem_mem hi)
    rw [gd_t c1, gd_t c2]
  · have hi : i < P.length := by
      rcases Nat.lt_or_ge i P.length with z | z
      · exact z
      · rw [List.getElem?_eq_none z] at hv; cases hv
    unfold va_cpy
    rw [if_pos ⟨Nat.zero_le _, by omega⟩, Nat.zero_add, Nat.sub_zero]
    exact h2 i v hv
theorem six_fr {σ' τ' : zS} (h : six σ τ) (h1 : gi σ' 200 = gi σ 200 ∧ gi σ' 201 = gi σ 201) (h2 : ∀ x, x = 15 ∨ x = 16 → mi σ' (100 * x + 1) = mi σ (100 * x + 1) ∧ ma σ' (lA x) = ma σ (lA x)) (h3 : ∀ r, r = 8 ∨ r = 9 ∨ r = 10 ∨ r = 48 ∨ r = 79 ∨ r = 80 → gi τ' r = gi τ r) (h4 : ∀ a, a = 26 ∨ a = 27 ∨ a = 28 ∨ a = 29 → ga τ' a = ga τ a) : six σ' τ' := by
  obtain ⟨p, H, x, y, d, x1, x2, x3, x4, x5, x6, x7, x8, x9, x10, x11, x12, x13, x14, x15⟩ := h
  have ln : ∀ x P, (x = 15 ∨ x = 16) → lnR σ x P → lnR σ' x P := by
    intro x P hx h
    obtain ⟨q1, q2⟩ := h2 x hx
    rcases h with ⟨⟨w1, w2⟩, w3⟩ | ⟨z, w1, w2, w3, w4⟩
    · exact Or.inl ⟨⟨q1.trans w1, fun i v hv => by rw [q2]; exact w2 i v hv⟩, w3⟩
    · exact Or.inr ⟨z, q1.trans w1, w2, w3, w4⟩
  have hM : MS τ' H := by
    unfold MS at x6 ⊢
    rw [h3 48 (by omega), h4 26 (by omega), h4 27 (by omega), h4 28 (by omega), h4 29 (by omega)]
    exact x6
  exact ⟨p, H, x, y, d, h1.1.trans x1, h1.2.trans x2, (h3 8 (by omega)).trans x3, (h3 9 (by omega)).trans x4, (h3 10 (by omega)).trans x5, hM, x7, x8, (h3 79 (by omega)).trans x9, (h3 80 (by omega)).trans x10, x11, x12, ln 15 _ (Or.inl rfl) x13, ln 16 _ (Or.inr rfl) x14, x15⟩
/-- what side() of the class leaves alone -/
def frLn (σ σ' : zS) : Prop := (∀ r, gi σ' r = gi σ r) ∧ (∀ a, ga σ' a = ga σ a) ∧ (∀ a, gb σ' a = gb σ a) ∧ (∀ a, gl σ' a = gl σ a) ∧ (∀ a, gr σ' a = gr σ a) ∧ (∀ j, j ≠ 1701 → j ≠ 1801 → mi σ' j = mi σ j) ∧ (∀ a, a ≠ lA 17 → a ≠ lA 18 → ma σ' a = ma σ a) ∧ (∀ a, mb σ' a = mb σ a)
theorem side48 (hF : 20000 ≤ F) (hSL : SL σ τ) {s : Nat} (hs : s = 15 ∨ s = 16) {P : List Int32} (hP : lnR σ s P) (hf : ∀ v, v ∈ P → fits .byte (.int v) = true) {r : Int32} {τ' : zS} (hr : (P.length ≤ 2000 ∧ r = nI P.length ∧ gi τ' 84 = r ∧ ∀ (i : Nat) (v : Int32), P[i]? = some v → ga τ' 56 i = v) ∨ (2000 < P.length ∧ r = -4 ∧ gi τ' 84 = gi τ 84 ∧ ga τ' 56 = ga τ 56)) : ∃ σ', Q_side_48 F σ s = some (r, σ') ∧ frLn σ σ' ∧ SL σ' τ' := by
  obtain ⟨h1, L, hL, h2, h3, h4⟩ := hSL
  have ls : isLine s = true := by rcases hs with z | z <;> rw [z] <;> decide
  obtain ⟨y, hy⟩ : ∃ y, y = gr σ 10 := ⟨_, rfl⟩
  have hyy : y = 17 ∨ y = 18 := by
    rcases h1 with ⟨z, _⟩ | ⟨z, _⟩
    · exact Or.inl (hy.trans z)
    · exact Or.inr (hy.trans z)
  have ly : isLine y = true := by rcases hyy with z | z <;> rw [z] <;> decide
  rcases hP with ⟨p1, p2⟩ | ⟨z, p1, p2, p3, p4⟩
  · rcases hr with ⟨q1, q2, q3, q4⟩ | ⟨q1, _⟩
    · obtain ⟨f, c1, c2⟩ := copyL (F := F) (L := L) ls ly p1 p2 hf
      refine ⟨ti (tA σ (lA y) f) (100 * y + 1) (nI P.length), ?_, ⟨fun r => rfl, fun a => rfl, fun a => rfl, fun a => rfl, fun a => rfl, fun j j1 j2 => ?_, fun a a1 a2 => ?_, fun a => rfl⟩, h1, P.length, by omega, ?_, by rw [q3, q2], fun i hi => ?_⟩
      · rw [Q_side_48, gd_t ls, p1.1, if_pos (show nI P.length ≤ (2000 : Int32) from nI_le (b := 2000) p2 (by omega)), ← hy, gd_t ly, c1, bv_some]
        have e1 : gr (ti (tA σ (lA y) f) (100 * y + 1) (nI P.length)) 10 = y := hy.symm
        have e2 : mi (ti (tA σ (lA y) f) (100 * y + 1) (nI P.length)) (100 * y + 1) = nI P.length := by simp [zs]
        rw [e1, gd_t ly, e2, q2]
      · have hj : j ≠ 100 * y + 1 := by rcases hyy with z | z <;> rw [z] <;> assumption
        simp only [zs, if_neg hj]
      · have ha : a ≠ lA y := by rcases hyy with z | z <;> rw [z] <;> assumption
        simp only [zs, if_neg ha]
      · have e1 : gr (ti (tA σ (lA y) f) (100 * y + 1) (nI P.length)) 10 = y := hy.symm
        rw [e1]; simp [zs]
      · have e1 : gr (ti (tA σ (lA y) f) (100 * y + 1) (nI P.length)) 10 = y := hy.symm
        have e3 : ma (ti (tA σ (lA y) f) (100 * y + 1) (nI P.length)) (lA y) = f := by simp [zs]
        obtain ⟨v, hv⟩ : ∃ v, P[i]? = some v := ⟨_, List.getElem?_eq_getElem hi⟩
        rw [e1, e3, c2 i v hv, q4 i v hv]
    · omega
  · rcases hr with ⟨q1, _⟩ | ⟨q1, q2, q3, q4⟩
    · omega
    · refine ⟨σ, ?_, ⟨fun _ => rfl, fun _ => rfl, fun _ => rfl, fun _ => rfl, fun _ => rfl, fun _ _ _ => rfl, fun _ _ _ => rfl, fun _ => rfl⟩, h1, L, hL, h2, by rw [q3]; exact h3, fun i hi => by rw [q4]; exact h4 i hi⟩
      rw [Q_side_48, gd_t ls, p1, if_neg (show ¬ nI z ≤ (2000 : Int32) from nI_ge (a := 2000) p2 (by omega)), q2]
theorem side_ok (hF : 20000 ≤ F) (hSL : SL σ τ) (hFT : FT σ τ) (h85 : gi τ 85 = 0) (x : Int32) : ∃ r σ' τ', Q_side F σ x = some (r, σ') ∧ Md_side F τ x = some (r, τ') ∧ frLn σ σ' ∧ sx [0, 82, 84, 85, 87] [53, 54, 55, 56, 57] τ τ' ∧ SL σ' τ' ∧ gi τ' 85 = 0 := by
  have hSL0 : SL σ (si τ 0 0) := by
    obtain ⟨h1, L, hL, h2, h3, h4⟩ := hSL
    exact ⟨h1, L, hL, h2, by simp [zs]; exact h3, h4⟩
  have s0 : sx [0, 82, 84, 85, 87] [53, 54, 55, 56, 57] τ (si τ 0 0) := sx_si (sx_rfl _ _ _) (by decide) _
  have fr0 : frLn σ σ := ⟨fun _ => rfl, fun _ => rfl, fun _ => rfl, fun _ => rfl, fun _ => rfl, fun _ _ _ => rfl, fun _ _ _ => rfl, fun _ => rfl⟩
  have e85 : gi (si τ 0 0) 85 = 0 := by simp [zs]; exact h85
  by_cases hx : x = 0 ∨ x = 1
  · have eQ : Q_side F σ x = Q_side_12 F σ x := by
      rw [Q_side]
      rcases hx with z | z
      · rw [if_pos z]
      · rw [if_neg (by rw [z]; decide), if_pos z]
    have eM : Md_side F τ x = Md_side_17 F (si τ 0 0) x := by
      rw [Md_side]
      rcases hx with z | z
      · rw [if_pos z]
      · rw [if_neg (by rw [z]; decide), if_pos z]
    have no : gi σ 200 ≠ 6 → gi τ 10 = 0 → ∃ r σ' τ', Q_side F σ x = some (r, σ') ∧ Md_side F τ x = some (r, τ') ∧ frLn σ σ' ∧ sx [0, 82, 84, 85, 87] [53, 54, 55, 56, 57] τ τ' ∧ SL σ' τ' ∧ gi τ' 85 = 0 := by
      intro n1 n2
      refine ⟨-3, σ, si τ 0 0, by rw [eQ, Q_side_12, if_neg n1], ?_, fr0, s0, hSL0, e85⟩
      rw [eM, Md_side_17, if_pos (show gi (si τ 0 0) 10 = 0 by simp [zs]; exact n2)]
    rcases hFT with ⟨h1, h2, h3, h4⟩ | ⟨f, f1, f2, h1, h2, h3, h4⟩ | ⟨p, H, a, b, d, x1, x2, x3, x4, x5, x6, x7, x8, x9, x10, x11, x12, x13, x14, x15⟩
    · exact no (by rw [h1]; decide) h4
    · exact no (by rw [h1]; intro z; have := (nI_eq (a := f) (b := 6) (by omega) (by omega)).mp z; omega) h4
    · have hM0 : MS (si τ 0 0) H := MS_sx s0 (by decide) (by decide) (by decide) (by decide) (by decide) x6
      have fV : ∀ (V : List Nat) (d : Nat) (t : IT) (v : Int32), v ∈ prT (ltV V) d t → fits .byte (.int v) = true := fun V d t v hv => fit_prT _ (fun r => fit_lt _) d t v hv
      by_cases z : x = 0
      · obtain ⟨r, τ', b1, b2, b3, b4, b5⟩ := sideM (F := F) hF hM0 (k := a) x7 x8 (by simp [zs]; exact x9) (by simp [zs]; exact x10) x11 x12 (by simp [zs, x5]) x (Or.inl ⟨z, rfl⟩)
        obtain ⟨σ', c1, c2, c3⟩ := side48 (F := F) hF hSL0 (Or.inl rfl) x13 (fun v hv => fV _ _ _ v hv) b5
        exact ⟨r, σ', τ', by rw [eQ, Q_side_12, if_pos x1, if_pos z]; exact c1, by rw [eM]; exact b1, c2, sx_tr s0 (sx_mono (by decide) (by decide) b3), c3, b4⟩
      · obtain ⟨r, τ', b1, b2, b3, b4, b5⟩ := sideM (F := F) hF hM0 (k := b) x7 x8 (by simp [zs]; exact x9) (by simp [zs]; exact x10) x11 x12 (by simp [zs, x5]) x (Or.inr ⟨z, rfl⟩)
        obtain ⟨σ', c1, c2, c3⟩ := side48 (F := F) hF hSL0 (Or.inr rfl) x14 (fun v hv => fV _ _ _ v hv) b5
        exact ⟨r, σ', τ', by rw [eQ, Q_side_12, if_pos x1, if_neg z]; exact c1, by rw [eM]; exact b1, c2, sx_tr s0 (sx_mono (by decide) (by decide) b3), c3, b4⟩
  · refine ⟨-2, σ, si τ 0 0, ?_, ?_, fr0, s0, hSL0, e85⟩
    · rw [Q_side, if_neg (fun z => hx (Or.inl z)), if_neg (fun z => hx (Or.inr z))]
    · rw [Md_side, if_neg (fun z => hx (Or.inl z)), if_neg (fun z => hx (Or.inr z))]
end R
