/-! The class's rows of blocks: copied, walked. Own text. -/
theorem nI_sb (a b : Nat) : nI (a + b) - nI b = nI a := by
  rw [← nI_add, Int32.add_sub_cancel]
theorem nI_ac (m c : Nat) : nI (m + 1) + (nI c - 1) = nI (m + c) := by
  rw [Int32.sub_eq_add_neg, ← Int32.add_assoc, nI_add, ← Int32.sub_eq_add_neg, show m + 1 + c = m + c + 1 by omega]
  exact nI_s1 _
/-- only row X has changed, and whether all fits -/
def frRo (X : Nat) (σ σ' : zS) : Prop := (∀ r, r ≠ 908 → gi σ' r = gi σ r) ∧ (∀ a, ga σ' a = ga σ a) ∧ (∀ b, gb σ' b = gb σ b) ∧ (∀ a, gl σ' a = gl σ a) ∧ (∀ a, gr σ' a = gr σ a) ∧ (∀ j, j ≠ 100 * X + 4 → j ≠ 100 * X + 7 → mi σ' j = mi σ j) ∧ (∀ a, a ≠ rA X 0 → a ≠ rA X 2 → a ≠ rA X 3 → ma σ' a = ma σ a) ∧ (∀ b, b ≠ rA X 1 → mb σ' b = mb σ b)
theorem frRo_rfl (X : Nat) (σ : zS) : frRo X σ σ := ⟨fun _ _ => rfl, fun _ => rfl, fun _ => rfl, fun _ => rfl, fun _ => rfl, fun _ _ _ => rfl, fun _ _ _ _ => rfl, fun _ _ => rfl⟩
theorem frRo_tr {X : Nat} {σ σ1 σ2 : zS} (h : frRo X σ σ1) (g : frRo X σ1 σ2) : frRo X σ σ2 := by
  obtain ⟨a1, a2, a3, a4, a5, a6, a7, a8⟩ := h
  obtain ⟨b1, b2, b3, b4, b5, b6, b7, b8⟩ := g
  exact ⟨fun r hr => (b1 r hr).trans (a1 r hr), fun a => (b2 a).trans (a2 a), fun a => (b3 a).trans (a3 a), fun a => (b4 a).trans (a4 a), fun a => (b5 a).trans (a5 a), fun j h1 h2 => (b6 j h1 h2).trans (a6 j h1 h2), fun a h1 h2 h3 => (b7 a h1 h2 h3).trans (a7 a h1 h2 h3), fun b h1 => (b8 b h1).trans (a8 b h1)⟩
theorem rA_i {X i j : Nat} (h : i ≠ j) : rA X i ≠ rA X j := by unfold rA; omega
theorem rA_x {X Y i j : Nat} (hX : isRow X = true) (hY : isRow Y = true) (h : X ≠ Y) (hi : i < 6) (hj : j < 6) : rA X i ≠ rA Y j := by
  have := isRow_or hX
  have := isRow_or hY
  unfold rA
  omega
/-- another row stays -/
theorem cRw_o {σ σ' : zS} {X Y : Nat} (hX : isRow X = true) (hY : isRow Y = true) (h : X ≠ Y) (hf : frRo Y σ σ') {i : Nat} {l : List BE} (g : cRw σ X i l) : cRw σ' X i l := by
  refine cRw_fr l i (fun j _ _ => ?_) g
  rw [hf.2.2.2.2.2.2.1 _ (rA_x hX hY h (by omega) (by omega)) (rA_x hX hY h (by omega) (by omega)) (rA_x hX hY h (by omega) (by omega)), hf.2.2.2.2.2.2.1 _ (rA_x hX hY h (by omega) (by omega)) (rA_x hX hY h (by omega) (by omega)) (rA_x hX hY h (by omega) (by omega)), hf.2.2.2.2.2.2.2 _ (rA_x hX hY h (by omega) (by omega))]
  exact ⟨rfl, rfl, rfl⟩
/-- a row that is being made, or does not fit -/
def NX (σ : zS) (X : Nat) (L : List BE) : Prop := (L.length ≤ 200 ∧ gi σ 908 = 1 ∧ mi σ (100 * X + 4) = nI L.length ∧ cRw σ X 0 L) ∨ (200 < L.length ∧ gi σ 908 = 0 ∧ mi σ (100 * X + 4) = nI 200)
section C
variable {F : Nat} {σ : zS} {X Y : Nat}
theorem ro_add1 (hY : isRow Y = true) {n : Nat} (hn : mi σ (100 * Y + 4) = nI n) (hlt : n < 200) (s : Int32) (v : Int64) (c : Int32) : ∃ σ', Ro_add F σ Y s v c 0 = some (1, σ') ∧ mi σ' (100 * Y + 4) = nI (n + 1) ∧ ma σ' (rA Y 0) = upd (ma σ (rA Y 0)) n s ∧ mb σ' (rA Y 1) = vp_updL (mb σ (rA Y 1)) n v ∧ ma σ' (rA Y 2) = upd (ma σ (rA Y 2)) n c ∧ frRo Y σ σ' ∧ gi σ' 908 = gi σ 908 := by
  have r02 := rA_i (X := Y) (i := 0) (j := 2) (by decide)
  have r03 := rA_i (X := Y) (i := 0) (j := 3) (by decide)
  have r23 := rA_i (X := Y) (i := 2) (j := 3) (by decide)
  refine ⟨_, by rw [Ro_add, gd_t hY, hn, if_pos (show nI n < (200 : Int32) from nI_lt (a := n) (b := 200) hlt (by omega)), gd_t (inb_nI hlt (by omega)), nI_clamp (by omega)], ?_, ?_, ?_, ?_, ⟨fun r _ => by simp [zs], fun a => by simp [zs], fun b => by simp [zs], fun a => by simp [zs], fun a => by simp [zs], fun j h1 _ => by simp [zs, h1], fun a h1 h2 h3 => by simp [zs, h1, h2, h3], fun b h1 => by simp [zs, h1]⟩, by simp [zs]⟩
  · simp only [zs, if_true]; exact nI_1 n
  · simp only [zs, if_true, if_neg r02, if_neg r03]
  · simp only [zs, if_true]
  · simp only [zs, if_true, if_neg r23, if_neg r02.symm]
theorem copy_loop (hX : isRow X = true) (hY : isRow Y = true) (hne : X ≠ Y) : ∀ (l : List BE) (f i : Nat) (σ : zS) (L : List BE), cRw σ X i l → i + l.length ≤ 200 → l.length < f → NX σ Y L → ∃ σ', Pl_copyNodes_3 F f σ X (nI (i + l.length)) Y (nI i) = some σ' ∧ NX σ' Y (L ++ l) ∧ frRo Y σ σ' := by
  intro l
  induction l with
  | nil =>
    intro f i σ L _ hi hf hN
    obtain ⟨f, rfl⟩ : ∃ f', f = f' + 1 := ⟨f - 1, by omega⟩
    refine ⟨σ, ?_, by rw [List.append_nil]; exact hN, frRo_rfl _ _⟩
    rw [Pl_copyNodes_3, Pl_copyNodes_b3, if_pos (nI_le (by simp) (by simp at hi ⊢; omega))]; rfl
  | cons b l ih =>
    intro f i σ L hc hi hf hN
    simp only [List.length_cons] at hi hf
    obtain ⟨f, rfl⟩ : ∃ f', f = f' + 1 := ⟨f - 1, by omega⟩
    have hlt : ¬ nI (i + (b :: l).length) ≤ nI i := nI_ge (by simp) (by simp; omega)
    obtain ⟨⟨c1, c2, c3⟩, c4⟩ := hc
    rcases hN with ⟨n1, n2, n3, n4⟩ | ⟨n1, n2, n3⟩
    · have hstep : Pl_copyNodes_3 F (f + 1) σ X (nI (i + (b :: l).length)) Y (nI i) = bi (Ro_add F σ Y (cEn b).1 (cEn b).2.1 (nI (cEn b).2.2) 0) (fun r7 σ5 => gd (isB r7) (Pl_copyNodes_3 F f (si σ5 908 r7) X (nI (i + (b :: l).length)) Y (nI (i + 1)))) := by
        rw [Pl_copyNodes_3, Pl_copyNodes_b3, if_neg hlt, if_neg (by rw [n2]; decide), gd_t hX, gd_t (inb_nI (by omega) (by omega)), gd_t hY, nI_clamp (by omega), c1, c2, c3, nI_1]
      have hi1 : i + (b :: l).length = i + 1 + l.length := by simp; omega
      by_cases hL : L.length < 200
      · obtain ⟨σ1, a1, a2, a3, a4, a5, a6, a7⟩ := ro_add1 (F := F) hY n3 hL (cEn b).1 (cEn b).2.1 (nI (cEn b).2.2)
        have g1 : frRo Y σ (si σ1 908 1) := frRo_tr a6 ⟨fun r hr => by simp [zs, hr], fun _ => rfl, fun _ => rfl, fun _ => rfl, fun _ => rfl, fun _ _ _ => rfl, fun _ _ _ _ => rfl, fun _ _ => rfl⟩
        have g2 : NX (si σ1 908 1) Y (L ++ [b]) := by
          refine Or.inl ⟨by simp; omega, by simp [zs], by simp only [zs, List.length_append, List.length_cons, List.length_nil]; exact a2, ?_⟩
          rw [cRw_app]
          refine ⟨cRw_fr L 0 (fun j _ hj => ?_) n4, ?_, trivial⟩
          · simp only [zs]
            rw [a3, a4, a5, up_at, up_at, upL_at, if_neg (by omega), if_neg (by omega), if_neg (by omega)]
            exact ⟨rfl, rfl, rfl⟩
          · simp only [zs]
            rw [a3, a4, a5, up_at, up_at, upL_at, if_pos (by omega), if_pos (by omega), if_pos (by omega)]
            exact ⟨rfl, rfl, rfl⟩
        obtain ⟨σ', e1, e2, e3⟩ := ih f (i + 1) (si σ1 908 1) (L ++ [b]) (cRw_o hX hY hne g1 c4) (by omega) (by omega) g2
        refine ⟨σ', ?_, by simpa using e2, frRo_tr g1 e3⟩
        rw [hstep, a1, bi_some, gd_t (by decide), hi1, e1]
      · have hL2 : L.length = 200 := by omega
        have e0 : Ro_add F σ Y (cEn b).1 (cEn b).2.1 (nI (cEn b).2.2) 0 = some (0, σ) := by
          rw [Ro_add, gd_t hY, n3, hL2, if_neg (show ¬ nI 200 < (200 : Int32) from by decide)]
        have g1 : frRo Y σ (si σ 908 0) := ⟨fun r hr => by simp [zs, hr], fun _ => rfl, fun _ => rfl, fun _ => rfl, fun _ => rfl, fun _ _ _ => rfl, fun _ _ _ _ => rfl, fun _ _ => rfl⟩
        have g2 : NX (si σ 908 0) Y (L ++ [b]) := Or.inr ⟨by simp; omega, by simp [zs], by simp only [zs]; rw [n3, hL2]⟩
        obtain ⟨σ', e1, e2, e3⟩ := ih f (i + 1) (si σ 908 0) (L ++ [b]) (cRw_o hX hY hne g1 c4) (by omega) (by omega) g2
        refine ⟨σ', ?_, by simpa using e2, frRo_tr g1 e3⟩
        rw [hstep, e0, bi_some, gd_t (by decide), hi1, e1]
    · refine ⟨σ, ?_, Or.inr ⟨by simp; omega, n2, n3⟩, frRo_rfl _ _⟩
      rw [Pl_copyNodes_3, Pl_copyNodes_b3, if_neg hlt, if_pos n2]; rfl
theorem copyC (hF : 20000 ≤ F) (hX : isRow X = true) (hY : isRow Y = true) (hne : X ≠ Y) {l L : List BE} {i e : Nat} (hc : cRw σ X i l) (he : e = i + l.length) (hi : i + l.length ≤ 200) (hN : NX σ Y L) : ∃ σ', Pl_copyNodes F σ X (nI i) (nI e) Y = some σ' ∧ NX σ' Y (L ++ l) ∧ frRo Y σ σ' := by
  subst he
  exact copy_loop hX hY hne l F i σ L hc hi (by omega) hN
/-- where a type ends -/
theorem end_loop (hX : isRow X = true) {n : Nat} (hn : mi σ (100 * X + 4) = nI n) (hn2 : n ≤ 200) : ∀ (l : List BE) (m f i : Nat), fo l m → cRw σ X i l → i + l.length ≤ n → l.length < f → m ≤ 1000 → (∀ b, b ∈ l → b.1 ≤ 1000) → Ro_endOf_4 F f σ X (nI m) (nI i) = some (nI (i + l.length), σ) := by
  intro l
  induction l with
  | nil =>
    intro m f i h _ hi hf _ _
    obtain ⟨f, rfl⟩ : ∃ f', f = f' + 1 := ⟨f - 1, by omega⟩
    have hm : m = 0 := h
    subst hm
    rw [Ro_endOf_4, Ro_endOf_b4, gd_t hX]
    by_cases c : mi σ (100 * X + 4) ≤ nI i
    · rw [if_pos c]; rfl
    · rw [if_neg c, if_pos (by decide)]; rfl
  | cons b l ih =>
    intro m f i h hc hi hf hm hb
    simp only [List.length_cons] at hi hf
    obtain ⟨f, rfl⟩ : ∃ f', f = f' + 1 := ⟨f - 1, by omega⟩
    obtain ⟨h1, h2⟩ := h
    obtain ⟨⟨c1, c2, c3⟩, c4⟩ := hc
    have hle := (fo_len l _ h2).2
    have e1 : nI m + (nI (cEn b).2.2 - 1) = nI (m - 1 + b.1 + fx b.2) := by
      obtain ⟨m', rfl⟩ : ∃ m', m = m' + 1 := ⟨m - 1, by omega⟩
      rw [nI_ac]
      show nI (m' + (b.1 + fx b.2)) = _
      congr 1
      omega
    rw [Ro_endOf_4, Ro_endOf_b4, gd_t hX, hn, if_neg (nI_ge (by omega) (by omega)), if_neg (nI_nle h1 (by omega)), gd_t (inb_nI (by omega) (by omega)), nI_clamp (by omega), c3, e1, nI_1, ih _ f (i + 1) h2 c4 (by omega) (by omega) (by omega) (fun b hb' => hb b (List.mem_cons_of_mem _ hb')), List.length_cons, show i + 1 + l.length = i + (l.length + 1) by omega]
end C
