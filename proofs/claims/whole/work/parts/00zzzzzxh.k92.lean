/-! The class shows a type: its steps. Own text. -/
theorem cRw_at {σ : zS} {X : Nat} : ∀ (l : List BE) (s i : Nat) (b : BE), cRw σ X s l → l[i]? = some b → ma σ (rA X 0) (s + i) = (cEn b).1 ∧ mb σ (rA X 1) (s + i) = (cEn b).2.1 ∧ ma σ (rA X 2) (s + i) = nI (cEn b).2.2
  | [], s, i, b, _, h => by simp at h
  | c :: l, s, 0, b, g, h => by
    have : c = b := by simpa using h
    rw [← this]; exact g.1
  | c :: l, s, i + 1, b, g, h => by
    have := cRw_at l (s + 1) i b g.2 (by simpa using h)
    rw [show s + (i + 1) = s + 1 + i by omega]; exact this
theorem fx_le (x : Nat) : fx x ≤ 2 := by
  unfold fx
  by_cases h : x = 1
  · rw [if_pos h]; omega
  · rw [if_neg h]
    by_cases g : x = 2
    · rw [if_pos g]; omega
    · rw [if_neg g]; omega
def FR (σ : zS) : List (Nat × Nat) → Prop
  | [] => True
  | p :: S => ga σ 58 S.length = nI p.1 ∧ ga σ 59 S.length = nI p.2 ∧ FR σ S
theorem FR_fr {σ σ' : zS} : ∀ S : List (Nat × Nat), (∀ i, i < S.length → ga σ' 58 i = ga σ 58 i ∧ ga σ' 59 i = ga σ 59 i) → FR σ S → FR σ' S
  | [], _, _ => trivial
  | p :: S, h, g => ⟨(h _ (by simp)).1.trans g.1, (h _ (by simp)).2.trans g.2.1, FR_fr S (fun i hi => h i (by simp; omega)) g.2.2⟩
/-- where the next one stands -/
def stS : Option (BE × Nat) → Nat
  | none => 0
  | some p => if fx p.1.2 ≤ p.2 then 2 else if p.1.2 = 2 ∧ p.2 = 0 then 1 else 0
def seS : Option (BE × Nat) → List Int32
  | none => []
  | some p => if fx p.1.2 ≤ p.2 then [32] else if p.2 = 1 then [45, 62] else []
def wrS (s : Nat) (b : BE) : Bool := (decide (s = 2) && (decide (0 < b.1) || decide (b.2 = 2))) || (decide (s = 1) && decide (b.2 = 2))
def topS (L : List BE) : List (Nat × Nat) → Option (BE × Nat)
  | [] => none
  | p :: _ => (L[p.1]?).map (fun b => (b, p.2))
def topO (L : List BE) (S : List (Nat × Nat)) : Prop := ∀ p, p ∈ S → p.1 < L.length
section C
variable {F : Nat} {σ : zS} {x Z : Nat} {L : List BE} {W : List Int32}
/-- the row that is shown, and its line -/
def SH (σ : zS) (x Z : Nat) (L : List BE) : Prop := gr σ 901 = Z ∧ isRow Z = true ∧ isLine x = true ∧ mi σ (100 * Z + 4) = nI L.length ∧ L.length ≤ 200 ∧ cRw σ Z 0 L ∧ ∀ b, b ∈ L → okx b
theorem SH_L {σ' : zS} (h : SH σ x Z L) (hf : frW x σ σ') : SH σ' x Z L := by
  obtain ⟨a1, a2, a3, a4, a5, a6, a7⟩ := h
  have z1 := isRow_or a2
  have z2 := isLine_or a3
  refine ⟨by rw [hf.2.2.2.2.1]; exact a1, a2, a3, by rw [hf.2.2.2.2.2.1 _ (by omega)]; exact a4, a5, cRw_fr L 0 (fun j _ _ => ?_) a6, a7⟩
  rw [hf.2.2.2.2.2.2.1 _ (by unfold rA lA; omega), hf.2.2.2.2.2.2.1 _ (by unfold rA lA; omega), hf.2.2.2.2.2.2.2]
  exact ⟨rfl, rfl, rfl⟩
theorem sh_at (h : SH σ x Z L) {i : Nat} {b : BE} (hb : L[i]? = some b) : ma σ (rA Z 0) i = (cEn b).1 ∧ mb σ (rA Z 1) i = (cEn b).2.1 ∧ ma σ (rA Z 2) i = nI (b.1 + fx b.2) ∧ i < 200 ∧ okx b := by
  have := cRw_at L 0 i b h.2.2.2.2.2.1 hb
  rw [Nat.zero_add] at this
  obtain ⟨hl, hg⟩ := List.getElem?_eq_some_iff.mp hb
  exact ⟨this.1, this.2.1, this.2.2, by have := h.2.2.2.2.1; omega, h.2.2.2.2.2.2 b (by rw [← hg]; exact List.getElem_mem hl)⟩
theorem cEn_so {b : BE} (h : okx b) : ((cEn b).1 = 45 ↔ b.2 = 2) ∧ ((cEn b).1 = 91 ↔ b.2 = 1) := by
  unfold cEn
  rcases h with z | z | z
  · simp only [z, if_true]; decide
  · simp only [z]; decide
  · have e1 : ¬ b.2 = 1 := by omega
    have e2 : ¬ b.2 = 2 := by omega
    simp only [if_neg e1, if_neg e2]
    by_cases w : lfB (b.2 - 10) = 0
    · rw [if_pos w]; exact ⟨⟨fun q => absurd q (by decide), fun q => absurd q e2⟩, ⟨fun q => absurd q (by decide), fun q => absurd q e1⟩⟩
    · rw [if_neg w]; exact ⟨⟨fun q => absurd q (by decide), fun q => absurd q e2⟩, ⟨fun q => absurd q (by decide), fun q => absurd q e1⟩⟩
theorem fixC (h : SH σ x Z L) {i : Nat} {b : BE} (hb : L[i]? = some b) : Ro_fixedOf F σ Z (nI i) = some (nI (fx b.2), σ) := by
  obtain ⟨a1, a2, a3, a4, a5⟩ := sh_at h hb
  obtain ⟨c1, c2⟩ := cEn_so a5
  rw [Ro_fixedOf, gd_t h.2.1, gd_t (inb_nI (by omega) (by omega)), nI_clamp (by omega), a1]
  unfold fx
  by_cases w : b.2 = 2
  · rw [if_pos (c1.mpr w), if_neg (show ¬ b.2 = 1 by omega), if_pos w]; rfl
  · rw [if_neg (fun q => w (c1.mp q))]
    by_cases w1 : b.2 = 1
    · rw [if_pos (c2.mpr w1), if_pos w1]; rfl
    · rw [if_neg (fun q => w1 (c2.mp q)), if_neg w1, if_neg w]; rfl
theorem top_at {S : List (Nat × Nat)} {p : Nat × Nat} (hT : topO L (p :: S)) : ∃ b, L[p.1]? = some b ∧ topS L (p :: S) = some (b, p.2) := by
  have hl := hT p List.mem_cons_self
  refine ⟨L[p.1], List.getElem?_eq_getElem hl, ?_⟩
  show (L[p.1]?).map (fun b => (b, p.2)) = _
  rw [List.getElem?_eq_getElem hl]; rfl
theorem wrapC (h : SH σ x Z L) {S : List (Nat × Nat)} (hF : FR σ S) (hT : topO L S) (hS : S.length ≤ 200) (hd : ∀ p, p ∈ S → p.2 ≤ 1000) {i : Nat} {b : BE} (hb : L[i]? = some b) (hk : b.1 ≤ 1000) : Pl_isWrapped F σ (nI i) (nI S.length - 1) = some (if wrS (stS (topS L S)) b = true then 1 else 0, σ) := by
  cases S with
  | nil =>
    rw [Pl_isWrapped, if_neg (by decide)]
    rfl
  | cons p S =>
    obtain ⟨f1, f2, f3⟩ := hF
    obtain ⟨ba, t1, t2⟩ := top_at hT
    obtain ⟨q1, q2, q3, q4, q5⟩ := sh_at h t1
    obtain ⟨a1, a2, a3, a4, a5⟩ := sh_at h hb
    obtain ⟨c1, c2⟩ := cEn_so a5
    obtain ⟨d1, d2⟩ := cEn_so q5
    have hS' : S.length < 200 := by simp at hS; omega
    have hpd := hd p List.mem_cons_self
    have hfx : fx ba.2 ≤ 2 ∧ fx b.2 ≤ 2 := ⟨fx_le _, fx_le _⟩
    rw [t2, List.length_cons, nI_s1, Pl_isWrapped, if_pos (nI_pos' (by omega)), gd_t (inb_nI (by omega) (by omega)), h.1, gd_t h.2.1, nI_clamp (by omega), f1, f2, fixC h t1, bi_some]
    by_cases w : fx ba.2 ≤ p.2
    · have est : stS (some (ba, p.2)) = 2 := if_pos w
      rw [if_neg (show ¬ nI p.2 < nI (fx ba.2) from nI_nlt w (by omega)), h.1, gd_t h.2.1, gd_t (inb_nI (by omega) (by omega)), fixC h hb, bi_some, nI_clamp (by omega), a3, h.1, gd_t h.2.1, a1, est]
      by_cases u : 0 < b.1
      · rw [if_pos (show nI (fx b.2) < nI (b.1 + fx b.2) from nI_lt (by omega) (by omega)), if_pos (show wrS 2 b = true by unfold wrS; simp [u])]; rfl
      · rw [if_neg (show ¬ nI (fx b.2) < nI (b.1 + fx b.2) from nI_nlt (by omega) (by omega))]
        by_cases v : b.2 = 2
        · rw [if_pos (c1.mpr v), if_pos (show wrS 2 b = true by unfold wrS; simp [v])]; rfl
        · rw [if_neg (fun q => v (c1.mp q)), if_neg (show ¬ wrS 2 b = true by unfold wrS; simp [v]; omega)]; rfl
    · rw [if_pos (show nI p.2 < nI (fx ba.2) from nI_lt (by omega) (by omega)), h.1, gd_t h.2.1, gd_t (inb_nI (by omega) (by omega)), nI_clamp (by omega), q1, f2]
      by_cases u : ba.2 = 2
      · rw [if_pos (d1.mpr u)]
        by_cases v : p.2 = 0
        · have est : stS (some (ba, p.2)) = 1 := by
            show (if fx ba.2 ≤ p.2 then 2 else if ba.2 = 2 ∧ p.2 = 0 then 1 else 0) = 1
            rw [if_neg w, if_pos ⟨u, v⟩]
          rw [if_pos (show nI p.2 = 0 by rw [v]; rfl), gd_t (inb_nI (by omega) (by omega)), nI_clamp (by omega), a1, est]
          by_cases y : b.2 = 2
          · rw [if_pos (c1.mpr y), if_pos (show wrS 1 b = true by unfold wrS; simp [y])]; rfl
          · rw [if_neg (fun q => y (c1.mp q)), if_neg (show ¬ wrS 1 b = true by unfold wrS; simp [y])]; rfl
        · have est : stS (some (ba, p.2)) = 0 := by
            show (if fx ba.2 ≤ p.2 then 2 else if ba.2 = 2 ∧ p.2 = 0 then 1 else 0) = 0
            rw [if_neg w, if_neg (fun q => v q.2)]
          rw [if_neg (show ¬ nI p.2 = 0 from fun q => v ((nI_eq (b := 0) (by omega) (by omega)).mp q)), est, if_neg (show ¬ wrS 0 b = true by unfold wrS; simp)]; rfl
      · have est : stS (some (ba, p.2)) = 0 := by
          show (if fx ba.2 ≤ p.2 then 2 else if ba.2 = 2 ∧ p.2 = 0 then 1 else 0) = 0
          rw [if_neg w, if_neg (fun q => u q.1)]
        rw [if_neg (fun q => u (d1.mp q)), est, if_neg (show ¬ wrS 0 b = true by unfold wrS; simp)]; rfl
theorem putK (hx : isLine x = true) (h : lnC σ x W) (hW : W.length < 2300) (b : Nat) (hb : b < 128) : ∃ σ', Li_put F σ x (nI b) = some σ' ∧ lnC σ' x (W ++ [nI b]) ∧ frL x σ σ' := putL hx h hW (byte_ok b hb)
theorem nmS_0 : nmS 0 = [] := by decide +kernel
/-- a node begins -/
theorem beginC (hF : 20000 ≤ F) (h : SH σ x Z L) {S : List (Nat × Nat)} (hFR : FR σ S) (h907 : gi σ 907 = nI S.length) (hT : topO L S) (hS : S.length ≤ 200) (hd : ∀ p, p ∈ S → p.2 ≤ 1000) {i : Nat} {b : BE} (hb : L[i]? = some b) (hk : b.1 ≤ 1000) (hl : lnC σ x W) (hW : W.length + 20 < 2300) (hn : 10 ≤ b.2 → nmOk (lfN (b.2 - 10))) : ∃ σ', Pl_beginNode F σ (nI i) x = some σ' ∧ lnC σ' x (W ++ (seS (topS L S) ++ ((if wrS (stS (topS L S)) b = true then [40] else []) ++ ((if b.2 = 1 then [91] else []) ++ (if b.2 < 10 then [] else nmS (lfN (b.2 - 10))))))) ∧ frL x σ σ' := by
  obtain ⟨a1, a2, a3, a4, a5⟩ := sh_at h hb
  obtain ⟨c1, c2⟩ := cEn_so a5
  have hx := h.2.2.1
  -- the separator
  have sep : ∃ σ1, Pl_beginNode F σ (nI i) x = Pl_beginNode_64 F σ1 (nI i) x ∧ lnC σ1 x (W ++ seS (topS L S)) ∧ frL x σ σ1 := by
    cases S with
    | nil =>
      refine ⟨σ, ?_, by rw [show seS (topS L []) = [] from rfl, List.append_nil]; exact hl, frL_rfl _ _⟩
      rw [Pl_beginNode, h907, if_pos (by decide)]
    | cons p S =>
      obtain ⟨f1, f2, f3⟩ := hFR
      obtain ⟨ba, t1, t2⟩ := top_at hT
      obtain ⟨q1, q2, q3, q4, q5⟩ := sh_at h t1
      have hS' : S.length < 200 := by simp at hS; omega
      have hpd := hd p List.mem_cons_self
      have hfx : fx ba.2 ≤ 2 := fx_le _
      rw [t2, Pl_beginNode, h907, List.length_cons, if_neg (nI_nle (by omega) (by omega)), nI_s1, gd_t (inb_nI (by omega) (by omega)), h.1, gd_t h.2.1, nI_clamp (by omega), f1, f2, fixC h t1, bi_some]
      unfold seS
      dsimp only
      by_cases w : fx ba.2 ≤ p.2
      · rw [if_neg (show ¬ nI p.2 < nI (fx ba.2) from nI_nlt w (by omega)), gd_t hx, if_pos w]
        obtain ⟨σ1, e1, e2, e3⟩ := putK (F := F) hx hl (by omega) 32 (by omega)
        exact ⟨σ1, by rw [show (32 : Int32) = nI 32 from rfl, e1, bv_some], e2, e3⟩
      · rw [if_pos (show nI p.2 < nI (fx ba.2) from nI_lt (by omega) (by omega)), if_neg w]
        by_cases u : p.2 = 1
        · rw [if_pos (show nI p.2 = 1 by rw [u]; rfl), gd_t hx, if_pos u]
          obtain ⟨σ1, e1, e2, e3⟩ := putK (F := F) hx hl (by omega) 45 (by omega)
          obtain ⟨σ2, g1, g2, g3⟩ := putK (F := F) hx e2 (by simp; omega) 62 (by omega)
          refine ⟨σ2, ?_, by rw [List.append_assoc] at g2; exact g2, frL_tr e3 g3⟩
          rw [Li_putArrow, gd_t hx, show (45 : Int32) = nI 45 from rfl, e1, bv_some, show (62 : Int32) = nI 62 from rfl, g1, bv_some, bv_some]
        · rw [if_neg (show ¬ nI p.2 = 1 from fun q => u ((nI_eq (b := 1) (by omega) (by omega)).mp q)), if_neg u]
          exact ⟨σ, rfl, by rw [List.append_nil]; exact hl, frL_rfl _ _⟩
  obtain ⟨σ1, e1, e2, e3⟩ := sep
  have hsl : (seS (topS L S)).length ≤ 2 := by
    cases topS L S with
    | none => simp [seS]
    | some p =>
      unfold seS
      dsimp only
      by_cases u : fx p.1.2 ≤ p.2
      · rw [if_pos u]; simp
      · rw [if_neg u]
        by_cases v : p.2 = 1
        · rw [if_pos v]; simp
        · rw [if_neg v]; simp
  have h1 : SH σ1 x Z L := SH_L h (frL_W e3)
  have fr1 : FR σ1 S := FR_fr S (fun i _ => by rw [e3.2.1, e3.2.1]; exact ⟨rfl, rfl⟩) hFR
  have wr := wrapC (F := F) h1 fr1 hT hS hd hb hk
  have e4 : Pl_beginNode_64 F σ1 (nI i) x = if wrS (stS (topS L S)) b = true then bv (Li_put F σ1 x 40) (fun σ5 => Pl_beginNode_84 F σ5 (nI i) x) else Pl_beginNode_84 F σ1 (nI i) x := by
    rw [Pl_beginNode_64, e3.1, h907, wr, bi_some]
    by_cases u : wrS (stS (topS L S)) b = true
    · rw [if_pos u, if_neg (by decide), gd_t hx, if_pos u]
    · rw [if_neg u, if_pos rfl, if_neg u]
  have par : ∃ σ2, Pl_beginNode_64 F σ1 (nI i) x = Pl_beginNode_84 F σ2 (nI i) x ∧ lnC σ2 x (W ++ seS (topS L S) ++ (if wrS (stS (topS L S)) b = true then [40] else [])) ∧ frL x σ σ2 := by
    rw [e4]
    by_cases u : wrS (stS (topS L S)) b = true
    · rw [if_pos u, if_pos u]
      obtain ⟨σ2, g1, g2, g3⟩ := putK (F := F) hx e2 (by simp; omega) 40 (by omega)
      exact ⟨σ2, by rw [show (40 : Int32) = nI 40 from rfl, g1, bv_some], g2, frL_tr e3 g3⟩
    · rw [if_neg u, if_neg u]
      exact ⟨σ1, rfl, by rw [List.append_nil]; exact e2, e3⟩
  obtain ⟨σ2, g1, g2, g3⟩ := par
  have hpl : (if wrS (stS (topS L S)) b = true then [40] else [] : List Int32).length ≤ 1 := by split <;> simp
  have h2 : SH σ2 x Z L := SH_L h (frL_W g3)
  obtain ⟨b1, b2, b3, b4, b5⟩ := sh_at h2 hb
  have lst : ∃ σ3, Pl_beginNode_84 F σ2 (nI i) x = Pl_beginNode_104 F σ3 (nI i) x ∧ lnC σ3 x (W ++ seS (topS L S) ++ (if wrS (stS (topS L S)) b = true then [40] else []) ++ (if b.2 = 1 then [91] else [])) ∧ frL x σ σ3 := by
    rw [Pl_beginNode_84, h2.1, gd_t h2.2.1, gd_t (inb_nI (by omega) (by omega)), nI_clamp (by omega), b1]
    by_cases u : b.2 = 1
    · rw [if_pos (c2.mpr u), gd_t hx, if_pos u]
      obtain ⟨σ3, k1, k2, k3⟩ := putK (F := F) hx g2 (by simp only [List.length_append]; omega) 91 (by omega)
      exact ⟨σ3, by rw [show (91 : Int32) = nI 91 from rfl, k1, bv_some], k2, frL_tr g3 k3⟩
    · rw [if_neg (fun q => u (c2.mp q)), if_neg u]
      exact ⟨σ2, rfl, by rw [List.append_nil]; exact g2, g3⟩
  obtain ⟨σ3, k1, k2, k3⟩ := lst
  have hll : (if b.2 = 1 then [91] else [] : List Int32).length ≤ 1 := by split <;> simp
  have h3 : SH σ3 x Z L := SH_L h (frL_W k3)
  have hnm : (cEn b).2.1 = if b.2 < 10 then 0 else lfN (b.2 - 10) := rfl
  have hname : nmS (cEn b).2.1 = if b.2 < 10 then [] else nmS (lfN (b.2 - 10)) := by
    rw [hnm]
    by_cases u : b.2 < 10
    · rw [if_pos u, if_pos u, nmS_0]
    · rw [if_neg u, if_neg u]
  have hnok : ∀ i, i < 8 → nN (cEn b).2.1 / 2 ^ (8 * i) % 256 < 128 := by
    rw [hnm]
    by_cases u : b.2 < 10
    · rw [if_pos u]
      intro i _
      rw [show nN 0 = 0 from rfl, Nat.zero_div]; decide
    · rw [if_neg u]; exact hn (by omega)
  obtain ⟨σ4, m1, m2, m3⟩ := nameC (F := F) hF hx hnok k2 (by simp only [List.length_append]; omega)
  refine ⟨σ4, ?_, ?_, frL_tr k3 m3⟩
  · rw [e1, g1, k1, Pl_beginNode_104, h3.1, gd_t h3.2.1, gd_t (inb_nI (by omega) (by omega)), gd_t hx, nI_clamp (by omega), (sh_at h3 hb).2.1, m1, bv_some]
  · rw [hname] at m2
    simp only [List.append_assoc] at m2
    exact m2
end C
