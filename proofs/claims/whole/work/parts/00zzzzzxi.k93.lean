/-! The class shows a type. Own text. -/
def incS : List (Nat × Nat) → List (Nat × Nat)
  | [] => []
  | p :: S => (p.1, p.2 + 1) :: S
theorem incS_len (S : List (Nat × Nat)) : (incS S).length = S.length := by cases S <;> rfl
section C
variable {F : Nat} {σ : zS} {x Z : Nat} {L : List BE} {W : List Int32}
theorem en_head (h : SH σ x Z L) {S : List (Nat × Nat)} {p : Nat × Nat} (hFR : FR σ (p :: S)) (h907 : gi σ 907 = nI (S.length + 1)) {b : BE} (hb : L[p.1]? = some b) (hS : S.length < 200) (hp : p.2 ≤ 1000) {tn : Nat} (htn : tn < 200) (f : Nat) : Pl_endNodes_2 F (f + 1) σ x (nI tn) = if b.2 = 1 ∧ p.2 = 1 then bv (Li_put F σ x 93) (fun σ8 => Pl_endNodes_63 F (Pl_endNodes_2 F f) σ8 x (nI tn) (nI p.1)) else Pl_endNodes_63 F (Pl_endNodes_2 F f) σ x (nI tn) (nI p.1) := by
  obtain ⟨f1, f2, f3⟩ := hFR
  obtain ⟨a1, a2, a3, a4, a5⟩ := sh_at h hb
  obtain ⟨c1, c2⟩ := cEn_so a5
  rw [Pl_endNodes_2, Pl_endNodes_b2, if_neg (show ¬ (200 : Int32) ≤ nI tn from nI_ge (b := 200) htn (by omega)), h907, if_neg (nI_nle (by omega) (by omega)), nI_s1, gd_t (inb_nI (by omega) (by omega)), h.1, gd_t h.2.1, nI_clamp (by omega), f1, gd_t (inb_nI (by omega) (by omega)), nI_clamp (by omega), a1, f2]
  by_cases u : b.2 = 1
  · rw [if_pos (c2.mpr u)]
    by_cases v : p.2 = 1
    · rw [if_pos (show nI p.2 = 1 by rw [v]; rfl), gd_t h.2.2.1, if_pos ⟨u, v⟩]
    · rw [if_neg (show ¬ nI p.2 = 1 from fun q => v ((nI_eq (b := 1) (by omega) (by omega)).mp q)), if_neg (fun q => v q.2)]
  · rw [if_neg (fun q => u (c2.mp q)), if_neg (fun q => u q.1)]
theorem en_open (h : SH σ x Z L) {S : List (Nat × Nat)} {p : Nat × Nat} (hFR : FR σ (p :: S)) (h907 : gi σ 907 = nI (S.length + 1)) {b : BE} (hb : L[p.1]? = some b) (hS : S.length < 200) (hp : p.2 ≤ 1000) (hk : b.1 ≤ 1000) (hd : p.2 < b.1 + fx b.2) (hnl : ¬ (b.2 = 1 ∧ p.2 = 1)) {tn : Nat} (htn : tn < 200) (f : Nat) : Pl_endNodes_2 F (f + 1) σ x (nI tn) = some σ := by
  obtain ⟨a1, a2, a3, a4, a5⟩ := sh_at h hb
  have := fx_le b.2
  rw [en_head h hFR h907 hb hS hp htn, if_neg hnl, Pl_endNodes_63, h907, nI_s1, gd_t (inb_nI (by omega) (by omega)), h.1, gd_t h.2.1, gd_t (inb_nI (by omega) (by omega)), nI_clamp (by omega), nI_clamp (by omega), a3, hFR.2.1, if_neg (nI_ge hd (by omega))]
theorem en_pop (h : SH σ x Z L) {S : List (Nat × Nat)} {p : Nat × Nat} (hFR : FR σ (p :: S)) (h907 : gi σ 907 = nI (S.length + 1)) {b : BE} (hb : L[p.1]? = some b) (hT : topO L S) (hS : S.length < 200) (hds : ∀ p, p ∈ S → p.2 ≤ 1000) (hp : p.2 ≤ 1000) (hk : b.1 ≤ 1000) (hd : p.2 = b.1 + fx b.2) (hbl : b.2 = 1 → b.1 = 0) {tn : Nat} (htn : tn < 200) (hl : lnC σ x W) (hW : W.length + 5 < 2300) : ∃ σ', (∀ f, Pl_endNodes_2 F (f + 1) σ x (nI tn) = Pl_endNodes_2 F f σ' x (nI (tn + 1))) ∧ lnC σ' x (W ++ ((if b.2 = 1 then [93] else []) ++ (if wrS (stS (topS L S)) b = true then [41] else []))) ∧ FR σ' (incS S) ∧ gi σ' 907 = nI S.length ∧ frW x σ σ' := by
  have hx := h.2.2.1
  -- the list's end
  have lst : ∃ σ1, (∀ f, Pl_endNodes_2 F (f + 1) σ x (nI tn) = Pl_endNodes_63 F (Pl_endNodes_2 F f) σ1 x (nI tn) (nI p.1)) ∧ lnC σ1 x (W ++ (if b.2 = 1 then [93] else [])) ∧ frL x σ σ1 := by
    by_cases u : b.2 = 1
    · have v : p.2 = 1 := by
        rw [hd, hbl u, u]; rfl
      obtain ⟨σ1, e1, e2, e3⟩ := putK (F := F) hx hl (by omega) 93 (by omega)
      refine ⟨σ1, fun f => ?_, by rw [if_pos u]; exact e2, e3⟩
      rw [en_head h hFR h907 hb hS hp htn, if_pos ⟨u, v⟩, show (93 : Int32) = nI 93 from rfl, e1, bv_some]
    · exact ⟨σ, fun f => by rw [en_head h hFR h907 hb hS hp htn, if_neg (fun q => u q.1)], by rw [if_neg u, List.append_nil]; exact hl, frL_rfl _ _⟩
  obtain ⟨σ1, e1, e2, e3⟩ := lst
  have h1 : SH σ1 x Z L := SH_L h (frL_W e3)
  obtain ⟨a1, a2, a3, a4, a5⟩ := sh_at h1 hb
  have hfx := fx_le b.2
  obtain ⟨f1, f2, f3⟩ := hFR
  -- the frame goes
  obtain ⟨σ2, hσ2⟩ : ∃ s, s = si σ1 907 (nI S.length) := ⟨_, rfl⟩
  have fw2 : frW x σ1 σ2 := by
    rw [hσ2]
    exact ⟨fun r hr => by simp [zs, hr], fun a _ _ => by simp [zs], fun a => by simp [zs], fun a => by simp [zs], fun a => by simp [zs], fun j _ => by simp [zs], fun a _ => by simp [zs], fun a => by simp [zs]⟩
  have h2 : SH σ2 x Z L := SH_L h1 fw2
  have g2a : ∀ a, ga σ2 a = ga σ1 a := fun a => by rw [hσ2]; simp [zs]
  have fr2 : FR σ2 S := FR_fr S (fun i _ => by rw [g2a, g2a, e3.2.1, e3.2.1]; exact ⟨rfl, rfl⟩) f3
  have l2 : lnC σ2 x (W ++ (if b.2 = 1 then [93] else [])) := ⟨by rw [hσ2]; simp only [zs]; exact e2.1, fun i v hv => by rw [hσ2]; simp only [zs]; exact e2.2 i v hv⟩
  have wr := wrapC (F := F) h2 fr2 hT (by omega) hds hb hk
  have e63 : ∀ f, Pl_endNodes_63 F (Pl_endNodes_2 F f) σ1 x (nI tn) (nI p.1) = if wrS (stS (topS L S)) b = true then bv (Li_put F σ2 x 41) (fun σ9 => Pl_endNodes_117 F (Pl_endNodes_2 F f) σ9 x (nI tn)) else Pl_endNodes_117 F (Pl_endNodes_2 F f) σ2 x (nI tn) := fun f => by
    rw [Pl_endNodes_63, e3.1, h907, nI_s1, gd_t (inb_nI (by omega) (by omega)), h1.1, gd_t h1.2.1, gd_t (inb_nI (by omega) (by omega)), nI_clamp (by omega), nI_clamp (by omega), a3, e3.2.1, f2, if_pos (show nI (b.1 + fx b.2) ≤ nI p.2 from nI_le (by omega) (by omega)), ← hσ2, wr, bi_some]
    by_cases u : wrS (stS (topS L S)) b = true
    · rw [if_pos u, if_neg (by decide), gd_t hx, if_pos u]
    · rw [if_neg u, if_pos rfl, if_neg u]
  have hll : (if b.2 = 1 then [93] else [] : List Int32).length ≤ 1 := by split <;> simp
  have par : ∃ σ3, (∀ f, Pl_endNodes_63 F (Pl_endNodes_2 F f) σ1 x (nI tn) (nI p.1) = Pl_endNodes_117 F (Pl_endNodes_2 F f) σ3 x (nI tn)) ∧ lnC σ3 x (W ++ (if b.2 = 1 then [93] else []) ++ (if wrS (stS (topS L S)) b = true then [41] else [])) ∧ frL x σ2 σ3 := by
    by_cases u : wrS (stS (topS L S)) b = true
    · obtain ⟨σ3, k1, k2, k3⟩ := putK (F := F) hx l2 (by simp only [List.length_append]; omega) 41 (by omega)
      exact ⟨σ3, fun f => by rw [e63, if_pos u, show (41 : Int32) = nI 41 from rfl, k1, bv_some], by rw [if_pos u]; exact k2, k3⟩
    · exact ⟨σ2, fun f => by rw [e63, if_neg u], by rw [if_neg u, List.append_nil]; exact l2, frL_rfl _ _⟩
  obtain ⟨σ3, k1, k2, k3⟩ := par
  have g907 : gi σ3 907 = nI S.length := by rw [k3.1, hσ2]; simp [zs]
  have fr3 : FR σ3 S := FR_fr S (fun i _ => by rw [k3.2.1, k3.2.1]; exact ⟨rfl, rfl⟩) fr2
  have fw3 : frW x σ σ3 := frW_tr (frL_W e3) (frW_tr fw2 (frL_W k3))
  rw [List.append_assoc] at k2
  cases S with
  | nil =>
    refine ⟨σ3, fun f => ?_, k2, trivial, g907, fw3⟩
    rw [e1, k1, Pl_endNodes_117, g907, if_pos (by decide), Pl_endNodes_139, nI_1]
  | cons r S =>
    have hS' : S.length + 1 < 200 := by simpa using hS
    have hr := hds r List.mem_cons_self
    refine ⟨sa σ3 59 S.length (nI (r.2 + 1)), fun f => ?_, ⟨by simp only [zs]; exact k2.1, fun i v hv => by simp only [zs]; exact k2.2 i v hv⟩, ?_, by simp only [zs]; exact g907, frW_tr fw3 ⟨fun r _ => by simp [zs], fun a _ h2 => by simp [zs, h2], fun a => by simp [zs], fun a => by simp [zs], fun a => by simp [zs], fun j _ => by simp [zs], fun a _ => by simp [zs], fun a => by simp [zs]⟩⟩
    · rw [e1, k1, Pl_endNodes_117, g907, List.length_cons, if_neg (nI_nle (by omega) (by omega)), nI_s1, gd_t (inb_nI (by omega) (by omega)), nI_clamp (by omega), fr3.2.1, nI_1, Pl_endNodes_139, nI_1]
    · refine ⟨by simp [zs]; exact fr3.1, by simp [zs, up_at], FR_fr S (fun i hi => ?_) fr3.2.2⟩
      simp only [zs, if_true, up_at, if_neg (show ¬ (58 : Nat) = 59 by decide)]
      rw [if_neg (by omega)]
      exact ⟨trivial, rfl⟩
/-- the body of a type shown, its last bracket left out -/
def bdS : TE → List Int32
  | .var c => nmS (lfN c)
  | .op (.op (.var 0) f) a => bdS f ++ (32 :: prS a 2)
  | .op (.op (.var 1) l) r => prS l 1 ++ (45 :: 62 :: prS r 0)
  | .op (.op (.var 2) (.var _)) t => 91 :: prS t 0
  | _ => []
theorem prS_3 : ∀ t : TE, sp t → isR t = false → isI t = false → prS t 3 = bdS t
  | .var c, _, _, _ => rfl
  | .op (.op (.var 0) f) a, h, _, _ => by
    rw [prS, bdS, if_neg (by decide), if_neg (by decide), List.nil_append, List.append_nil, prS_3 f h.2.1 h.1.1 h.1.2]
  | .op (.op (.var 1) l) r, _, h, _ => by cases h
  | .op (.op (.var 2) (.var _)) t, _, _, h => by cases h
/-- the head block of a type -/
theorem hd_blk : ∀ t : TE, sp t → ∃ k x l, blk t = (k, x) :: l ∧ (x = 1 → k = 0 ∧ isI t = true) ∧ (x = 2 → k = 0 ∧ isR t = true) ∧ (isR t = true → x = 2) ∧ (isI t = true → x = 1) ∧ ∀ s, s ≤ 2 → prS t s = (if wrS s (k, x) = true then [40] else []) ++ (bdS t ++ ((if x = 1 then [93] else []) ++ (if wrS s (k, x) = true then [41] else [])))
  | .var c, _ => by
    refine ⟨0, 10 + c, [], rfl, fun z => by omega, fun z => by omega, (fun z => by cases z), (fun z => by cases z), fun s hs => ?_⟩
    have : ¬ wrS s (0, 10 + c) = true := by unfold wrS; simp; omega
    rw [if_neg this, if_neg this, if_neg (by omega)]
    simp [prS, bdS]
  | .op (.op (.var 0) f) a, h => by
    obtain ⟨k, x, l, e1, e2, e3, e4, e5, e6⟩ := hd_blk f h.2.1
    have hx1 : x ≠ 1 := fun z => by have := (e2 z).2; rw [h.1.2] at this; cases this
    have hx2 : x ≠ 2 := fun z => by have := (e3 z).2; rw [h.1.1] at this; cases this
    refine ⟨k + 1, x, l ++ blk a, by rw [blk, e1]; rfl, fun z => absurd z hx1, fun z => absurd z hx2, (fun z => by cases z), (fun z => by cases z), fun s hs => ?_⟩
    rw [prS, prS_3 f h.2.1 h.1.1 h.1.2, bdS, if_neg hx1]
    by_cases c : s = 2
    · have : wrS s (k + 1, x) = true := by unfold wrS; simp [c]
      rw [if_pos c, if_pos c, if_pos this, if_pos this]
      simp
    · have : ¬ wrS s (k + 1, x) = true := by unfold wrS; simp [c, hx2]
      rw [if_neg c, if_neg c, if_neg this, if_neg this]
      simp
  | .op (.op (.var 1) l) r, h => by
    refine ⟨0, 2, blk l ++ blk r, rfl, fun z => by omega, fun _ => ⟨rfl, rfl⟩, fun _ => rfl, (fun z => by cases z), fun s hs => ?_⟩
    rw [prS, bdS, if_neg (show ¬ (2 : Nat) = 1 by decide)]
    by_cases c : 0 < s
    · have : wrS s (0, 2) = true := by
        unfold wrS
        have : s = 1 ∨ s = 2 := by omega
        rcases this with z | z <;> simp [z]
      rw [if_pos c, if_pos c, if_pos this, if_pos this]
      simp
    · have : ¬ wrS s (0, 2) = true := by unfold wrS; simp; omega
      rw [if_neg c, if_neg c, if_neg this, if_neg this]
      simp
  | .op (.op (.var 2) (.var p)) t, h => by
    refine ⟨0, 1, blk t, rfl, fun _ => ⟨rfl, rfl⟩, fun z => by omega, (fun z => by cases z), fun _ => rfl, fun s hs => ?_⟩
    have : ¬ wrS s (0, 1) = true := by unfold wrS; simp
    rw [prS, bdS, if_neg this, if_neg this, if_pos rfl]
    simp
theorem bdS_len (t : TE) (h : sp t) : (bdS t).length + 3 ≤ 11 * (blk t).length := by
  have h0 := (prS_len t 0 h).2 (Or.inl rfl)
  obtain ⟨k, x, l, e1, e2, e3, e4, e5, e6⟩ := hd_blk t h
  rw [e6 0 (by omega)] at h0
  simp only [List.length_append] at h0
  omega
end C
