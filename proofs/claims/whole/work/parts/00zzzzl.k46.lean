/-! The reference shows a kind. Own text. -/
def stI (τ : zS) : List Int32 → Prop
  | [] => True
  | x :: L => ga τ 53 L.length = x ∧ stI τ L
theorem stI_cg {τ τ' : zS} : ∀ (L : List Int32), (∀ i, i < L.length → ga τ' 53 i = ga τ 53 i) → stI τ L → stI τ' L
  | [], _, _ => trivial
  | x :: L, h, g => ⟨(h _ (by simp)).trans g.1, stI_cg L (fun i hi => h i (by simp; omega)) g.2⟩
def lnM (τ : zS) (W : List Int32) : Prop := gi τ 82 = nI W.length ∧ ∀ (i : Nat) (v : Int32), W[i]? = some v → ga τ 55 i = v
section K
variable {F : Nat} {τ0 : zS} {H : SG} {lt : Nat → Int32}
theorem putM {τ : zS} {W : List Int32} (h : lnM τ W) (hW : W.length < 5900) (b : Int32) : ∃ τ', Md_put F τ b = some τ' ∧ lnM τ' (W ++ [b]) ∧ sx [82] [55] τ τ' := by
  refine ⟨si (sa τ 55 W.length b) 82 (nI (W.length + 1)), ?_, ⟨by simp [zs], fun i v hv => ?_⟩, sx_si (sx_sa (sx_rfl _ _ _) (by decide) _ _) (by decide) _⟩
  · have e82 : gi (sa τ 55 W.length b) 82 = nI W.length := by simp only [zs]; exact h.1
    rw [Md_put, h.1, if_neg (show ¬ (5990 : Int32) ≤ nI W.length from nI_ge (b := 5990) (by omega) (by omega)), gd_t (inb_nI (by omega) (by omega)), nI_clamp (by omega), Md_put_20, e82, nI_1]
  · have e : ga (si (sa τ 55 W.length b) 82 (nI (W.length + 1))) 55 i = if i = W.length then b else ga τ 55 i := by simp [zs, up_at]
    rw [e]
    by_cases c : i = W.length
    · rw [if_pos c]
      rw [c, List.getElem?_append_right (Nat.le_refl _), Nat.sub_self] at hv
      exact Option.some.inj hv
    · rw [if_neg c]
      have hil : i < W.length := by
        rcases Nat.lt_or_ge i (W ++ [b]).length with z | z
        · simp at z; omega
        · rw [List.getElem?_eq_none z] at hv; cases hv
      rw [List.getElem?_append_left hil] at hv
      exact h.2 i v hv
theorem lnM_sx {I A : List Nat} {τ τ' : zS} {W : List Int32} (h : lnM τ W) (hs : sx I A τ τ') (h1 : 82 ∉ I) (h2 : 55 ∉ A) : lnM τ' W :=
  ⟨by rw [hs.1 82 h1]; exact h.1, fun i v hv => by rw [hs.2.1 55 h2]; exact h.2 i v hv⟩
theorem stI_sx {I A : List Nat} {τ τ' : zS} {L : List Int32} (h : stI τ L) (hs : sx I A τ τ') (h2 : 53 ∉ A) : stI τ' L := stI_cg L (fun i _ => by rw [hs.2.1 53 h2]) h
theorem lo_stop {τ : zS} {n z : Nat} (hz : 2000 < z) (hz2 : z < 2300) (hm : gi τ 82 = nI z) (f : Nat) : Md_layKindOut_14 F (f + 1) τ (nI n) = some τ := by
  rw [Md_layKindOut_14, Md_layKindOut_b14, hm, if_pos (show (2000 : Int32) < nI z from nI_lt (a := 2000) hz (by omega))]
  split <;> rfl
/-- the marks on the stack -/
theorem lo_cl {τ : zS} {L : List Int32} {W : List Int32} (hs : stI τ ((-1 : Int32) :: L)) (hl : lnM τ W) (hW : W.length ≤ 2000) (hL : L.length < 15000) : ∃ τ', (∀ f, Md_layKindOut_14 F (f + 1) τ (nI (L.length + 1)) = Md_layKindOut_14 F f τ' (nI L.length)) ∧ sx [82] [55] τ τ' ∧ stI τ' L ∧ lnM τ' (W ++ [41]) := by
  obtain ⟨τ1, a1, a2, a3⟩ := putM (F := F) hl (by omega) 41
  refine ⟨τ1, fun f => ?_, a3, stI_sx hs.2 a3 (by decide), a2⟩
  rw [Md_layKindOut_14, Md_layKindOut_b14, if_neg (nI_nle (by omega) (by omega)), hl.1, if_neg (show ¬ (2000 : Int32) < nI W.length from nI_nlt (a := 2000) (by omega) (by omega)), nI_prd, gd_t (inb_nI (by omega) (by omega)), nI_clamp (by omega), hs.1, if_pos rfl, a1, bv_some, Md_layKindOut_84]
theorem lo_ar {τ : zS} {L : List Int32} {W : List Int32} (hs : stI τ ((-2 : Int32) :: L)) (hl : lnM τ W) (hW : W.length ≤ 2000) (hL : L.length < 15000) : ∃ τ', (∀ f, Md_layKindOut_14 F (f + 1) τ (nI (L.length + 1)) = Md_layKindOut_14 F f τ' (nI L.length)) ∧ sx [82] [55] τ τ' ∧ stI τ' L ∧ lnM τ' (W ++ [45, 62]) := by
  obtain ⟨τ1, a1, a2, a3⟩ := putM (F := F) hl (by omega) 45
  obtain ⟨τ2, b1, b2, b3⟩ := putM (F := F) a2 (by simp; omega) 62
  refine ⟨τ2, fun f => ?_, sx_tr a3 b3, stI_sx (stI_sx hs.2 a3 (by decide)) b3 (by decide), by rw [List.append_assoc] at b2; exact b2⟩
  rw [Md_layKindOut_14, Md_layKindOut_b14, if_neg (nI_nle (by omega) (by omega)), hl.1, if_neg (show ¬ (2000 : Int32) < nI W.length from nI_nlt (a := 2000) (by omega) (by omega)), nI_prd, gd_t (inb_nI (by omega) (by omega)), nI_clamp (by omega), hs.1, if_neg (by decide), if_pos rfl, a1, bv_some, b1, bv_some, Md_layKindOut_84]
theorem lo_pop (hF : 20000 ≤ F) {τ : zS} {k : Nat} {L : List Int32} {W : List Int32} (hM : MS τ H) (hk : k < gn H) (hs : stI τ (nI k :: L)) (hl : lnM τ W) (hW : W.length ≤ 2000) (hL : L.length < 15000) (f : Nat) : Md_layKindOut_14 F (f + 1) τ (nI (L.length + 1)) = bi (Md_layKindOf F τ (nI (rt H k)) (nI L.length)) (fun r10 σ9 => Md_layKindOut_84 F (Md_layKindOut_14 F f) σ9 r10) := by
  have hn := hM.2.2.1
  have n1 : ¬ nI k = -1 := nI_m1 k (by omega)
  have n2 : ¬ nI k = -2 := by
    intro z
    have := nI_pos (n := k) (by omega)
    rw [z] at this
    exact this (by decide)
  rw [Md_layKindOut_14, Md_layKindOut_b14, if_neg (nI_nle (by omega) (by omega)), hl.1, if_neg (show ¬ (2000 : Int32) < nI W.length from nI_nlt (a := 2000) (by omega) (by omega)), nI_prd, gd_t (inb_nI (by omega) (by omega)), nI_clamp (by omega), hs.1, if_neg n1, if_neg n2, topM hF hM hk, bi_some]
/-- what open ones are shown as -/
def hlM (τ0 : zS) (H : SG) (lt : Nat → Int32) : Prop := ∀ r, r < gn H → gso H r = 0 → (gi τ0 85 = 0 ∧ lt r = 42) ∨ (gi τ0 85 ≠ 0 ∧ ga τ0 57 r = lt r)
theorem lo_leaf (hF : 20000 ≤ F) (hlt : hlM τ0 H lt) {τ : zS} {k d : Nat} {L : List Int32} {W : List Int32} (hM : MS τ H) (h0 : sx [82] [53, 55] τ0 τ) (hk : k < gn H) (h2 : gso H (rt H k) ≠ 2) (hs : stI τ (nI k :: L)) (hl : lnM τ W) (hW : W.length ≤ 2000) (hL : L.length < 15000) : ∃ τ', (∀ f, Md_layKindOut_14 F (f + 1) τ (nI (L.length + 1)) = Md_layKindOut_14 F f τ' (nI L.length)) ∧ sx [82] [55] τ τ' ∧ stI τ' L ∧ lnM τ' (W ++ prT lt d (gT H k)) ∧ (prT lt d (gT H k)).length = 1 := by
  have hw := hM.2.2.2.1
  have hn := hM.2.2.1
  have hr := rt_lt hw hk
  obtain ⟨c, hc1, hc2⟩ : ∃ c, prT lt d (gT H k) = [c] ∧ Md_layKindOf F τ (nI (rt H k)) (nI L.length) = Md_layKindOf_38 F τ (nI L.length) c := by
    rcases so3 hw hr with z | z | z
    · have ep : prT lt d (gT H k) = [lt (rt H k)] := by
        rw [gT_0 z]
        cases d with
        | zero => rw [prT, if_neg (by unfold iV; omega)]; rfl
        | succ d => rw [prT, if_neg (by unfold iV; omega), if_neg (by unfold iV; omega)]; rfl
      have e26 : ga τ 26 (rt H k) = 0 := by rw [(hM.2.2.2.2 _ hr).1, z]; exact nI_0
      rcases hlt _ hr z with ⟨y1, y2⟩ | ⟨y1, y2⟩
      · refine ⟨42, by rw [ep, y2], ?_⟩
        rw [Md_layKindOf, gd_t (inb_nI (by omega) (by omega)), nI_clamp (by omega), e26, if_neg (by decide), if_pos rfl, h0.1 85 (by decide), if_pos y1]; rfl
      · refine ⟨lt (rt H k), ep, ?_⟩
        rw [Md_layKindOf, gd_t (inb_nI (by omega) (by omega)), nI_clamp (by omega), e26, if_neg (by decide), if_pos rfl, h0.1 85 (by decide), if_neg y1, h0.2.1 57 (by decide), y2]
    · have ep : prT lt d (gT H k) = [42] := by
        rw [gT_1 z]
        cases d with
        | zero => rfl
        | succ d => rfl
      have e26 : ga τ 26 (rt H k) = 1 := by rw [(hM.2.2.2.2 _ hr).1, z]; rfl
      refine ⟨42, ep, ?_⟩
      rw [Md_layKindOf, gd_t (inb_nI (by omega) (by omega)), nI_clamp (by omega), e26, if_neg (by decide), if_neg (by decide)]; rfl
    · exact absurd z h2
  obtain ⟨τ1, a1, a2, a3⟩ := putM (F := F) hl (by omega) c
  refine ⟨τ1, fun f => ?_, a3, stI_sx hs.2 a3 (by decide), by rw [hc1]; exact a2, by rw [hc1]; rfl⟩
  rw [lo_pop hF hM hk hs hl hW hL, hc2, Md_layKindOf_38, a1, bv_some, bi_some]
  rfl
theorem lo_arr (hF : 20000 ≤ F) {τ : zS} {k : Nat} {L : List Int32} {W : List Int32} (hM : MS τ H) (hk : k < gn H) (h2 : gso H (rt H k) = 2) (hs : stI τ (nI k :: L)) (hl : lnM τ W) (hW : W.length ≤ 2000) (hL : L.length < 15000) : ∃ τ', (∀ f, Md_layKindOut_14 F (f + 1) τ (nI (L.length + 1)) = Md_layKindOut_14 F f τ' (nI ((nI (gle H (rt H k)) :: ((if gso H (lcG H (rt H k)) = 2 then [(-1 : Int32)] else []) ++ ((-2 : Int32) :: nI (gri H (rt H k)) :: L))).length))) ∧ sx [82] [53, 55] τ τ' ∧ stI τ' (nI (gle H (rt H k)) :: ((if gso H (lcG H (rt H k)) = 2 then [(-1 : Int32)] else []) ++ ((-2 : Int32) :: nI (gri H (rt H k)) :: L))) ∧ lnM τ' (W ++ (if gso H (lcG H (rt H k)) = 2 then [40] else [])) := by
  have hw := hM.2.2.2.1
  have hn := hM.2.2.1
  have hr := rt_lt hw hk
  obtain ⟨dl, dr⟩ := (hw.1 _ hr).2.2 h2
  obtain ⟨q1, q2⟩ := (hM.2.2.2.2 _ hr).2.2 h2
  have hlr : lcG H (rt H k) < gn H := rt_lt hw dl
  have e26 : ga τ 26 (rt H k) = 2 := by rw [(hM.2.2.2.2 _ hr).1, h2]; rfl
  have e26l : ga τ 26 (lcG H (rt H k)) = nI (gso H (lcG H (rt H k))) := (hM.2.2.2.2 _ hlr).1
  obtain ⟨τ1, hτ1⟩ : ∃ x, x = sa (sa τ 53 L.length (nI (gri H (rt H k)))) 53 (L.length + 1) (-2) := ⟨_, rfl⟩
  have s1 : sx [] [53] τ τ1 := by rw [hτ1]; exact sx_sa (sx_sa (sx_rfl _ _ _) (by decide) _ _) (by decide) _ _
  have st1 : stI τ1 ((-2 : Int32) :: nI (gri H (rt H k)) :: L) := by
    rw [hτ1]
    refine ⟨by simp [zs, up_at], by simp [zs, up_at], stI_cg L (fun i hi => ?_) hs.2⟩
    simp [zs, up_at, show ¬ i = L.length + 1 by omega, show ¬ i = L.length by omega]
  have e67 : ∀ s0, Md_layKindOf_67 F τ (nI (rt H k)) (nI L.length) s0 = if s0 = 0 then (Md_layKindOf_119 F τ1 (nI (rt H k)) (nI (L.length + 2))) else (bv (Md_put F τ1 (40 : Int32)) (fun σ5 => Md_layKindOf_119 F (sa σ5 53 (L.length + 2) (-1 : Int32)) (nI (rt H k)) (nI (L.length + 3)))) := by
    intro s0
    rw [Md_layKindOf_67, gd_t (inb_nI (by omega) (by omega)), gd_t (inb_nI (by omega) (by omega)), nI_1, gd_t (inb_nI (by omega) (by omega)), nI_clamp (by omega), nI_clamp (by omega), nI_clamp (by omega), q2, ← hτ1, show nI L.length + 2 = nI (L.length + 2) from nI_ad _ 2 _ rfl, nI_1, nI_clamp (by omega)]
    by_cases c : s0 = 0
    · rw [if_pos c, if_pos c]
    · rw [if_neg c, if_neg c]
      congr 1
      funext σ5
      rw [gd_t (inb_nI (by omega) (by omega))]
  have fin : ∀ (τ2 : zS) (m : Nat), sx [82] [53, 55] τ1 τ2 → m < 15990 → Md_layKindOf_119 F τ2 (nI (rt H k)) (nI m) = some (nI (m + 1), sa τ2 53 m (nI (gle H (rt H k)))) := by
    intro τ2 m hs2 hm
    rw [Md_layKindOf_119, gd_t (inb_nI (by omega) (by omega)), gd_t (inb_nI (by omega) (by omega)), nI_clamp (by omega), nI_clamp (by omega), hs2.2.1 27 (by decide), s1.2.1 27 (by decide), q1, nI_1]
  have eOf : Md_layKindOf F τ (nI (rt H k)) (nI L.length) = if gso H (lcG H (rt H k)) = 2 then Md_layKindOf_67 F τ (nI (rt H k)) (nI L.length) 1 else Md_layKindOf_67 F τ (nI (rt H k)) (nI L.length) 0 := by
    rw [Md_layKindOf, gd_t (inb_nI (by omega) (by omega)), nI_clamp (by omega), e26, if_pos rfl, q1, topM hF hM dl, bi_some]
    show gd (inb (nI (lcG H (rt H k))) 4000) (if ga τ 26 (nI (lcG H (rt H k))).toNatClampNeg = 2 then _ else _) = _
    rw [gd_t (inb_nI (by omega) (by omega)), nI_clamp (by omega), e26l]
    have hs2 := (hw.1 _ hlr).1
    by_cases c : gso H (lcG H (rt H k)) = 2
    · rw [if_pos c, if_pos (by rw [c]; rfl)]
    · rw [if_neg c, if_neg (show ¬ nI (gso H (lcG H (rt H k))) = 2 from fun z => c ((nI_eq (b := 2) (by omega) (by omega)).mp z))]
  by_cases c : gso H (lcG H (rt H k)) = 2
  · obtain ⟨τ2, a1, a2, a3⟩ := putM (F := F) (lnM_sx hl s1 (by decide) (by decide)) (by omega) 40
    obtain ⟨τ3, hτ3⟩ : ∃ x, x = sa (sa τ2 53 (L.length + 2) (-1)) 53 (L.length + 3) (nI (gle H (rt H k))) := ⟨_, rfl⟩
    have s3 : sx [] [53] τ2 τ3 := by rw [hτ3]; exact sx_sa (sx_sa (sx_rfl _ _ _) (by decide) _ _) (by decide) _ _
    rw [if_pos c]
    refine ⟨τ3, fun f => ?_, sx_tr (sx_mono (by decide) (by decide) s1) (sx_tr (sx_mono (by decide) (by decide) a3) (sx_mono (by decide) (by decide) s3)), ?_, by rw [if_pos c]; exact lnM_sx a2 s3 (by decide) (by decide)⟩
    · rw [lo_pop hF hM hk hs hl hW hL, eOf, if_pos c, e67, if_neg (by decide), a1, bv_some, fin _ _ (sx_sa (sx_mono (by decide) (by decide) a3) (by decide) _ _) (by omega), bi_some, hτ3]
      rfl
    · rw [hτ3]
      refine ⟨by simp [zs, up_at], by simp [zs, up_at], stI_cg _ (fun i hi => ?_) (stI_sx st1 a3 (by decide))⟩
      have hi : i < L.length + 2 := hi
      simp [zs, up_at, show ¬ i = L.length + 3 by omega, show ¬ i = L.length + 2 by omega]
  · obtain ⟨τ3, hτ3⟩ : ∃ x, x = sa τ1 53 (L.length + 2) (nI (gle H (rt H k))) := ⟨_, rfl⟩
    have s3 : sx [] [53] τ1 τ3 := by rw [hτ3]; exact sx_sa (sx_rfl _ _ _) (by decide) _ _
    rw [if_neg c]
    refine ⟨τ3, fun f => ?_, sx_tr (sx_mono (by decide) (by decide) s1) (sx_mono (by decide) (by decide) s3), ?_, by rw [if_neg c, List.append_nil]; exact lnM_sx (lnM_sx hl s1 (by decide) (by decide)) s3 (by decide) (by decide)⟩
    · rw [lo_pop hF hM hk hs hl hW hL, eOf, if_neg c, e67, if_pos rfl, fin _ _ (sx_rfl _ _ _) (by omega), bi_some, hτ3]
      rfl
    · rw [hτ3]
      refine ⟨by simp [zs, up_at], stI_cg _ (fun i hi => ?_) st1⟩
      have hi : i < L.length + 2 := hi
      simp [zs, up_at, show ¬ i = L.length + 2 by omega]
end K
