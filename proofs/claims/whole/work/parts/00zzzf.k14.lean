/-! The class's list of equations, step by step. Own text. -/
def eqK (σ : zS) (G : SG) (dom : Nat → Prop) (m : Nat → Nat) : Nat → List EQ → Prop
  | _, [] => True
  | i, e :: l => (∃ x y, ga σ 49 i = nI x ∧ ga σ 50 i = nI y ∧ ga σ 51 i = nI e.2.2 ∧ rp G dom m x e.1 ∧ rp G dom m y e.2.1) ∧ eqK σ G dom m (i + 1) l
def lsE (Z : List (TE × TE)) (σ : zS) (G : SG) (dom : Nat → Prop) (m : Nat → Nat) (E : List EQ) : Prop := CS σ G ∧ Rp G dom m Z ∧ gi σ 807 = nI E.length ∧ E.length ≤ 216 ∧ eqK σ G dom m 0 E
/-- what is told of kinds stays told -/
def xt (G : SG) (dom : Nat → Prop) (m : Nat → Nat) (G' : SG) (dom' : Nat → Prop) (m' : Nat → Nat) : Prop := ∀ k e, rp G dom m k e → rp G' dom' m' k e
theorem xt_rfl (G : SG) (dom : Nat → Prop) (m : Nat → Nat) : xt G dom m G dom m := fun _ _ h => h
theorem xt_tr {G G1 G2 : SG} {d d1 d2 : Nat → Prop} {m m1 m2 : Nat → Nat} (h : xt G d m G1 d1 m1) (g : xt G1 d1 m1 G2 d2 m2) : xt G d m G2 d2 m2 := fun k e z => g k e (h k e z)
theorem eqK_cg {σ σ' : zS} {G G' : SG} {dom dom' : Nat → Prop} {m m' : Nat → Nat} (hx : xt G dom m G' dom' m') : ∀ (E : List EQ) (i : Nat), (∀ j, i ≤ j → j < i + E.length → ga σ' 49 j = ga σ 49 j ∧ ga σ' 50 j = ga σ 50 j ∧ ga σ' 51 j = ga σ 51 j) → eqK σ G dom m i E → eqK σ' G' dom' m' i E
  | [], _, _, _ => trivial
  | e :: l, i, h, g => by
    obtain ⟨⟨x, y, a1, a2, a3, a4, a5⟩, g2⟩ := g
    obtain ⟨b1, b2, b3⟩ := h i (Nat.le_refl _) (by simp only [List.length_cons]; omega)
    exact ⟨⟨x, y, b1.trans a1, b2.trans a2, b3.trans a3, hx _ _ a4, hx _ _ a5⟩, eqK_cg hx l (i + 1) (fun j j1 j2 => h j (by omega) (by simp only [List.length_cons]; omega)) g2⟩
theorem eqK_app {σ : zS} {G : SG} {dom : Nat → Prop} {m : Nat → Nat} : ∀ (E1 E2 : List EQ) (i : Nat), eqK σ G dom m i (E1 ++ E2) ↔ eqK σ G dom m i E1 ∧ eqK σ G dom m (i + E1.length) E2
  | [], E2, i => by simp [eqK]
  | e :: l, E2, i => by
    simp only [List.cons_append, eqK, eqK_app l E2, List.length_cons, and_assoc]
    rw [show i + 1 + l.length = i + (l.length + 1) by omega]
section K
variable {Z : List (TE × TE)} {F : Nat} {σ τ : zS} {G : SG} {dom : Nat → Prop} {m : Nat → Nat} {E : List EQ}
theorem ls_fr {I A : List Nat} {σ' : zS} (h : lsE Z σ G dom m E) (hs : sy I A σ σ') (h1 : 306 ∉ I ∧ 807 ∉ I) (h2 : 23 ∉ A ∧ 24 ∉ A ∧ 25 ∉ A ∧ 49 ∉ A ∧ 50 ∉ A ∧ 51 ∉ A) : lsE Z σ' G dom m E := by
  obtain ⟨a1, a2, a3, a4, a5⟩ := h
  obtain ⟨b1, b2, b3, b4, b5, b6⟩ := h2
  exact ⟨CS_cg (hs.1 306 h1.1) (fun k _ => by rw [hs.2.1 23 b1, hs.2.1 24 b2, hs.2.1 25 b3]; exact ⟨rfl, rfl, rfl⟩) a1, a2, (hs.1 807 h1.2).trans a3, a4, eqK_cg (xt_rfl _ _ _) E 0 (fun j _ _ => by rw [hs.2.1 49 b4, hs.2.1 50 b5, hs.2.1 51 b6]; exact ⟨rfl, rfl, rfl⟩) a5⟩
theorem rp_star (h : CS σ G) : rp G dom m 0 (.var 0) := by
  obtain ⟨_, a2, _, a4, a5, _⟩ := h
  exact ⟨by omega, fun w hw α _ => ((hw 0 (by omega)).2 a4).1 a5⟩
theorem ls_eq {x y p : Nat} {e1 e2 : TE} (h : lsE Z σ G dom m E) (hE : E.length < 216) (hx : rp G dom m x e1) (hy : rp G dom m y e2) : ∃ σ', So_equate F σ (nI x) (nI y) (nI p) = some σ' ∧ lsE Z σ' G dom m (E ++ [(e1, e2, p)]) ∧ sx [807] [49, 50, 51] σ σ' := by
  obtain ⟨a1, a2, a3, a4, a5⟩ := h
  have hs : sx [807] [49, 50, 51] σ (si (sa (sa (sa σ 49 E.length (nI x)) 50 E.length (nI y)) 51 E.length (nI p)) 807 (nI (E.length + 1))) := sx_si (sx_sa (sx_sa (sx_sa (sx_rfl _ _ σ) (by decide) _ _) (by decide) _ _) (by decide) _ _) (by decide) _
  refine ⟨_, ?_, ⟨CS_sx hs (by decide) (by decide) (by decide) (by decide) a1, a2, by simp [zs], by simp; omega, ?_⟩, hs⟩
  · rw [So_equate, a3, if_neg (show ¬ (216 : Int32) ≤ nI E.length from nI_ge (b := 216) hE (by omega)), gd_t (inb_nI (by omega) (by omega)), nI_clamp (by omega), nI_1]
    rfl
  · rw [eqK_app]
    refine ⟨eqK_cg (xt_rfl _ _ _) E 0 (fun j _ hj => ?_) a5, ⟨x, y, ?_, ?_, ?_, hx, hy⟩, trivial⟩
    · have : ¬ j = E.length := by omega
      simp [zs, up_at, this]
    · simp [zs, up_at]
    · simp [zs, up_at]
    · simp [zs, up_at]
theorem ls_open {x : Nat} (h : lsE Z σ G dom m E) (hG : gn G < 1713) (hx : ¬ dom x) : ∃ σ', Ki_makeOpen F σ = some (nI (gn G), σ') ∧ sx [306] [23, 24, 25] σ σ' ∧ lsE Z σ' (adG G 0 0 0) (fun z => dom z ∨ z = x) (fun z => if z = x then gn G else m z) E ∧ xt G dom m (adG G 0 0 0) (fun z => dom z ∨ z = x) (fun z => if z = x then gn G else m z) ∧ rp (adG G 0 0 0) (fun z => dom z ∨ z = x) (fun z => if z = x then gn G else m z) (gn G) (.var (x + 1)) := by
  obtain ⟨a1, a2, a3, a4, a5⟩ := h
  obtain ⟨σ', e1, e2, e3⟩ := openC (F := F) a1 hG
  obtain ⟨r1, r2, r3⟩ := Rp_open a2 hx
  exact ⟨σ', e1, e3, ⟨e2, r1, (e3.1 807 (by decide)).trans a3, a4, eqK_cg r3 E 0 (fun j _ _ => by rw [e3.2.1 49 (by decide), e3.2.1 50 (by decide), e3.2.1 51 (by decide)]; exact ⟨rfl, rfl, rfl⟩) a5⟩, r3, r2⟩
theorem ls_arr {l r : Nat} {e1 e2 : TE} (h : lsE Z σ G dom m E) (hG : gn G < 1713) (hl : rp G dom m l e1) (hr : rp G dom m r e2) : ∃ σ', Ki_makeArrow F σ (nI l) (nI r) = some (nI (gn G), σ') ∧ sx [306] [23, 24, 25] σ σ' ∧ lsE Z σ' (adG G 2 l r) dom m E ∧ xt G dom m (adG G 2 l r) dom m ∧ rp (adG G 2 l r) dom m (gn G) (.op e1 e2) := by
  obtain ⟨a1, a2, a3, a4, a5⟩ := h
  obtain ⟨σ', e1', e2', e3⟩ := arrowC (F := F) a1 hG hl.1 hr.1
  obtain ⟨r1, r2⟩ := Rp_arr a2 hl hr
  have r3 : xt G dom m (adG G 2 l r) dom m := fun k e z => rp_ad a2.1 z
  exact ⟨σ', e1', e3, ⟨e2', r1, (e3.1 807 (by decide)).trans a3, a4, eqK_cg r3 E 0 (fun j _ _ => by rw [e3.2.1 49 (by decide), e3.2.1 50 (by decide), e3.2.1 51 (by decide)]; exact ⟨rfl, rfl, rfl⟩) a5⟩, r3, r2⟩
end K
/-- the names of a term and what they stand for -/
def EV (σ : zS) (G : SG) (dom : Nat → Prop) (m : Nat → Nat) (D : Nat) (ow pr me : Int32) (ty sm : Int64 → TE) (Bn Sn : Int64 → Prop) : Prop :=
  (∀ v, Bn v → (fTy σ v D 0 = -1 ∧ ty v = .var 0) ∨ ∃ y k, y < D ∧ fTy σ v D 0 = nI y ∧ ga σ 40 y = nI k ∧ rp G dom m k (ty v)) ∧ (∀ v, Sn v → (∃ o q j k, o < D ∧ ow = nI o ∧ ga σ 32 o = nI q ∧ q ≤ 3 ∧ fPa σ o v q 0 = nI j ∧ j < q ∧ ga σ 41 (3 * o + j) = nI k ∧ rp G dom m k (sm v)) ∨ (sm v = .var (cfr pr me v + 1) ∧ (ow = -1 ∨ ∃ o q, o < D ∧ ow = nI o ∧ ga σ 32 o = nI q ∧ q ≤ 3 ∧ fPa σ o v q 0 = -1)))
def FV (σ : zS) (G : SG) (dom : Nat → Prop) (m : Nat → Nat) (ow me : Int32) (fv : List Int64) : Prop := gi σ 814 = nI fv.length ∧ (∀ i v, fv[i]? = some v → gb σ 55 i = v ∧ ∃ k, ga σ 56 i = nI k ∧ rp G dom m k (.var (cfr ow me v + 1))) ∧ ∀ v, dom (cfr ow me v) → v ∈ fv
theorem EV_cg {I A : List Nat} {σ σ' : zS} {G G' : SG} {dom dom' : Nat → Prop} {m m' : Nat → Nat} {D : Nat} {ow pr me : Int32} {ty sm : Int64 → TE} {Bn Sn : Int64 → Prop} (h : EV σ G dom m D ow pr me ty sm Bn Sn) (hs : sy I A σ σ') (hA : 29 ∉ A ∧ 32 ∉ A ∧ 40 ∉ A ∧ 41 ∉ A) (hx : xt G dom m G' dom' m') : EV σ' G' dom' m' D ow pr me ty sm Bn Sn := by
  have e1 : ∀ v, fTy σ' v D 0 = fTy σ v D 0 := fun v => fTy_cg (hs.2.1 29 hA.1) (hs.2.2.1 30 (by decide)) v D 0
  have e2 : ∀ o q v, fPa σ' o v q 0 = fPa σ o v q 0 := fun o q v => fPa_cg (hs.2.2.1 33 (by decide)) o v q 0
  refine ⟨fun v hv => ?_, fun v hv => ?_⟩
  · rw [e1, hs.2.1 40 hA.2.2.1]
    rcases h.1 v hv with z | ⟨y, k, z1, z2, z3, z4⟩
    · exact Or.inl z
    · exact Or.inr ⟨y, k, z1, z2, z3, hx _ _ z4⟩
  · rcases h.2 v hv with ⟨o, q, j, k, z1, z2, z3, z4, z5, z6, z7, z8⟩ | ⟨z1, z2⟩
    · exact Or.inl ⟨o, q, j, k, z1, z2, by rw [hs.2.1 32 hA.2.1]; exact z3, z4, by rw [e2]; exact z5, z6, by rw [hs.2.1 41 hA.2.2.2]; exact z7, hx _ _ z8⟩
    · refine Or.inr ⟨z1, z2.elim Or.inl (fun ⟨o, q, y1, y2, y3, y4, y5⟩ => Or.inr ⟨o, q, y1, y2, by rw [hs.2.1 32 hA.2.1]; exact y3, y4, by rw [e2]; exact y5⟩)⟩
theorem FV_cg {I A : List Nat} {σ σ' : zS} {G G' : SG} {dom dom' : Nat → Prop} {m m' : Nat → Nat} {ow me : Int32} {fv : List Int64} (h : FV σ G dom m ow me fv) (hs : sx I A σ σ') (hI : 814 ∉ I) (hA : 56 ∉ A) (hx : xt G dom m G' dom' m') (hd : ∀ v, dom' (cfr ow me v) → dom (cfr ow me v)) : FV σ' G' dom' m' ow me fv := by
  obtain ⟨a1, a2, a3⟩ := h
  refine ⟨(hs.1 814 hI).trans a1, fun i v hv => ?_, fun v hv => a3 v (hd v hv)⟩
  obtain ⟨b1, k, b2, b3⟩ := a2 i v hv
  exact ⟨by rw [sx_gb hs]; exact b1, k, by rw [hs.2.1 56 hA]; exact b2, hx _ _ b3⟩
/-- what may be added to the open ones while a term is listed -/
def dmx (ow me : Int32) (L : List Nat) (dom dom' : Nat → Prop) : Prop := ∀ z, dom' z → dom z ∨ z ∈ L ∨ ∃ v, z = cfr ow me v
section K
variable {Z : List (TE × TE)} {F : Nat} {σ τ : zS} {G : SG} {dom : Nat → Prop} {m : Nat → Nat} {E : List EQ} {D : Nat} {ow me : Int32} {ty sm : Int64 → TE} {Bn Sn : Int64 → Prop} {fv : List Int64}
theorem fk_loop (v : Int64) (h : lsE Z σ G dom m E) (hf : FV σ G dom m ow me fv) (hG : gn G < 1713) (hl : fv.length < 200) : ∀ (d f i : Nat), i + d = fv.length → d < f → (∀ j, j < i → fv[j]? ≠ some v) → ∃ σ' k G' dom' m' fv', So_freeKind_2 F f σ v (nI i) = some (nI k, σ') ∧ sy [306, 814] [23, 24, 25, 56] σ σ' ∧ lsE Z σ' G' dom' m' E ∧ xt G dom m G' dom' m' ∧ rp G' dom' m' k (.var (cfr ow me v + 1)) ∧ FV σ' G' dom' m' ow me fv' ∧ fv'.length ≤ fv.length + 1 ∧ gn G' ≤ gn G + 1 ∧ dmx ow me [] dom dom' := by
  intro d
  induction d with
  | zero =>
    intro f i hi hd hno
    obtain ⟨f, rfl⟩ : ∃ f', f = f' + 1 := ⟨f - 1, by omega⟩
    have hni : v ∉ fv := by
      intro z
      obtain ⟨j, hj, e⟩ := List.getElem_of_mem z
      exact hno j (by omega) (by rw [List.getElem?_eq_getElem hj, e])
    obtain ⟨σ1, e1, e2, e3, e4, e5⟩ := ls_open (F := F) (x := cfr ow me v) h hG (fun z => hni (hf.2.2 v z))
    have h814 : gi σ1 814 = nI fv.length := by rw [e2.1 814 (by decide)]; exact hf.1
    obtain ⟨σ2, hσ2⟩ : ∃ s, s = si (sa (sb σ1 55 fv.length v) 56 fv.length (nI (gn G))) 814 (nI (fv.length + 1)) := ⟨_, rfl⟩
    have hs2 : sy [306, 814] [23, 24, 25, 56] σ1 σ2 := by rw [hσ2]; exact sy_si (sy_sa (sy_sb (sy_rfl _ _ _) _ _) (by decide) _ _) (by decide) _
    have hs2' : sy [814] [56] σ1 σ2 := by rw [hσ2]; exact sy_si (sy_sa (sy_sb (sy_rfl _ _ _) _ _) (by decide) _ _) (by decide) _
    refine ⟨σ2, gn G, _, _, _, fv ++ [v], ?_, sy_tr (sy_mono (by decide) (by decide) (sy_sx e2)) hs2, ls_fr e3 hs2' (by decide) (by decide), e4, e5, ?_, by simp, by rw [ad_n]; omega, fun z hz => ?_⟩
    · rw [So_freeKind_2, So_freeKind_b2, hf.1, if_pos (nI_le (by omega) (by omega)), e1, bi_some]
      show (if (200 : Int32) ≤ gi σ1 814 then _ else _) = _
      rw [h814, if_neg (show ¬ (200 : Int32) ≤ nI fv.length from nI_ge (b := 200) hl (by omega)), gd_t (inb_nI (by omega) (by omega)), nI_clamp (by omega), nI_1, hσ2]
      rfl
    · have g56 : ∀ j, ga σ2 56 j = if j = fv.length then nI (gn G) else ga σ 56 j := by
        intro j; rw [hσ2]; simp [zs, up_at]; rw [e2.2.1 56 (by decide)]
      have g55 : ∀ j, gb σ2 55 j = if j = fv.length then v else gb σ 55 j := by
        intro j; rw [hσ2]; simp [zs, upL_at]; rw [sx_gb e2]
      refine ⟨by rw [hσ2]; simp [zs], fun j w hj => ?_, fun w hw => ?_⟩
      · rw [g56, g55]
        by_cases ej : j = fv.length
        · subst ej
          rw [List.getElem?_append_right (Nat.le_refl _), Nat.sub_self] at hj
          cases hj
          rw [if_pos rfl, if_pos rfl]
          exact ⟨rfl, gn G, rfl, e5⟩
        · rw [if_neg ej, if_neg ej]
          have hjl : j < fv.length := by
            rcases Nat.lt_or_ge j (fv ++ [v]).length with z | z
            · simp at z; omega
            · rw [List.getElem?_eq_none z] at hj; cases hj
          rw [List.getElem?_append_left hjl] at hj
          obtain ⟨b1, k, b2, b3⟩ := hf.2.1 j w hj
          exact ⟨b1, k, b2, e4 _ _ b3⟩
      · rcases hw with z | z
        · exact List.mem_append_left _ (hf.2.2 w z)
        · rw [(cfr_inj z).2.2]; simp
    · rcases hz with z | z
      · exact Or.inl z
      · exact Or.inr (Or.inr ⟨v, z⟩)
  | succ d ih =>
    intro f i hi hd hno
    obtain ⟨f, rfl⟩ : ∃ f', f = f' + 1 := ⟨f - 1, by omega⟩
    have hil : i < fv.length := by omega
    obtain ⟨b1, k, b2, b3⟩ := hf.2.1 i fv[i] (List.getElem?_eq_getElem hil)
    rw [So_freeKind_2, So_freeKind_b2, hf.1, if_neg (nI_ge hil (by omega)), gd_t (inb_nI (by omega) (by omega)), nI_clamp (by omega), b1, b2]
    by_cases ev : fv[i] = v
    · rw [if_pos ((lgc _ _).mpr ev)]
      exact ⟨σ, k, G, dom, m, fv, rfl, sy_rfl _ _ _, h, xt_rfl _ _ _, by rw [← ev]; exact b3, hf, by omega, by omega, fun z hz => Or.inl hz⟩
    · rw [if_neg (fun z => ev ((lgc _ _).mp z)), nI_1]
      refine ih f (i + 1) (by omega) (by omega) (fun j hj => ?_)
      by_cases e : j = i
      · subst e
        rw [List.getElem?_eq_getElem hil]
        exact fun z => ev (Option.some.inj z)
      · exact hno j (by omega)
end K
