/-! The class lists a term: the whole of it. Own text. -/
section W
variable {Z : List (TE × TE)} {F : Nat} {τ : zS} {D : Nat} {ow pr me : Int32} {ty sm : Int64 → TE} {Bn Sn : Int64 → Prop} {σ : zS} {G : SG} {dom : Nat → Prop} {m : Nat → Nat} {E : List EQ} {fv : List Int64} {X : Nat}
def fxO (s : Int32) : Nat := if s = 45 then 2 else if s = 91 then 1 else 0
theorem fxO_le (s : Int32) : fxO s ≤ 2 := by
  unfold fxO
  split
  · omega
  · split <;> omega
theorem fixed_ok (hX : isRow X = true) {i : Nat} (hi : i < 200) : Ro_fixedOf F σ X (nI i) = some (nI (fxO (ma σ (rA X 0) i)), σ) := by
  rw [Ro_fixedOf, gd_t hX, gd_t (inb_nI (by omega) (by omega)), nI_clamp (by omega)]
  unfold fxO
  split
  · rfl
  · split <;> rfl
theorem iv_eq {x y p : Nat} {e1 e2 : TE} (h : IV Z τ D ow pr me ty sm Bn Sn σ G dom m E fv) (hE : E.length < 216) (hx : rp G dom m x e1) (hy : rp G dom m y e2) : ∃ σ', So_equate F σ (nI x) (nI y) (nI p) = some σ' ∧ IV Z τ D ow pr me ty sm Bn Sn σ' G dom m (E ++ [(e1, e2, p)]) fv ∧ sx [807] [49, 50, 51] σ σ' := by
  obtain ⟨σ', a1, a2, a3⟩ := ls_eq (F := F) (p := p) h.1 hE hx hy
  exact ⟨σ', a1, ⟨a2, EV_cg h.2.1 (sy_sx a3) (by decide) (xt_rfl _ _ _), FV_cg h.2.2.1 a3 (by decide) (by decide) (xt_rfl _ _ _) (fun _ z => z), dcN_sy h.2.2.2 (sy_sx a3) (by decide) (by decide)⟩, a3⟩
/-- a fixed one below -/
theorem jf_star (hX : isRow X = true) {d i dn k p : Nat} {e : TE} (h : IV Z τ D ow pr me ty sm Bn Sn σ G dom m E fv) (hE : E.length < 216) (hd : d < 200) (hi : i < 200) (h52 : ga σ 52 d = nI i) (h54 : ga σ 54 d = nI dn) (hdn : dn < fxO (ma σ (rA X 0) i)) (hk : rp G dom m k e) : ∃ σ', So_joinFrame F σ X (nI d) (nI k) (nI p) = some σ' ∧ IV Z τ D ow pr me ty sm Bn Sn σ' G dom m (E ++ [(e, .var 0, p)]) fv ∧ sx [807] [49, 50, 51, 54] σ σ' ∧ ∀ j, ga σ' 54 j = if j = d then nI (dn + 1) else ga σ 54 j := by
  obtain ⟨σ1, a1, a2, a3⟩ := iv_eq (F := F) (p := p) h hE hk (rp_star (dom := dom) (m := m) h.1.1)
  have hfx : fxO (ma σ (rA X 0) i) ≤ 2 := fxO_le _
  have h54' : ga σ1 54 d = nI dn := by rw [a3.2.1 54 (by decide)]; exact h54
  refine ⟨sa σ1 54 d (nI (dn + 1)), ?_, iv_fr a2 (sx_sa (sx_rfl _ _ _) (by decide) _ _), sx_sa (sx_mono (by decide) (by decide) a3) (by decide) _ _, fun j => ?_⟩
  · rw [So_joinFrame, gd_t (inb_nI (by omega) (by omega)), gd_t hX, nI_clamp (by omega), h52, fixed_ok hX hi, bi_some, h54]
    show (if nI (fxO (ma σ (rA X 0) i)) ≤ nI dn then _ else _) = _
    rw [if_neg (nI_ge hdn (by omega)), show (0 : Int32) = nI 0 from nI_0.symm, a1, bv_some, So_joinFrame_69, gd_t (inb_nI (by omega) (by omega)), nI_clamp (by omega), h54', nI_1]
  · simp only [zs, if_true]; rw [up_at, a3.2.1 54 (by decide)]
/-- one more behind -/
theorem jf_app (hX : isRow X = true) {d i dn k kf p n : Nat} {e ef : TE} (h : IV Z τ D ow pr me ty sm Bn Sn σ G dom m E fv) (hE : E.length < 216) (hG : gn G + 2 ≤ 1713) (hn : ¬ dom n) (hn2 : n < 2048) (hd : d < 200) (hi : i < 200) (h52 : ga σ 52 d = nI i) (h53 : ga σ 53 d = nI kf) (h54 : ga σ 54 d = nI dn) (hdn2 : dn < 2000) (hdn : fxO (ma σ (rA X 0) i) ≤ dn) (hk : rp G dom m k e) (hkf : rp G dom m kf ef) : ∃ σ' G' dom' m' k', So_joinFrame F σ X (nI d) (nI k) (nI p) = some σ' ∧ IV Z τ D ow pr me ty sm Bn Sn σ' G' dom' m' (E ++ [(ef, .op e (.var (n + 1)), p)]) fv ∧ sx [306, 807] [23, 24, 25, 49, 50, 51, 53, 54] σ σ' ∧ (∀ j, ga σ' 54 j = if j = d then nI (dn + 1) else ga σ 54 j) ∧ (∀ j, ga σ' 53 j = if j = d then nI k' else ga σ 53 j) ∧ rp G' dom' m' k' (.var (n + 1)) ∧ xt G dom m G' dom' m' ∧ gn G' = gn G + 2 ∧ dmx pr me [n] dom dom' := by
  obtain ⟨hL, hEV, hV, hdc⟩ := h
  obtain ⟨σ1, a1, a2, a3, a4, a5⟩ := ls_open (F := F) (x := n) hL (by omega) hn
  obtain ⟨σ2, b1, b2, b3, b4, b5⟩ := ls_arr (F := F) (l := k) (r := gn G) a3 (by rw [ad_n]; omega) (a4 _ _ hk) a5
  have s12 : sx [306] [23, 24, 25] σ σ2 := sx_tr a2 b2
  have hiv : IV Z τ D ow pr me ty sm Bn Sn σ2 (adG (adG G 0 0 0) 2 k (gn G)) (fun z => dom z ∨ z = n) (fun z => if z = n then gn G else m z) E fv := ⟨b3, EV_cg hEV (sy_sx s12) (by decide) (xt_tr a4 b4), FV_cg hV s12 (by decide) (by decide) (xt_tr a4 b4) (fun v z => by
    rcases z with z | z
    · exact z
    · have := cfr_ge pr me v; omega), dcN_sy hdc (sy_sx s12) (by decide) (by decide)⟩
  obtain ⟨σ3, c1, c2, c3⟩ := iv_eq (F := F) (p := p) hiv hE (b4 _ _ (a4 _ _ hkf)) b5
  have h54' : ga σ3 54 d = nI dn := by rw [c3.2.1 54 (by decide), s12.2.1 54 (by decide)]; exact h54
  have hs : sx [306, 807] [23, 24, 25, 49, 50, 51, 53, 54] σ σ3 := sx_tr (sx_mono (by decide) (by decide) s12) (sx_mono (by decide) (by decide) c3)
  refine ⟨sa (sa σ3 53 d (nI (gn G))) 54 d (nI (dn + 1)), _, _, _, gn G, ?_, iv_fr c2 (sx_sa (sx_sa (sx_rfl _ _ _) (by decide) _ _) (by decide) _ _), sx_sa (sx_sa hs (by decide) _ _) (by decide) _ _, fun j => ?_, fun j => ?_, b4 _ _ a5, xt_tr a4 b4, by rw [ad_n, ad_n], fun z hz => ?_⟩
  · rw [So_joinFrame, gd_t (inb_nI (by omega) (by omega)), gd_t hX, nI_clamp (by omega), h52, fixed_ok hX hi, bi_some, h54]
    show (if nI (fxO (ma σ (rA X 0) i)) ≤ nI dn then _ else _) = _
    rw [if_pos (nI_le hdn (by omega)), a1, bi_some]
    show bi (Ki_makeArrow F σ1 (nI k) (nI (gn G))) _ = _
    rw [b1, bi_some]
    show bv (So_equate F σ2 (ga σ1 53 d) (nI (gn (adG G 0 0 0))) (nI p)) _ = _
    rw [show ga σ1 53 d = nI kf by rw [a2.2.1 53 (by decide)]; exact h53, c1, bv_some, So_joinFrame_69, gd_t (inb_nI (by omega) (by omega)), nI_clamp (by omega)]
    rw [show ga (sa σ3 53 d (nI (gn G))) 54 d = nI dn by simp [zs, h54'], nI_1]
  · have : ga σ3 54 = ga σ 54 := by rw [c3.2.1 54 (by decide), s12.2.1 54 (by decide)]
    simp [zs, up_at, this]
  · have : ga σ3 53 = ga σ 53 := by rw [c3.2.1 53 (by decide), s12.2.1 53 (by decide)]
    simp [zs, up_at, this]
  · rcases hz with z | z
    · exact Or.inl z
    · exact Or.inr (Or.inl (by rw [z]; exact List.mem_singleton.mpr rfl))
/-- the frame on top is not done -/
theorem cf_ret (hX : isRow X = true) {d i dn cN u n : Nat} (hn : 0 < n) (hu : u < 200) (hd : d < 200) (hi : i < 200) (h811 : gi σ 811 = nI (d + 1)) (h52 : ga σ 52 d = nI i) (h54 : ga σ 54 d = nI dn) (hc : ma σ (rA X 2) i = nI cN) (hcN : cN < 100000) (hlt : dn < cN) : So_closeFrames_2 F n σ X (nI u) = some σ := by
  obtain ⟨n, rfl⟩ : ∃ n', n = n' + 1 := ⟨n - 1, by omega⟩
  rw [So_closeFrames_2, So_closeFrames_b2, if_neg (show ¬ (200 : Int32) ≤ nI u from nI_ge (b := 200) hu (by omega)), h811, if_neg (nI_nle (by omega) (by omega)), nI_s1, gd_t (inb_nI (by omega) (by omega)), gd_t hX, nI_clamp (by omega), h52, gd_t (inb_nI (by omega) (by omega)), nI_clamp (by omega), hc, h54, if_neg (nI_ge hlt (by omega))]
/-- it is done, and another stands below it -/
theorem cf_pop (hX : isRow X = true) {d i dn k p u n : Nat} (hu : u < 200) (hd : d + 1 < 200) (hi : i < 200) (h811 : gi σ 811 = nI (d + 2)) (h52 : ga σ 52 (d + 1) = nI i) (h53 : ga σ 53 (d + 1) = nI k) (h54 : ga σ 54 (d + 1) = nI dn) (hc : ma σ (rA X 2) i = nI dn) (hp : ma σ (rA X 3) i = nI p) (hdn : dn < 100000) : So_closeFrames_2 F (n + 1) σ X (nI u) = bv (So_joinFrame F (si σ 811 (nI (d + 1))) X (nI d) (nI k) (nI p)) (fun s => So_closeFrames_2 F n s X (nI (u + 1))) := by
  rw [So_closeFrames_2, So_closeFrames_b2, if_neg (show ¬ (200 : Int32) ≤ nI u from nI_ge (b := 200) hu (by omega)), h811, if_neg (nI_nle (by omega) (by omega)), show d + 2 = (d + 1) + 1 by omega, nI_s1, gd_t (inb_nI (by omega) (by omega)), gd_t hX, nI_clamp (by omega), h52, gd_t (inb_nI (by omega) (by omega)), nI_clamp (by omega), hc, h54, if_pos (nI_le (Nat.le_refl _) (by omega)), if_neg (nI_ne0 (by omega) (by omega)), nI_s1, h53, hp]
  congr 1
  funext s
  rw [So_closeFrames_105, nI_1]
/-- the last one -/
theorem cf_root (hX : isRow X = true) {i dn k u n : Nat} (hu : u < 200) (hi : i < 200) (h811 : gi σ 811 = nI 1) (h52 : ga σ 52 0 = nI i) (h53 : ga σ 53 0 = nI k) (h54 : ga σ 54 0 = nI dn) (hc : ma σ (rA X 2) i = nI dn) (hdn : dn < 100000) : So_closeFrames_2 F (n + 2) σ X (nI u) = some (si (si σ 811 0) 815 (nI k)) := by
  rw [So_closeFrames_2, So_closeFrames_b2, if_neg (show ¬ (200 : Int32) ≤ nI u from nI_ge (b := 200) (by omega) (by omega)), h811, if_neg (nI_nle (by omega) (by omega)), show nI 1 - (1 : Int32) = nI 0 from nI_s1 0, gd_t (inb_nI (by omega) (by omega)), gd_t hX, nI_clamp (by omega), h52, gd_t (inb_nI (by omega) (by omega)), nI_clamp (by omega), hc, h54, if_pos (nI_le (Nat.le_refl _) (by omega)), nI_0, if_pos rfl, gd_t (by decide), show (0 : Int32).toNatClampNeg = 0 from rfl, h53, So_closeFrames_105, nI_1, So_closeFrames_2, So_closeFrames_b2, show gi (si (si σ 811 0) 815 (nI k)) 811 = 0 by simp [zs]]
  by_cases hu2 : (200 : Int32) ≤ nI (u + 1)
  · rw [if_pos hu2]; rfl
  · rw [if_neg hu2, if_pos (by decide)]; rfl
end W
