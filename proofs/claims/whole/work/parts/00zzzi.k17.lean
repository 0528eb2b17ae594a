/-! The class lists a term: by its tree. Own text. -/
theorem ln_t : (∀ c, lnT (.var c) = 1) ∧ (∀ f a, lnT (tO f a) = lnT f + lnT a) ∧ (∀ l r, lnT (tR l r) = 1 + lnT l + lnT r) ∧ (∀ p t, lnT (tI p t) = 1 + lnT t) ∧ (∀ p t, lnT (tW p t) = lnT t) := by
  refine ⟨fun c => rfl, fun f a => ?_, fun l r => ?_, fun p t => ?_, fun p t => rfl⟩
  · unfold lnT; rw [(tT.2.1 f a).2]; simp; omega
  · unfold lnT; rw [(tT.2.2.1 l r).2]; simp; omega
  · unfold lnT; rw [(tT.2.2.2.1 p t).2]; simp; omega
theorem hd_ln : ∀ t, okT t → (hdT t).2.2.1 + 1 ≤ lnT t ∧ fxO (hdT t).1 ≤ (hdT t).2.2.1 := by
  apply tE_ind
  · intro c _
    refine ⟨by rw [ln_t.1]; exact Nat.le_refl _, ?_⟩
    rw [(tT.1 c).1]
    show fxO (if lfB c = 0 then 2 else 3) ≤ 0
    split <;> decide
  · intro f a _ _ h1 h2
    rw [ln_t.2.1, (tT.2.1 f a).1]
    exact ⟨by show (hdT f).2.2.1 + 1 + 1 ≤ _; have := h2.1; omega, by show fxO (hdT f).1 ≤ (hdT f).2.2.1 + 1; omega⟩
  · intro l r _ _ h1 h2
    rw [ln_t.2.2.1, (tT.2.2.1 l r).1]
    exact ⟨by show 2 + 1 ≤ _; omega, by show fxO 45 ≤ 2; decide⟩
  · intro p t _ h1
    rw [ln_t.2.2.2.1, (tT.2.2.2.1 p t).1]
    exact ⟨by show 1 + 1 ≤ _; omega, by show fxO 91 ≤ 1; decide⟩
  · intro p t _ h1
    rw [ln_t.2.2.2.2, (tT.2.2.2.2 p t).1]
    exact h1
def lTr (Z : List (TE × TE)) (F : Nat) (τ : zS) (D : Nat) (ow pr me : Int32) (ty sm : Int64 → TE) (Bn Sn : Int64 → Prop) (X en : Nat) (t : TE) : Prop :=
  ∀ (σ : zS) (G : SG) (dom : Nat → Prop) (m : Nat → Nat) (E : List EQ) (fv : List Int64) (i d f nn cN : Nat), IV Z τ D ow pr me ty sm Bn Sn σ G dom m E fv → gi σ 811 = nI d → d ≤ i → i + lnT t ≤ en → ma σ (rA X 0) i = (hdT t).1 → mb σ (rA X 1) i = (hdT t).2.1 → ma σ (rA X 2) i = nI cN → (hdT t).2.2.1 ≤ cN → cN < 1000 → rwL σ X (i + 1) (tlT t) → (∀ c, c ∈ lvs t → (lfB c = 0 → Bn (lfN c)) ∧ (lfB c ≠ 0 → Sn (lfN c))) → (apN τ t nn).Nodup → (∀ x, x ∈ apN τ t nn → ¬ dom x ∧ x < 2048) → gn G + 3 * lnT t ≤ 1715 → E.length + lnT t ≤ 217 → fv.length + lnT t ≤ 200 → lnT t ≤ f →
  ∃ σ' G' dom' m' fv' k u n', So_listTerm_32 F f σ X ow (nI en) (nI i) = bv (So_closeFrames_2 F n' σ' X (nI u)) (fun s => So_listTerm_32 F (f - lnT t) s X ow (nI en) (nI (i + lnT t))) ∧ n' + u = F ∧ u + d + 1 ≤ 200 ∧ sy [306, 807, 811, 814] [23, 24, 25, 49, 50, 51, 52, 53, 54, 56] σ σ' ∧ IV Z τ D ow pr me ty sm Bn Sn σ' G' dom' m' (E ++ eqC τ ty sm t nn) fv' ∧ gi σ' 811 = nI (d + 1) ∧ ga σ' 52 d = nI i ∧ ga σ' 53 d = nI k ∧ ga σ' 54 d = nI (hdT t).2.2.1 ∧ rp G' dom' m' k (kE ty sm t nn) ∧ xt G dom m G' dom' m' ∧ dmx pr me (apN τ t nn) dom dom' ∧ gn G' + 2 ≤ gn G + 3 * lnT t ∧ fv'.length ≤ fv.length + lnT t ∧ (eqC τ ty sm t nn).length + 1 ≤ lnT t ∧ ∀ j, j < d → ga σ' 52 j = ga σ 52 j ∧ ga σ' 53 j = ga σ 53 j ∧ ga σ' 54 j = ga σ 54 j
section W
variable {Z : List (TE × TE)} {F : Nat} {τ : zS} {D : Nat} {ow pr me : Int32} {ty sm : Int64 → TE} {Bn Sn : Int64 → Prop} {X en : Nat}
theorem child (hX : isRow X = true) (hF : 1300 ≤ F) (hen : en ≤ 200) {a : TE} (hok : okT a) (ha : lTr Z F τ D ow pr me ty sm Bn Sn X en a) {σ : zS} {G : SG} {dom : Nat → Prop} {m : Nat → Nat} {E : List EQ} {fv : List Int64} {j d f nn : Nat} (hI : IV Z τ D ow pr me ty sm Bn Sn σ G dom m E fv) (h811 : gi σ 811 = nI (d + 1)) (hd : d + 1 ≤ j) (hj : j + lnT a ≤ en) (hr : rwL σ X j (hdT a :: tlT a)) (hB : ∀ c, c ∈ lvs a → (lfB c = 0 → Bn (lfN c)) ∧ (lfB c ≠ 0 → Sn (lfN c))) (hn1 : (apN τ a nn).Nodup) (hn2 : ∀ x, x ∈ apN τ a nn → ¬ dom x ∧ x < 2048) (hG : gn G + 3 * lnT a ≤ 1715) (hE : E.length + lnT a ≤ 217) (hfv : fv.length + lnT a ≤ 200) (hf : lnT a ≤ f) :
  ∃ σ' G' dom' m' fv' k u n', So_listTerm_32 F f σ X ow (nI en) (nI j) = bv (So_joinFrame F σ' X (nI d) (nI k) (nI (plT a))) (fun s => bv (So_closeFrames_2 F n' s X (nI u)) (fun s => So_listTerm_32 F (f - lnT a) s X ow (nI en) (nI (j + lnT a)))) ∧ n' + u = F ∧ u + d + 1 ≤ 200 ∧ sy [306, 807, 811, 814] [23, 24, 25, 49, 50, 51, 52, 53, 54, 56] σ σ' ∧ IV Z τ D ow pr me ty sm Bn Sn σ' G' dom' m' (E ++ eqC τ ty sm a nn) fv' ∧ gi σ' 811 = nI (d + 1) ∧ rp G' dom' m' k (kE ty sm a nn) ∧ xt G dom m G' dom' m' ∧ dmx pr me (apN τ a nn) dom dom' ∧ gn G' + 2 ≤ gn G + 3 * lnT a ∧ fv'.length ≤ fv.length + lnT a ∧ (eqC τ ty sm a nn).length + 1 ≤ lnT a ∧ ∀ i, i < d + 1 → ga σ' 52 i = ga σ 52 i ∧ ga σ' 53 i = ga σ 53 i ∧ ga σ' 54 i = ga σ 54 i := by
  obtain ⟨⟨r1, r2, r3, r4⟩, r5⟩ := hr
  have hl := (hd_ln a hok).1
  obtain ⟨σ', G', dom', m', fv', k, u, n', b1, b2, b3, b4, b5, b6, b7, b8, b9, b10, b11, b12, b13, b14, b15, b16⟩ := ha σ G dom m E fv j (d + 1) f nn (hdT a).2.2.1 hI h811 hd hj r1 r2 r3 (Nat.le_refl _) (by omega) r5 hB hn1 hn2 hG hE hfv hf
  have hs1 : sx [811] [52, 53, 54] σ' (si σ' 811 (nI (d + 1))) := sx_si (sx_rfl _ _ _) (by decide) _
  obtain ⟨n', rfl⟩ : ∃ x, n' = x + 1 := ⟨n' - 1, by omega⟩
  refine ⟨si σ' 811 (nI (d + 1)), G', dom', m', fv', k, u + 1, n', ?_, by omega, by omega, sy_tr b4 (sy_mono (by decide) (by decide) (sy_sx hs1)), iv_fr b5 hs1, by simp [zs], b10, b11, b12, b13, b14, b15, fun i hi => ?_⟩
  · rw [b1, cf_pop hX (p := plT a) (by omega) (by omega) (by omega) b6 b7 b8 b9 (by rw [sy_ma b4]; exact r3) (by rw [sy_ma b4]; exact r4) (by omega), bv_bv]
  · obtain ⟨q1, q2, q3⟩ := b16 i hi
    exact ⟨by simp only [zs]; exact q1, by simp only [zs]; exact q2, by simp only [zs]; exact q3⟩
theorem push_ok (hX : isRow X = true) (hen : en ≤ 200) {σ s1 : zS} {i d f k : Nat} (hi : i < en) (hd : d ≤ i) (h811 : gi σ 811 = nI d) (hst : So_startKind F (sa σ 52 d (nI i)) X (nI i) ow = some (nI k, s1)) (hs : sy [306, 814] [23, 24, 25, 56] (sa σ 52 d (nI i)) s1) : ∃ σ2, So_listTerm_32 F (f + 1) σ X ow (nI en) (nI i) = bv (So_closeFrames_2 F F σ2 X (nI 0)) (fun s => So_listTerm_32 F f s X ow (nI en) (nI (i + 1))) ∧ sx [811] [52, 53, 54] s1 σ2 ∧ gi σ2 811 = nI (d + 1) ∧ ga σ2 52 d = nI i ∧ ga σ2 53 d = nI k ∧ ga σ2 54 d = nI 0 ∧ ∀ j, j < d → ga σ2 52 j = ga σ 52 j ∧ ga σ2 53 j = ga σ 53 j ∧ ga σ2 54 j = ga σ 54 j := by
  have e811 : gi s1 811 = nI d := by rw [hs.1 811 (by decide)]; simp only [zs]; exact h811
  have e52 : ga s1 52 = upd (ga σ 52) d (nI i) := by rw [hs.2.1 52 (by decide)]; simp only [zs, if_true]
  have e53 : ga s1 53 = ga σ 53 := by rw [hs.2.1 53 (by decide)]; simp only [zs]; rfl
  have e54 : ga s1 54 = ga σ 54 := by rw [hs.2.1 54 (by decide)]; simp only [zs]; rfl
  refine ⟨si (sa (sa s1 53 d (nI k)) 54 d 0) 811 (nI (d + 1)), ?_, sx_si (sx_sa (sx_sa (sx_rfl _ _ _) (by decide) _ _) (by decide) _ _) (by decide) _, by simp [zs], ?_, ?_, ?_, fun j hj => ⟨?_, ?_, ?_⟩⟩
  · rw [So_listTerm_32, So_listTerm_b32, if_neg (nI_ge hi (by omega)), h811, if_neg (show ¬ (200 : Int32) ≤ nI d from nI_ge (b := 200) (by omega) (by omega)), gd_t (inb_nI (by omega) (by omega)), nI_clamp (by omega), hst, bi_some]
    show gd (inb (gi s1 811) 200) _ = _
    rw [e811, gd_t (inb_nI (by omega) (by omega)), nI_clamp (by omega), nI_1, nI_1, So_closeFrames, show (0 : Int32) = nI 0 from nI_0.symm]
  · simp only [zs]; show ga s1 52 d = _; rw [e52, up_at, if_pos rfl]
  · simp [zs, up_at]
  · simp [zs, up_at]; exact nI_0.symm
  · simp only [zs]; show ga s1 52 j = _; rw [e52, up_at, if_neg (by omega)]
  · simp [zs, up_at, show ¬ j = d by omega, e53]
  · simp [zs, up_at, show ¬ j = d by omega, e54]
theorem dmx_tr {L1 L2 L : List Nat} {d0 d1 d2 : Nat → Prop} (h : dmx pr me L1 d0 d1) (g : dmx pr me L2 d1 d2) (h1 : ∀ x, x ∈ L1 → x ∈ L) (h2 : ∀ x, x ∈ L2 → x ∈ L) : dmx pr me L d0 d2 := by
  intro z hz
  rcases g z hz with y | y | y
  · rcases h z y with w | w | w
    · exact Or.inl w
    · exact Or.inr (Or.inl (h1 z w))
    · exact Or.inr (Or.inr w)
  · exact Or.inr (Or.inl (h2 z y))
  · exact Or.inr (Or.inr y)
theorem dmx_not {L : List Nat} {d0 d1 : Nat → Prop} (h : dmx pr me L d0 d1) {x : Nat} (h0 : ¬ d0 x) (h1 : x ∉ L) (h2 : x < 2048) : ¬ d1 x := by
  intro z
  rcases h x z with y | y | ⟨v, y⟩
  · exact h0 y
  · exact h1 y
  · have := cfr_ge pr me v; omega
/-- arrows and lists -/
theorem start_2 (hX : isRow X = true) {σ : zS} {i : Nat} (hi : i < 200) (h2 : ma σ (rA X 0) i ≠ 2) (h3 : ma σ (rA X 0) i ≠ 3) : So_startKind F σ X (nI i) ow = some (nI 0, σ) := by
  rw [So_startKind, gd_t hX, gd_t (inb_nI (by omega) (by omega)), nI_clamp (by omega), if_neg h2, if_neg h3, nI_0]
end W
