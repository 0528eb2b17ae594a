/-! The class lists a term: frames. Own text. -/
theorem rwL_sy {I A : List Nat} {σ σ' : zS} (h : sy I A σ σ') {X : Nat} : ∀ (l : List QE) (i : Nat), rwL σ X i l → rwL σ' X i l :=
  fun l i g => rwL_fr l i (fun j _ _ => by rw [sy_ma h, sy_ma h, sy_ma h, sy_mb h]; exact ⟨rfl, rfl, rfl, rfl⟩) g
theorem e3n (o j : Nat) : nI o * (3 : Int32) + nI j = nI (3 * o + j) := by
  rw [show (3 : Int32) = nI 3 from rfl, pk_mul, nI_add]
  congr 1
  omega
section W
variable (Z : List (TE × TE)) (τ : zS) (D : Nat) (ow pr me : Int32) (ty sm : Int64 → TE) (Bn Sn : Int64 → Prop)
def IV (σ : zS) (G : SG) (dom : Nat → Prop) (m : Nat → Nat) (E : List EQ) (fv : List Int64) : Prop := lsE Z σ G dom m E ∧ EV σ G dom m D ow pr me ty sm Bn Sn ∧ FV σ G dom m pr me fv ∧ dcN σ τ D
end W
section W
variable {Z : List (TE × TE)} {F : Nat} {τ : zS} {D : Nat} {ow pr me : Int32} {ty sm : Int64 → TE} {Bn Sn : Int64 → Prop} {σ : zS} {G : SG} {dom : Nat → Prop} {m : Nat → Nat} {E : List EQ} {fv : List Int64} {X : Nat}
theorem dcN_sy {I A : List Nat} {σ' : zS} (h : dcN σ τ D) (hs : sy I A σ σ') (hI : 400 ∉ I) (hA : 29 ∉ A ∧ 31 ∉ A ∧ 32 ∉ A) : dcN σ' τ D :=
  dcN_cg (hs.1 400 hI) rfl (fun a ha => hs.2.1 a (by rcases ha with z | z | z <;> subst z; exact hA.1; exact hA.2.1; exact hA.2.2)) (fun a ha => by rcases ha with z | z <;> subst z <;> exact hs.2.2.1 _ (by decide)) (fun _ _ => rfl) (fun _ _ => rfl) h
theorem iv_fr {σ' : zS} (h : IV Z τ D ow pr me ty sm Bn Sn σ G dom m E fv) (hs : sx [811] [52, 53, 54] σ σ') : IV Z τ D ow pr me ty sm Bn Sn σ' G dom m E fv :=
  ⟨ls_fr h.1 (sy_sx hs) (by decide) (by decide), EV_cg h.2.1 (sy_sx hs) (by decide) (xt_rfl _ _ _), FV_cg h.2.2.1 hs (by decide) (by decide) (xt_rfl _ _ _) (fun _ z => z), dcN_sy h.2.2.2 (sy_sx hs) (by decide) (by decide)⟩
theorem start_ok (hF : 1300 ≤ F) (hX : isRow X = true) {i c : Nat} (n : Nat) (h : IV Z τ D ow pr me ty sm Bn Sn σ G dom m E fv) (hi : i < 200) (hG : gn G < 1713) (hl : fv.length < 200) (h0 : ma σ (rA X 0) i = if lfB c = 0 then 2 else 3) (h1 : mb σ (rA X 1) i = lfN c) (hB : (lfB c = 0 → Bn (lfN c)) ∧ (lfB c ≠ 0 → Sn (lfN c))) : ∃ σ' k G' dom' m' fv', So_startKind F σ X (nI i) ow = some (nI k, σ') ∧ sy [306, 814] [23, 24, 25, 56] σ σ' ∧ IV Z τ D ow pr me ty sm Bn Sn σ' G' dom' m' E fv' ∧ xt G dom m G' dom' m' ∧ rp G' dom' m' k (kE ty sm (.var c) n) ∧ fv'.length ≤ fv.length + 1 ∧ gn G' ≤ gn G + 1 ∧ dmx pr me [] dom dom' := by
  obtain ⟨hL, hE, hV, hdc⟩ := h
  have hD : D ≤ 16 := hdc.2.2.1
  rw [So_startKind, gd_t hX, gd_t (inb_nI (by omega) (by omega)), nI_clamp (by omega), h0, h1, kE]
  by_cases c0 : lfB c = 0
  · rw [if_pos c0, if_pos rfl, if_pos c0, (findT (F := F) (by omega) hdc (lfN c)).1, bi_some]
    show ∃ σ' k G' dom' m' fv', (if 0 ≤ fTy σ (lfN c) D 0 then _ else _) = _ ∧ _
    rcases hE.1 _ (hB.1 c0) with ⟨z1, z2⟩ | ⟨y, k, z1, z2, z3, z4⟩
    · rw [z1, if_neg (by decide), z2]
      exact ⟨σ, 0, G, dom, m, fv, rfl, sy_rfl _ _ _, ⟨hL, hE, hV, hdc⟩, xt_rfl _ _ _, rp_star hL.1, by omega, by omega, fun z hz => Or.inl hz⟩
    · rw [z2, if_pos (nI_pos' (by omega)), gd_t (inb_nI (by omega) (by omega)), nI_clamp (by omega), z3]
      exact ⟨σ, k, G, dom, m, fv, rfl, sy_rfl _ _ _, ⟨hL, hE, hV, hdc⟩, xt_rfl _ _ _, z4, by omega, by omega, fun z hz => Or.inl hz⟩
  · rw [if_neg c0, if_neg c0, if_neg (by decide), if_pos rfl]
    have free : ∀ (hsm : sm (lfN c) = .var (cfr pr me (lfN c) + 1)), ∃ σ' k G' dom' m' fv', So_startKind_86 F σ ow (lfN c) (-1) = some (nI k, σ') ∧ sy [306, 814] [23, 24, 25, 56] σ σ' ∧ IV Z τ D ow pr me ty sm Bn Sn σ' G' dom' m' E fv' ∧ xt G dom m G' dom' m' ∧ rp G' dom' m' k (sm (lfN c)) ∧ fv'.length ≤ fv.length + 1 ∧ gn G' ≤ gn G + 1 ∧ dmx pr me [] dom dom' := by
      intro hsm
      obtain ⟨σ', k, G', dom', m', fv', b1, b2, b3, b4, b5, b6, b7, b8, b9⟩ := fk_loop (F := F) (ow := pr) (me := me) (lfN c) hL hV hG hl fv.length F 0 (by omega) (by omega) (fun j hj => by omega)
      refine ⟨σ', k, G', dom', m', fv', ?_, b2, ⟨b3, EV_cg hE b2 (by decide) b4, b6, dcN_sy hdc b2 (by decide) (by decide)⟩, b4, by rw [hsm]; exact b5, b7, b8, b9⟩
      rw [So_startKind_86, if_neg (by decide), So_freeKind, show (0 : Int32) = nI 0 from nI_0.symm, b1, bi_some]
      rfl
    rcases hE.2 _ (hB.2 c0) with ⟨o, q, j, k, z1, z2, z3, z4, z5, z6, z7, z8⟩ | ⟨z1, z2⟩
    · have hhas : Te_has F σ ow = some (1, σ) := by
        rw [z2, Te_has, if_neg (nI_pos (by omega)), hdc.1, if_neg (nI_ge z1 (by omega))]; rfl
      have e3 : nI o * (3 : Int32) + nI j = nI (3 * o + j) := e3n o j
      rw [hhas, bi_some]
      show ∃ σ' k G' dom' m' fv', (if (1 : Int32) = 0 then _ else _) = _ ∧ _
      rw [if_neg (by decide), z2, (findP (F := F) (by omega) hdc z1 z3 z4 (lfN c)).1, bi_some, z5]
      show ∃ σ' k G' dom' m' fv', So_startKind_86 F σ (nI o) (lfN c) (nI j) = _ ∧ _
      rw [So_startKind_86, if_pos (nI_pos' (by omega)), e3, gd_t (inb_nI (by omega) (by omega)), nI_clamp (by omega), z7]
      rw [← z2]
      exact ⟨σ, k, G, dom, m, fv, rfl, sy_rfl _ _ _, ⟨hL, hE, hV, hdc⟩, xt_rfl _ _ _, z8, by omega, by omega, fun z hz => Or.inl hz⟩
    · rcases z2 with y | ⟨o, q, y1, y2, y3, y4, y5⟩
      · have hhas : Te_has F σ ow = some (0, σ) := by rw [y, Te_has, if_pos (by decide)]; rfl
        rw [hhas, bi_some]
        show ∃ σ' k G' dom' m' fv', (if (0 : Int32) = 0 then _ else _) = _ ∧ _
        rw [if_pos rfl]
        exact free z1
      · have hhas : Te_has F σ ow = some (1, σ) := by
          rw [y2, Te_has, if_neg (nI_pos (by omega)), hdc.1, if_neg (nI_ge y1 (by omega))]; rfl
        rw [hhas, bi_some]
        show ∃ σ' k G' dom' m' fv', (if (1 : Int32) = 0 then _ else _) = _ ∧ _
        rw [if_neg (by decide), show Te_findParam F σ ow (lfN c) = some (-1, σ) by rw [y2, (findP (F := F) (by omega) hdc y1 y3 y4 (lfN c)).1, y5], bi_some]
        exact free z1
end W
