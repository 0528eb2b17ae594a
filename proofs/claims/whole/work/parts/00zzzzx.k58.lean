/-! read(): both, in whole. Own text. -/
/-- read() has gone well -/
def RDs (σ τ : zS) (r : Int32) : Prop := ∃ G H Nn D M N TL K, r = nI D ∧ TS σ τ D M N TL ∧ SY τ D TL ∧ CL σ D ∧ Nn = cw (nbA σ D M) D ∧ K ≤ D ∧ ld Nn D K = none ∧ gR τ D (gS Nn D K) ∧ gi τ 71 = nI K ∧ gi σ 412 = nI K ∧ (∀ i, i < D → ∀ x, gS Nn D K i = some x → ga σ 36 i = nI x) ∧ mkR σ 38 D Nn ∧ rwR τ 46 Nn ∧ gi σ 200 = 0 ∧ gi τ 8 = 0 ∧ gi τ 9 = -3 ∧ gi τ 10 = 0 ∧ CS (si σ 306 (gi σ 307)) G ∧ noO G ∧ gn G ≤ 1113 ∧ MS τ H ∧ gn H ≤ 3000 ∧ noO H ∧ (∃ Gc, CS σ Gc ∧ ∀ y, y < D → dPr σ τ Gc H y) ∧ (0 < gn H ∧ gT H 0 = iS) ∧ gi τ 88 = nI (gn H) ∧ (∀ k, k < gn H → ga τ 58 k = ga τ 29 k) ∧ gi τ 89 = nI N ∧ (WKD σ D G TL (fun y => decide (y < D)) ∧ PDs σ D ∧ ∀ i, i < M → tkO σ D i) ∧ (∀ y, y < D → dPr σ τ G H y) ∧ ∀ i, i < D → ga σ 34 i = ga τ 38 i ∧ ∃ it, it ≤ 6 ∧ ga σ 34 i = nI it
section R
variable {F : Nat} {σ τ : zS}
theorem rd_ki {σ' : zS} (h25 : ga σ 25 0 = -1) (e : ∀ K : zS → Option (Int32 × zS), bv (Fa_clear F σ) (fun σ1 => bv (Me_clear F σ1) (fun σ3 => bv (Ki_clear F σ3) (fun σ5 => bv (Te_clear F σ5) (fun σ7 => bv (Ta_scan F σ7) (fun σ9 => bv (Pa_parseText F σ9) (fun σ11 => K σ11)))))) = K σ') : KI 1 σ' := by
  have e1 := e (fun s => some (0, s))
  rw [Fa_clear, bv_some, Me_clear, bv_some] at e1
  have h : pp (KI 1) (bv (Ki_clear F (si (si σ 200 0) 505 0)) (fun σ5 => bv (Te_clear F σ5) (fun σ7 => bv (Ta_scan F σ7) (fun σ9 => bv (Pa_parseText F σ9) (fun σ11 => (fun s => some ((0 : Int32), s)) σ11))))) := by
    apply pp_bv (ki_clear F (by simp only [zs]; exact h25))
    intro s hs
    apply pp_bv (ki_Te_clear F s hs)
    intro s hs
    apply pp_bv (ki_Ta_scan F s hs)
    intro s hs
    apply pp_bv (ki_Pa_parseText F s hs)
    intro s hs
    exact pp_some hs
  exact h _ _ e1
theorem md_21 (h : gi τ 8 ≠ 0) : Md_read_21 F τ = Md_read_54 F τ := by
  rw [Md_read_21, if_neg h, Md_read_32, if_neg h, Md_read_43, if_neg h]
theorem md_32 (h : gi τ 8 ≠ 0) : Md_read_32 F τ = Md_read_54 F τ := by
  rw [Md_read_32, if_neg h, Md_read_43, if_neg h]
theorem md_43 (h : gi τ 8 ≠ 0) : Md_read_43 F τ = Md_read_54 F τ := by
  rw [Md_read_43, if_neg h]
/-- the rest of the class's read() -/
def QR (F : Nat) (σ : zS) : Option (Int32 × zS) := bi (Fa_isThere F σ) (fun r16 σ15 => if r16 = 0 then (bv (Te_formGroups F σ15) (fun σ19 => bv (So_solveText F σ19) (fun σ21 => Q_read_81 F σ21)))
  else (Q_read_81 F σ15))
theorem qr_flt (h : gi σ 200 ≠ 0) : QR F σ = Q_read_81 F σ := by
  have ft : Fa_isThere F σ = some (1, σ) := by rw [Fa_isThere, if_neg h]; rfl
  rw [QR, ft, bi_some]
  show (if (1 : Int32) = 0 then _ else _) = _
  rw [if_neg (by decide)]
theorem kpC_R {σ' : zS} (h : frR σ σ') : kpC σ σ' := by
  obtain ⟨f1, f2, f3, f4, f5, f6, f7, f8⟩ := h
  refine ⟨f5 10 (by decide), f5 11 (by decide), fun x hx => ?_, f2 19 (by unfold exTa; omega) (by decide) (by decide), fun a ha => f5 a (by omega)⟩
  rcases hx with z | z <;> subst z
  · exact ⟨f6 _ (by decide) (by decide), f7 _ (by decide)⟩
  · exact ⟨f6 _ (by decide) (by decide), f7 _ (by decide)⟩
theorem kpM_R {τ' : zS} (h : frRM (si τ 0 0) τ') : kpM τ τ' := by
  obtain ⟨f1, f2, f3, f4⟩ := h
  exact ⟨f2 56 (by unfold exMa; omega), (f1 84 (by unfold exMi; omega) (by decide) (by decide)).trans (by simp [zs]), f2 1 (by unfold exMa; omega), (f1 85 (by unfold exMi; omega) (by decide) (by decide)).trans (by simp [zs])⟩
end R
