/-! The class replaces a synonym. Own text. -/
/-- the parameter that an item of a right side is -/
def pmY (σ : zS) (y q x : Nat) : Option Nat := if x < 10 then none else if lfB (x - 10) = 0 then none else if fPa σ y (lfN (x - 10)) q 0 = -1 then none else some (fPa σ y (lfN (x - 10)) q 0).toNatClampNeg
theorem pm_rng {σ : zS} {y q x j : Nat} (hq : q ≤ 3) (h : pmY σ y q x = some j) : 10 ≤ x ∧ lfB (x - 10) ≠ 0 ∧ j < q ∧ fPa σ y (lfN (x - 10)) q 0 = nI j ∧ gb σ 33 (3 * y + j) = lfN (x - 10) := by
  unfold pmY at h
  by_cases h1 : x < 10
  · rw [if_pos h1] at h; cases h
  · rw [if_neg h1] at h
    by_cases h2 : lfB (x - 10) = 0
    · rw [if_pos h2] at h; cases h
    · rw [if_neg h2] at h
      by_cases h3 : fPa σ y (lfN (x - 10)) q 0 = -1
      · rw [if_pos h3] at h; cases h
      · rw [if_neg h3] at h
        obtain ⟨j', j1, j2, j3, j4⟩ := (fPa_rng σ y (lfN (x - 10)) q 0).resolve_left h3
        rw [j3, nI_clamp (by omega)] at h
        have e : j' = j := by simpa using h
        subst e
        exact ⟨by omega, h2, by omega, j3, j4⟩
def okx (b : BE) : Prop := b.2 = 1 ∨ b.2 = 2 ∨ 10 ≤ b.2
/-- the right side of a synonym, in the text's row -/
def RY (σ : zS) (y : Nat) (R : List BE) : Prop := ∃ T0 s0 nT, mi σ 1007 = nI nT ∧ T0 < nT ∧ nT ≤ 200 ∧ ma σ 64 T0 = nI s0 ∧ ma σ 65 T0 = nI y ∧ (∀ T, T < T0 → ma σ 65 T ≠ nI y) ∧ ((T0 + 1 = nT ∧ mi σ 1004 = nI (s0 + R.length)) ∨ (T0 + 1 < nT ∧ ma σ 64 (T0 + 1) = nI (s0 + R.length))) ∧ cRw σ 10 s0 R ∧ s0 + R.length ≤ 200
theorem RY_cg {σ σ' : zS} {y : Nat} {R : List BE} (h1 : ∀ j, j = 1007 ∨ j = 1004 → mi σ' j = mi σ j) (h2 : ∀ a, 60 ≤ a → a < 66 → ma σ' a = ma σ a) (h3 : mb σ' 61 = mb σ 61) (h : RY σ y R) : RY σ' y R := by
  obtain ⟨T0, s0, nT, a1, a2, a3, a4, a5, a6, a7, a8, a9⟩ := h
  refine ⟨T0, s0, nT, by rw [h1 _ (by simp)]; exact a1, a2, a3, by rw [h2 64 (by omega) (by omega)]; exact a4, by rw [h2 65 (by omega) (by omega)]; exact a5, by rw [h2 65 (by omega) (by omega)]; exact a6, by rw [h1 1004 (by simp), h2 64 (by omega) (by omega)]; exact a7, cRw_fr R s0 (fun j _ _ => ?_) a8, a9⟩
  rw [h2 (rA 10 0) (by decide) (by decide), h2 (rA 10 2) (by decide) (by decide), show mb σ' (rA 10 1) = mb σ (rA 10 1) from h3]
  exact ⟨rfl, rfl, rfl⟩
theorem RY_ro {σ σ' : zS} {y Y : Nat} {R : List BE} (hY : isRow Y = true) (hY0 : Y ≠ 10) (hf : frRo Y σ σ') (h : RY σ y R) : RY σ' y R := by
  have := isRow_or hY
  refine RY_cg (fun j hj => hf.2.2.2.2.2.1 j (by omega) (by omega)) (fun a h1 h2 => hf.2.2.2.2.2.2.1 a (by unfold rA; omega) (by unfold rA; omega) (by unfold rA; omega)) (hf.2.2.2.2.2.2.2 61 (by unfold rA; omega)) h
section C
variable {F : Nat} {σ τ : zS} {D X Y Z y q : Nat} {Bs : List (List BE)}
theorem termOf_loop {nT T0 : Nat} (h7 : mi σ 1007 = nI nT) (hT : T0 < nT) (hT2 : nT ≤ 200) (h5 : ma σ 65 T0 = nI y) (h5' : ∀ T, T < T0 → ma σ 65 T ≠ nI y) : ∀ (d f i : Nat), i + d = T0 → d < f → Ro_termOf_2 F f σ 10 (nI y) (nI i) = some (nI T0, σ) := by
  intro d
  have e5 : rA 10 5 = 65 := rfl
  induction d with
  | zero =>
    intro f i hi hf
    obtain ⟨f, rfl⟩ : ∃ f', f = f' + 1 := ⟨f - 1, by omega⟩
    have : i = T0 := by omega
    subst this
    rw [Ro_termOf_2, Ro_termOf_b2, gd_t (by decide), show mi σ (100 * 10 + 7) = nI nT from h7, if_neg (nI_ge (by omega) (by omega)), gd_t (inb_nI (by omega) (by omega)), nI_clamp (by omega), e5, if_pos h5]
  | succ d ih =>
    intro f i hi hf
    obtain ⟨f, rfl⟩ : ∃ f', f = f' + 1 := ⟨f - 1, by omega⟩
    rw [Ro_termOf_2, Ro_termOf_b2, gd_t (by decide), show mi σ (100 * 10 + 7) = nI nT from h7, if_neg (nI_ge (by omega) (by omega)), gd_t (inb_nI (by omega) (by omega)), nI_clamp (by omega), e5, if_neg (h5' i (by omega)), nI_1, ih f (i + 1) (by omega) (by omega)]
/-- one more at a type's head -/
theorem nx_bump {σ5 : zS} {L l : List BE} (hb : NX σ Y L) (ha : NX σ5 Y (L ++ l)) (hl : l ≠ []) (j : Nat) : (mi σ5 (100 * Y + 4) ≤ mi σ (100 * Y + 4) ∧ NX σ5 Y (L ++ bmp l j)) ∨ (¬ mi σ5 (100 * Y + 4) ≤ mi σ (100 * Y + 4) ∧ inb (mi σ (100 * Y + 4)) 200 = true ∧ NX (ta σ5 (rA Y 2) (mi σ (100 * Y + 4)).toNatClampNeg (ma σ5 (rA Y 2) (mi σ (100 * Y + 4)).toNatClampNeg + nI j)) Y (L ++ bmp l j) ∧ frRo Y σ5 (ta σ5 (rA Y 2) (mi σ (100 * Y + 4)).toNatClampNeg (ma σ5 (rA Y 2) (mi σ (100 * Y + 4)).toNatClampNeg + nI j))) := by
  have hlen : (L ++ bmp l j).length = (L ++ l).length := by rw [List.length_append, List.length_append, bmp_len]
  have hl1 : 0 < l.length := List.length_pos_iff.mpr hl
  have r02 := rA_i (X := Y) (i := 0) (j := 2) (by decide)
  have fr : ∀ (i : Nat) (v : Int32), frRo Y σ5 (ta σ5 (rA Y 2) i v) := fun i v => ⟨fun r _ => by simp [zs], fun a => by simp [zs], fun b => by simp [zs], fun a => by simp [zs], fun a => by simp [zs], fun j _ _ => by simp [zs], fun a h1 h2 h3 => by simp [zs, h2], fun b h1 => by simp [zs]⟩
  rcases ha with ⟨a1, a2, a3, a4⟩ | ⟨a1, a2, a3⟩
  · rcases hb with ⟨b1, b2, b3, b4⟩ | ⟨b1, b2, b3⟩
    · right
      have hL : L.length < (L ++ l).length := by rw [List.length_append]; omega
      rw [a3, b3, nI_clamp (by omega)]
      refine ⟨nI_ge hL (by omega), inb_nI (by omega) (by omega), Or.inl ⟨by omega, by simp only [zs]; exact a2, by simp only [zs, hlen]; exact a3, ?_⟩, fr _ _⟩
      rw [cRw_app] at a4 ⊢
      rw [Nat.zero_add] at a4 ⊢
      refine ⟨cRw_fr L 0 (fun i _ hi => ?_) a4.1, ?_⟩
      · simp only [zs, if_neg r02, if_true, up_at]
        rw [if_neg (by omega)]
        exact ⟨trivial, trivial, rfl⟩
      · cases l with
        | nil => exact absurd rfl hl
        | cons b l =>
          obtain ⟨⟨c1, c2, c3⟩, c4⟩ := a4.2
          refine ⟨⟨?_, ?_, ?_⟩, cRw_fr l (L.length + 1) (fun i hi _ => ?_) c4⟩
          · simp only [zs, if_neg r02]; exact c1
          · simp only [zs]; exact c2
          · simp only [zs, if_true, up_at]
            rw [c3, nI_add]
            show nI (b.1 + fx b.2 + j) = nI (b.1 + j + fx b.2)
            congr 1
            omega
          · simp only [zs, if_neg r02, if_true, up_at]
            rw [if_neg (by omega)]
            exact ⟨trivial, trivial, rfl⟩
    · rw [List.length_append] at a1; omega
  · rcases hb with ⟨b1, b2, b3, b4⟩ | ⟨b1, b2, b3⟩
    · rw [a3, b3]
      by_cases c : L.length = 200
      · left
        rw [c]
        exact ⟨nI_le (by omega) (by omega), Or.inr ⟨by omega, a2, a3⟩⟩
      · right
        exact ⟨nI_ge (by omega) (by omega), inb_nI (by omega) (by omega), Or.inr ⟨by omega, by simp only [zs]; exact a2, by simp only [zs]; exact a3⟩, fr _ _⟩
    · left
      rw [a3, b3]
      exact ⟨nI_le (by omega) (by omega), Or.inr ⟨by omega, a2, a3⟩⟩
/-- where the arguments stand in the row -/
def argA (σ : zS) (Z q : Nat) (Bs : List (List BE)) : Prop := ∀ j, j < q → ∃ p, ga σ 57 j = nI p ∧ ga σ 57 (j + 1) = nI (p + (nthB Bs j).length) ∧ p + (nthB Bs j).length ≤ 200 ∧ cRw σ Z p (nthB Bs j) ∧ nthB Bs j ≠ []
theorem argA_ro {σ' : zS} (hZ : isRow Z = true) (hY : isRow Y = true) (hne : Z ≠ Y) (hf : frRo Y σ σ') (h : argA σ Z q Bs) : argA σ' Z q Bs := fun j hj => by
  obtain ⟨p, a1, a2, a3, a4, a5⟩ := h j hj
  exact ⟨p, by rw [hf.2.1]; exact a1, by rw [hf.2.1]; exact a2, a3, cRw_o hZ hY hne hf a4, a5⟩
theorem dcN_ro {σ' : zS} (hf : frRo Y σ σ') (h : dcN σ τ D) : dcN σ' τ D := dcN_cg (hf.1 400 (by decide)) rfl (fun a _ => hf.2.1 a) (fun b _ => hf.2.2.1 b) (fun _ _ => rfl) (fun _ _ => rfl) h
theorem crs_loop (hF : 20000 ≤ F) (hY : isRow Y = true) (hY0 : Y ≠ 10) (hZ : isRow Z = true) (hne : Z ≠ Y) (hy : y < D) (hq3 : q ≤ 3) {pm : Nat → Option Nat} : ∀ (R : List BE) (f i : Nat) (σ : zS) (L : List BE), (∀ b, b ∈ R → okx b) → cRw σ 10 i R → i + R.length ≤ 200 → R.length < f → gr σ 902 = Y → gr σ 901 = Z → NX σ Y L → argA σ Z q Bs → dcN σ τ D → ga σ 32 y = nI q → pm = pmY σ y q → ∃ σ', Pl_copyRightSide_29 F f σ (nI y) 10 (nI (i + R.length)) (nI i) = some σ' ∧ NX σ' Y (L ++ subB pm Bs R) ∧ frRo Y σ σ' := by
  intro R
  induction R with
  | nil =>
    intro f i σ L _ _ hi hf _ _ hN _ _ _ _
    obtain ⟨f, rfl⟩ : ∃ f', f = f' + 1 := ⟨f - 1, by omega⟩
    refine ⟨σ, ?_, by rw [subB, List.append_nil]; exact hN, frRo_rfl _ _⟩
    rw [Pl_copyRightSide_29, Pl_copyRightSide_b29, if_pos (nI_le (by simp) (by simp at hi ⊢; omega))]
  | cons b R ih =>
    intro f i σ L hok hc hi hf h902 h901 hN hA hdc hq hpm
    simp only [List.length_cons] at hi hf
    obtain ⟨f, rfl⟩ : ∃ f', f = f' + 1 := ⟨f - 1, by omega⟩
    have hlt : ¬ nI (i + (b :: R).length) ≤ nI i := nI_ge (by simp) (by simp; omega)
    have hi1 : i + (b :: R).length = i + 1 + R.length := by simp; omega
    have hc0 := hc
    obtain ⟨⟨c1, c2, c3⟩, c4⟩ := hc
    have rest : ∀ (σ6 : zS) (l : List BE), NX σ6 Y (L ++ l) → frRo Y σ σ6 → l = sb1 pm Bs b → ∃ σ', Pl_copyRightSide_160 F (Pl_copyRightSide_29 F f) σ6 (nI y) 10 (nI (i + (b :: R).length)) (nI i) = some σ' ∧ NX σ' Y (L ++ subB pm Bs (b :: R)) ∧ frRo Y σ σ' := by
      intro σ6 l n6 f6 el
      obtain ⟨σ', e1, e2, e3⟩ := ih f (i + 1) σ6 (L ++ l) (fun b hb => hok b (List.mem_cons_of_mem _ hb)) (cRw_o (by decide) hY (fun z => hY0 z.symm) f6 c4) (by omega) (by omega) (by rw [f6.2.2.2.2.1]; exact h902) (by rw [f6.2.2.2.2.1]; exact h901) n6 (argA_ro hZ hY hne f6 hA) (dcN_ro f6 hdc) (by rw [f6.2.1]; exact hq) (by
        rw [hpm]
        funext x
        unfold pmY
        simp only [fPa_cg (f6.2.2.1 33)])
      refine ⟨σ', ?_, by rw [subB, ← el, ← List.append_assoc]; exact e2, frRo_tr f6 e3⟩
      rw [Pl_copyRightSide_160, nI_1, hi1, e1]
    have none_case : pm b.2 = none → ∃ σ', Pl_copyRightSide_66 F (Pl_copyRightSide_29 F f) σ (nI y) 10 (nI (i + (b :: R).length)) (nI i) (-1) = some σ' ∧ NX σ' Y (L ++ subB pm Bs (b :: R)) ∧ frRo Y σ σ' := by
      intro hn
      obtain ⟨σ1, a1, a2, a3⟩ := copyC (F := F) (X := 10) (l := [b]) (L := L) (i := i) (e := i + 1) hF (by decide) hY (fun z => hY0 z.symm) ⟨⟨c1, c2, c3⟩, trivial⟩ rfl (by simp; omega) hN
      obtain ⟨σ', e1, e2, e3⟩ := rest σ1 [b] a2 a3 (by unfold sb1; rw [hn])
      refine ⟨σ', ?_, e2, e3⟩
      rw [Pl_copyRightSide_66, if_neg (by decide), nI_1, h902, a1, bv_some, e1]
    have hstep : Pl_copyRightSide_29 F (f + 1) σ (nI y) 10 (nI (i + (b :: R).length)) (nI i) = if (cEn b).1 = 3 then bi (Te_findParam F σ (nI y) (cEn b).2.1) (fun r6 σ5 => Pl_copyRightSide_66 F (Pl_copyRightSide_29 F f) σ5 (nI y) 10 (nI (i + (b :: R).length)) (nI i) r6) else Pl_copyRightSide_66 F (Pl_copyRightSide_29 F f) σ (nI y) 10 (nI (i + (b :: R).length)) (nI i) (-1) := by
      rw [Pl_copyRightSide_29, Pl_copyRightSide_b29, if_neg hlt, gd_t (by decide), gd_t (inb_nI (by omega) (by omega)), nI_clamp (by omega), c1, c2]
    rw [hstep]
    by_cases s3 : (cEn b).1 = 3
    · rw [if_pos s3]
      have hx : 10 ≤ b.2 ∧ lfB (b.2 - 10) ≠ 0 := by
        unfold cEn at s3
        rcases hok b List.mem_cons_self with z | z | z
        · simp only [if_pos z] at s3; exact absurd s3 (by decide)
        · simp only [z] at s3; exact absurd s3 (by decide)
        · refine ⟨z, fun w => ?_⟩
          simp only [if_neg (show ¬ b.2 = 1 by omega), if_neg (show ¬ b.2 = 2 by omega), if_pos w] at s3
          exact absurd s3 (by decide)
      have hnm : (cEn b).2.1 = lfN (b.2 - 10) := by
        unfold cEn
        simp only [if_neg (show ¬ b.2 < 10 by omega)]
      rw [hnm, (findP (F := F) (by omega) hdc hy hq hq3 _).1, bi_some]
      by_cases hp : fPa σ y (lfN (b.2 - 10)) q 0 = -1
      · rw [hp]
        exact none_case (by rw [hpm]; unfold pmY; rw [if_neg (by omega), if_neg hx.2, if_pos hp])
      · obtain ⟨j, j1, j2, j3, j4⟩ := (fPa_rng σ y (lfN (b.2 - 10)) q 0).resolve_left hp
        have hpj : pm b.2 = some j := by
          rw [hpm]; unfold pmY
          rw [if_neg (by omega), if_neg hx.2, if_neg hp, j3, nI_clamp (by omega)]
        obtain ⟨p, p1, p2, p3, p4, p5⟩ := hA j (by omega)
        obtain ⟨σ1, a1, a2, a3⟩ := copyC (F := F) (l := nthB Bs j) (L := L) hF hZ hY hne p4 rfl p3 hN
        have c3' : ma σ1 (rA 10 2) i = nI b.1 := by
          rw [a3.2.2.2.2.2.2.1 _ (rA_x (by decide) hY (fun z => hY0 z.symm) (by omega) (by omega)) (rA_x (by decide) hY (fun z => hY0 z.symm) (by omega) (by omega)) (rA_x (by decide) hY (fun z => hY0 z.symm) (by omega) (by omega)), c3]
          show nI (b.1 + fx b.2) = _
          rw [show fx b.2 = 0 by unfold fx; rw [if_neg (by omega), if_neg (by omega)], Nat.add_zero]
        have e66 : Pl_copyRightSide_66 F (Pl_copyRightSide_29 F f) σ (nI y) 10 (nI (i + (b :: R).length)) (nI i) (nI j) = (if mi σ1 (100 * Y + 4) ≤ mi σ (100 * Y + 4) then Pl_copyRightSide_160 F (Pl_copyRightSide_29 F f) σ1 (nI y) 10 (nI (i + (b :: R).length)) (nI i) else gd (inb (mi σ (100 * Y + 4)) 200) (Pl_copyRightSide_160 F (Pl_copyRightSide_29 F f) (ta σ1 (rA Y 2) (mi σ (100 * Y + 4)).toNatClampNeg (ma σ1 (rA Y 2) (mi σ (100 * Y + 4)).toNatClampNeg + nI b.1)) (nI y) 10 (nI (i + (b :: R).length)) (nI i))) := by
          have g9 : gr σ1 902 = Y := by rw [a3.2.2.2.2.1]; exact h902
          rw [Pl_copyRightSide_66, if_pos (nI_pos' (by omega)), h902, h901, gd_t hY, gd_t (inb_nI (by omega) (by omega)), nI_1, gd_t (inb_nI (by omega) (by omega)), nI_clamp (by omega), nI_clamp (by omega), p1, p2, a1, bv_some, g9, gd_t hY, gd_t (show isRow 10 = true by decide), gd_t (inb_nI (by omega) (by omega)), nI_clamp (by omega), c3']
        rw [j3, e66]
        have el : bmp (nthB Bs j) b.1 = sb1 pm Bs b := by unfold sb1; rw [hpj]
        rcases nx_bump (Y := Y) hN a2 p5 b.1 with ⟨w1, w2⟩ | ⟨w1, w2, w3, w4⟩
        · rw [if_pos w1]
          exact rest σ1 _ w2 a3 el
        · rw [if_neg w1, gd_t w2]
          exact rest _ _ w3 (frRo_tr a3 w4) el
    · rw [if_neg s3]
      refine none_case ?_
      rw [hpm]
      unfold pmY
      by_cases h1 : b.2 < 10
      · rw [if_pos h1]
      · rw [if_neg h1]
        have : lfB (b.2 - 10) = 0 := by
          by_cases w : lfB (b.2 - 10) = 0
          · exact w
          · refine absurd ?_ s3
            unfold cEn
            simp only [if_neg (show ¬ b.2 = 1 by omega), if_neg (show ¬ b.2 = 2 by omega), if_neg w]
        rw [if_pos this]
theorem crs (hF : 20000 ≤ F) (hY : isRow Y = true) (hY0 : Y ≠ 10) (hZ : isRow Z = true) (hne : Z ≠ Y) (hy : y < D) (hq3 : q ≤ 3) {R L : List BE} (hok : ∀ b, b ∈ R → okx b) (hR : RY σ y R) (h902 : gr σ 902 = Y) (h901 : gr σ 901 = Z) (hN : NX σ Y L) (hA : argA σ Z q Bs) (hdc : dcN σ τ D) (hq : ga σ 32 y = nI q) : ∃ σ', Pl_copyRightSide F σ (nI y) = some σ' ∧ NX σ' Y (L ++ subB (pmY σ y q) Bs R) ∧ frRo Y σ σ' := by
  obtain ⟨T0, s0, nT, a1, a2, a3, a4, a5, a6, a7, a8, a9⟩ := hR
  obtain ⟨σ', e1, e2, e3⟩ := crs_loop (F := F) (τ := τ) (D := D) (pm := pmY σ y q) hF hY hY0 hZ hne hy hq3 R F s0 σ L hok a8 a9 (by omega) h902 h901 hN hA hdc hq rfl
  refine ⟨σ', ?_, e2, e3⟩
  have t1 : Ro_termOf F σ 10 (nI y) = some (nI T0, σ) := termOf_loop a1 a2 a3 a5 a6 T0 F 0 (by omega) (by omega)
  have t2 : Ro_termEnd F σ 10 (nI T0) = some (nI (s0 + R.length), σ) := by
    rw [Ro_termEnd, gd_t (by decide), show mi σ (100 * 10 + 7) = nI nT from a1, nI_1]
    rcases a7 with ⟨w1, w2⟩ | ⟨w1, w2⟩
    · rw [if_pos (nI_le (by omega) (by omega)), show mi σ (100 * 10 + 4) = _ from w2]; rfl
    · rw [if_neg (nI_ge (by omega) (by omega)), gd_t (inb_nI (by omega) (by omega)), nI_clamp (by omega), show ma σ (rA 10 4) = ma σ 64 from rfl, w2]; rfl
  rw [Pl_copyRightSide, gd_t (by decide), t1, bi_some, t2, bi_some, gd_t (inb_nI (by omega) (by omega)), nI_clamp (by omega), show ma σ (rA 10 4) = ma σ 64 from rfl, a4, e1]
end C
