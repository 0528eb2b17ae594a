/-! Names that are wrong: both look alike. Own text. -/
theorem rlM_inj {a b : Int32} (h : rlM a = rlM b) : a = b := by
  unfold rlM at h
  by_cases a1 : a = 1 <;> by_cases a2 : a = 2 <;> by_cases a3 : a = 3 <;> by_cases b1 : b = 1 <;> by_cases b2 : b = 2 <;> by_cases b3 : b = 3 <;> simp_all
theorem rlM_iff (a : Int32) : (rlM a = 1 ↔ a = 3) ∧ (rlM a = 0 ↔ a = 0) ∧ (rlM a = 4 ↔ a = 4) ∧ (rlM a = 5 ↔ a = 5) ∧ (rlM a = 6 ↔ a = 6) := by
  have e1 : rlM 3 = 1 := by decide
  have e0 : rlM 0 = 0 := by decide
  have e4 : rlM 4 = 4 := by decide
  have e5 : rlM 5 = 5 := by decide
  have e6 : rlM 6 = 6 := by decide
  exact ⟨⟨fun h => rlM_inj (h.trans e1.symm), fun h => by rw [h, e1]⟩, ⟨fun h => rlM_inj (h.trans e0.symm), fun h => by rw [h, e0]⟩, ⟨fun h => rlM_inj (h.trans e4.symm), fun h => by rw [h, e4]⟩, ⟨fun h => rlM_inj (h.trans e5.symm), fun h => by rw [h, e5]⟩, ⟨fun h => rlM_inj (h.trans e6.symm), fun h => by rw [h, e6]⟩⟩
/-- mentions of both, in a text or in what is asked -/
def nmR (σ τ : zS) (D M : Nat) (inT : Bool) : Prop := dcN σ τ D ∧ gi σ 505 = nI M ∧ gi τ 31 = nI M ∧ M ≤ 600 ∧ (∀ i, i < M → meR σ τ i) ∧ (inT = true → owCn σ D M) ∧ (inT = false → ∀ i, i < M → (ga σ 43 i = 5 ∨ ga σ 43 i = 6) ∧ ga σ 46 i = -1)
/-- whether mention m has been told before, from i on -/
def wTo (σ : zS) (m : Nat) : Nat → Nat → Bool
  | 0, _ => false
  | d + 1, i => (decide (ga σ 43 i = ga σ 43 m) && decide (gb σ 44 i = gb σ 44 m) && (!decide (ga σ 43 i = 3) || decide (ga σ 46 i = ga σ 46 m))) || wTo σ m d (i + 1)
theorem b2i_B (b : Bool) : isB (if b = true then 1 else 0) = true := by cases b <;> decide
section N
variable {F : Nat} {σ τ : zS} {D M : Nat} {inT : Bool}
theorem nmR_ow (h : nmR σ τ D M inT) {i : Nat} (hi : i < M) (h3 : ga σ 43 i = 3) : ∃ o, o < D ∧ ga σ 46 i = nI o ∧ ga τ 13 i = nI o := by
  obtain ⟨h1, h2, h2', h3', h4, h5, h6⟩ := h
  cases inT with
  | true =>
    obtain ⟨o, w1, w2⟩ := h5 rfl i hi (by rw [h3]; decide)
    refine ⟨o, w1, w2, ?_⟩
    rcases (h4 i hi).2.2.2.1 with w | ⟨w, _⟩
    · rw [w, w2]
    · rw [w2] at w
      have := h1.2.2.1
      exact absurd w (nI_m1 o (by omega))
  | false =>
    rcases (h6 rfl i hi).1 with w | w <;> rw [w] at h3 <;> exact absurd h3 (by decide)
theorem told_loop (h : nmR σ τ D M inT) {m : Nat} (hm : m < M) : ∀ (d f i : Nat), i + d = m → d < f → Me_wasTold_2 F f σ (nI m) (nI i) = some (if wTo σ m d i = true then 1 else 0, σ) ∧ Md_wasTold_2 F f τ (nI m) (nI i) = some (if wTo σ m d i = true then 1 else 0, τ) := by
  have hh := h
  obtain ⟨h1, h2, h2', h3', h4, h5, h6⟩ := h
  intro d
  induction d with
  | zero =>
    intro f i hi hf
    obtain ⟨f, rfl⟩ : ∃ f', f = f' + 1 := ⟨f - 1, by omega⟩
    rw [Me_wasTold_2, Me_wasTold_b2, if_pos (nI_le (by omega) (by omega)), Md_wasTold_2, Md_wasTold_b2, if_pos (nI_le (by omega) (by omega))]
    exact ⟨rfl, rfl⟩
  | succ d ih =>
    intro f i hi hf
    obtain ⟨f, rfl⟩ : ∃ f', f = f' + 1 := ⟨f - 1, by omega⟩
    obtain ⟨i1, i2⟩ := ih f (i + 1) (by omega) (by omega)
    obtain ⟨n1, n2, n3, n4, n5⟩ := h4 i (by omega)
    obtain ⟨m1, m2, m3, m4, m5⟩ := h4 m hm
    have ci : (nI i).toNatClampNeg = i := nI_clamp (by omega)
    have cm : (nI m).toNatClampNeg = m := nI_clamp (by omega)
    have c75 : Me_wasTold_75 F (Me_wasTold_2 F f) σ (nI m) (nI i) = some (if wTo σ m d (i + 1) = true then 1 else 0, σ) := by
      rw [Me_wasTold_75, nI_1, i1]
    have c65 : Md_wasTold_65 F (Md_wasTold_2 F f) τ (nI m) (nI i) = some (if wTo σ m d (i + 1) = true then 1 else 0, τ) := by
      rw [Md_wasTold_65, nI_1, i2]
    have b1 : Me_wasTold_2 F (f + 1) σ (nI m) (nI i) = if ga σ 43 i = ga σ 43 m then (if gb σ 44 i = gb σ 44 m then (if ga σ 43 i = 3 then (if ga σ 46 i = ga σ 46 m then some (1, σ) else some (if wTo σ m d (i + 1) = true then 1 else 0, σ)) else some (1, σ)) else some (if wTo σ m d (i + 1) = true then 1 else 0, σ)) else some (if wTo σ m d (i + 1) = true then 1 else 0, σ) := by
      rw [Me_wasTold_2, Me_wasTold_b2, if_neg (nI_ge (by omega) (by omega)), gd_t (inb_nI (by omega) (by omega)), gd_t (inb_nI (by omega) (by omega)), ci, cm, Me_wasTold_42]
      unfold Me_wasTold_43
      rw [if_neg (show ¬ (1 : Int32) = 0 by decide), if_pos rfl, gd_t (inb_nI (by omega) (by omega)), gd_t (inb_nI (by omega) (by omega)), ci, cm, c75, Me_wasTold_73]
      simp only [lgc]
    have b2 : Md_wasTold_2 F (f + 1) τ (nI m) (nI i) = if ga τ 10 i = ga τ 10 m then (if gb τ 11 i = gb τ 11 m then (if ga τ 10 m = 1 then (if ga τ 13 i = ga τ 13 m then some (1, τ) else some (if wTo σ m d (i + 1) = true then 1 else 0, τ)) else some (1, τ)) else some (if wTo σ m d (i + 1) = true then 1 else 0, τ)) else some (if wTo σ m d (i + 1) = true then 1 else 0, τ) := by
      rw [Md_wasTold_2, Md_wasTold_b2, if_neg (nI_ge (by omega) (by omega)), gd_t (inb_nI (by omega) (by omega)), gd_t (inb_nI (by omega) (by omega)), ci, cm, c65, Md_wasTold_63]
      simp only [lgc]
    rw [n1, m1, n3, m3] at b2
    by_cases e1 : ga σ 43 i = ga σ 43 m
    · have r1 : rlM (ga σ 43 i) = rlM (ga σ 43 m) := by rw [e1]
      by_cases e2 : gb σ 44 i = gb σ 44 m
      · by_cases e3 : ga σ 43 i = 3
        · obtain ⟨oi, w1, w2, w3⟩ := nmR_ow hh (i := i) (by omega) e3
          obtain ⟨om, y1, y2, y3⟩ := nmR_ow hh hm (by rw [← e1]; exact e3)
          have e3' : ga σ 43 m = 3 := by rw [← e1]; exact e3
          have hr : rlM (ga σ 43 m) = 1 := (rlM_iff _).1.mpr e3'
          by_cases e4 : ga σ 46 i = ga σ 46 m
          · have e4' : ga τ 13 i = ga τ 13 m := by rw [w3, y3, ← w2, ← y2, e4]
            have hw : wTo σ m (d + 1) i = true := by rw [wTo]; simp [e1, e2, e4]
            exact ⟨by rw [b1, if_pos e1, if_pos e2, if_pos e3, if_pos e4, if_pos hw], by rw [b2, if_pos r1, if_pos e2, if_pos hr, if_pos e4', if_pos hw]⟩
          · have e4' : ¬ ga τ 13 i = ga τ 13 m := fun z => e4 (by rw [w2, y2, ← w3, ← y3, z])
            have hw : wTo σ m (d + 1) i = wTo σ m d (i + 1) := by rw [wTo]; simp [e1, e2, e3', e4]
            exact ⟨by rw [b1, if_pos e1, if_pos e2, if_pos e3, if_neg e4, hw], by rw [b2, if_pos r1, if_pos e2, if_pos hr, if_neg e4', hw]⟩
        · have e3' : ¬ ga σ 43 m = 3 := by rw [← e1]; exact e3
          have hr : ¬ rlM (ga σ 43 m) = 1 := fun z => e3' ((rlM_iff _).1.mp z)
          have hw : wTo σ m (d + 1) i = true := by rw [wTo]; simp [e1, e2, e3']
          exact ⟨by rw [b1, if_pos e1, if_pos e2, if_neg e3, if_pos hw], by rw [b2, if_pos r1, if_pos e2, if_neg hr, if_pos hw]⟩
      · have hw : wTo σ m (d + 1) i = wTo σ m d (i + 1) := by rw [wTo]; simp [e2]
        exact ⟨by rw [b1, if_pos e1, if_neg e2, hw], by rw [b2, if_pos r1, if_neg e2, hw]⟩
    · have r1 : ¬ rlM (ga σ 43 i) = rlM (ga σ 43 m) := fun z => e1 (rlM_inj z)
      have hw : wTo σ m (d + 1) i = wTo σ m d (i + 1) := by rw [wTo]; simp [e1]
      exact ⟨by rw [b1, if_neg e1, hw], by rw [b2, if_neg r1, hw]⟩
theorem told (hF : 1300 ≤ F) (h : nmR σ τ D M inT) {m : Nat} (hm : m < M) : Me_wasTold F σ (nI m) = some (if wTo σ m m 0 = true then 1 else 0, σ) ∧ Md_wasTold F τ (nI m) = some (if wTo σ m m 0 = true then 1 else 0, τ) := told_loop h hm m F 0 (by omega) (by have := h.2.2.2.1; omega)
/-- a name that is wrong, in both -/
theorem badN (hF : 1300 ≤ F) (h : nmR σ τ D M inT) {m : Nat} (hm : m < M) : ∃ b : Bool, Ch_isBadName F σ (nI m) = some (if b = true then 1 else 0, σ) ∧ Md_isWrongName F τ (nI m) (if inT = true then 1 else 0) = some (if b = true then 1 else 0, τ) := by
  have hh := h
  obtain ⟨t1, t2⟩ := told (F := F) hF h hm
  obtain ⟨h1, h2, h2', h3', h4, h5, h6⟩ := h
  have hD := h1.2.2.1
  obtain ⟨m1, m2, m3, m4, m5⟩ := h4 m hm
  have cm : (nI m).toNatClampNeg = m := nI_clamp (by omega)
  have i6 : inb (nI m) 600 = true := inb_nI (by omega) (by omega)
  have i14 : inb (nI m) 1400 = true := inb_nI (by omega) (by omega)
  obtain ⟨f1, f2⟩ := findT (F := F) hF h1 (gb σ 44 m)
  obtain ⟨g1, g2⟩ := findD (F := F) hF h1 (gb σ 44 m)
  obtain ⟨r, hr⟩ : ∃ r, r = ga σ 43 m := ⟨_, rfl⟩
  rw [← hr] at m3
  have neg1 : ¬ (0 : Int32) ≤ -1 := by decide
  have pos : ∀ j : Nat, j < 100 → (0 : Int32) ≤ nI j := fun j hj => nI_pos' (by omega)
  rw [Ch_isBadName, gd_t i6, cm, ← hr, Md_isWrongName, gd_t i14, cm, m3, m1, f1, f2, g1]
  by_cases r5 : r = 5
  · -- a big name in a type
    subst r5
    rw [if_neg (by decide), if_neg (by decide), if_neg (by decide), if_neg (by decide), if_neg (by decide), if_pos rfl, if_pos (show rlM 5 = 5 by decide)]
    by_cases e : gb σ 44 m = 4812404
    · rw [if_pos ((lgc _ _).mpr e), if_pos ((lgc _ _).mpr e)]
      exact ⟨false, rfl, rfl⟩
    · rw [if_neg (fun z => e ((lgc _ _).mp z)), if_neg (fun z => e ((lgc _ _).mp z)), bi_some, bi_some]
      rcases fTy_rng σ (gb σ 44 m) D 0 with w | ⟨j, w1, w2, w3, _⟩
      · rw [w, if_neg neg1, if_neg neg1]
        exact ⟨true, rfl, rfl⟩
      · rw [w3, if_pos (pos j (by omega)), if_pos (pos j (by omega))]
        exact ⟨false, rfl, rfl⟩
  · by_cases r6 : r = 6
    · -- a small name in a type
      subst r6
      rw [if_neg (by decide), if_neg (by decide), if_neg (by decide), if_neg (by decide), if_neg (by decide), if_neg (by decide), if_pos rfl, if_neg (show ¬ rlM 6 = 5 by decide), if_pos (show rlM 6 = 6 by decide)]
      cases inT with
      | false =>
        have how := (h6 rfl m hm).2
        have hx : (if false = true then (1 : Int32) else 0) = 0 := by decide
        have hst : Ch_isStrange F σ (-1) (gb σ 44 m) = some (0, σ) := by
          rw [Ch_isStrange, Te_has, if_pos (by decide)]; rfl
        rw [hx, if_pos rfl, how, hst, bi_some]
        exact ⟨false, rfl, rfl⟩
      | true =>
        obtain ⟨o, w1, w2⟩ := h5 rfl m hm (by rw [← hr]; decide)
        have w3 : ga τ 13 m = nI o := by
          rcases m4 with w | ⟨w, _⟩
          · rw [w, w2]
          · rw [w2] at w; exact absurd w (nI_m1 o (by omega))
        obtain ⟨so, q, b1, b2, b3, b4, b5, b6, b7, b8, b9⟩ := h1.2.2.2 o w1
        obtain ⟨p1, p2⟩ := findP (F := F) hF h1 w1 b7 b2 (gb σ 44 m)
        have co : (nI o).toNatClampNeg = o := nI_clamp (by omega)
        have hhas : Te_has F σ (nI o) = some (1, σ) := by
          rw [Te_has, if_neg (nI_pos (by omega)), h1.1, if_neg (nI_ge w1 (by omega))]; rfl
        have hx : (if true = true then (1 : Int32) else 0) = 1 := by decide
        rw [hx, if_neg (show ¬ (1 : Int32) = 0 by decide), w2, w3, Ch_isStrange, hhas, bi_some, if_neg (by decide), gd_t (inb_nI (by omega) (by omega)), co, b3, gd_t (inb_nI (by omega) (by omega)), b4, p1, p2, bi_some, bi_some]
        by_cases s2 : so = 2
        · subst s2
          rw [if_pos (show nI 2 = (2 : Int32) from rfl), if_pos (show (2 : Int32) ≤ nI 2 by decide)]
          exact ⟨false, rfl, rfl⟩
        · rw [if_neg (show ¬ nI so = (2 : Int32) from fun z => s2 ((nI_eq (a := so) (b := 2) (by omega) (by omega)).mp z)), if_neg (show ¬ (2 : Int32) ≤ nI so from nI_ge (b := 2) (by omega) (by omega))]
          rcases fPa_rng σ o (gb σ 44 m) q 0 with w | ⟨j, y1, y2, y3, _⟩
          · rw [w, if_neg neg1, if_pos rfl, if_pos rfl]
            exact ⟨true, rfl, rfl⟩
          · rw [y3, if_pos (pos j (by omega)), if_neg (nI_m1 j (by omega)), if_neg (by decide)]
            exact ⟨false, rfl, rfl⟩
    · -- a name that is told
      have q5 : ¬ rlM r = 5 := fun z => r5 ((rlM_iff r).2.2.2.1.mp z)
      have q6 : ¬ rlM r = 6 := fun z => r6 ((rlM_iff r).2.2.2.2.mp z)
      rw [if_neg q5, if_neg q6]
      cases hw : wTo σ m m 0 with
      | true =>
        rw [hw, if_pos rfl] at t1 t2
        refine ⟨true, ?_, by rw [t2, bi_some, if_neg (by decide)]; rfl⟩
        by_cases r0 : r = 0
        · rw [if_pos r0]
          by_cases e : gb σ 44 m = 4812404
          · rw [if_pos ((lgc _ _).mpr e)]; rfl
          · rw [if_neg (fun z => e ((lgc _ _).mp z)), t1, bi_some, if_neg (by decide)]; rfl
        · rw [if_neg r0]
          by_cases r1 : r = 1
          · rw [if_pos r1, t1, bi_some]; rfl
          · rw [if_neg r1]
            by_cases r2 : r = 2
            · rw [if_pos r2, t1, bi_some]; rfl
            · rw [if_neg r2]
              by_cases r3 : r = 3
              · rw [if_pos r3, t1, bi_some]; rfl
              · rw [if_neg r3]
                by_cases r4 : r = 4
                · rw [if_pos r4, bi_some]
                  rcases fDe_rng σ (gb σ 44 m) D 0 with w | ⟨j, w1, w2, w3, _⟩
                  · rw [w, if_pos (by decide)]; rfl
                  · rw [w3, if_neg (nI_pos (by omega)), t1, bi_some, if_neg (by decide)]; rfl
                · rw [if_neg r4, if_neg r5, if_neg r6, t1, bi_some]; rfl
      | false =>
        rw [hw, if_neg (by decide)] at t1 t2
        by_cases r0 : r = 0
        · subst r0
          rw [if_pos rfl, t2, bi_some, if_pos rfl, if_pos (show rlM 0 = 0 by decide)]
          by_cases e : gb σ 44 m = 4812404
          · have l := (lgc _ _).mpr e
            exact ⟨true, by rw [if_pos l]; rfl, by rw [if_pos l]; rfl⟩
          · have l : ¬ lg_cmp (gb σ 44 m) 4812404 = 0 := fun z => e ((lgc _ _).mp z)
            exact ⟨false, by rw [if_neg l, t1, bi_some, if_pos rfl]; rfl, by rw [if_neg l, Md_isWrongName_111, if_neg (by decide)]; rfl⟩
        · have q0 : ¬ rlM r = 0 := fun z => r0 ((rlM_iff r).2.1.mp z)
          rw [if_neg r0, t2]
          simp only [bi_some]
          rw [if_neg q0, Md_isWrongName_111]
          by_cases r4 : r = 4
          · subst r4
            rw [if_neg (by decide), if_neg (by decide), if_neg (by decide), if_pos rfl, if_pos (show rlM 4 = 4 by decide), g2, bi_some]
            rcases fDe_rng σ (gb σ 44 m) D 0 with w | ⟨j, w1, w2, w3, _⟩
            · rw [w]
              exact ⟨true, by rw [if_pos (by decide)]; rfl, by rw [if_neg neg1]; rfl⟩
            · rw [w3]
              exact ⟨false, by rw [if_neg (nI_pos (by omega)), t1, bi_some, if_pos rfl]; rfl, by rw [if_pos (pos j (by omega))]; rfl⟩
          · have q4 : ¬ rlM r = 4 := fun z => r4 ((rlM_iff r).2.2.1.mp z)
            refine ⟨false, ?_, by rw [if_neg q4]; rfl⟩
            by_cases r1 : r = 1
            · rw [if_pos r1, t1, bi_some]; rfl
            · rw [if_neg r1]
              by_cases r2 : r = 2
              · rw [if_pos r2, t1, bi_some]; rfl
              · rw [if_neg r2]
                by_cases r3 : r = 3
                · rw [if_pos r3, t1, bi_some]; rfl
                · rw [if_neg r3, if_neg r4, if_neg r5, if_neg r6, t1, bi_some]; rfl
end N
