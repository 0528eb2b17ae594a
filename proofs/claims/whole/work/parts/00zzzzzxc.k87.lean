/-! The reference replaces a synonym: the whole. Own text. -/
def posI (h : Nat) (Bs : List (List BE)) (j : Nat) : Nat := h + 1 + (it ((Bs.take j).flatten)).length
def pI (pm : Nat → Option Nat) (x : Nat) : Int32 := match pm x with
  | some j => nI j
  | none => -1
theorem MX_ext {τ : zS} {I : List Nat} (h : MX τ I) (hn : 200 < nz I) (J : List Nat) (hl : (I ++ J).length ≤ 400000) : MX τ (I ++ J) := by
  rcases h.2 with ⟨m1, _⟩ | ⟨m1, m2, m3⟩
  · omega
  · exact ⟨hl, Or.inr ⟨by rw [nz_app]; omega, m2, m3⟩⟩
theorem MX_fr {τ τ' : zS} {I : List Nat} (h96 : gi τ' 96 = gi τ 96) (h97 : gi τ' 97 = gi τ 97) (h60 : ga τ' 60 = ga τ 60) (h2 : ga τ' 2 = ga τ 2) (h3 : gb τ' 3 = gb τ 3) (h : MX τ I) : MX τ' I := by
  refine ⟨h.1, ?_⟩
  rcases h.2 with ⟨m1, m2, m3, m4⟩ | ⟨m1, m2, m, m3, m4⟩
  · exact Or.inl ⟨m1, by rw [h96]; exact m2, by rw [h97]; exact m3, fun w => mRw_fr h2 h3 I 0 0 (fun j _ => by rw [h60]) (m4 w)⟩
  · exact Or.inr ⟨m1, by rw [h97]; exact m2, m, m3, by rw [h96]; exact m4⟩
section M
variable {F : Nat} {σ τ : zS} {D y q k x h : Nat} {Bs : List (List BE)} {A B' R : List BE}
theorem it_mid : it (A ++ (k, x) :: (Bs.flatten ++ B')) = it A ++ (List.replicate k 0 ++ x :: (it Bs.flatten ++ it B')) := by
  rw [it_app, it, it_app, itB, List.append_assoc]; rfl
theorem argI_at (hh : h = (it A).length + k) (hr : mRw τ 59 0 (it (A ++ (k, x) :: (Bs.flatten ++ B')))) {j : Nat} (hj : j < Bs.length) : mRw τ 59 (posI h Bs j) (it (nthB Bs j)) ∧ posI h Bs (j + 1) = posI h Bs j + (it (nthB Bs j)).length ∧ posI h Bs j + (it (nthB Bs j)).length ≤ (it (A ++ (k, x) :: (Bs.flatten ++ B'))).length := by
  obtain ⟨e1, e2⟩ := flat_at Bs j hj
  have ep : posI h Bs (j + 1) = posI h Bs j + (it (nthB Bs j)).length := by
    unfold posI
    rw [e2, it_app, List.length_append]; omega
  rw [it_mid, e1, it_app, it_app, mRw_app, mRw_app] at hr
  obtain ⟨_, _, _, h2⟩ := hr
  rw [mRw_app, mRw_app, mRw_app] at h2
  refine ⟨?_, ep, ?_⟩
  · have := h2.1.2.1
    unfold posI
    rw [Nat.zero_add, List.length_replicate, ← hh] at this
    exact this
  · rw [it_mid, e1, it_app, it_app]
    unfold posI
    simp only [List.length_append, List.length_cons, List.length_replicate]
    omega
/-- what a reference's row of a synonym looks like -/
def MS0 (τ : zS) (h q k x : Nat) (A B' : List BE) (Bs : List (List BE)) : Prop := h = (it A).length + k ∧ mRw τ 59 0 (it (A ++ (k, x) :: (Bs.flatten ++ B'))) ∧ Bs.length = q ∧ (∀ j, j < q → fo (nthB Bs j) 1) ∧ (∀ j, j < q → ∀ b, b ∈ nthB Bs j → okx b) ∧ (it (A ++ (k, x) :: (Bs.flatten ++ B'))).length ≤ 400
theorem MS0_fr {τ' : zS} (h59 : ga τ' 59 = ga τ 59) (h2 : ga τ' 2 = ga τ 2) (h3 : gb τ' 3 = gb τ 3) (g : MS0 τ h q k x A B' Bs) : MS0 τ' h q k x A B' Bs :=
  ⟨g.1, mRw_fr h2 h3 _ 0 0 (fun j _ => by rw [h59]) g.2.1, g.2.2⟩
theorem behind_loop (hF : 20000 ≤ F) (g : MS0 τ h q k x A B' Bs) (hq3 : q ≤ 3) {j : Nat} (hj : j ≤ q) : ∀ (d f i : Nat), i + d = j → d < f → Md_behind_7 F f τ (nI j) (nI (posI h Bs i)) (nI i) = some (nI (posI h Bs j), τ) := by
  obtain ⟨g1, g2, g3, g4, g5, g6⟩ := g
  intro d
  induction d with
  | zero =>
    intro f i hi hf
    obtain ⟨f, rfl⟩ : ∃ f', f = f' + 1 := ⟨f - 1, by omega⟩
    have : i = j := by omega
    subst this
    rw [Md_behind_7, Md_behind_b7, if_pos (nI_le (by omega) (by omega))]
  | succ d ih =>
    intro f i hi hf
    obtain ⟨f, rfl⟩ : ∃ f', f = f' + 1 := ⟨f - 1, by omega⟩
    obtain ⟨a1, a2, a3⟩ := argI_at g1 g2 (j := i) (by omega)
    rw [Md_behind_7, Md_behind_b7, if_neg (nI_ge (by omega) (by omega)), endM hF (g4 i (by omega)) (g5 i (by omega)) a1 (by omega), bi_some, nI_1, ← a2, ih f (i + 1) (by omega) (by omega)]
theorem behindM (hF : 20000 ≤ F) (g : MS0 τ h q k x A B' Bs) (hq3 : q ≤ 3) {j : Nat} (hj : j ≤ q) : Md_behind F τ (nI h) (nI j) = some (nI (posI h Bs j), τ) := by
  have := behind_loop (F := F) hF g hq3 hj j F 0 (by omega) (by omega)
  rw [Md_behind, nI_1]
  exact this
/-- the parameter that an item is, for the reference -/
theorem prm_loop (hdc : dcN σ τ D) (hy : y < D) (hq : ga σ 32 y = nI q) (hq3 : q ≤ 3) (hd : ∀ i j, i < j → j < q → gb σ 33 (3 * y + i) ≠ gb σ 33 (3 * y + j)) {n : Nat} (hn : n < 1000) (h2 : ga τ 2 n = 1) (rc : zS → Int32 → Int32 → Int32 → Int32 → Option zS) (x1 x3 x4 : Int32) : ∀ (d i f : Nat) (p : Int32), i + d = q → d < f → Md_replace_72 F rc f τ x1 (nI y) x3 x4 (nI (10 + n)) p (nI i) = Md_replace_144 F rc τ x1 (nI y) x3 x4 (nI (10 + n)) (if fPa σ y (gb τ 3 n) d i = -1 then p else fPa σ y (gb τ 3 n) d i) := by
  have hD := hdc.2.2.1
  obtain ⟨so, q', b1, b2, b3, b4, b5, b6, b7, b8, b9⟩ := hdc.2.2.2 y hy
  have eq : q' = q := (nI_eq (by omega) (by omega)).mp (b7.symm.trans hq)
  subst eq
  intro d
  induction d with
  | zero =>
    intro i f p hi hf
    obtain ⟨f, rfl⟩ : ∃ f', f = f' + 1 := ⟨f - 1, by omega⟩
    rw [Md_replace_72, Md_replace_b72, gd_t (inb_nI (by omega) (by omega)), nI_clamp (by omega), b8, if_pos (nI_le (by omega) (by omega)), fPa, if_pos rfl]
  | succ d ih =>
    intro i f p hi hf
    obtain ⟨f, rfl⟩ : ∃ f', f = f' + 1 := ⟨f - 1, by omega⟩
    have e10 : nI (10 + n) - (10 : Int32) = nI n := by
      rw [Nat.add_comm]
      exact nI_sb n 10
    have e3 : (3 : Int32) * nI y + nI i = nI (3 * y + i) := by
      rw [show (3 : Int32) = nI 3 from rfl]
      have : nI 3 * nI y = nI (3 * y) := (Int32.ofNat_mul 3 y).symm
      rw [this, nI_add]
    have st : Md_replace_72 F rc (f + 1) τ x1 (nI y) x3 x4 (nI (10 + n)) p (nI i) = if gb σ 33 (3 * y + i) = gb τ 3 n then Md_replace_72 F rc f τ x1 (nI y) x3 x4 (nI (10 + n)) (nI i) (nI (i + 1)) else Md_replace_72 F rc f τ x1 (nI y) x3 x4 (nI (10 + n)) p (nI (i + 1)) := by
      rw [Md_replace_72, Md_replace_b72, gd_t (inb_nI (by omega) (by omega)), nI_clamp (by omega), b8, if_neg (nI_ge (by omega) (by omega)), if_neg (nI_lt10 n hn), e10, gd_t (inb_nI (by omega) (by omega)), nI_clamp (by omega), if_pos h2, e3, gd_t (inb_nI (by omega) (by omega)), nI_clamp (by omega), b9 i (by omega), Md_replace_136, Md_replace_136, nI_1]
      simp only [lgc]
    rw [st]
    by_cases c : gb σ 33 (3 * y + i) = gb τ 3 n
    · have hno : fPa σ y (gb τ 3 n) d (i + 1) = -1 := by
        rcases fPa_rng σ y (gb τ 3 n) d (i + 1) with z | ⟨j, j1, j2, j3, j4⟩
        · exact z
        · exact absurd (c.trans j4.symm) (hd i j (by omega) (by omega))
      rw [if_pos c, ih (i + 1) f (nI i) (by omega) (by omega), hno, if_pos rfl, fPa, if_pos c, if_neg (nI_m1 i (by omega))]
    · rw [if_neg c, ih (i + 1) f p (by omega) (by omega), fPa, if_neg c]
theorem parM (hF : 20000 ≤ F) (hdc : dcN σ τ D) (hy : y < D) (hq : ga σ 32 y = nI q) (hq3 : q ≤ 3) (hd : ∀ i j, i < j → j < q → gb σ 33 (3 * y + i) ≠ gb σ 33 (3 * y + j)) {v : Int32} (hv : itR τ v x) (rc : zS → Int32 → Int32 → Int32 → Int32 → Option zS) (x1 x3 x4 : Int32) : Md_replace_72 F rc F τ x1 (nI y) x3 x4 v (-1) 0 = Md_replace_144 F rc τ x1 (nI y) x3 x4 v (pI (pmY σ y q) x) := by
  have hD := hdc.2.2.1
  obtain ⟨F', hF'⟩ : ∃ F', F = F' + 1 := ⟨F - 1, by omega⟩
  obtain ⟨so, q', b1, b2, b3, b4, b5, b6, b7, b8, b9⟩ := hdc.2.2.2 y hy
  rcases hv with ⟨h1, h2⟩ | ⟨h1, n, h2, h3, h4, h5⟩
  · have hp : pI (pmY σ y q) x = -1 := by unfold pI pmY; rw [if_pos h1]
    rw [hp, show Md_replace_72 F rc F = Md_replace_72 F rc (F' + 1) by rw [← hF'], Md_replace_72, Md_replace_b72, gd_t (inb_nI (by omega) (by omega)), h2]
    by_cases c : ga τ 36 (nI y).toNatClampNeg ≤ 0
    · rw [if_pos c]
    · rw [if_neg c, if_pos (show nI x < (10 : Int32) from nI_lt (a := x) (b := 10) h1 (by omega))]
  · have hc2 : lfB (x - 10) = 0 ∨ lfB (x - 10) = 1 := by unfold lfB; omega
    rcases hc2 with z | z
    · have hp : pI (pmY σ y q) x = -1 := by unfold pI pmY; rw [if_neg (by omega), if_pos z]
      have e10 : nI (10 + n) - (10 : Int32) = nI n := by
        rw [Nat.add_comm]
        exact nI_sb n 10
      rw [hp, show Md_replace_72 F rc F = Md_replace_72 F rc (F' + 1) by rw [← hF'], Md_replace_72, Md_replace_b72, gd_t (inb_nI (by omega) (by omega)), h3]
      by_cases c : ga τ 36 (nI y).toNatClampNeg ≤ 0
      · rw [if_pos c]
      · rw [if_neg c, if_neg (nI_lt10 n h2), e10, gd_t (inb_nI (by omega) (by omega)), nI_clamp (by omega), h4, z, if_neg (by decide)]
    · have := prm_loop (F := F) hdc hy hq hq3 hd h2 (by rw [h4, z]; rfl) rc x1 x3 x4 q 0 F (-1) (by omega) (by omega)
      rw [h3]
      show Md_replace_72 F rc F τ x1 (nI y) x3 x4 (nI (10 + n)) (-1) (nI 0) = _
      rw [this, h5]
      congr 1
      unfold pI pmY
      rw [if_neg (show ¬ x < 10 by omega), if_neg (show ¬ lfB (x - 10) = 0 by omega)]
      by_cases c : fPa σ y (lfN (x - 10)) q 0 = -1
      · rw [if_pos c, if_pos c]
      · rw [if_neg c, if_neg c]
        obtain ⟨j, j1, j2, j3, j4⟩ := (fPa_rng σ y (lfN (x - 10)) q 0).resolve_left c
        rw [j3, nI_clamp (by omega)]
theorem sI_len (g : MS0 τ h q k x A B' Bs) (hq3 : q ≤ 3) (z : Nat) : (sI (pmY σ y q) Bs z).length ≤ 400 := by
  unfold sI
  cases e : pmY σ y q z with
  | none => simp
  | some j =>
    have hj := (pm_rng hq3 e).2.2.1
    have := (argI_at g.1 g.2.1 (j := j) (by rw [g.2.2.1]; exact hj)).2.2
    have := g.2.2.2.2.2
    show (it (nthB Bs j)).length ≤ 400
    omega
theorem subI_len (g : MS0 τ h q k x A B' Bs) (hq3 : q ≤ 3) : ∀ P : List Nat, (subI (pmY σ y q) Bs P).length ≤ 400 * P.length
  | [] => Nat.le_refl _
  | z :: P => by
    have h1 := sI_len (σ := σ) (y := y) g hq3 z
    have h2 := subI_len g hq3 P
    rw [subI, List.length_append, List.length_cons]
    omega
/-- the right side's items, one by one -/
theorem pat_loop (hF : 20000 ≤ F) (hy : y < D) (hq : ga σ 32 y = nI q) (hq3 : q ≤ 3) (hd : ∀ i j, i < j → j < q → gb σ 33 (3 * y + i) ≠ gb σ 33 (3 * y + j)) : ∀ (P : List Nat) (i f : Nat) (τ : zS) (I : List Nat), dcN σ τ D → MS0 τ h q k x A B' Bs → mRw τ 61 i P → i + P.length ≤ 1200 → P.length < f → MX τ I → I.length + 400 * P.length ≤ 400000 → ∃ τ', Md_replace_41 F f τ (nI h) (nI y) (nI (i + P.length)) (nI i) = Md_replace_186 F τ' (nI h) (nI y) ∧ MX τ' (I ++ subI (pmY σ y q) Bs P) ∧ sx [96, 97] [60] τ τ' := by
  intro P
  induction P with
  | nil =>
    intro i f τ I _ _ _ hi hf hM _
    obtain ⟨f, rfl⟩ : ∃ f', f = f' + 1 := ⟨f - 1, by omega⟩
    refine ⟨τ, ?_, by rw [subI, List.append_nil]; exact hM, sx_rfl _ _ _⟩
    rw [Md_replace_41, Md_replace_b41, if_pos (nI_le (by simp) (by simp at hi ⊢; omega))]
  | cons z P ih =>
    intro i f τ I hdc g hr hi hf hM hl
    simp only [List.length_cons] at hi hf hl
    obtain ⟨f, rfl⟩ : ∃ f', f = f' + 1 := ⟨f - 1, by omega⟩
    have hlt : ¬ nI (i + (z :: P).length) ≤ nI i := nI_ge (by simp) (by simp; omega)
    have hsl := sI_len (σ := σ) (y := y) g hq3 z
    have hPl := subI_len (σ := σ) (y := y) g hq3 P
    by_cases c : 200 < nz I
    · refine ⟨τ, ?_, MX_ext hM c _ (by rw [subI, List.length_append, List.length_append]; omega), sx_rfl _ _ _⟩
      rw [Md_replace_41, Md_replace_b41, if_neg hlt, if_pos ((MX_97 hM).mpr c)]
    · have hi1 : i + (z :: P).length = i + 1 + P.length := by simp; omega
      have step : ∃ τ1, Md_replace_144 F (Md_replace_41 F f) τ (nI h) (nI y) (nI (i + (z :: P).length)) (nI i) (ga τ 61 i) (pI (pmY σ y q) z) = Md_replace_41 F f τ1 (nI h) (nI y) (nI (i + (z :: P).length)) (nI (i + 1)) ∧ MX τ1 (I ++ sI (pmY σ y q) Bs z) ∧ sx [96, 97] [60] τ τ1 := by
        unfold sI pI
        cases e : pmY σ y q z with
        | none =>
          obtain ⟨τ1, a1, a2, a3⟩ := addM (F := F) hM (by omega) (by omega) hr.1
          refine ⟨τ1, ?_, a2, a3⟩
          show Md_replace_144 F (Md_replace_41 F f) τ (nI h) (nI y) (nI (i + (z :: P).length)) (nI i) (ga τ 61 i) (-1) = _
          rw [Md_replace_144, if_neg (by decide), a1, bv_some, Md_replace_180, nI_1]
        | some j =>
          have hj := (pm_rng hq3 e).2.2.1
          obtain ⟨w1, w2, w3⟩ := argI_at g.1 g.2.1 (j := j) (by rw [g.2.2.1]; exact hj)
          have w4 := g.2.2.2.2.2
          obtain ⟨τ1, a1, a2, a3⟩ := spanM (F := F) (I := I) hF w1 rfl (by omega) hM (by rw [List.length_append]; omega)
          refine ⟨τ1, ?_, a2, a3⟩
          show Md_replace_144 F (Md_replace_41 F f) τ (nI h) (nI y) (nI (i + (z :: P).length)) (nI i) (ga τ 61 i) (nI j) = _
          rw [Md_replace_144, if_pos (nI_pos' (by omega)), behindM hF g hq3 (by omega), bi_some, behindM hF g hq3 (by omega), bi_some, endM hF (g.2.2.2.1 j hj) (g.2.2.2.2.1 j hj) w1 (by omega), bi_some, a1, bv_some, Md_replace_180, nI_1]
      obtain ⟨τ1, a1, a2, a3⟩ := step
      obtain ⟨τ', b1, b2, b3⟩ := ih (i + 1) f τ1 (I ++ sI (pmY σ y q) Bs z) (dcN_cg rfl (a3.1 52 (by simp)) (fun _ _ => rfl) (fun _ _ => rfl) (fun a ha => a3.2.1 a (by simp; omega)) (fun b _ => sx_gb a3 b) hdc) (MS0_fr (a3.2.1 59 (by simp)) (a3.2.1 2 (by simp)) (sx_gb a3 3) g) (mRw_fr (a3.2.1 2 (by simp)) (sx_gb a3 3) P (i + 1) (i + 1) (fun j _ => by rw [a3.2.1 61 (by simp)]) hr.2) (by omega) (by omega) a2 (by rw [List.length_append]; omega)
      refine ⟨τ', ?_, by rw [subI, ← List.append_assoc]; exact b2, sx_tr a3 b3⟩
      rw [Md_replace_41, Md_replace_b41, if_neg hlt, if_neg (fun w => c ((MX_97 hM).mp w)), gd_t (inb_nI (by omega) (by omega)), nI_clamp (by omega), parM hF hdc hy hq hq3 hd hr.1, a1, hi1, b1]
/-- the row made becomes the row -/
theorem back_loop {n : Nat} (hn : n ≤ 1100) : ∀ (d i f : Nat) (τ : zS), i + d = n → d < f → gi τ 96 = nI n → ¬ (200 : Int32) < gi τ 97 → ∃ g, Md_replace_208 F f τ (nI i) = some (si (sA τ 59 g) 95 (nI n)) ∧ (∀ j, i ≤ j → j < n → g j = ga τ 60 j) ∧ (∀ j, j < i → g j = ga τ 59 j) := by
  intro d
  induction d with
  | zero =>
    intro i f τ hi hf h96 h97
    obtain ⟨f, rfl⟩ : ∃ f', f = f' + 1 := ⟨f - 1, by omega⟩
    refine ⟨ga τ 59, ?_, fun j h1 h2 => by omega, fun j _ => rfl⟩
    rw [Md_replace_208, Md_replace_b208, h96, if_pos (nI_le (by omega) (by omega)), Md_replace_247, h96, sA_self]
  | succ d ih =>
    intro i f τ hi hf h96 h97
    obtain ⟨f, rfl⟩ : ∃ f', f = f' + 1 := ⟨f - 1, by omega⟩
    obtain ⟨g, e1, e2, e3⟩ := ih (i + 1) f (sa τ 59 i (ga τ 60 i)) (by omega) (by omega) (by simp only [zs]; exact h96) (by simp only [zs]; exact h97)
    refine ⟨g, ?_, fun j h1 h2 => ?_, fun j hj => ?_⟩
    · rw [Md_replace_208, Md_replace_b208, h96, if_neg (nI_ge (by omega) (by omega)), if_neg h97, gd_t (inb_nI (by omega) (by omega)), nI_clamp (by omega), nI_1, e1]
      unfold sa
      rw [sA_sA]
    · by_cases w : j = i
      · subst w
        rw [e3 j (by omega)]
        simp only [zs, if_true, up_at]
      · rw [e2 j (by omega) h2]
        simp only [zs, if_neg (show ¬ (60 : Nat) = 59 by decide)]
    · rw [e3 j (by omega)]
      simp only [zs, if_true, up_at]
      rw [if_neg (by omega)]
theorem replM (hF : 20000 ≤ F) (hdc : dcN σ τ D) (hy : y < D) (hq : ga σ 32 y = nI q) (hq3 : q ≤ 3) (hd : ∀ i j, i < j → j < q → gb σ 33 (3 * y + i) ≠ gb σ 33 (3 * y + j)) {pr me : Int32} {lo hi nn : Nat} {As : List AE} {t : TE} (hh : hi ≤ 1000) (ok : okT t) (hnd : nd τ pr me lo hi t nn As) (h41 : ga τ 41 y = nI nn) (hRl : (it (blk t)).length ≤ 400) (hx : x ≠ 0) (hk : q ≤ k) (g : MS0 τ h q k x A B' Bs) (h95 : gi τ 95 = nI (it (A ++ (k, x) :: (Bs.flatten ++ B'))).length) (hokA : ∀ b, b ∈ A ++ (bmp (subB (pmY σ y q) Bs (blk t)) (k - q) ++ B') → okx b) (hfo : fo (A ++ (bmp (subB (pmY σ y q) Bs (blk t)) (k - q) ++ B')) 1) : ∃ τ', Md_replace F τ (nI h) (nI y) = some τ' ∧ sx [95, 96, 97] [53, 59, 60, 61] τ τ' ∧ (((A ++ (bmp (subB (pmY σ y q) Bs (blk t)) (k - q) ++ B')).length ≤ 200 ∧ gi τ' 97 = nI (A ++ (bmp (subB (pmY σ y q) Bs (blk t)) (k - q) ++ B')).length ∧ gi τ' 95 = nI (it (A ++ (bmp (subB (pmY σ y q) Bs (blk t)) (k - q) ++ B'))).length ∧ mRw τ' 59 0 (it (A ++ (bmp (subB (pmY σ y q) Bs (blk t)) (k - q) ++ B')))) ∨ (200 < (A ++ (bmp (subB (pmY σ y q) Bs (blk t)) (k - q) ++ B')).length ∧ gi τ' 97 = nI 201)) := by
  have hD := hdc.2.2.1
  obtain ⟨g1, g2, g3, g4, g5, g6⟩ := g
  have gg : MS0 τ h q k x A B' Bs := ⟨g1, g2, g3, g4, g5, g6⟩
  obtain ⟨so, q', b1, b2, b3, b4, b5, b6, b7, b8, b9⟩ := hdc.2.2.2 y hy
  have eqq : q' = q := (nI_eq (by omega) (by omega)).mp (b7.symm.trans hq)
  rw [eqq] at b8
  have hlen : (it (A ++ (k, x) :: (Bs.flatten ++ B'))).length = (it A).length + (k + (1 + ((it Bs.flatten).length + (it B').length))) := by
    rw [it_mid]; simp; omega
  -- the front
  have e1 : nI h - nI q = nI ((it A).length + (k - q)) := by
    rw [g1]
    conv => lhs; rw [show (it A).length + k = (it A).length + (k - q) + q by omega]
    exact nI_sb _ _
  have s0 : sx [96, 97] [60] τ (si (si τ 96 0) 97 0) := sx_si (sx_si (sx_rfl _ _ _) (by simp) _) (by simp) _
  have M0 : MX (si (si τ 96 0) 97 0) [] := ⟨by simp, Or.inl ⟨by simp [nz], by simp [zs]; rfl, by simp [zs, nz]; rfl, fun _ => trivial⟩⟩
  have front : mRw τ 59 0 (it A ++ List.replicate (k - q) 0) := by
    have w := g2
    rw [it_mid, show k = (k - q) + q by omega, ← List.replicate_append_replicate, List.append_assoc, ← List.append_assoc, mRw_app] at w
    exact w.1
  obtain ⟨τ1, c1, c2, c3⟩ := spanM (F := F) (τ := si (si τ 96 0) 97 0) (I := []) (J := it A ++ List.replicate (k - q) 0) (i := 0) (e := (it A).length + (k - q)) hF (mRw_fr (s0.2.1 2 (by simp)) (sx_gb s0 3) _ 0 0 (fun j _ => by rw [s0.2.1 59 (by simp)]) front) (by simp) (by simp; omega) M0 (by simp; omega)
  rw [List.nil_append] at c2
  have s1 : sx [96, 97] [60] τ τ1 := sx_tr s0 c3
  -- the right side
  obtain ⟨τ2, d1, d2, d3⟩ := layM (F := F) (A := 61) hF (Or.inr rfl) hh ok (nd_mono (Nat.le_refl _) (Nat.le_refl _) (fun i _ _ => ⟨by rw [s1.2.1 2 (by simp)], by rw [sx_gb s1], by rw [s1.2.1 4 (by simp)], by rw [s1.2.1 5 (by simp)]⟩) t nn As hnd) (by omega)
  have s2 : sx [96, 97] [53, 60, 61] τ τ2 := sx_tr (sx_mono (by simp) (by simp) s1) (sx_mono (by simp) (by simp) d2)
  have M2 : MX τ2 (it A ++ List.replicate (k - q) 0) := MX_fr (d2.1 96 (by simp)) (d2.1 97 (by simp)) (d2.2.1 60 (by simp)) (d2.2.1 2 (by simp)) (sx_gb d2 3) c2
  have hdc2 : dcN σ τ2 D := dcN_cg rfl (s2.1 52 (by simp)) (fun _ _ => rfl) (fun _ _ => rfl) (fun a ha => s2.2.1 a (by simp; omega)) (fun b _ => sx_gb s2 b) hdc
  have gg2 : MS0 τ2 h q k x A B' Bs := MS0_fr (s2.2.1 59 (by simp)) (s2.2.1 2 (by simp)) (sx_gb s2 3) gg
  obtain ⟨τ3, f1, f2, f3⟩ := pat_loop (F := F) hF hy hq hq3 hd (it (blk t)) 0 F τ2 _ hdc2 gg2 d3 (by omega) (by omega) M2 (by simp; omega)
  have s3 : sx [96, 97] [53, 60, 61] τ τ3 := sx_tr s2 (sx_mono (by simp) (by simp) f3)
  have gg3 : MS0 τ3 h q k x A B' Bs := MS0_fr (s3.2.1 59 (by simp)) (s3.2.1 2 (by simp)) (sx_gb s3 3) gg
  -- the rest
  have epq : posI h Bs q = h + 1 + (it Bs.flatten).length := by
    unfold posI
    rw [← g3, List.take_length]
  have rest : mRw τ3 59 (posI h Bs q) (it B') := by
    have w := gg3.2.1
    rw [it_mid, mRw_app, mRw_app] at w
    obtain ⟨_, _, _, w2⟩ := w
    rw [mRw_app] at w2
    have w3 := w2.2
    rw [Nat.zero_add, List.length_replicate, ← g1] at w3
    rw [epq]; exact w3
  have hsub := subI_len (σ := σ) (y := y) gg hq3 (it (blk t))
  obtain ⟨τ4, i1, i2, i3⟩ := spanM (F := F) (e := (it (A ++ (k, x) :: (Bs.flatten ++ B'))).length) hF rest (by rw [epq, hlen, g1]; omega) (by rw [epq]; omega) f2 (by simp; omega)
  have s4 : sx [96, 97] [53, 60, 61] τ τ4 := sx_tr s3 (sx_mono (by simp) (by simp) i3)
  have hBn : ∀ z j, pmY σ y q z = some j → nthB Bs j ≠ [] := fun z j e w => by
    have := g4 j (pm_rng hq3 e).2.2.1
    rw [w] at this
    cases this
  have p0 : pmY σ y q 0 = none := by unfold pmY; rw [if_pos (by omega)]
  have hsn : subB (pmY σ y q) Bs (blk t) ≠ [] := by
    have := blk_ne t ok
    cases w : blk t with
    | nil => exact absurd w this
    | cons b R => rw [subB]; intro z; exact sb1_ne hBn b (List.append_eq_nil_iff.mp z).1
  have eI : it A ++ List.replicate (k - q) 0 ++ subI (pmY σ y q) Bs (it (blk t)) ++ it B' = it (A ++ (bmp (subB (pmY σ y q) Bs (blk t)) (k - q) ++ B')) := by
    rw [it_app, it_app, it_bmp hsn, it_sub p0 hBn]
    simp only [List.append_assoc]
  rw [eI] at i2
  have enz := nz_it _ hokA
  have hrep : Md_replace F τ (nI h) (nI y) = Md_replace_208 F F τ4 0 := by
    rw [Md_replace, gd_t (inb_nI (by omega) (by omega)), nI_clamp (by omega), b8, e1, show (0 : Int32) = nI 0 from rfl] 
    rw [show nI 0 = (0 : Int32) from rfl] 
    rw [show Md_addSpan F (si (si τ 96 0) 97 0) 0 (nI ((it A).length + (k - q))) = some τ1 from c1, bv_some, show ga τ1 41 y = nI nn by rw [s1.2.1 41 (by simp)]; exact h41, d1, bi_some]
    have f1' : Md_replace_41 F F τ2 (nI h) (nI y) (nI (it (blk t)).length) 0 = Md_replace_186 F τ3 (nI h) (nI y) := by
      rw [Nat.zero_add] at f1; exact f1
    rw [f1', Md_replace_186, gd_t (inb_nI (by omega) (by omega)), nI_clamp (by omega), show ga τ3 36 y = nI q by rw [s3.2.1 36 (by simp)]; exact b8, behindM hF gg3 hq3 (Nat.le_refl _), bi_some, show gi τ3 95 = _ from (s3.1 95 (by simp)).trans h95, i1, bv_some]
  rw [hrep]
  rcases i2.2 with ⟨m1, m2, m3, m4⟩ | ⟨m1, m2, m, m3, m4⟩
  · rw [enz] at m1 m3
    have hl := (fo_len _ _ hfo).1
    obtain ⟨gf, k1, k2, k3⟩ := back_loop (F := F) (n := (it (A ++ (bmp (subB (pmY σ y q) Bs (blk t)) (k - q) ++ B'))).length) (by omega) _ 0 F τ4 (Nat.zero_add _) (by omega) m2 (by rw [m3]; exact nI_nlt (a := 200) (by omega) (by omega))
    refine ⟨_, k1, sx_si (sx_tr (sx_mono (by simp) (by simp) s4) (sx_sA (sx_rfl _ _ _) (by simp) _)) (by simp) _, Or.inl ⟨m1, by simp only [zs]; exact m3, by simp only [zs, if_true], ?_⟩⟩
    refine mRw_fr (τ := τ4) (A := 60) (by simp only [zs]; rfl) (by simp only [zs]) _ 0 0 (fun j hj => ?_) (m4 (by omega))
    simp only [zs, if_true, Nat.zero_add]
    exact k2 j (by omega) hj
  · rw [enz] at m1
    obtain ⟨F', hF'⟩ : ∃ F', F = F' + 1 := ⟨F - 1, by omega⟩
    refine ⟨si τ4 95 (gi τ4 96), ?_, sx_si (sx_mono (by simp) (by simp) s4) (by simp) _, Or.inr ⟨m1, by simp [zs]; exact m2⟩⟩
    rw [show Md_replace_208 F F = Md_replace_208 F (F' + 1) by rw [← hF'], Md_replace_208, Md_replace_b208]
    by_cases w : gi τ4 96 ≤ 0
    · rw [if_pos w]; rfl
    · rw [if_neg w, m2, if_pos (by decide)]; rfl
end M
