/-! The class replaces a synonym: the whole. Own text. -/
/-- what the class's Plainer leaves alone; W: the row that is kept -/
def frPl (W : Nat) (σ σ' : zS) : Prop := (∀ r, r ≠ 907 → r ≠ 908 → gi σ' r = gi σ r) ∧ (∀ a, a ≠ 57 → a ≠ 58 → a ≠ 59 → ga σ' a = ga σ a) ∧ (∀ b, gb σ' b = gb σ b) ∧ (∀ a, gl σ' a = gl σ a) ∧ (∀ a, a ≠ 901 → a ≠ 902 → gr σ' a = gr σ a) ∧ (∀ j, (j < 1200 ∨ 1500 ≤ j ∨ (100 * W ≤ j ∧ j < 100 * W + 100)) → mi σ' j = mi σ j) ∧ (∀ a, (a < 72 ∨ 90 ≤ a ∨ (rA W 0 ≤ a ∧ a < rA W 6)) → ma σ' a = ma σ a) ∧ (∀ a, (a < 72 ∨ 90 ≤ a ∨ (rA W 0 ≤ a ∧ a < rA W 6)) → mb σ' a = mb σ a)
theorem frPl_rfl (W : Nat) (σ : zS) : frPl W σ σ := ⟨fun _ _ _ => rfl, fun _ _ _ _ => rfl, fun _ => rfl, fun _ => rfl, fun _ _ _ => rfl, fun _ _ => rfl, fun _ _ => rfl, fun _ _ => rfl⟩
theorem frPl_tr {W : Nat} {σ σ1 σ2 : zS} (h : frPl W σ σ1) (g : frPl W σ1 σ2) : frPl W σ σ2 := by
  obtain ⟨a1, a2, a3, a4, a5, a6, a7, a8⟩ := h
  obtain ⟨b1, b2, b3, b4, b5, b6, b7, b8⟩ := g
  exact ⟨fun r h1 h2 => (b1 r h1 h2).trans (a1 r h1 h2), fun a h1 h2 h3 => (b2 a h1 h2 h3).trans (a2 a h1 h2 h3), fun a => (b3 a).trans (a3 a), fun a => (b4 a).trans (a4 a), fun a h1 h2 => (b5 a h1 h2).trans (a5 a h1 h2), fun j h1 => (b6 j h1).trans (a6 j h1), fun a h1 => (b7 a h1).trans (a7 a h1), fun a h1 => (b8 a h1).trans (a8 a h1)⟩
def isP (X : Nat) : Prop := X = 12 ∨ X = 13 ∨ X = 14
theorem isP_row {X : Nat} (h : isP X) : isRow X = true := by
  rcases h with z | z | z <;> rw [z] <;> decide
theorem frPl_ro {W Y : Nat} {σ σ' : zS} (hW : isP W) (hY : isP Y) (hne : Y ≠ W) (h : frRo Y σ σ') : frPl W σ σ' := by
  obtain ⟨a1, a2, a3, a4, a5, a6, a7, a8⟩ := h
  unfold isP at hW hY
  refine ⟨fun r _ h2 => a1 r h2, fun a _ _ _ => a2 a, a3, a4, fun a _ _ => a5 a, fun j hj => a6 j (by omega) (by omega), fun a ha => a7 a ?_ ?_ ?_, fun a ha => a8 a ?_⟩ <;> (unfold rA at ha ⊢; omega)
theorem frPl_sx {W : Nat} {σ σ' : zS} (h : sx [] [57] σ σ') : frPl W σ σ' :=
  ⟨fun r _ _ => h.1 r (by simp), fun a h1 _ _ => h.2.1 a (by simp; exact h1), fun b => sx_gb h b, fun a => by unfold gl; rw [h.2.2], fun a _ _ => sx_gr h a, fun j _ => by rw [sx_mi h], fun a _ => sx_ma h a, fun a _ => sx_mb h a⟩
/-- a row that is being replaced in -/
def PR (σ : zS) (Z Y : Nat) (L : List BE) : Prop := gr σ 901 = Z ∧ gr σ 902 = Y ∧ L.length ≤ 200 ∧ gi σ 908 = 1 ∧ mi σ (100 * Z + 4) = nI L.length ∧ cRw σ Z 0 L
theorem flat_at : ∀ (Bs : List (List BE)) (j : Nat), j < Bs.length → Bs.flatten = (Bs.take j).flatten ++ (nthB Bs j ++ (Bs.drop (j + 1)).flatten) ∧ (Bs.take (j + 1)).flatten = (Bs.take j).flatten ++ nthB Bs j
  | [], j, h => by simp at h
  | b :: Bs, 0, _ => ⟨by simp [nthB], by simp [nthB]⟩
  | b :: Bs, j + 1, h => by
    obtain ⟨e1, e2⟩ := flat_at Bs j (by simpa using h)
    have e3 : nthB (b :: Bs) (j + 1) = nthB Bs j := by simp [nthB]
    refine ⟨?_, ?_⟩
    · rw [List.flatten_cons, e1, e3]
      simp
    · rw [List.take_succ_cons, List.flatten_cons, e2, List.take_succ_cons, List.flatten_cons, e3, List.append_assoc]
def posA (a : Nat) (Bs : List (List BE)) (j : Nat) : Nat := a + 1 + ((Bs.take j).flatten).length
section C
variable {F : Nat} {σ τ : zS} {D Y Z W y q k x : Nat} {Bs : List (List BE)} {A B' R : List BE}
theorem arg_at (hc : cRw σ Z 0 (A ++ (k, x) :: (Bs.flatten ++ B'))) {j : Nat} (hj : j < Bs.length) : cRw σ Z (posA A.length Bs j) (nthB Bs j) ∧ posA A.length Bs (j + 1) = posA A.length Bs j + (nthB Bs j).length ∧ posA A.length Bs j + (nthB Bs j).length ≤ (A ++ (k, x) :: (Bs.flatten ++ B')).length := by
  obtain ⟨e1, e2⟩ := flat_at Bs j hj
  have ep : posA A.length Bs (j + 1) = posA A.length Bs j + (nthB Bs j).length := by
    unfold posA
    rw [e2, List.length_append]; omega
  rw [e1] at hc ⊢
  rw [cRw_app] at hc
  obtain ⟨_, _, h2⟩ := hc
  rw [List.append_assoc, cRw_app, List.append_assoc, cRw_app] at h2
  refine ⟨?_, ep, ?_⟩
  · have := h2.2.1
    unfold posA
    rw [Nat.zero_add] at this
    exact this
  · unfold posA
    simp only [List.length_append, List.length_cons]
    omega
theorem args_loop (hZ : isRow Z = true) (hBl : Bs.length = q) (hq3 : q ≤ 3) (hfo : ∀ j, j < q → fo (nthB Bs j) 1) {n : Nat} (hn2 : n ≤ 200) (hn3 : n = (A ++ (k, x) :: (Bs.flatten ++ B')).length) {x2 : Int32} (hF : 20000 ≤ F) : ∀ (d j f : Nat) (σ : zS), j + d = q → d < f → gr σ 901 = Z → mi σ (100 * Z + 4) = nI n → cRw σ Z 0 (A ++ (k, x) :: (Bs.flatten ++ B')) → (∀ i, i ≤ j → ga σ 57 i = nI (posA A.length Bs i)) → ∃ σ' f', Pl_replace_22 F f σ (nI A.length) x2 (nI q) (nI j) = Pl_replace_22 F (f' + 1) σ' (nI A.length) x2 (nI q) (nI q) ∧ (∀ i, i ≤ q → ga σ' 57 i = nI (posA A.length Bs i)) ∧ sx [] [57] σ σ' := by
  intro d
  induction d with
  | zero =>
    intro j f σ hj hf _ _ _ hp
    obtain ⟨f, rfl⟩ : ∃ f', f = f' + 1 := ⟨f - 1, by omega⟩
    have : j = q := by omega
    subst this
    exact ⟨σ, f, rfl, hp, sx_rfl _ _ _⟩
  | succ d ih =>
    intro j f σ hj hf h901 hn hc hp
    obtain ⟨f, rfl⟩ : ∃ f', f = f' + 1 := ⟨f - 1, by omega⟩
    obtain ⟨a1, a2, a3⟩ := arg_at hc (j := j) (by omega)
    have e1 : Ro_endOf F σ Z (nI (posA A.length Bs j)) = some (nI (posA A.length Bs (j + 1)), σ) := by
      rw [a2]
      exact end_loop hZ hn hn2 (nthB Bs j) 1 F _ (hfo j (by omega)) a1 (by omega) (by omega) (by omega) (fun b hb => by
        have w := fo_len _ _ (hfo j (by omega))
        have hb2 : b.1 ≤ (it (nthB Bs j)).length := by
          have : ∀ l : List BE, b ∈ l → b.1 ≤ (it l).length := by
            intro l
            induction l with
            | nil => intro h; cases h
            | cons c l ihl =>
              intro h
              rw [it, List.length_append]
              rcases List.mem_cons.mp h with z | z
              · rw [z]; unfold itB; simp; omega
              · have := ihl z; omega
          exact this _ hb
        omega)
    obtain ⟨σ', f', b1, b2, b3⟩ := ih (j + 1) f (sa σ 57 (j + 1) (nI (posA A.length Bs (j + 1)))) (by omega) (by omega) (by simp only [zs]; exact h901) (by simp only [zs]; exact hn) (cRw_fr _ _ (fun i _ _ => by simp only [zs]; exact ⟨trivial, trivial, trivial⟩) hc) (fun i hi => by
      simp only [zs, if_true, up_at]
      by_cases w : i = j + 1
      · rw [if_pos w, w]
      · rw [if_neg w]; exact hp i (by omega))
    refine ⟨σ', f', ?_, b2, sx_tr (sx_sa (sx_rfl _ _ _) (by simp) _ _) b3⟩
    rw [Pl_replace_22, Pl_replace_b22, if_neg (nI_ge (by omega) (by omega)), gd_t (inb_nI (by omega) (by omega)), h901, gd_t hZ, nI_clamp (by omega), hp j (by omega), e1, bi_some, nI_1, gd_t (inb_nI (by omega) (by omega)), nI_clamp (by omega), b1]
theorem replC (hF : 20000 ≤ F) (hdc : dcN σ τ D) (hy : y < D) (hq : ga σ 32 y = nI q) (hq3 : q ≤ 3) (hR : RY σ y R) (hok : ∀ b, b ∈ R → okx b) (hRn : R ≠ []) (hZ : isP Z) (hY : isP Y) (hW : isP W) (hne : Z ≠ Y) (hnW : Y ≠ W) (hx : 10 ≤ x) (hP : PR σ Z Y (A ++ (k, x) :: (Bs.flatten ++ B'))) (hBl : Bs.length = q) (hfo : ∀ j, j < q → fo (nthB Bs j) 1) (hk : q ≤ k) : ∃ σ', Pl_replace F σ (nI A.length) (nI y) = some σ' ∧ gr σ' 901 = Y ∧ gr σ' 902 = Z ∧ NX σ' Y (A ++ (bmp (subB (pmY σ y q) Bs R) (k - q) ++ B')) ∧ frPl W σ σ' := by
  have rZ := isP_row hZ
  have rY := isP_row hY
  obtain ⟨p1, p2, p3, p4, p5, p6⟩ := hP
  have hD : D ≤ 16 := hdc.2.2.1
  have hlenA : A.length + 1 ≤ 200 := by simp at p3; omega
  obtain ⟨n, hn3⟩ : ∃ n, n = (A ++ (k, x) :: (Bs.flatten ++ B')).length := ⟨_, rfl⟩
  rw [← hn3] at p3 p5
  have s0 : sx [] [57] σ (sa σ 57 0 (nI (A.length + 1))) := sx_sa (sx_rfl _ _ _) (by simp) _ _
  obtain ⟨σ1, f', a1, a2, a3⟩ := args_loop (F := F) (x2 := nI y) rZ hBl hq3 hfo p3 hn3 hF q 0 F (sa σ 57 0 (nI (A.length + 1))) (by omega) (by omega) (by rw [sx_gr s0]; exact p1) (by rw [sx_mi s0]; exact p5) (cRw_fr _ _ (fun i _ _ => by simp only [zs]; exact ⟨trivial, trivial, trivial⟩) p6) (fun i hi => by
    have : i = 0 := by omega
    subst this
    simp only [zs, if_true, up_at]
    unfold posA
    rfl)
  have s1 : sx [] [57] σ σ1 := sx_tr s0 a3
  -- the row behind, empty
  obtain ⟨σ2, hσ2⟩ : ∃ s, s = ti (ti σ1 (100 * Y + 4) 0) (100 * Y + 7) 0 := ⟨_, rfl⟩
  have f2 : frRo Y σ1 σ2 := by
    rw [hσ2]
    exact ⟨fun r _ => by simp [zs], fun a => by simp [zs], fun b => by simp [zs], fun a => by simp [zs], fun a => by simp [zs], fun j h1 h2 => by simp [zs, h1, h2], fun a _ _ _ => by simp [zs], fun b _ => by simp [zs]⟩
  have g2 : gi σ2 908 = 1 := by
    rw [show gi σ2 908 = gi σ1 908 by rw [hσ2]; simp [zs], s1.1 908 (by simp)]; exact p4
  have N2 : NX σ2 Y [] := Or.inl ⟨by simp, g2, by rw [hσ2]; simp [zs]; rfl, trivial⟩
  have fσ2 : frPl W σ σ2 := frPl_tr (frPl_sx s1) (frPl_ro hW hY hnW f2)
  have hc2 : cRw σ2 Z 0 (A ++ (k, x) :: (Bs.flatten ++ B')) := cRw_o rZ rY hne f2 (cRw_fr _ _ (fun i _ _ => by rw [sx_ma s1, sx_ma s1, sx_mb s1]; exact ⟨rfl, rfl, rfl⟩) p6)
  have hc2A : cRw σ2 Z 0 A := (cRw_app A _ 0).mp hc2 |>.1
  obtain ⟨σ3, b1, b2, b3⟩ := copyC (F := F) (l := A) (L := []) (i := 0) (e := A.length) hF rZ rY hne hc2A (by omega) (by omega) N2
  rw [List.nil_append] at b2
  have f3 : frRo Y σ1 σ3 := frRo_tr f2 b3
  have hc3 : cRw σ3 Z 0 (A ++ (k, x) :: (Bs.flatten ++ B')) := cRw_o rZ rY hne b3 hc2
  have g3 : ∀ i, i ≤ q → ga σ3 57 i = nI (posA A.length Bs i) := fun i hi => by rw [f3.2.1]; exact a2 i hi
  have Y10 : Y ≠ 10 := by unfold isP at hY; omega
  have hdc1 : dcN σ1 τ D := dcN_cg (s1.1 400 (by simp)) rfl (fun a ha => s1.2.1 a (by simp; omega)) (fun b _ => sx_gb s1 b) (fun _ _ => rfl) (fun _ _ => rfl) hdc
  have hR1 : RY σ1 y R := RY_cg (fun j _ => by rw [sx_mi s1]) (fun a _ _ => sx_ma s1 a) (sx_mb s1 61) hR
  have r902 : gr σ3 902 = Y := by rw [f3.2.2.2.2.1, sx_gr s1]; exact p2
  have r901 : gr σ3 901 = Z := by rw [f3.2.2.2.2.1, sx_gr s1]; exact p1
  have hA3 : argA σ3 Z q Bs := fun j hj => by
    obtain ⟨w1, w2, w3⟩ := arg_at hc3 (j := j) (by omega)
    refine ⟨posA A.length Bs j, g3 j (by omega), by rw [← w2]; exact g3 (j + 1) (by omega), by rw [← hn3] at w3; omega, w1, fun z => ?_⟩
    have := hfo j hj
    rw [z] at this
    cases this
  have e32 : ga σ3 32 y = nI q := by rw [f3.2.1, s1.2.1 32 (by simp)]; exact hq
  obtain ⟨σ4, c1, c2, c3⟩ := crs (F := F) (τ := τ) (D := D) hF rY Y10 rZ hne hy hq3 hok (RY_ro rY Y10 f3 hR1) r902 r901 b2 hA3 (dcN_ro f3 hdc1) e32
  have epm : pmY σ3 y q = pmY σ y q := by
    funext z
    unfold pmY
    simp only [fPa_cg (show gb σ3 33 = gb σ 33 by rw [f3.2.2.1, sx_gb s1])]
  rw [epm] at c2
  have f4 : frRo Y σ1 σ4 := frRo_tr f3 c3
  have hBn : ∀ z j, pmY σ y q z = some j → nthB Bs j ≠ [] := fun z j e w => by
    have := hfo j (pm_rng hq3 e).2.2.1
    rw [w] at this
    cases this
  have hsn : subB (pmY σ y q) Bs R ≠ [] := by
    cases R with
    | nil => exact absurd rfl hRn
    | cons b R => rw [subB]; intro z; exact sb1_ne hBn b (List.append_eq_nil_iff.mp z).1
  have hc4 : cRw σ4 Z 0 (A ++ (k, x) :: (Bs.flatten ++ B')) := cRw_o rZ rY hne c3 hc3
  have hcnt : ma σ4 (rA Z 2) A.length = nI k := by
    have := ((cRw_app A _ 0).mp hc4).2.1.2.2
    rw [Nat.zero_add] at this
    rw [this]
    show nI (k + fx x) = nI k
    rw [show fx x = 0 by unfold fx; rw [if_neg (by omega), if_neg (by omega)], Nat.add_zero]
  have ek : nI k - nI q = nI (k - q) := by
    conv => lhs; rw [show k = (k - q) + q by omega]
    exact nI_sb _ _
  -- the end
  have fin : ∀ σ5, NX σ5 Y (A ++ bmp (subB (pmY σ y q) Bs R) (k - q)) → frRo Y σ1 σ5 → ∃ σ', Pl_replace_128 F σ5 (nI q) = some σ' ∧ gr σ' 901 = Y ∧ gr σ' 902 = Z ∧ NX σ' Y (A ++ (bmp (subB (pmY σ y q) Bs R) (k - q) ++ B')) ∧ frPl W σ σ' := by
    intro σ5 n5 f5
    have q901 : gr σ5 901 = Z := by rw [f5.2.2.2.2.1, sx_gr s1]; exact p1
    have q902 : gr σ5 902 = Y := by rw [f5.2.2.2.2.1, sx_gr s1]; exact p2
    have hc5 : cRw σ5 Z 0 (A ++ (k, x) :: (Bs.flatten ++ B')) := cRw_o rZ rY hne f5 (cRw_fr _ _ (fun i _ _ => by rw [sx_ma s1, sx_ma s1, sx_mb s1]; exact ⟨rfl, rfl, rfl⟩) p6)
    have hm5 : mi σ5 (100 * Z + 4) = nI n := by
      unfold isP at hZ hY
      rw [f5.2.2.2.2.2.1 _ (by omega) (by omega), sx_mi s1]; exact p5
    have epq : posA A.length Bs q = A.length + 1 + Bs.flatten.length := by
      unfold posA
      rw [← hBl, List.take_length]
    have hcB : cRw σ5 Z (posA A.length Bs q) B' := by
      have := ((cRw_app A _ 0).mp hc5).2.2
      rw [cRw_app] at this
      rw [epq]
      have w := this.2
      rw [Nat.zero_add] at w
      exact w
    have en : n = posA A.length Bs q + B'.length := by
      rw [hn3, epq]; simp; omega
    obtain ⟨σ6, d1, d2, d3⟩ := copyC (F := F) hF rZ rY hne hcB en (by omega) n5
    refine ⟨sr (sr σ6 901 Y) 902 Z, ?_, by simp [zs], by simp [zs], ?_, ?_⟩
    · have w1 : gr σ6 901 = Z := by rw [d3.2.2.2.2.1]; exact q901
      have w2 : gr σ6 902 = Y := by rw [d3.2.2.2.2.1]; exact q902
      rw [Pl_replace_128, gd_t (inb_nI (by omega) (by omega)), q901, gd_t rZ, nI_clamp (by omega), hm5, q902, show ga σ5 57 q = nI (posA A.length Bs q) by rw [f5.2.1]; exact a2 q (Nat.le_refl _), d1, bv_some, w1, w2]
    · rw [← List.append_assoc]
      rcases d2 with ⟨u1, u2, u3, u4⟩ | ⟨u1, u2, u3⟩
      · exact Or.inl ⟨u1, by simp only [zs]; exact u2, by simp only [zs]; exact u3, cRw_fr _ _ (fun i _ _ => by simp only [zs]; exact ⟨trivial, trivial, trivial⟩) u4⟩
      · exact Or.inr ⟨u1, by simp only [zs]; exact u2, by simp only [zs]; exact u3⟩
    · refine frPl_tr (frPl_tr (frPl_sx s1) (frPl_ro hW hY hnW (frRo_tr f5 d3))) ⟨fun _ _ _ => by simp [zs], fun _ _ _ _ => by simp [zs], fun _ => by simp [zs], fun _ => by simp [zs], fun a h1 h2 => by simp [zs, h1, h2], fun _ _ => by simp [zs], fun _ _ => by simp [zs], fun _ _ => by simp [zs]⟩
  have q901 : gr σ4 901 = Z := by rw [f4.2.2.2.2.1, sx_gr s1]; exact p1
  have q902 : gr σ4 902 = Y := by rw [f4.2.2.2.2.1, sx_gr s1]; exact p2
  have eR : Pl_replace F σ (nI A.length) (nI y) = (if mi σ4 (100 * Y + 4) ≤ mi σ3 (100 * Y + 4) then Pl_replace_128 F σ4 (nI q) else gd (inb (mi σ3 (100 * Y + 4)) 200) (Pl_replace_128 F (ta σ4 (rA Y 2) (mi σ3 (100 * Y + 4)).toNatClampNeg (ma σ4 (rA Y 2) (mi σ3 (100 * Y + 4)).toNatClampNeg + nI (k - q))) (nI q))) := by
    have w1 : gr σ1 902 = Y := by rw [sx_gr s1]; exact p2
    have w2 : gr σ2 902 = Y := by rw [f2.2.2.2.2.1]; exact w1
    have w3 : gr σ2 901 = Z := by rw [f2.2.2.2.2.1, sx_gr s1]; exact p1
    rw [Pl_replace, gd_t (inb_nI (by omega) (by omega)), gd_t (by decide), nI_1, nI_clamp (by omega), hq, show (0 : Int32).toNatClampNeg = 0 from rfl, show (0 : Int32) = nI 0 from rfl, a1, Pl_replace_22, Pl_replace_b22, if_pos (nI_le (by omega) (by omega)), w1, gd_t rY, Ro_clear, gd_t rY, bv_some, ← hσ2, w2, w3, show (0 : Int32) = nI 0 from rfl, b1, bv_some, r902, gd_t rY, c1, bv_some, q902, gd_t rY, q901, gd_t rZ, gd_t (inb_nI (by omega) (by omega)), nI_clamp (by omega), hcnt, ek]
  rw [eR]
  rcases nx_bump (Y := Y) b2 c2 hsn (k - q) with ⟨w1, w2⟩ | ⟨w1, w2, w3, w4⟩
  · rw [if_pos w1]
    exact fin σ4 w2 f4
  · rw [if_neg w1, gd_t w2]
    exact fin _ w3 (frRo_tr f4 w4)
end C
