/-! All synonyms replaced, in both: the loop. Own text. -/
/-- a row in both, while its synonyms are replaced -/
def RB (σ0 : zS) (D : Nat) (lk : Nat → IT) (κ : IT) (σ τ : zS) (Z Y : Nat) (L : List BE) : Prop := PR σ Z Y L ∧ gi τ 95 = nI (it L).length ∧ mRw τ 59 0 (it L) ∧ (∀ b, b ∈ L → okb σ0 D b) ∧ KW lk L [κ]
section P
variable {F : Nat} {σ0 τ0 : zS} {D : Nat} {G : SG} {lk : Nat → IT} {κ : IT} {W : Nat}
theorem isSy_cg {σ σ' : zS} {x y : Nat} (h29 : ga σ' 29 = ga σ 29) (h30 : gb σ' 30 = gb σ 30) (h : isSy σ D x y) : isSy σ' D x y := by
  obtain ⟨a1, a2, a3, a4, a5⟩ := h
  exact ⟨a1, a2, a3, by rw [fTy_cg h29 h30]; exact a4, by rw [h29]; exact a5⟩
theorem pl_loop (hF : 200000 ≤ F) (hdc0 : dcN σ0 τ0 D) (hS : SYN σ0 τ0 D G) (hlk : ∀ c, lfB c = 0 → lk c = kT σ0 D G (lfN c)) (hW : isP W) : ∀ (d r : Nat), r + d = 300 → ∀ (σ τ : zS) (A B : List BE) (Z Y f fm : Nat), isP Z → isP Y → Z ≠ Y → Z ≠ W → Y ≠ W → frPl W σ0 σ → sx [95, 96, 97] [53, 59, 60, 61] τ0 τ → RB σ0 D lk κ σ τ Z Y (A ++ B) → (∀ b, b ∈ A → ∀ y, ¬ isSy σ0 D b.2 y) → 501 < f + (r + A.length) → 401 * d + 400 < fm → ∃ b σ' τ', Pl_replaceAll_40 F f σ (nI r) (nI A.length) (nI (r + A.length)) = some (b, σ') ∧ Md_isPlain_17 F fm τ (nI r) 0 = some (b, τ') ∧ frPl W σ0 σ' ∧ sx [95, 96, 97] [53, 59, 60, 61] τ0 τ' ∧ (∃ Z' Y', gr σ' 901 = Z' ∧ gr σ' 902 = Y' ∧ isP Z' ∧ isP Y' ∧ Z' ≠ Y' ∧ Z' ≠ W ∧ Y' ≠ W) ∧ (b = 0 ∨ (b = 1 ∧ ∃ Z' Y' L', isP Z' ∧ RB σ0 D lk κ σ' τ' Z' Y' L')) := by
  have hD := hdc0.2.2.1
  intro d
  induction d with
  | zero => ?_
  | succ d ih => ?_
  all_goals
    intro r hr σ τ A B Z Y f fm hZ hY hZY hZW hYW hfp hsx hRB hA hf hfm
    have rZ := isP_row hZ
    have hRB0 := hRB
    obtain ⟨hPR, h95, hmr, hob, hKW⟩ := hRB
    have hdc : dcN σ τ D := dcN_cg (hfp.1 400 (by decide) (by decide)) (hsx.1 52 (by simp)) (fun a ha => hfp.2.1 a (by omega) (by omega) (by omega)) (fun b _ => hfp.2.2.1 b) (fun a ha => hsx.2.1 a (by simp; omega)) (fun b _ => sx_gb hsx b) hdc0
    have s29 : ga σ 29 = ga σ0 29 := hfp.2.1 29 (by decide) (by decide) (by decide)
    have s30 : gb σ 30 = gb σ0 30 := hfp.2.2.1 30
    have no' : ∀ x, (∀ y, ¬ isSy σ0 D x y) → ∀ y, ¬ isSy σ D x y := fun x h y hy => h y (isSy_cg s29.symm s30.symm hy)
    have hfo := KW_fo lk _ _ hKW
    have hlen := (fo_len _ _ hfo).1
    have hL200 : (A ++ B).length ≤ 200 := hPR.2.2.1
    have hAl : A.length + B.length ≤ 200 := by rw [← List.length_append]; exact hL200
    simp only [List.length_cons, List.length_nil] at hlen
    have hI : (it (A ++ B)).length ≤ 399 := by omega
    have n0 : ∀ y, ¬ isSy σ D 0 y := fun y hy => by have := hy.2.1; omega
    rcases first_sy σ0 D B with hB | ⟨B1, b, B2, y, e1, e2, e3⟩
    · -- none is left
      obtain ⟨f', rfl⟩ : ∃ f', f = f' + 1 + B.length := ⟨f - 1 - B.length, by omega⟩
      obtain ⟨m', rfl⟩ : ∃ m', fm = m' + 1 + (it (A ++ B)).length := ⟨fm - 1 - (it (A ++ B)).length, by omega⟩
      refine ⟨1, σ, τ, ?_, ?_, hfp, hsx, ⟨Z, Y, hPR.1, hPR.2.1, hZ, hY, hZY, hZW, hYW⟩, Or.inr ⟨rfl, Z, Y, A ++ B, hZ, hRB0⟩⟩
      · rw [scanC (F := F) (B := []) (by omega) hdc hZ B A (f' + 1) (by rw [List.append_nil]; exact hPR) (fun b hb => ⟨(hob b (List.mem_append_right _ hb)).1, no' _ (hB b hb)⟩) (by omega), Pl_replaceAll_40, Pl_replaceAll_b40]
        by_cases w : (500 : Int32) < nI (r + (A ++ B).length)
        · rw [if_pos w]; rfl
        · rw [if_neg w, hPR.1, gd_t rZ, hPR.2.2.2.2.1, if_pos (nI_le (Nat.le_refl _) (by omega))]; rfl
      · have := scanM (F := F) (x2 := nI r) (by omega) hdc h95 (by omega) (it (A ++ B)) (m' + 1) 0 hmr (by omega) (fun x hx => by
          rcases mem_it _ hx with z | ⟨b', w1, w2⟩
          · rw [z]; exact n0
          · rw [← w2]
            rcases List.mem_append.mp w1 with u | u
            · exact no' _ (hA b' u)
            · exact no' _ (hB b' u))
        rw [show (0 : Int32) = nI 0 from rfl, this, Md_isPlain_17, Md_isPlain_b17, h95, if_pos (nI_le (by omega) (by omega))]
    · -- one is to be replaced
      subst e1
      obtain ⟨k, x⟩ := b
      have hbm : (k, x) ∈ A ++ (B1 ++ (k, x) :: B2) := List.mem_append_right _ (List.mem_append_right _ List.mem_cons_self)
      have eL : A ++ (B1 ++ (k, x) :: B2) = (A ++ B1) ++ (k, x) :: B2 := by rw [List.append_assoc]
      have eI : it (A ++ (B1 ++ (k, x) :: B2)) = (it (A ++ B1) ++ List.replicate k 0) ++ x :: it B2 := by
        rw [eL, it_app, it, itB]; simp
      obtain ⟨h, hh⟩ : ∃ h, h = (it (A ++ B1)).length + k := ⟨_, rfl⟩
      have hJ : (it (A ++ B1) ++ List.replicate k 0).length = h := by rw [hh]; simp
      have hI2 : (it (A ++ (B1 ++ (k, x) :: B2))).length = h + 1 + (it B2).length := by
        rw [eI, List.length_append, hJ, List.length_cons]; omega
      have hB1l : A.length + B1.length + 1 + B2.length ≤ 200 := by
        have := hAl
        simp at this
        omega
      obtain ⟨f', rfl⟩ : ∃ f', f = f' + 1 + B1.length := ⟨f - 1 - B1.length, by omega⟩
      obtain ⟨m', rfl⟩ : ∃ m', fm = m' + 1 + h := ⟨fm - 1 - h, by omega⟩
      have hy : isSy σ D x y := isSy_cg s29 s30 e3
      obtain ⟨y1, y2, y3, y4, y5⟩ := e3
      have hc1 : cRw σ Z 0 ((A ++ B1) ++ (k, x) :: B2) := by rw [← eL]; exact hPR.2.2.2.2.2
      have ec := ((cRw_app (A ++ B1) _ 0).mp hc1).2.1
      rw [Nat.zero_add] at ec
      have hsA : Pl_replaceAll_40 F (f' + 1 + B1.length) σ (nI r) (nI A.length) (nI (r + A.length)) = (if nI r = (300 : Int32) then some (0, σ) else bv (Pl_replace F σ (nI (A ++ B1).length) (nI y)) (fun σ10 => if gi σ10 908 = 0 then some (0, σ10) else Pl_replaceAll_129 F (Pl_replaceAll_40 F f') σ10 (nI r + 1) (nI (A ++ B1).length) (nI (r + (A ++ B1).length)))) := by
        have hlt : (A ++ B1).length < (A ++ (B1 ++ (k, x) :: B2)).length := by rw [eL]; simp
        rw [scanC (F := F) (B := (k, x) :: B2) (by omega) hdc hZ B1 A (f' + 1) hPR (fun b hb => ⟨(hob b (List.mem_append_right _ (List.mem_append_left _ hb))).1, no' _ (e2 b hb)⟩) (by omega), Pl_replaceAll_40, Pl_replaceAll_b40, if_neg (show ¬ (500 : Int32) < nI (r + (A ++ B1).length) from nI_nlt (a := 500) (b := r + (A ++ B1).length) (by simp; omega) (by omega)), hPR.1, gd_t rZ, hPR.2.2.2.2.1, if_neg (nI_ge hlt (by omega)), gd_t (inb_nI (by omega) (by omega)), nI_clamp (by omega), ec.1, ec.2.1, (synC (F := F) (by omega) hdc (hob _ hbm).1).1 y hy, bi_some, if_pos (nI_pos' (by omega))]
      have hsM : Md_isPlain_17 F (m' + 1 + h) τ (nI r) 0 = (if nI r + 1 ≤ (300 : Int32) then bv (Md_replace F τ (nI h) (nI y)) (fun σ8 => if gi σ8 97 ≤ (200 : Int32) then Md_isPlain_17 F m' σ8 (nI r + 1) 0 else some (0, σ8)) else some (0, τ)) := by
        have hmr' := hmr
        rw [eI, mRw_app] at hmr'
        have hx := hmr'.2.1
        rw [Nat.zero_add, hJ] at hx
        have := scanM (F := F) (x2 := nI r) (by omega) hdc h95 (by omega) (it (A ++ B1) ++ List.replicate k 0) (m' + 1) 0 hmr'.1 (by rw [hJ]; omega) (fun x hx => by
          rcases List.mem_append.mp hx with z | z
          · rcases mem_it _ z with z | ⟨b', w1, w2⟩
            · rw [z]; exact n0
            · rw [← w2]
              rcases List.mem_append.mp w1 with u | u
              · exact no' _ (hA b' u)
              · exact no' _ (e2 b' u)
          · rw [List.eq_of_mem_replicate z]; exact n0)
        rw [hJ, Nat.zero_add] at this
        rw [show Md_isPlain_17 F (m' + 1 + h) τ (nI r) 0 = Md_isPlain_17 F (m' + 1) τ (nI r) (nI h) from this, Md_isPlain_17, Md_isPlain_b17, h95, if_neg (nI_ge (by omega) (by omega)), gd_t (inb_nI (by omega) (by omega)), nI_clamp (by omega), (synM (F := F) (by omega) hdc hx).1 y hy, bi_some, if_pos (nI_pos' (by omega))]
      rw [hsA, hsM]
      first
      | (-- no more may be replaced
         have : r = 300 := by omega
         subst this
         rw [if_pos (show nI 300 = (300 : Int32) from rfl), if_neg (show ¬ nI 300 + 1 ≤ (300 : Int32) by decide)]
         exact ⟨0, σ, τ, rfl, rfl, hfp, hsx, ⟨Z, Y, hPR.1, hPR.2.1, hZ, hY, hZY, hZW, hYW⟩, Or.inl rfl⟩
         done)
      | (obtain ⟨q, t, nn, As, pr, me, lo, hi, pks, rk, fv, q1, q2, q3, q4, q5, q6, q7, q8, q9, q10, q11, q12, q13, q14, q15⟩ := hS y y1 y5
         obtain ⟨q', w1, w2, w3⟩ := (hob _ hbm).2.1 y ⟨y1, y2, y3, y4, y5⟩
         have eqq : q' = q := (nI_eq (by omega) (by omega)).mp (w1.symm.trans q1)
         subst eqq
         have w3' : q' ≤ k := w3
         have hkx : lk (x - 10) = arr pks rk := by
           rw [hlk _ y3]
           unfold kT
           rw [y4, if_neg (nI_m1 y (by omega)), nI_clamp (by omega)]
           exact q11
         have hokR : ∀ b, b ∈ blk t → okx b := fun b hb => (q15 b hb).1
         obtain ⟨Bs, B', c1, c2, c3, c4⟩ := KW_red (lk := lk) (lkY := lkQ σ0 D G fv) (pm := pmY σ0 y q') (pks := pks) (A := A ++ B1) (B := B2) (R := blk t) (k := k) (c := x - 10) (ks := [κ]) (r := rk) (by rw [show 10 + (x - 10) = x by omega, ← eL]; exact hKW) hkx (by omega) (KW_t _ t q4 rk q12) (fun z j e => by
           obtain ⟨p1, p2, p3, p4, p5⟩ := pm_rng q2 e
           refine ⟨p1, ?_⟩
           rw [q13 _ j p4 p3]
           unfold hk lkQ
           rw [if_neg (by omega), if_neg p2]) (fun b hb e => by
           unfold hk
           by_cases u : b.2 < 10
           · rw [if_pos u, if_pos u]
           · rw [if_neg u, if_neg u]
             by_cases u2 : lfB (b.2 - 10) = 0
             · rw [hlk _ u2]; unfold lkQ; rw [if_pos u2]
             · exfalso
               rcases blk_lvs t q4 b hb with v | v | ⟨v1, v2⟩
               · omega
               · omega
               · have := q14 _ v2 u2
                 unfold pmY at e
                 rw [if_neg u, if_neg u2, if_neg this] at e
                 cases e)
         subst c1
         rw [q10] at c2
         have hob' : ∀ b, b ∈ (A ++ B1) ++ (bmp (subB (pmY σ0 y q') Bs (blk t)) (k - pks.length) ++ B') → okb σ0 D b := by
           have hBsob : ∀ j, ∀ b, b ∈ nthB Bs j → okb σ0 D b := fun j b hb => by
             refine hob b (List.mem_append_right _ (List.mem_append_right _ (List.mem_cons_of_mem _ (List.mem_append_left _ ?_))))
             unfold nthB at hb
             by_cases u : j < Bs.length
             · rw [List.getD_eq_getElem?_getD, List.getElem?_eq_getElem u] at hb
               exact List.mem_flatten.mpr ⟨_, List.getElem_mem u, hb⟩
             · rw [List.getD_eq_getElem?_getD, List.getElem?_eq_none (by omega)] at hb
               cases hb
           intro b hb
           rcases List.mem_append.mp hb with u | u
           · rcases List.mem_append.mp u with v | v
             · exact hob b (List.mem_append_left _ v)
             · exact hob b (List.mem_append_right _ (List.mem_append_left _ v))
           · rcases List.mem_append.mp u with v | v
             · exact all_bmp (P := okb σ0 D) (fun k k' x h g => okb_mono h g) (all_sub (P := okb σ0 D) (fun k k' x h g => okb_mono h g) (fun x j _ b hb => hBsob j b hb) (blk t) q15) _ b v
             · exact hob b (List.mem_append_right _ (List.mem_append_right _ (List.mem_cons_of_mem _ (List.mem_append_right _ v))))
         rw [q10] at hob' c4
         have epm : pmY σ y q' = pmY σ0 y q' := by
           funext z
           unfold pmY
           simp only [fPa_cg (hfp.2.2.1 33)]
         have hRYσ : RY σ y (blk t) := RY_cg (fun j hj => hfp.2.2.2.2.2.1 j (by omega)) (fun a a1 a2 => hfp.2.2.2.2.2.2.1 a (by omega)) (hfp.2.2.2.2.2.2.2 61 (by omega)) q5
         have hq32 : ga σ 32 y = nI q' := by rw [hfp.2.1 32 (by decide) (by decide) (by decide)]; exact q1
         have hfoB : ∀ j, j < q' → fo (nthB Bs j) 1 := fun j hj => c3 j (by omega)
         obtain ⟨σ1, d1, d2, d3, d4, d5⟩ := replC (F := F) (τ := τ) (D := D) (W := W) (A := A ++ B1) (Bs := Bs) (B' := B') (k := k) (x := x) (by omega) hdc y1 hq32 q2 hRYσ hokR (blk_ne t q4) hZ hY hW hZY hYW y2 (by rw [← eL]; exact hPR) (by omega) hfoB w3'
         rw [epm] at d4
         have hgg : MS0 τ h q' k x (A ++ B1) B' Bs := ⟨hh, by rw [← eL]; exact hmr, by omega, hfoB, fun j hj b hb => by
           refine (hob b (List.mem_append_right _ (List.mem_append_right _ (List.mem_cons_of_mem _ (List.mem_append_left _ ?_))))).1
           unfold nthB at hb
           rw [List.getD_eq_getElem?_getD, List.getElem?_eq_getElem (by omega)] at hb
           exact List.mem_flatten.mpr ⟨_, List.getElem_mem _, hb⟩, by rw [← eL]; omega⟩
         have hfo' := KW_fo lk _ _ c4
         obtain ⟨τ1, g1, g2, g3⟩ := replM (F := F) (σ := σ) (D := D) (by omega) hdc y1 hq32 q2 (by rw [hfp.2.2.1]; exact q3) q7 q4 (nd_mono (Nat.le_refl _) (Nat.le_refl _) (fun i _ _ => ⟨by rw [hsx.2.1 2 (by simp)], by rw [sx_gb hsx], by rw [hsx.2.1 4 (by simp)], by rw [hsx.2.1 5 (by simp)]⟩) t nn As q6) (by rw [hsx.2.1 41 (by simp)]; exact q8) q9 (by omega) w3' hgg (by rw [← eL]; exact h95) (by rw [epm]; exact fun b hb => (hob' b hb).1) (by rw [epm]; exact hfo')
         rw [epm] at g3
         have hfp1 : frPl W σ0 σ1 := frPl_tr hfp d5
         have hsx1 : sx [95, 96, 97] [53, 59, 60, 61] τ0 τ1 := sx_tr hsx g2
         rw [if_neg (show ¬ nI r = (300 : Int32) from fun z => by have := (nI_eq (a := r) (b := 300) (by omega) (by omega)).mp z; omega), d1, bv_some, nI_1, if_pos (show nI (r + 1) ≤ (300 : Int32) from nI_le (a := r + 1) (b := 300) (by omega) (by omega)), g1, bv_some]
         rcases d4 with ⟨u1, u2, u3, u4⟩ | ⟨u1, u2, u3⟩
         · rcases g3 with ⟨v1, v2, v3, v4⟩ | ⟨v1, _⟩
           · rw [if_neg (by rw [u2]; decide), v2, if_pos (show nI _ ≤ (200 : Int32) from nI_le (b := 200) v1 (by omega)), Pl_replaceAll_129, nI_1, show r + (A ++ B1).length + 1 = r + 1 + (A ++ B1).length by omega]
             exact ih (r + 1) (by omega) σ1 τ1 (A ++ B1) (bmp (subB (pmY σ0 y q') Bs (blk t)) (k - q') ++ B') Y Z f' m' hY hZ (fun z => hZY z.symm) hYW hZW hfp1 hsx1 ⟨⟨d2, d3, u1, u2, u3, u4⟩, v3, v4, hob', c4⟩ (fun b hb => by
               rcases List.mem_append.mp hb with z | z
               · exact hA b z
               · exact e2 b z) (by rw [List.length_append]; omega) (by omega)
           · omega
         · rcases g3 with ⟨v1, _⟩ | ⟨v1, v2⟩
           · omega
           · rw [if_pos u2, v2, if_neg (by decide)]
             exact ⟨0, σ1, τ1, rfl, rfl, hfp1, hsx1, ⟨Y, Z, d2, d3, hY, hZ, fun z => hZY z.symm, hYW, hZW⟩, Or.inl rfl⟩)
end P
