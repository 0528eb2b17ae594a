/-! The equations of a group: terms of its members. Own text. -/
def nmH (σ : zS) (D M : Nat) (gp live : Nat → Bool) : Prop := (∀ i o y, i < M → ga σ 43 i = 5 → ga σ 46 i = nI o → o < D → gp o = true → y < D → fTy σ (gb σ 44 i) D 0 = nI y → live y = true) ∧ (∀ i o, i < M → ga σ 43 i = 6 → ga σ 46 i = nI o → o < D → ga σ 29 o ≠ 2 → fPa σ o (gb σ 44 i) (qN σ o) 0 ≠ -1)
def kyD (j mc : Nat) (dom : Nat → Prop) : Prop := ∀ a b v, dom (cfr a b v) → (∃ j', j' < j ∧ a = nI (1000 + j')) ∨ (∃ c o, c < mc ∧ b = nI c ∧ o < 16 ∧ a = nI o)
def mMe (σ : zS) : Nat → List TR → Prop
  | _, [] => True
  | mc, (o, _, _, _, me) :: l => (ga σ 29 o = 2 → me = nI mc) ∧ mMe σ (mc + if ga σ 29 o = 2 then 1 else 0) l
section K
variable {F : Nat} {τ : zS} {D M : Nat} {gp live : Nat → Bool} {KA : Nat → TE} {x1 : Int32}
theorem ev_mk {σ : zS} {G : SG} {dom : Nat → Prop} {m : Nat → Nat} {o j : Nat} {me : Int32} (hd : dcO σ D) (ho : o < D) (hK : ∀ y, y < D → live y = true → ∃ k, ga σ 40 y = nI k ∧ rp G dom m k (KA y)) (hk : dkC σ G dom m o) : EV σ G dom m D (nI o) (keyP σ o j) me (tyF σ D KA) (smF σ o (keyP σ o j) me) (fun v => ∀ y, y < D → fTy σ v D 0 = nI y → live y = true) (fun v => ga σ 29 o ≠ 2 → fPa σ o v (qN σ o) 0 ≠ -1) := by
  have hD := hd.2.1
  obtain ⟨so, q, a1, a2, a3, a4, a5, a6, a7⟩ := hk
  have hq : qN σ o = q := by unfold qN; rw [a3, nI_clamp (by omega)]
  refine ⟨fun v hv => ?_, fun v hv => ?_⟩
  · rcases fTy_rng σ v D 0 with z | ⟨y, y1, y2, y3, y4, y5⟩
    · exact Or.inl ⟨z, by rw [tyF, if_pos z]⟩
    · obtain ⟨k, k1, k2⟩ := hK y (by omega) (hv y (by omega) y3)
      refine Or.inr ⟨y, k, by omega, y3, k1, ?_⟩
      rw [tyF, if_neg (by rw [y3]; exact nI_m1 y (by omega)), y3, nI_clamp (by omega)]
      exact k2
  · rcases fPa_rng σ o v q 0 with z | ⟨j', y1, y2, y3, y4⟩
    · exact Or.inr ⟨by rw [smF, hq, if_pos z], Or.inr ⟨o, q, ho, rfl, a3, a4, z⟩⟩
    · obtain ⟨k, k1, k2⟩ := a7 j' (by omega)
      refine Or.inl ⟨o, q, j', k, ho, rfl, a3, a4, y3, by omega, k1, ?_⟩
      rw [smF, hq, if_neg (by rw [y3]; exact nI_m1 j' (by omega)), y3, nI_clamp (by omega)]
      exact k2
theorem mb_all (hF : 1300 ≤ F) (hx : ∀ j, j < 32 → bq x1 j = gp j) {σ0 : zS} (hdc : dcN σ0 τ D) (hd : dcO σ0 D) (hN : nmH σ0 D M gp live) {T sz : Nat} (hT : T ≤ 200) (hsz : sz ≤ 200) (h7 : mi σ0 1007 = nI T) (h4 : mi σ0 1004 = nI sz) {G0 : SG} {dom0 : Nat → Prop} {m0 : Nat → Nat} (hK : ∀ y, y < D → live y = true → ∃ k, ga σ0 40 y = nI k ∧ rp G0 dom0 m0 k (KA y)) (hk : ∀ o, o < D → gp o = true → dkC σ0 G0 dom0 m0 o) : ∀ (l : List TR) (j s f mc lo : Nat) (σ : zS) (G : SG) (dom : Nat → Prop) (m : Nat → Nat) (E : List EQ), sy [306, 807, 811, 814, 815] [23, 24, 25, 49, 50, 51, 52, 53, 54, 56] σ0 σ → lsE [] σ G dom m E → xt G0 dom0 m0 G dom m → cTL σ0 M j s l → j + l.length = T → s + lenT l = sz → soL D lo l → mMe σ0 mc l → mc ≤ j → kyD j mc dom → (alA τ l).Nodup → (∀ x, x ∈ alA τ l → ¬ dom x ∧ x < 1000) → l.length < f → gn G + 3 * wT gp l ≤ 1713 → E.length + wT gp l ≤ 216 → ∃ σ' G' dom' m', So_listMembers_10 F f σ x1 10 (nI j) = some σ' ∧ sy [306, 807, 811, 814, 815] [23, 24, 25, 49, 50, 51, 52, 53, 54, 56] σ0 σ' ∧ lsE [] σ' G' dom' m' (E ++ mbE σ0 τ D gp KA j l) ∧ xt G0 dom0 m0 G' dom' m' ∧ gn G' ≤ gn G + 3 * wT gp l := by
  intro l
  induction l with
  | nil =>
    intro j s f mc lo σ G dom m E hs hL hxt hc hj hsl hso hme hmj hky hn1 hn2 hf hG hE
    obtain ⟨f, rfl⟩ : ∃ f', f = f' + 1 := ⟨f - 1, by omega⟩
    simp only [List.length_nil, Nat.add_zero] at hj
    subst hj
    refine ⟨σ, G, dom, m, ?_, hs, by rw [mbE, List.append_nil]; exact hL, hxt, by omega⟩
    rw [So_listMembers_10, So_listMembers_b10, gd_t (by decide), show 100 * 10 + 7 = 1007 from rfl, sy_mi hs, h7, if_pos (nI_le (Nat.le_refl _) (by omega))]
  | cons e l ih =>
    obtain ⟨o, t, nn, As, me⟩ := e
    intro j s f mc lo σ G dom m E hs hL hxt hc hj hsl hso hme hmj hky hn1 hn2 hf hG hE
    obtain ⟨f, rfl⟩ : ∃ f', f = f' + 1 := ⟨f - 1, by omega⟩
    have hD := hd.2.1
    obtain ⟨⟨c1, c2, c3, c4, c5⟩, c6⟩ := hc
    obtain ⟨s1, s2, s3⟩ := hso
    obtain ⟨m1, m2⟩ := hme
    rw [List.length_cons] at hj hf
    rw [lenT] at hsl
    rw [alA] at hn1 hn2
    obtain ⟨n1, n2, n3⟩ := List.nodup_append.mp hn1
    have hj200 : j < 201 := by omega
    have e65 : ma σ (rA 10 5) j = nI o := by rw [sy_ma hs]; exact c1
    have hhas : Te_has F σ (nI o) = some (1, σ) := by
      rw [Te_has, if_neg (nI_pos (by omega)), hs.1 400 (by decide), hd.1, if_neg (nI_ge s2 (by omega))]; rfl
    rw [So_listMembers_10, So_listMembers_b10, gd_t (by decide), show 100 * 10 + 7 = 1007 from rfl, sy_mi hs, h7, if_neg (nI_ge (by omega) (by omega)), gd_t (inb_nI (by omega) (by omega)), nI_clamp (by omega), e65, hhas, bi_some]
    show ∃ σ' G' dom' m', (if (1 : Int32) = 0 then _ else _) = _ ∧ _
    rw [if_neg (by decide)]
    by_cases cg : gp o = true
    · rw [if_neg (fun z => by have := (bq_test x1 (m := o) (by omega)).mp z; rw [hx o (by omega), cg] at this; cases this)]
      rw [wT, if_pos cg] at hG hE ⊢
      have hev := EV_cg (ev_mk (j := j) (me := me) hd s2 hK (hk o s2 cg)) hs (by decide) hxt
      have hfree : ∀ v, ¬ dom (cfr (keyP σ0 o j) me v) := by
        intro v hv
        unfold keyP at hv
        by_cases ck : ga σ0 29 o = 2
        · rw [if_pos ck, m1 ck] at hv
          rcases hky _ _ _ hv with ⟨j', q1, q2⟩ | ⟨c, o', q1, q2, q3, q4⟩
          · have := (nI_eq (by omega) (by omega)).mp q2; omega
          · have := (nI_eq (by omega) (by omega)).mp q2; omega
        · rw [if_neg ck] at hv
          rcases hky _ _ _ hv with ⟨j', q1, q2⟩ | ⟨c, o', q1, q2, q3, q4⟩
          · have := (nI_eq (by omega) (by omega)).mp q2; omega
          · have := (nI_eq (by omega) (by omega)).mp q4; omega
      obtain ⟨σ1, G1, dom1, m1', k, b1, b2, b3, b4, b5, b6, b7, b8, b9⟩ := term_ok (F := F) (X := 10) (en := s + lnT t) (τ := τ) (D := D) (ow := nI o) (pr := keyP σ0 o j) (me := me) (ty := tyF σ0 D KA) (sm := smF σ0 o (keyP σ0 o j) me) (t := t) (s := s) (j := j) (T := T) (nn := nn) (by decide) hF (by omega) c3 hL hev (dcN_sy hdc hs (by decide) (by decide)) hfree rfl (by omega) hT (by rw [sy_mi hs]; exact h7) (by rw [sy_ma hs]; exact c2) e65 (by
          cases l with
          | nil => exact Or.inl ⟨by simp at hj; omega, by rw [sy_mi hs, show 100 * 10 + 4 = 1004 from rfl, h4, ← hsl, lenT, Nat.add_zero]⟩
          | cons e' l' =>
            obtain ⟨o', t', nn', As', me'⟩ := e'
            rw [List.length_cons] at hj
            exact Or.inr ⟨by omega, by rw [sy_ma hs]; exact c6.1.2.1⟩) (rwL_sy hs _ _ c4) (fun c hcm => by
          obtain ⟨i, i1, i2, i3, i4⟩ := c5.1 c hcm
          refine ⟨fun c0 y y1 y2 => ?_, fun c0 c2 => ?_⟩
          · rw [if_pos c0] at i2
            exact hN.1 i o y i1 i2 i4 s2 cg y1 (by rw [i3]; exact y2)
          · rw [if_neg c0] at i2
            have := hN.2 i o i1 i2 i4 s2 c2
            rw [i3] at this
            exact this) n1 (fun x hx => ⟨(hn2 x (by simp [hx])).1, by have := (hn2 x (by simp [hx])).2; omega⟩) (by omega) (by omega)
      obtain ⟨so, q, d1, d2, d3, d4, d5, ⟨kr, d6, d7⟩, d8⟩ := hk o s2 cg
      have hso : soN σ0 o = so := by unfold soN; rw [d1, nI_clamp (by omega)]
      have elen : (E ++ eqC τ (tyF σ0 D KA) (smF σ0 o (keyP σ0 o j) me) t nn).length = E.length + (eqC τ (tyF σ0 D KA) (smF σ0 o (keyP σ0 o j) me) t nn).length := List.length_append
      obtain ⟨σ2, f1, f2, f3⟩ := ls_eq (F := F) (x := k) (y := kr) (p := plT t) b3 (by omega) b5 (b6 _ _ (hxt _ _ d7))
      have hs2 : sy [306, 807, 811, 814, 815] [23, 24, 25, 49, 50, 51, 52, 53, 54, 56] σ0 σ2 := sy_tr (sy_tr hs b2) (sy_mono (by decide) (by decide) (sy_sx f3))
      have elen2 : (E ++ eqC τ (tyF σ0 D KA) (smF σ0 o (keyP σ0 o j) me) t nn ++ [(kE (tyF σ0 D KA) (smF σ0 o (keyP σ0 o j) me) t nn, rE so o, plT t)]).length = E.length + (eqC τ (tyF σ0 D KA) (smF σ0 o (keyP σ0 o j) me) t nn).length + 1 := by simp; omega
      obtain ⟨σ', G', dom', m', g1, g2, g3, g4, g5⟩ := ih (j + 1) (s + lnT t) f (mc + if ga σ0 29 o = 2 then 1 else 0) o σ2 G1 dom1 m1' _ hs2 f2 (xt_tr hxt b6) c6 (by omega) (by omega) s3 m2 (by split <;> omega) (fun a b v hv => by
          rcases b7 _ hv with z | z | ⟨w, z⟩
          · rcases hky a b v z with ⟨j', q1, q2⟩ | ⟨c, o', q1, q2, q3, q4⟩
            · exact Or.inl ⟨j', by omega, q2⟩
            · exact Or.inr ⟨c, o', by omega, q2, q3, q4⟩
          · have := (hn2 _ (List.mem_append_left _ z)).2
            have := cfr_ge a b v
            omega
          · obtain ⟨z1, z2, z3⟩ := cfr_inj z
            unfold keyP at z1
            by_cases ck : ga σ0 29 o = 2
            · rw [if_pos ck] at z1
              rw [if_pos ck]
              exact Or.inr ⟨mc, o, by omega, by rw [z2]; exact m1 ck, by omega, z1⟩
            · rw [if_neg ck] at z1
              exact Or.inl ⟨j, by omega, z1⟩) n2 (fun x hx => ⟨fun z => by
            rcases b7 _ z with y | y | ⟨w, y⟩
            · exact (hn2 x (by simp [hx])).1 y
            · exact n3 x y x hx rfl
            · have := (hn2 x (by simp [hx])).2
              have := cfr_ge (keyP σ0 o j) me w
              omega, (hn2 x (by simp [hx])).2⟩) (by omega) (by omega) (by omega)
      refine ⟨σ', G', dom', m', ?_, g2, ?_, g4, by omega⟩
      · rw [b1, bv_some]
        show gd (inb (nI o) 16) _ = _
        rw [gd_t (inb_nI (by omega) (by omega)), show ma σ1 (rA 10 4) j = nI s by rw [sy_ma b2, sy_ma hs]; exact c2, gd_t (inb_nI (by unfold lnT at hsl; omega) (by omega)), nI_clamp (by omega), nI_clamp (by unfold lnT at hsl; omega), b4, show ga σ1 42 o = nI kr by rw [b2.2.1 42 (by decide), hs.2.1 42 (by decide)]; exact d6, show ma σ1 (rA 10 3) s = nI (plT t) by rw [sy_ma b2, sy_ma hs]; exact c4.1.2.2.2, f1, bv_some, So_listMembers_82, nI_1, g1]
      · rw [mbE, if_pos cg, hso]
        simp only [List.append_assoc] at g3 ⊢
        exact g3
    · have cf : gp o = false := by cases h : gp o <;> simp_all
      rw [wT, if_neg cg] at hG hE ⊢
      rw [if_pos ((bq_test x1 (m := o) (by omega)).mpr (by rw [hx o (by omega), cf])), So_listMembers_82, nI_1]
      rw [mbE, if_neg cg, List.nil_append]
      obtain ⟨σ', G', dom', m', g1, g2, g3, g4, g5⟩ := ih (j + 1) (s + lnT t) f (mc + if ga σ0 29 o = 2 then 1 else 0) o σ G dom m E hs hL hxt c6 (by omega) (by omega) s3 m2 (by split <;> omega) (fun a b v hv => by
          rcases hky a b v hv with ⟨j', q1, q2⟩ | ⟨c, o', q1, q2, q3, q4⟩
          · exact Or.inl ⟨j', by omega, q2⟩
          · exact Or.inr ⟨c, o', by omega, q2, q3, q4⟩) n2 (fun x hx => hn2 x (by simp [hx])) (by omega) (by omega) (by omega)
      exact ⟨σ', G', dom', m', g1, g2, g3, g4, by omega⟩
end K
