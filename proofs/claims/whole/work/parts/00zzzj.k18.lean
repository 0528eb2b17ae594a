/-! The class lists a term: all of them. Own text. -/
section W
variable {Z : List (TE × TE)} {F : Nat} {τ : zS} {D : Nat} {ow pr me : Int32} {ty sm : Int64 → TE} {Bn Sn : Int64 → Prop} {X en : Nat}
theorem lT_leaf (hX : isRow X = true) (hF : 1300 ≤ F) (hen : en ≤ 200) (c : Nat) : lTr Z F τ D ow pr me ty sm Bn Sn X en (.var c) := by
  intro σ G dom m E fv i d f nn cN hI h811 hd hi r0 r1 r2 hc hc2 hr hB hn1 hn2 hG hE hfv hf
  rw [ln_t.1] at *
  obtain ⟨f, rfl⟩ : ∃ f', f = f' + 1 := ⟨f - 1, by omega⟩
  rw [(tT.1 c).1] at r0 r1
  have hs0 : sx [811] [52, 53, 54] σ (sa σ 52 d (nI i)) := sx_sa (sx_rfl _ _ _) (by decide) _ _
  obtain ⟨s1, k, G', dom', m', fv', a1, a2, a3, a4, a5, a6, a7, a8⟩ := start_ok (F := F) (i := i) (c := c) hF hX nn (iv_fr hI hs0) (by omega) (by omega) (by omega) (by rw [sy_ma (sy_sx hs0)]; exact r0) (by rw [sy_mb (sy_sx hs0)]; exact r1) (hB c (by rw [lvs]; exact List.mem_singleton.mpr rfl))
  obtain ⟨σ2, b1, b2, b3, b4, b5, b6, b7⟩ := push_ok (F := F) (f := f) hX hen (by omega) hd h811 a1 a2
  refine ⟨σ2, G', dom', m', fv', k, 0, F, by rw [b1, show f + 1 - 1 = f by omega], by omega, by omega, sy_tr (sy_tr (sy_mono (by decide) (by decide) (sy_sx hs0)) (sy_mono (by decide) (by decide) a2)) (sy_mono (by decide) (by decide) (sy_sx b2)), ?_, b3, b4, b5, ?_, a5, a4, a8, by omega, by omega, by simp [eqC], b7⟩
  · rw [eqC, List.append_nil]; exact iv_fr a3 b2
  · rw [(tT.1 c).1]; exact b6
theorem lT_app (hX : isRow X = true) (hF : 1300 ≤ F) (hen : en ≤ 200) (t a : TE) (ot : okT t) (oa : okT a) (ht : lTr Z F τ D ow pr me ty sm Bn Sn X en t) (ha : lTr Z F τ D ow pr me ty sm Bn Sn X en a) : lTr Z F τ D ow pr me ty sm Bn Sn X en (tO t a) := by
  intro σ G dom m E fv i d f nn cN hI h811 hd hi r0 r1 r2 hc hc2 hr hB hn1 hn2 hG hE hfv hf
  rw [ln_t.2.1] at *
  rw [(tT.2.1 t a).1] at r0 r1 hc
  rw [(tT.2.1 t a).2, rwL_app] at hr
  have eap : apN τ (tO t a) nn = apN τ t (nL τ nn) ++ apN τ a (nR τ nn) ++ [nn] := rfl
  have eeq : eqC τ ty sm (tO t a) nn = eqC τ ty sm t (nL τ nn) ++ eqC τ ty sm a (nR τ nn) ++ [(kE ty sm t (nL τ nn), .op (kE ty sm a (nR τ nn)) (.var (nn + 1)), plT a)] := rfl
  rw [eap] at hn1 hn2 ⊢
  obtain ⟨hn3, hn4, hn5⟩ := List.nodup_append.mp hn1
  obtain ⟨hn6, hn7, hn8⟩ := List.nodup_append.mp hn3
  have la := (hd_ln a oa).1
  obtain ⟨σ1, G1, dom1, m1, fv1, k1, u1, n1, b1, b2, b3, b4, b5, b6, b7, b8, b9, b10, b11, b12, b13, b14, b15, b16⟩ := ht σ G dom m E fv i d f (nL τ nn) cN hI h811 hd (by omega) r0 r1 r2 (by have : (hdT t).2.2.1 + 1 ≤ cN := hc; omega) hc2 hr.1 (fun c hcm => hB c (List.mem_append_left _ hcm)) hn6 (fun x hx => hn2 x (by simp [hx])) (by omega) (by omega) (by omega) (by omega)
  have hc' : (hdT t).2.2.1 < cN := hc
  have el1 : (E ++ eqC τ ty sm t (nL τ nn)).length = E.length + (eqC τ ty sm t (nL τ nn)).length := List.length_append
  have hj : i + 1 + (tlT t).length = i + lnT t := by unfold lnT; omega
  rw [hj] at hr
  obtain ⟨σ2, G2, dom2, m2, fv2, k2, u2, n2, c1, c2, c3, c4, c5, c6, c7, c8, c9, c10, c11, c12, c13⟩ := child hX hF hen oa ha (j := i + lnT t) (d := d) (f := f - lnT t) (nn := nR τ nn) b5 b6 (by unfold lnT; omega) (by omega) (rwL_sy b4 _ _ hr.2) (fun c hcm => hB c (List.mem_append_right _ hcm)) hn7 (fun x hx => ⟨dmx_not b12 (hn2 x (by simp [hx])).1 (fun z => hn8 x z x hx rfl) (hn2 x (by simp [hx])).2, (hn2 x (by simp [hx])).2⟩) (by omega) (by omega) (by omega) (by omega)
  obtain ⟨p52, p53, p54⟩ := c13 d (by omega)
  have el2 : ((E ++ eqC τ ty sm t (nL τ nn)) ++ eqC τ ty sm a (nR τ nn)).length = E.length + (eqC τ ty sm t (nL τ nn)).length + (eqC τ ty sm a (nR τ nn)).length := by simp; omega
  have rs : ma σ2 (rA X 0) i = (hdT t).1 := by rw [sy_ma c4, sy_ma b4]; exact r0
  obtain ⟨σ3, G3, dom3, m3, k3, d1, d2, d3, d4, d5, d6, d7, d8, d9⟩ := jf_app (F := F) (d := d) (i := i) (dn := (hdT t).2.2.1) (k := k2) (kf := k1) (p := plT a) (n := nn) hX c5 (by omega) (by omega) (dmx_not c9 (dmx_not b12 (hn2 nn (by simp)).1 (fun z => hn5 nn (by simp [z]) nn (by simp) rfl) (hn2 nn (by simp)).2) (fun z => hn5 nn (by simp [z]) nn (by simp) rfl) (hn2 nn (by simp)).2) (hn2 nn (by simp)).2 (by omega) (by omega) (p52.trans b7) (p53.trans b8) (p54.trans b9) (by omega) (by rw [rs]; exact (hd_ln t ot).2) c7 (c8 _ _ b10)
  have hln : 0 < lnT t ∧ 0 < lnT a := ⟨by unfold lnT; omega, by unfold lnT; omega⟩
  refine ⟨σ3, G3, dom3, m3, fv2, k3, u2, n2, ?_, c2, c3, sy_tr (sy_tr b4 c4) (sy_mono (by decide) (by decide) (sy_sx d3)), ?_, ?_, ?_, ?_, ?_, d6, xt_tr b11 (xt_tr c8 d7), dmx_tr b12 (dmx_tr (L := apN τ a (nR τ nn) ++ [nn]) c9 d9 (fun x hx => by simp [hx]) (fun x hx => by simp at hx; simp [hx])) (fun x hx => by simp [hx]) (fun x hx => by simp at hx ⊢; rcases hx with z | z <;> simp [z]), by omega, by omega, ?_, fun j hj => ?_⟩
  · rw [b1, cf_ret (F := F) (σ := σ1) hX (d := d) (i := i) (dn := (hdT t).2.2.1) (cN := cN) (u := u1) (n := n1) (by omega) (by omega) (by omega) (by omega) b6 b7 b9 (by rw [sy_ma b4]; exact r2) (by omega) hc', bv_some, c1, d1, bv_some, Nat.sub_sub, Nat.add_assoc]
  · rw [eeq, ← List.append_assoc, ← List.append_assoc]; exact d2
  · rw [d3.1 811 (by decide)]; exact c6
  · rw [d3.2.1 52 (by decide)]; exact p52.trans b7
  · rw [d5, if_pos rfl]
  · rw [d4, if_pos rfl, (tT.2.1 t a).1]
  · rw [eeq]; simp; omega
  · obtain ⟨q1, q2, q3⟩ := b16 j hj
    obtain ⟨w1, w2, w3⟩ := c13 j (by omega)
    rw [d3.2.1 52 (by decide), d5, d4, if_neg (by omega), if_neg (by omega), w1, w2, w3]
    exact ⟨q1, q2, q3⟩
end W
