/-! The reference shows a kind: the whole. Own text. -/
section K
variable {F : Nat} {τ0 : zS} {H : SG} {lt : Nat → Int32}
def loO (F : Nat) (τ0 τ : zS) (H : SG) (L : List Int32) (W P : List Int32) (bd : Nat) : Prop :=
  (∃ n τ', (∀ f, Md_layKindOut_14 F (f + n) τ (nI (L.length + 1)) = Md_layKindOut_14 F f τ' (nI L.length)) ∧ MS τ' H ∧ sx [82] [53, 55] τ0 τ' ∧ stI τ' L ∧ lnM τ' (W ++ P) ∧ n ≤ P.length ∧ (W ++ P).length ≤ 2000) ∨ (∃ n τ' z, (∀ f, Md_layKindOut_14 F (f + n + 1) τ (nI (L.length + 1)) = some τ') ∧ MS τ' H ∧ sx [82] [53, 55] τ0 τ' ∧ gi τ' 82 = nI z ∧ 2000 < z ∧ z < 2300 ∧ 2000 < (W ++ P).length ∧ n + W.length ≤ bd)
theorem MS_55 {τ τ' : zS} (h : MS τ H) (hs : sx [82] [53, 55] τ τ') : MS τ' H := MS_sx hs (by decide) (by decide) (by decide) (by decide) (by decide) h
theorem lo_all (hF : 20000 ≤ F) (hlt : hlM τ0 H lt) (hw : wfG H) : ∀ (d k : Nat) (τ : zS) (L W : List Int32), k < gn H → dpt d (gT H k) → MS τ H → sx [82] [53, 55] τ0 τ → stI τ (nI k :: L) → lnM τ W → W.length ≤ 2000 → L.length ≤ 3 * W.length + (if gso H (rt H k) = 2 then 0 else 2) → loO F τ0 τ H L W (prT lt d (gT H k)) (if gso H (rt H k) = 2 then 2006 else 2004) := by
  have leaf : ∀ (d k : Nat) (τ : zS) (L W : List Int32), k < gn H → gso H (rt H k) ≠ 2 → MS τ H → sx [82] [53, 55] τ0 τ → stI τ (nI k :: L) → lnM τ W → W.length ≤ 2000 → L.length ≤ 3 * W.length + 2 → loO F τ0 τ H L W (prT lt d (gT H k)) 2004 := by
    intro d k τ L W hk h2 hM h0 hs hl hW hL
    obtain ⟨τ', a1, a2, a3, a4, a5⟩ := lo_leaf (F := F) (d := d) hF hlt hM h0 hk h2 hs hl hW (by omega)
    have a2' : sx [82] [53, 55] τ τ' := sx_mono (by decide) (by decide) a2
    by_cases c : (W ++ prT lt d (gT H k)).length ≤ 2000
    · exact Or.inl ⟨1, τ', a1, MS_55 hM a2', sx_tr h0 a2', a3, a4, by omega, c⟩
    · have hlen : (W ++ prT lt d (gT H k)).length = W.length + 1 := by rw [List.length_append, a5]
      refine Or.inr ⟨1, τ', (W ++ prT lt d (gT H k)).length, fun f => ?_, MS_55 hM a2', sx_tr h0 a2', a4.1, by omega, by omega, by omega, by omega⟩
      rw [show f + 1 + 1 = (f + 1) + 1 by omega, a1]
      exact lo_stop (by omega) (by omega) a4.1 f
  intro d
  induction d with
  | zero =>
    intro k τ L W hk hd hM h0 hs hl hW hL
    have h2 : gso H (rt H k) ≠ 2 := fun z => hd [] (Nat.le_refl _) (by rw [gT_2 z]; rfl)
    rw [if_neg h2] at hL ⊢
    exact leaf 0 k τ L W hk h2 hM h0 hs hl hW hL
  | succ d ih =>
    intro k τ L W hk hd hM h0 hs hl hW hL
    by_cases h2 : gso H (rt H k) = 2
    · rw [if_pos h2] at hL ⊢
      have hr := rt_lt hw hk
      have hroot := rt_root hw hk
      obtain ⟨dl, dr⟩ := (hw.1 _ hr).2.2 h2
      obtain ⟨⟨q1, q2⟩, q3, q4⟩ := lc_ok hw hr h2
      have et : gT H k = iA (gT H (gle H (rt H k))) (gT H (gri H (rt H k))) := gT_2 h2
      have hdl : dpt d (gT H (gle H (rt H k))) := by have := dpt_dw hd false; rw [et] at this; exact this
      have hdr : dpt d (gT H (gri H (rt H k))) := by have := dpt_dw hd true; rw [et] at this; exact this
      obtain ⟨PL, hPL⟩ : ∃ x, x = prT lt d (gT H (gle H (rt H k))) := ⟨_, rfl⟩
      obtain ⟨PR, hPR⟩ : ∃ x, x = prT lt d (gT H (gri H (rt H k))) := ⟨_, rfl⟩
      have elc : gso H (lcG H (rt H k)) = 2 ↔ gT H (gle H (rt H k)) [] = 1 := by
        have := (lab_2 hw q1 q2).1
        rw [← this]
        show gT H (rt H (gle H (rt H k))) [] = 1 ↔ _
        rw [← gT_rt hw dl]
      have ep : prT lt (d + 1) (gT H k) = (if gso H (lcG H (rt H k)) = 2 then 40 :: (PL ++ [41]) else PL) ++ (45 :: 62 :: PR) := by
        rw [prT, et, if_pos (show iA (gT H (gle H (rt H k))) (gT H (gri H (rt H k))) [] = 1 from rfl)]
        show (if gT H (gle H (rt H k)) [] = 1 then 40 :: (prT lt d (gT H (gle H (rt H k))) ++ [41]) else prT lt d (gT H (gle H (rt H k)))) ++ (45 :: 62 :: prT lt d (gT H (gri H (rt H k)))) = _
        rw [← hPL, ← hPR]
        by_cases c : gso H (lcG H (rt H k)) = 2
        · rw [if_pos c, if_pos (elc.mp c)]
        · rw [if_neg c, if_neg (fun z => c (elc.mpr z))]
      obtain ⟨o, ho⟩ : ∃ o, o = (if gso H (lcG H (rt H k)) = 2 then ([40] : List Int32) else []) := ⟨_, rfl⟩
      obtain ⟨c, hc⟩ : ∃ c, c = (if gso H (lcG H (rt H k)) = 2 then ([41] : List Int32) else []) := ⟨_, rfl⟩
      obtain ⟨b, hb⟩ : ∃ b, b = (if gso H (lcG H (rt H k)) = 2 then ([(-1 : Int32)] : List Int32) else []) := ⟨_, rfl⟩
      have ol : o.length = b.length ∧ c.length = b.length ∧ b.length ≤ 1 ∧ (gso H (lcG H (rt H k)) = 2 → b.length = 1) := by
        rw [ho, hc, hb]
        by_cases e : gso H (lcG H (rt H k)) = 2
        · rw [if_pos e, if_pos e, if_pos e]; exact ⟨rfl, rfl, by simp, fun _ => rfl⟩
        · rw [if_neg e, if_neg e, if_neg e]; exact ⟨rfl, rfl, by simp, fun z => absurd z e⟩
      have ep2 : prT lt (d + 1) (gT H k) = o ++ PL ++ c ++ [45, 62] ++ PR := by
        rw [ep, ho, hc]
        by_cases e : gso H (lcG H (rt H k)) = 2
        · rw [if_pos e, if_pos e, if_pos e]; simp
        · rw [if_neg e, if_neg e, if_neg e]; simp
      have pl : 1 ≤ PL.length := by rw [hPL]; exact prT_pos _ _ _
      obtain ⟨τ1, a1, a2, a3, a4⟩ := lo_arr (F := F) hF hM hk h2 hs hl hW (by omega)
      rw [← ho] at a4
      rw [← hb] at a1 a3
      have plen : (prT lt (d + 1) (gT H k)).length = o.length + PL.length + c.length + 2 + PR.length := by rw [ep2]; simp; omega
      have tot : (W ++ prT lt (d + 1) (gT H k)).length = W.length + o.length + PL.length + c.length + 2 + PR.length := by
        rw [List.length_append, plen]; omega
      have hM1 := MS_55 hM a2
      have h01 := sx_tr h0 a2
      have hWo : (W ++ o).length = W.length + o.length := List.length_append
      have hLl : (b ++ ((-2 : Int32) :: nI (gri H (rt H k)) :: L)).length = b.length + 2 + L.length := by simp; omega
      by_cases w1 : (W ++ o).length ≤ 2000
      · have i1 := ih (gle H (rt H k)) τ1 (b ++ ((-2 : Int32) :: nI (gri H (rt H k)) :: L)) (W ++ o) dl hdl hM1 h01 a3 a4 w1 (by
          rw [hLl, hWo]
          by_cases e : gso H (rt H (gle H (rt H k))) = 2
          · rw [if_pos e]; have := ol.2.2.2 e; omega
          · rw [if_neg e]; omega)
        rw [← hPL] at i1
        have a1' : ∀ f, Md_layKindOut_14 F (f + 1) τ (nI (L.length + 1)) = Md_layKindOut_14 F f τ1 (nI ((b ++ ((-2 : Int32) :: nI (gri H (rt H k)) :: L)).length + 1)) := a1
        rcases i1 with ⟨n1, τ2, b1, b2, b3, b4, b5, b6, b7⟩ | ⟨n1, τ', z, b1, b2, b3, b4, b5, b6, b7, b8⟩
        · have hW2 : (W ++ o ++ PL).length = W.length + o.length + PL.length := by simp; omega
          -- the bracket
          have mid : ∃ nb τ3, (∀ f, Md_layKindOut_14 F (f + nb) τ2 (nI (b ++ ((-2 : Int32) :: nI (gri H (rt H k)) :: L)).length) = Md_layKindOut_14 F f τ3 (nI (L.length + 2))) ∧ sx [82] [53, 55] τ2 τ3 ∧ stI τ3 ((-2 : Int32) :: nI (gri H (rt H k)) :: L) ∧ lnM τ3 (W ++ o ++ PL ++ c) ∧ nb = b.length := by
            by_cases e : gso H (lcG H (rt H k)) = 2
            · have eb : b = [(-1 : Int32)] := by rw [hb, if_pos e]
              have ec : c = [41] := by rw [hc, if_pos e]
              rw [eb] at b4 ⊢
              obtain ⟨τ3, c1, c2, c3, c4⟩ := lo_cl (F := F) (L := (-2 : Int32) :: nI (gri H (rt H k)) :: L) b4 b5 b7 (by simp; omega)
              exact ⟨1, τ3, c1, sx_mono (by decide) (by decide) c2, c3, by rw [ec]; exact c4, rfl⟩
            · have eb : b = [] := by rw [hb, if_neg e]
              have ec : c = [] := by rw [hc, if_neg e]
              rw [eb] at b4 ⊢
              exact ⟨0, τ2, fun f => rfl, sx_rfl _ _ _, b4, by rw [ec, List.append_nil]; exact b5, rfl⟩
          obtain ⟨nb, τ3, c1, c2, c3, c4, c5⟩ := mid
          have hM3 := MS_55 b2 c2
          have hW3 : (W ++ o ++ PL ++ c).length = W.length + o.length + PL.length + c.length := by simp; omega
          have st1 : ∀ f, Md_layKindOut_14 F (f + (nb + n1 + 1)) τ (nI (L.length + 1)) = Md_layKindOut_14 F f τ3 (nI (L.length + 2)) := by
            intro f
            rw [show f + (nb + n1 + 1) = (f + nb + n1) + 1 by omega, a1', b1, c1]
          by_cases w2 : (W ++ o ++ PL ++ c).length ≤ 2000
          · obtain ⟨τ4, d1, d2, d3, d4⟩ := lo_ar (F := F) (L := nI (gri H (rt H k)) :: L) c3 c4 w2 (by simp; omega)
            have d2' : sx [82] [53, 55] τ3 τ4 := sx_mono (by decide) (by decide) d2
            have hM4 := MS_55 hM3 d2'
            have h04 : sx [82] [53, 55] τ0 τ4 := sx_tr b3 (sx_tr c2 d2')
            have hW4 : (W ++ o ++ PL ++ c ++ [45, 62]).length = W.length + o.length + PL.length + c.length + 2 := by rw [List.length_append, hW3]; rfl
            have st2 : ∀ f, Md_layKindOut_14 F (f + (nb + n1 + 2)) τ (nI (L.length + 1)) = Md_layKindOut_14 F f τ4 (nI (L.length + 1)) := by
              intro f
              rw [show f + (nb + n1 + 2) = (f + 1) + (nb + n1 + 1) by omega, st1]
              exact d1 f
            by_cases w3 : (W ++ o ++ PL ++ c ++ [45, 62]).length ≤ 2000
            · have i2 := ih (gri H (rt H k)) τ4 L (W ++ o ++ PL ++ c ++ [45, 62]) dr hdr hM4 h04 d3 d4 w3 (by rw [hW4]; split <;> omega)
              rw [← hPR] at i2
              have eW : W ++ prT lt (d + 1) (gT H k) = W ++ o ++ PL ++ c ++ [45, 62] ++ PR := by rw [ep2]; simp
              rcases i2 with ⟨n2, τ5, e1, e2, e3, e4, e5, e6, e7⟩ | ⟨n2, τ5, z, e1, e2, e3, e4, e5, e6, e7, e8⟩
              · refine Or.inl ⟨n2 + (nb + n1 + 2), τ5, fun f => ?_, e2, e3, e4, by rw [eW]; exact e5, by omega, by rw [eW]; exact e7⟩
                rw [← Nat.add_assoc, st2, e1]
              · refine Or.inr ⟨n2 + (nb + n1 + 2), τ5, z, fun f => ?_, e2, e3, e4, e5, e6, by rw [eW]; exact e7, ?_⟩
                · rw [show f + (n2 + (nb + n1 + 2)) + 1 = (f + n2 + 1) + (nb + n1 + 2) by omega, st2]
                  exact e1 f
                · have : (if gso H (rt H (gri H (rt H k))) = 2 then 2006 else 2004) ≤ 2006 := by split <;> omega
                  omega
            · refine Or.inr ⟨nb + n1 + 2, τ4, _, fun f => ?_, hM4, h04, d4.1, by omega, by omega, by omega, by omega⟩
              rw [show f + (nb + n1 + 2) + 1 = (f + 1) + (nb + n1 + 2) by omega, st2]
              exact lo_stop (by omega) (by omega) d4.1 f
          · refine Or.inr ⟨nb + n1 + 1, τ3, _, fun f => ?_, hM3, sx_tr b3 c2, c4.1, by omega, by omega, by omega, by omega⟩
            rw [show f + (nb + n1 + 1) + 1 = (f + 1) + (nb + n1 + 1) by omega, st1]
            exact lo_stop (by omega) (by omega) c4.1 f
        · refine Or.inr ⟨n1 + 1, τ', z, fun f => ?_, b2, b3, b4, b5, b6, ?_, ?_⟩
          · rw [show f + (n1 + 1) + 1 = (f + n1 + 1) + 1 by omega, a1']
            exact b1 f
          · rw [tot]
            simp at b7
            omega
          · by_cases e : gso H (rt H (gle H (rt H k))) = 2
            · rw [if_pos e] at b8; have := ol.2.2.2 e; omega
            · rw [if_neg e] at b8; omega
      · refine Or.inr ⟨1, τ1, (W ++ o).length, fun f => ?_, hM1, h01, a4.1, by omega, by omega, by omega, by omega⟩
        rw [show f + 1 + 1 = (f + 1) + 1 by omega, a1]
        exact lo_stop (by omega) (by omega) a4.1 f
    · rw [if_neg h2] at hL ⊢
      exact leaf (d + 1) k τ L W hk h2 hM h0 hs hl hW hL
/-- layKindOut -/
theorem outM (hF : 20000 ≤ F) {τ : zS} (hlt : hlM τ H lt) (hM : MS τ H) {d k : Nat} (hk : k < gn H) (hd : dpt d (gT H k)) : ∃ τ', Md_layKindOut F τ (nI k) = some τ' ∧ MS τ' H ∧ sx [82] [53, 55] τ τ' ∧ ((lnM τ' (prT lt d (gT H k)) ∧ (prT lt d (gT H k)).length ≤ 2000) ∨ (∃ z, gi τ' 82 = nI z ∧ 2000 < z ∧ z < 2300 ∧ 2000 < (prT lt d (gT H k)).length)) := by
  have hw := hM.2.2.2.1
  obtain ⟨τ1, hτ1⟩ : ∃ x, x = sa (si τ 82 0) 53 0 (nI k) := ⟨_, rfl⟩
  have s1 : sx [82] [53, 55] τ τ1 := by rw [hτ1]; exact sx_sa (sx_si (sx_rfl _ _ _) (by decide) _) (by decide) _ _
  have st1 : stI τ1 [nI k] := ⟨by rw [hτ1]; simp [zs, up_at], trivial⟩
  have l1 : lnM τ1 [] := ⟨by rw [hτ1]; simp [zs]; exact nI_0.symm, fun i v hv => (by cases hv)⟩
  have key := lo_all (F := F) (τ0 := τ) hF hlt hw d k τ1 [] [] hk hd (MS_55 hM s1) s1 st1 l1 (by simp) (by simp)
  have e0 : Md_layKindOut F τ (nI k) = Md_layKindOut_14 F F τ1 (nI 1) := by
    rw [Md_layKindOut, gd_t (by decide), hτ1]; rfl
  rcases key with ⟨n, τ', b1, b2, b3, b4, b5, b6, b7⟩ | ⟨n, τ', z, b1, b2, b3, b4, b5, b6, b7, b8⟩
  · refine ⟨τ', ?_, b2, b3, Or.inl ⟨by simpa using b5, by simpa using b7⟩⟩
    have hn : n ≤ 2000 := by simp at b7; omega
    obtain ⟨f, hf⟩ : ∃ f, F = (f + 1) + n := ⟨F - n - 1, by omega⟩
    have e1 := b1 (f + 1)
    rw [← hf] at e1
    refine e0.trans (e1.trans ?_)
    rw [Md_layKindOut_14, Md_layKindOut_b14]
    show (if nI 0 ≤ 0 then _ else _) = _
    rw [if_pos (by rw [nI_0]; decide)]
    rfl
  · refine ⟨τ', ?_, b2, b3, Or.inr ⟨z, b4, b5, b6, by simpa using b7⟩⟩
    have hn : n ≤ 2006 := by
      have : (if gso H (rt H k) = 2 then 2006 else 2004) ≤ 2006 := by split <;> omega
      omega
    obtain ⟨f, hf⟩ : ∃ f, F = f + n + 1 := ⟨F - n - 1, by omega⟩
    have e1 := b1 f
    rw [← hf] at e1
    exact e0.trans e1
end K
