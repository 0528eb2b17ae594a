/-! The class shows a kind: the whole. Own text. -/
section K
variable {F : Nat} {σ0 : zS} {G : SG} {x : Nat} {x3 : Int32} {lt : Nat → Int32}
theorem sw_stop (hx : isLine x = true) {σ : zS} {t z : Nat} (hz : 2000 < z) (hz2 : z < 2300) (hm : mi σ (100 * x + 1) = nI z) (f : Nat) : Ki_show_19 F (f + 1) σ x x3 (nI t) = some σ := by
  rw [Ki_show_19, Ki_show_b19, gd_t hx, hm, if_pos (show (2000 : Int32) < nI z from nI_lt (a := 2000) hz (by omega))]
  split
  · rfl
  · split <;> rfl
/-- done, or too long -/
def shO (F : Nat) (σ0 : zS) (G : SG) (x : Nat) (x3 : Int32) (σ : zS) (t : Nat) (L : List Nat) (W P : List Int32) (bd : Nat) : Prop :=
  (∃ n σ', (∀ f, Ki_show_19 F (f + n) σ x x3 (nI t) = Ki_show_19 F f σ' x x3 (nI (t + n))) ∧ CS σ' G ∧ shF x σ0 σ' ∧ stC σ' L ∧ lnC σ' x (W ++ P) ∧ n ≤ P.length ∧ (W ++ P).length ≤ 2000) ∨ (∃ n σ' z, (∀ f, Ki_show_19 F (f + n + 1) σ x x3 (nI t) = some σ') ∧ CS σ' G ∧ shF x σ0 σ' ∧ mi σ' (100 * x + 1) = nI z ∧ 2000 < z ∧ z < 2300 ∧ 2000 < (W ++ P).length ∧ n + W.length ≤ bd)
theorem sh_all (hF : 20000 ≤ F) (hx : isLine x = true) (hlt : hlC σ0 G x3 lt) (hw : wfG G) : ∀ (d r : Nat) (σ : zS) (t : Nat) (L : List Nat) (W : List Int32), r < gn G → gup G r = r → dpt d (gT G r) → CS σ G → shF x σ0 σ → stC σ (2 * r :: L) → lnC σ x W → W.length ≤ 2000 → L.length ≤ W.length + (if gso G r = 2 then 1 else 2) → t ≤ W.length + (if gso G r = 2 then 1 else 2) → shO F σ0 G x x3 σ t L W (prT lt d (gT G r)) (if gso G r = 2 then 2005 else 2004) := by
  have leaf : ∀ (d r : Nat) (σ : zS) (t : Nat) (L : List Nat) (W : List Int32), r < gn G → gup G r = r → gso G r ≠ 2 → CS σ G → shF x σ0 σ → stC σ (2 * r :: L) → lnC σ x W → W.length ≤ 2000 → L.length ≤ W.length + 2 → t ≤ W.length + 2 → shO F σ0 G x x3 σ t L W (prT lt d (gT G r)) 2004 := by
    intro d r σ t L W hr hu h2 hC hsh hs hl hW hL ht
    obtain ⟨σ', a1, a2, a3, a4, a5, a6⟩ := sw_leaf (F := F) (d := d) (t := t) hF hx hlt hC hsh hr hu h2 hs hl hW (by omega) (by omega)
    by_cases c : (W ++ prT lt d (gT G r)).length ≤ 2000
    · exact Or.inl ⟨1, σ', a1, a2, a3, a4, a5, by omega, c⟩
    · have hlen : (W ++ prT lt d (gT G r)).length = W.length + 1 := by rw [List.length_append, a6]
      refine Or.inr ⟨1, σ', (W ++ prT lt d (gT G r)).length, fun f => ?_, a2, a3, a5.1, by omega, by omega, by omega, by omega⟩
      rw [show f + 1 + 1 = (f + 1) + 1 by omega, a1]
      exact sw_stop hx (by omega) (by omega) a5.1 f
  intro d
  induction d with
  | zero =>
    intro r σ t L W hr hu hd hC hsh hs hl hW hL ht
    have h2 : gso G r ≠ 2 := fun z => hd [] (Nat.le_refl _) ((lab_2 hw hr hu).1.mpr z)
    rw [if_neg h2] at hL ht ⊢
    exact leaf 0 r σ t L W hr hu h2 hC hsh hs hl hW hL ht
  | succ d ih =>
    intro r σ t L W hr hu hd hC hsh hs hl hW hL ht
    by_cases h2 : gso G r = 2
    · rw [if_pos h2] at hL ht ⊢
      obtain ⟨dl, dr⟩ := (hw.1 _ hr).2.2 h2
      obtain ⟨⟨q1, q2⟩, q3, q4⟩ := lc_ok hw hr h2
      have et : gT G r = iA (gT G (lcG G r)) (gT G (rcG G r)) := lc_at hw hr hu h2
      have hdl : dpt d (gT G (lcG G r)) := by have := dpt_dw hd false; rw [et] at this; exact this
      have hdr : dpt d (gT G (rcG G r)) := by have := dpt_dw hd true; rw [et] at this; exact this
      have ep : prT lt (d + 1) (gT G r) = (if gso G (lcG G r) = 2 then 40 :: (prT lt d (gT G (lcG G r)) ++ [41]) else prT lt d (gT G (lcG G r))) ++ (45 :: 62 :: prT lt d (gT G (rcG G r))) := by
        rw [prT, et, if_pos (show iA (gT G (lcG G r)) (gT G (rcG G r)) [] = 1 from rfl)]
        show (if gT G (lcG G r) [] = 1 then 40 :: (prT lt d (gT G (lcG G r)) ++ [41]) else prT lt d (gT G (lcG G r))) ++ (45 :: 62 :: prT lt d (gT G (rcG G r))) = _
        by_cases c : gso G (lcG G r) = 2
        · rw [if_pos c, if_pos ((lab_2 hw q1 q2).1.mpr c)]
        · rw [if_neg c, if_neg (fun z => c ((lab_2 hw q1 q2).1.mp z))]
      obtain ⟨o, ho⟩ : ∃ o, o = (if gso G (lcG G r) = 2 then ([40] : List Int32) else []) := ⟨_, rfl⟩
      obtain ⟨c, hc⟩ : ∃ c, c = (if gso G (lcG G r) = 2 then ([41] : List Int32) else []) := ⟨_, rfl⟩
      have ol : o.length ≤ 1 ∧ c.length ≤ 1 ∧ (gso G (lcG G r) = 2 → o.length = 1) := by
        rw [ho, hc]
        by_cases e : gso G (lcG G r) = 2
        · rw [if_pos e, if_pos e]; exact ⟨by simp, by simp, fun _ => rfl⟩
        · rw [if_neg e, if_neg e]; exact ⟨by simp, by simp, fun z => absurd z e⟩
      have ep2 : prT lt (d + 1) (gT G r) = o ++ prT lt d (gT G (lcG G r)) ++ c ++ [45, 62] ++ prT lt d (gT G (rcG G r)) := by
        rw [ep, ho, hc]
        by_cases e : gso G (lcG G r) = 2
        · rw [if_pos e, if_pos e, if_pos e]; simp
        · rw [if_neg e, if_neg e, if_neg e]; simp
      obtain ⟨σ1, a1, a2, a3, a4, a5⟩ := sw_a0 (F := F) (x3 := x3) (t := t) hF hx hC hsh hr h2 hs hl hW (by omega) (by omega)
      rw [← ho] at a5
      have pl := prT_pos lt d (gT G (lcG G r))
      have tot : (W ++ prT lt (d + 1) (gT G r)).length = W.length + o.length + (prT lt d (gT G (lcG G r))).length + c.length + 2 + (prT lt d (gT G (rcG G r))).length := by
        rw [ep2]; simp; omega
      by_cases w1 : (W ++ o).length ≤ 2000
      · have hWo : (W ++ o).length = W.length + o.length := List.length_append
        have i1 := ih (lcG G r) σ1 (t + 1) ((2 * r + 1) :: L) (W ++ o) q1 q2 hdl a2 a3 a4 a5 w1 (by
          rw [List.length_cons]
          by_cases e : gso G (lcG G r) = 2
          · rw [if_pos e]; have := ol.2.2 e; omega
          · rw [if_neg e]; omega) (by
          by_cases e : gso G (lcG G r) = 2
          · rw [if_pos e]; have := ol.2.2 e; omega
          · rw [if_neg e]; omega)
        rcases i1 with ⟨n1, σ2, b1, b2, b3, b4, b5, b6, b7⟩ | ⟨n1, σ', z, b1, b2, b3, b4, b5, b6, b7, b8⟩
        · have hW2 : (W ++ o ++ prT lt d (gT G (lcG G r))).length = W.length + o.length + (prT lt d (gT G (lcG G r))).length := by simp; omega
          obtain ⟨σ3, c1, c2, c3, c4, c5⟩ := sw_a1 (F := F) (x3 := x3) (t := t + 1 + n1) hF hx b2 b3 hr h2 b4 b5 b7 (by omega) (by omega)
          rw [← hc] at c5
          have hW3 : (W ++ o ++ prT lt d (gT G (lcG G r)) ++ c ++ [45, 62]).length = W.length + o.length + (prT lt d (gT G (lcG G r))).length + c.length + 2 := by simp; omega
          have st1 : ∀ f, Ki_show_19 F (f + (1 + n1 + 1)) σ x x3 (nI t) = Ki_show_19 F f σ3 x x3 (nI (t + 1 + n1 + 1)) := by
            intro f
            rw [show f + (1 + n1 + 1) = ((f + 1) + n1) + 1 by omega, a1, b1, c1]
          by_cases w2 : (W ++ o ++ prT lt d (gT G (lcG G r)) ++ c ++ [45, 62]).length ≤ 2000
          · have i2 := ih (rcG G r) σ3 (t + 1 + n1 + 1) L (W ++ o ++ prT lt d (gT G (lcG G r)) ++ c ++ [45, 62]) q3 q4 hdr c2 c3 c4 c5 w2 (by
              rw [hW3]; split <;> omega) (by
              rw [hW3]; split <;> omega)
            have eW : W ++ prT lt (d + 1) (gT G r) = W ++ o ++ prT lt d (gT G (lcG G r)) ++ c ++ [45, 62] ++ prT lt d (gT G (rcG G r)) := by rw [ep2]; simp
            rcases i2 with ⟨n2, σ4, d1, d2, d3, d4, d5, d6, d7⟩ | ⟨n2, σ4, z, d1, d2, d3, d4, d5, d6, d7, d8⟩
            · refine Or.inl ⟨n2 + (1 + n1 + 1), σ4, fun f => ?_, d2, d3, d4, by rw [eW]; exact d5, ?_, by rw [eW]; exact d7⟩
              · rw [← Nat.add_assoc, st1, d1]
                congr 2
                omega
              · have : (prT lt (d + 1) (gT G r)).length = o.length + (prT lt d (gT G (lcG G r))).length + c.length + 2 + (prT lt d (gT G (rcG G r))).length := by rw [ep2]; simp; omega
                omega
            · refine Or.inr ⟨n2 + (1 + n1 + 1), σ4, z, fun f => ?_, d2, d3, d4, d5, d6, by rw [eW]; exact d7, ?_⟩
              · rw [show f + (n2 + (1 + n1 + 1)) + 1 = (f + n2 + 1) + (1 + n1 + 1) by omega, st1]
                exact d1 f
              · have : (if gso G (rcG G r) = 2 then 2005 else 2004) ≤ 2005 := by split <;> omega
                omega
          · refine Or.inr ⟨1 + n1 + 1, σ3, _, fun f => ?_, c2, c3, c5.1, by omega, by omega, by omega, by omega⟩
            rw [show f + (1 + n1 + 1) + 1 = (f + 1) + (1 + n1 + 1) by omega, st1]
            exact sw_stop hx (by omega) (by omega) c5.1 f
        · refine Or.inr ⟨n1 + 1, σ', z, fun f => ?_, b2, b3, b4, b5, b6, ?_, ?_⟩
          · rw [show f + (n1 + 1) + 1 = (f + n1 + 1) + 1 by omega, a1]
            exact b1 f
          · rw [tot]
            simp at b7
            omega
          · by_cases e : gso G (lcG G r) = 2
            · rw [if_pos e] at b8; have := ol.2.2 e; omega
            · rw [if_neg e] at b8; omega
      · refine Or.inr ⟨1, σ1, (W ++ o).length, fun f => ?_, a2, a3, a5.1, by omega, by simp at w1 ⊢; omega, ?_, by omega⟩
        · rw [show f + 1 + 1 = (f + 1) + 1 by omega, a1]
          exact sw_stop hx (by omega) (by simp at w1 ⊢; omega) a5.1 f
        · rw [tot]; simp at w1; omega
    · rw [if_neg h2] at hL ht ⊢
      exact leaf (d + 1) r σ t L W hr hu h2 hC hsh hs hl hW hL ht
end K
