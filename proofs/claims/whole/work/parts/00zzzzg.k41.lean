/-! The class shows a kind. Own text. -/
section K
variable {F : Nat} {σ0 : zS} {G : SG} {x : Nat} {x3 : Int32} {lt : Nat → Int32}
/-- a turn begins -/
theorem sw_pop (hF : 20000 ≤ F) (hx : isLine x = true) {σ : zS} {W : List Int32} {L : List Nat} {t r b : Nat} (hC : CS σ G) (hr : r < gn G) (hb : b < 2) (hs : stC σ ((2 * r + b) :: L)) (hl : lnC σ x W) (hW : W.length ≤ 2000) (hL : L.length < 3400) (ht : t < 100000) : ∃ σ1, sx [309] [28] σ σ1 ∧ stC σ1 L ∧ CS σ1 G ∧ lnC σ1 x W ∧ ∀ f, Ki_show_19 F (f + 1) σ x x3 (nI t) = (if gso G r = 2 then (bi (Ki_find F σ1 (nI (gle G r))) (fun r14 σ13 => if (nI b) = 0 then (bi (Ki_isArrow F σ13 r14) (fun r24 σ23 => if r24 = 0 then (Ki_show_141 F (Ki_show_19 F f) σ23 x x3 (nI t) (nI (2 * r + b)) r14) else (bv (Li_put F σ23 x (40 : Int32)) (fun σ27 => Ki_show_141 F (Ki_show_19 F f) σ27 x x3 (nI t) (nI (2 * r + b)) r14)))) else (bi (Ki_isArrow F σ13 r14) (fun r18 σ17 => if r18 = 0 then (Ki_show_175 F (Ki_show_19 F f) σ17 x x3 (nI t) (nI r)) else (bv (Li_put F σ17 x (41 : Int32)) (fun σ21 => Ki_show_175 F (Ki_show_19 F f) σ21 x x3 (nI t) (nI r))))))) else (if x3 = 0 then (Ki_show_98 F (Ki_show_19 F f) σ1 x x3 (nI t) x) else (if gso G r = 0 then (Ki_show_100 F (Ki_show_19 F f) σ1 x x3 (nI t) x (((97 : Int32) + (if (26 : Int32) < (ga σ1 26 r) then (26 : Int32) else (ga σ1 26 r))) - (1 : Int32))) else (Ki_show_98 F (Ki_show_19 F f) σ1 x x3 (nI t) x)))) := by
  obtain ⟨σ1, a1, a2, a3⟩ := popC (F := F) hs (by omega)
  have hC1 : CS σ1 G := CS_sx a3 (by decide) (by decide) (by decide) (by decide) hC
  have hn := hC.2.2.1
  refine ⟨σ1, a3, a2, hC1, lnC_sx hl a3, fun f => ?_⟩
  have h309 : gi σ 309 = nI (L.length + 1) := hs.1
  rw [Ki_show_19, Ki_show_b19, if_neg (show ¬ (1000000 : Int32) ≤ nI t from nI_ge (b := 1000000) (by omega) (by omega)), h309, if_neg (nI_nle (by omega) (by omega)), gd_t hx, hl.1, if_neg (show ¬ (2000 : Int32) < nI W.length from nI_nlt (a := 2000) (by omega) (by omega)), a1, bi_some]
  show bi (Ki_isArrow F σ1 (nI (2 * r + b) >>> ((1 : Int32) &&& 31))) _ = _
  rw [sh_r _ (by omega), show (2 * r + b) / 2 = r by omega, isArC hC1 hr, bi_some]
  by_cases c2 : gso G r = 2
  · rw [if_pos c2, if_pos c2]
    show (if (1 : Int32) = 0 then _ else _) = _
    have hr0 : r ≠ 0 := by
      intro z
      subst z
      rw [hC.2.2.2.2.1] at c2
      cases c2
    have q1 : ga σ1 23 r = nI (gle G r) := by
      rcases (hC1.2.2.2.2.2.2 _ hr).2.2 hr0 with ⟨y, _⟩ | ⟨_, y1, _⟩
      · rw [c2] at y; cases y
      · exact y1
    rw [if_neg (by decide), gd_t (inb_nI (by omega) (by omega)), nI_clamp (by omega), q1, an_1, show (2 * r + b) % 2 = b by omega]
  · rw [if_neg c2, if_neg c2]
    show (if (0 : Int32) = 0 then _ else _) = _
    rw [if_pos rfl, isOpC hC1 hr]
    by_cases c3 : x3 = 0
    · rw [if_pos c3, if_pos c3]
    · rw [if_neg c3, if_neg c3, bi_some]
      by_cases c0 : gso G r = 0
      · rw [if_pos c0, if_pos c0]
        show (if (1 : Int32) = 0 then _ else _) = _
        rw [if_neg (by decide), gd_t (inb_nI (by omega) (by omega)), nI_clamp (by omega)]
      · rw [if_neg c0, if_neg c0]
        show (if (0 : Int32) = 0 then _ else _) = _
        rw [if_pos rfl]
theorem lab_2 (hw : wfG G) {r : Nat} (hr : r < gn G) (hu : gup G r = r) : (gT G r [] = 1 ↔ gso G r = 2) ∧ (gT G r [] = 0 ↔ gso G r = 1) ∧ (gso G r = 0 → gT G r = iV r) := by
  have h := rt_self hu
  rcases so3 hw hr with z | z | z
  · have e : gT G r = iV r := by have := gT_0 (k := r) (by rw [h]; exact z); rw [h] at this; exact this
    rw [e, z]
    exact ⟨⟨fun y => (by unfold iV at y; omega), fun y => (by cases y)⟩, ⟨fun y => (by unfold iV at y; omega), fun y => (by cases y)⟩, fun _ => rfl⟩
  · have e : gT G r = iS := gT_1 (by rw [h]; exact z)
    rw [e, z]
    exact ⟨⟨fun y => (by cases y), fun y => (by cases y)⟩, ⟨fun _ => rfl, fun _ => rfl⟩, fun y => (by cases y)⟩
  · have e := gT_2 (G := G) (k := r) (by rw [h]; exact z)
    rw [e, z]
    exact ⟨⟨fun _ => rfl, fun _ => rfl⟩, ⟨fun y => (by cases y), fun y => (by cases y)⟩, fun y => (by cases y)⟩
/-- what open ones are shown as -/
def hlC (σ0 : zS) (G : SG) (x3 : Int32) (lt : Nat → Int32) : Prop := ∀ r, r < gn G → gso G r = 0 → (x3 = 0 ∧ lt r = 42) ∨ (x3 ≠ 0 ∧ ((97 : Int32) + (if (26 : Int32) < (ga σ0 26 r) then (26 : Int32) else (ga σ0 26 r))) - (1 : Int32) = lt r ∧ vp_nar .byte (Int32.toInt8 (lt r)).toInt32 = lt r)
theorem sw_leaf (hF : 20000 ≤ F) (hx : isLine x = true) (hlt : hlC σ0 G x3 lt) {σ : zS} {W : List Int32} {L : List Nat} {t r d : Nat} (hC : CS σ G) (hsh : shF x σ0 σ) (hr : r < gn G) (hu : gup G r = r) (h2 : gso G r ≠ 2) (hs : stC σ (2 * r :: L)) (hl : lnC σ x W) (hW : W.length ≤ 2000) (hL : L.length < 3400) (ht : t < 100000) : ∃ σ', (∀ f, Ki_show_19 F (f + 1) σ x x3 (nI t) = Ki_show_19 F f σ' x x3 (nI (t + 1))) ∧ CS σ' G ∧ shF x σ0 σ' ∧ stC σ' L ∧ lnC σ' x (W ++ prT lt d (gT G r)) ∧ (prT lt d (gT G r)).length = 1 := by
  have hw := hC.2.2.2.2.2.1
  obtain ⟨σ1, a1, a2, a3, a4, a5⟩ := sw_pop (F := F) (x3 := x3) (b := 0) hF hx hC hr (by omega) hs hl hW hL ht
  obtain ⟨l1, l2, l3⟩ := lab_2 hw hr hu
  have n1 : gT G r [] ≠ 1 := fun z => h2 (l1.mp z)
  obtain ⟨c, hc1, hc2, hc3⟩ : ∃ c, prT lt d (gT G r) = [c] ∧ vp_nar .byte (Int32.toInt8 c).toInt32 = c ∧ ∀ f, Ki_show_19 F (f + 1) σ x x3 (nI t) = Ki_show_100 F (Ki_show_19 F f) σ1 x x3 (nI t) x c := by
    rcases so3 hw hr with z | z | z
    · have e : gT G r = iV r := l3 z
      have ep : prT lt d (gT G r) = [lt r] := by
        rw [e]
        cases d with
        | zero => rw [prT, if_neg (by unfold iV; omega)]; rfl
        | succ d => rw [prT, if_neg (by unfold iV; omega), if_neg (by unfold iV; omega)]; rfl
      rcases hlt r hr z with ⟨y1, y2⟩ | ⟨y1, y2, y3⟩
      · refine ⟨42, by rw [ep, y2], by decide, fun f => ?_⟩
        rw [a5, if_neg h2, if_pos y1]; rfl
      · refine ⟨lt r, ep, y3, fun f => ?_⟩
        rw [a5, if_neg h2, if_neg y1, if_pos z, a1.2.1 26 (by decide), hsh.2.1 26 (by decide), y2]
    · have e : gT G r = iS := gT_1 (by rw [rt_self hu]; exact z)
      have ep : prT lt d (gT G r) = [42] := by
        rw [e]
        cases d with
        | zero => rfl
        | succ d => rfl
      refine ⟨42, ep, by decide, fun f => ?_⟩
      rw [a5, if_neg h2]
      by_cases c3 : x3 = 0
      · rw [if_pos c3]; rfl
      · rw [if_neg c3, if_neg (by rw [z]; decide)]; rfl
    · exact absurd z h2
  obtain ⟨σ2, b1, b2, b3, b4, b5⟩ := putC (F := F) hx a4 (by omega) hc2
  refine ⟨σ2, fun f => ?_, CS_shF a3 b3, shF_tr hsh (shF_tr (shF_sx a1) b3), stC_put a2 b4 b5, by rw [hc1]; exact b2, by rw [hc1]; rfl⟩
  rw [hc3, Ki_show_100, gd_t hx, b1, bv_some, Ki_show_196, nI_1]
theorem sw_a0 (hF : 20000 ≤ F) (hx : isLine x = true) {σ : zS} {W : List Int32} {L : List Nat} {t r : Nat} (hC : CS σ G) (hsh : shF x σ0 σ) (hr : r < gn G) (h2 : gso G r = 2) (hs : stC σ (2 * r :: L)) (hl : lnC σ x W) (hW : W.length ≤ 2000) (hL : L.length < 3400) (ht : t < 100000) : ∃ σ', (∀ f, Ki_show_19 F (f + 1) σ x x3 (nI t) = Ki_show_19 F f σ' x x3 (nI (t + 1))) ∧ CS σ' G ∧ shF x σ0 σ' ∧ stC σ' (2 * lcG G r :: (2 * r + 1) :: L) ∧ lnC σ' x (W ++ (if gso G (lcG G r) = 2 then [40] else [])) := by
  have hw := hC.2.2.2.2.2.1
  obtain ⟨dl, dr⟩ := (hw.1 _ hr).2.2 h2
  have hlr : lcG G r < gn G := rt_lt hw dl
  obtain ⟨σ1, a1, a2, a3, a4, a5⟩ := sw_pop (F := F) (x3 := x3) (b := 0) hF hx hC hr (by omega) hs hl hW hL ht
  have fin : ∀ (σ2 : zS) (W2 : List Int32), CS σ2 G → shF x σ1 σ2 → stC σ2 L → lnC σ2 x W2 → ∃ σ', (∀ f, Ki_show_141 F (Ki_show_19 F f) σ2 x x3 (nI t) (nI (2 * r + 0)) (nI (lcG G r)) = Ki_show_19 F f σ' x x3 (nI (t + 1))) ∧ CS σ' G ∧ shF x σ0 σ' ∧ stC σ' (2 * lcG G r :: (2 * r + 1) :: L) ∧ lnC σ' x W2 := by
    intro σ2 W2 q1 q2 q3 q4
    obtain ⟨σ3, b1, b2, b3⟩ := pushC (F := F) q3 (by omega) (2 * r + 1)
    obtain ⟨σ4, c1, c2, c3⟩ := pushC (F := F) b2 (by simp; omega) (2 * lcG G r)
    refine ⟨σ4, fun f => ?_, CS_sx c3 (by decide) (by decide) (by decide) (by decide) (CS_sx b3 (by decide) (by decide) (by decide) (by decide) q1), shF_tr hsh (shF_tr (shF_sx a1) (shF_tr q2 (shF_tr (shF_sx b3) (shF_sx c3)))), c2, lnC_sx (lnC_sx q4 b3) c3⟩
    rw [Ki_show_141, Nat.add_zero, or_1, b1, bv_some, sh_l, c1, bv_some, Ki_show_196, nI_1]
  by_cases cl : gso G (lcG G r) = 2
  · obtain ⟨σ2, b1, b2, b3, b4, b5⟩ := putC (F := F) hx a4 (by omega) (b := 40) (by decide)
    obtain ⟨σ', d1, d2, d3, d4, d5⟩ := fin σ2 _ (CS_shF a3 b3) b3 (stC_put a2 b4 b5) b2
    refine ⟨σ', fun f => ?_, d2, d3, d4, by rw [if_pos cl]; exact d5⟩
    rw [a5, if_pos h2, findC hF a3 dl, bi_some]
    show (if nI 0 = 0 then bi (Ki_isArrow F σ1 (nI (lcG G r))) _ else _) = _
    rw [if_pos nI_0, isArC a3 hlr, bi_some, if_pos cl]
    show (if (1 : Int32) = 0 then _ else _) = _
    rw [if_neg (by decide), b1, bv_some]
    exact d1 f
  · obtain ⟨σ', d1, d2, d3, d4, d5⟩ := fin σ1 W a3 (shF_rfl _ _) a2 a4
    refine ⟨σ', fun f => ?_, d2, d3, d4, by rw [if_neg cl, List.append_nil]; exact d5⟩
    rw [a5, if_pos h2, findC hF a3 dl, bi_some]
    show (if nI 0 = 0 then bi (Ki_isArrow F σ1 (nI (lcG G r))) _ else _) = _
    rw [if_pos nI_0, isArC a3 hlr, bi_some, if_neg cl]
    show (if (0 : Int32) = 0 then _ else _) = _
    rw [if_pos rfl]
    exact d1 f
theorem sw_a1 (hF : 20000 ≤ F) (hx : isLine x = true) {σ : zS} {W : List Int32} {L : List Nat} {t r : Nat} (hC : CS σ G) (hsh : shF x σ0 σ) (hr : r < gn G) (h2 : gso G r = 2) (hs : stC σ ((2 * r + 1) :: L)) (hl : lnC σ x W) (hW : W.length ≤ 2000) (hL : L.length < 3400) (ht : t < 100000) : ∃ σ', (∀ f, Ki_show_19 F (f + 1) σ x x3 (nI t) = Ki_show_19 F f σ' x x3 (nI (t + 1))) ∧ CS σ' G ∧ shF x σ0 σ' ∧ stC σ' (2 * rcG G r :: L) ∧ lnC σ' x (W ++ (if gso G (lcG G r) = 2 then [41] else []) ++ [45, 62]) := by
  have hw := hC.2.2.2.2.2.1
  have hn := hC.2.2.1
  obtain ⟨dl, dr⟩ := (hw.1 _ hr).2.2 h2
  have hlr : lcG G r < gn G := rt_lt hw dl
  obtain ⟨σ1, a1, a2, a3, a4, a5⟩ := sw_pop (F := F) (x3 := x3) (b := 1) hF hx hC hr (by omega) hs hl hW hL ht
  have hr0 : r ≠ 0 := by
    intro z
    subst z
    rw [hC.2.2.2.2.1] at h2
    cases h2
  have fin : ∀ (σ2 : zS) (W2 : List Int32), CS σ2 G → shF x σ1 σ2 → stC σ2 L → lnC σ2 x W2 → W2.length ≤ 2100 → ∃ σ', (∀ f, Ki_show_175 F (Ki_show_19 F f) σ2 x x3 (nI t) (nI r) = Ki_show_19 F f σ' x x3 (nI (t + 1))) ∧ CS σ' G ∧ shF x σ0 σ' ∧ stC σ' (2 * rcG G r :: L) ∧ lnC σ' x (W2 ++ [45, 62]) := by
    intro σ2 W2 q1 q2 q3 q4 q5
    obtain ⟨σ3, b1, b2, b3, b4, b5⟩ := putC (F := F) hx q4 (by omega) (b := 45) (by decide)
    obtain ⟨σ4, c1, c2, c3, c4, c5⟩ := putC (F := F) hx b2 (by simp; omega) (b := 62) (by decide)
    have hC4 : CS σ4 G := CS_shF (CS_shF q1 b3) c3
    have q24 : ga σ4 24 r = nI (gri G r) := by
      rcases (hC4.2.2.2.2.2.2 _ hr).2.2 hr0 with ⟨y, _⟩ | ⟨_, _, y2⟩
      · rw [h2] at y; cases y
      · exact y2
    obtain ⟨σ5, d1, d2, d3⟩ := pushC (F := F) (stC_put (stC_put q3 b4 b5) c4 c5) (by omega) (2 * rcG G r)
    refine ⟨σ5, fun f => ?_, CS_sx d3 (by decide) (by decide) (by decide) (by decide) hC4, shF_tr hsh (shF_tr (shF_sx a1) (shF_tr q2 (shF_tr b3 (shF_tr c3 (shF_sx d3))))), d2, ?_⟩
    · rw [Ki_show_175, gd_t hx, Li_putArrow, gd_t hx, b1, bv_some, c1, bv_some, bv_some, gd_t (inb_nI (by omega) (by omega)), nI_clamp (by omega), q24, findC hF hC4 dr, bi_some]
      show bv (Ki_push F σ4 (nI (rcG G r) <<< ((1 : Int32) &&& 31))) _ = _
      rw [sh_l, d1, bv_some, Ki_show_196, nI_1]
    · have := lnC_sx c2 d3
      rw [List.append_assoc] at this
      exact this
  by_cases cl : gso G (lcG G r) = 2
  · obtain ⟨σ2, b1, b2, b3, b4, b5⟩ := putC (F := F) hx a4 (by omega) (b := 41) (by decide)
    obtain ⟨σ', d1, d2, d3, d4, d5⟩ := fin σ2 _ (CS_shF a3 b3) b3 (stC_put a2 b4 b5) b2 (by simp; omega)
    refine ⟨σ', fun f => ?_, d2, d3, d4, by rw [if_pos cl]; exact d5⟩
    rw [a5, if_pos h2, findC hF a3 dl, bi_some]
    show (if nI 1 = 0 then _ else bi (Ki_isArrow F σ1 (nI (lcG G r))) _) = _
    rw [if_neg (by decide), isArC a3 hlr, bi_some, if_pos cl]
    show (if (1 : Int32) = 0 then _ else _) = _
    rw [if_neg (by decide), b1, bv_some]
    exact d1 f
  · obtain ⟨σ', d1, d2, d3, d4, d5⟩ := fin σ1 W a3 (shF_rfl _ _) a2 a4 (by omega)
    refine ⟨σ', fun f => ?_, d2, d3, d4, by rw [if_neg cl, List.append_nil]; exact d5⟩
    rw [a5, if_pos h2, findC hF a3 dl, bi_some]
    show (if nI 1 = 0 then _ else bi (Ki_isArrow F σ1 (nI (lcG G r))) _) = _
    rw [if_neg (by decide), isArC a3 hlr, bi_some, if_neg cl]
    show (if (0 : Int32) = 0 then _ else _) = _
    rw [if_pos rfl]
    exact d1 f
end K
