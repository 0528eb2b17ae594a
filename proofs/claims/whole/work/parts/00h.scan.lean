/-! The class's scan. Own text. -/
def tkSt (σ : zS) (j : Nat) (f : Nat → Int32) (g : Nat → Int64) (h : Nat → Int32) : zS := si (sA (sB (sA σ 20 f) 21 g) 22 h) 105 (nI j)
theorem sB_sB (σ : zS) (k : Nat) (f g : Nat → Int64) : sB (sB σ k f) k g = sB σ k g := by
  unfold sB
  rw [fu_fu]
theorem fu_comm {α : Type} (f : Nat → α) {j k : Nat} (h : j ≠ k) (v w : α) : fu (fu f j v) k w = fu (fu f k w) j v := by
  funext i
  unfold fu
  by_cases h1 : i = k
  · by_cases h2 : i = j
    · omega
    · rw [if_pos h1, if_neg h2, if_pos h1]
  · rw [if_neg h1]
    by_cases h2 : i = j
    · rw [if_pos h2, if_pos h2]
    · rw [if_neg h2, if_neg h2, if_neg h1]
theorem sA_comm (σ : zS) {j k : Nat} (h : j ≠ k) (f g : Nat → Int32) : sA (sA σ j f) k g = sA (sA σ k g) j f := by
  unfold sA
  rw [fu_comm _ h]
theorem si_comm (σ : zS) {j k : Nat} (h : j ≠ k) (v w : Int32) : si (si σ j v) k w = si (si σ k w) j v := by
  unfold si
  rw [fu_comm _ h]
theorem tkSt_zs (σ : zS) (j : Nat) (f : Nat → Int32) (g : Nat → Int64) (h : Nat → Int32) : gi (tkSt σ j f g h) 105 = nI j ∧ (∀ k, k ≠ 105 → gi (tkSt σ j f g h) k = gi σ k) ∧ ga (tkSt σ j f g h) 20 = f ∧ gb (tkSt σ j f g h) 21 = g ∧ ga (tkSt σ j f g h) 22 = h ∧ ∀ k, k ≠ 20 → k ≠ 22 → ga (tkSt σ j f g h) k = ga σ k := by
  unfold tkSt
  refine ⟨by simp [zs], fun k hk => by simp [zs, hk], by simp [zs], by simp [zs], by simp [zs], fun k h1 h2 => by simp [zs, h1, h2]⟩
theorem addTok {F : Nat} {σ : zS} {j : Nat} {f : Nat → Int32} {g : Nat → Int64} {h : Nat → Int32} {s p : Int32} {v : Int64} (hj : j ≤ 1200) : Ta_addToken F (tkSt σ j f g h) s v p = some (tkSt σ (j + 1) (upd f j s) (vp_updL g j v) (upd h j p)) := by
  obtain ⟨e1, e2, e3, e4, e5, e6⟩ := tkSt_zs σ j f g h
  rw [Ta_addToken, e1, if_pos (show nI j ≤ (1200 : Int32) from nI_le (b := 1200) hj (by decide)), gd_t (inb_nI (by omega) (by omega)), nI_clamp (by omega), nI_1]
  congr 1
  unfold sa sb
  simp only [zs, e3, e4, e5]
  simp only [show ¬ ((22 : Nat) = 20) from by decide, if_false, e5]
  unfold tkSt
  show si (sA (sB (sA (si (sA (sB (sA σ 20 f) 21 g) 22 h) 105 (nI j)) 20 (upd f j s)) 21 (vp_updL g j v)) 22 (upd h j p)) 105 (nI (j + 1)) = _
  have a1 : sA (si (sA (sB (sA σ 20 f) 21 g) 22 h) 105 (nI j)) 20 (upd f j s) = si (sA (sB (sA σ 20 (upd f j s)) 21 g) 22 h) 105 (nI j) := by
    rw [sA_si, sA_comm _ (by decide)]
    show si (sA (sB (sA (sA σ 20 f) 20 (upd f j s)) 21 g) 22 h) 105 (nI j) = _
    rw [sA_sA]
  rw [a1]
  show si (sA (si (sA (sB (sB (sA σ 20 (upd f j s)) 21 g) 21 (vp_updL g j v)) 22 h) 105 (nI j)) 22 (upd h j p)) 105 (nI (j + 1)) = _
  rw [sB_sB, sA_si, sA_sA, si_si]
section SC
variable {F : Nat} {σ : zS} {n j : Nat} {f : Nat → Int32} {g : Nat → Int64} {h : Nat → Int32}
theorem scanName_ok (hB : byt (ga σ 19) n) (hl : gi σ 101 = nI n) {p : Nat} (hp : p < n) (hj : j ≤ 1200) (hF : n < F) (hs : (upB (ga σ 19 p) || loB (ga σ 19 p)) = true) : Ta_scanName F (tkSt σ j f g h) (nI p) = some (nI (tokS (ga σ 19) n p).2.2, tkSt σ (j + 1) (upd f j (tokS (ga σ 19) n p).1) (vp_updL g j (tokS (ga σ 19) n p).2.1) (upd h j (nI p))) := by
  obtain ⟨e1, e2, e3, e4, e5, e6⟩ := tkSt_zs σ j f g h
  have b19 : ga (tkSt σ j f g h) 19 = ga σ 19 := e6 19 (by decide) (by decide)
  have l101 : gi (tkSt σ j f g h) 101 = nI n := (e2 101 (by decide)).trans hl
  have hn := hB.1
  have q1 : p ≤ nmE (ga σ 19) n p := nEnd_ge _ _ _ _
  have q2 : nmE (ga σ 19) n p ≤ n := nEnd_le _ _ _ _ (by omega)
  have := scanName_loop (F := F) (σ := tkSt σ j f g h) (by rw [b19]; exact hB) l101 (p := p) (n - p) F 0 (by omega) (by omega) (by omega) (fun i hi => by omega) rfl
  rw [b19, Nat.add_zero] at this
  rw [Ta_scanName, show (0 : Int64) = nVal (ga σ 19) p 0 from rfl, this, Ta_scanName_47, pk_sub q1, b19, nI_clamp (by omega)]
  unfold tokS
  rw [if_pos hs]
  by_cases c : nmE (ga σ 19) n p - p ≤ 8
  · rw [if_pos (show nI (nmE (ga σ 19) n p - p) ≤ (8 : Int32) from nI_le (b := 8) c (by decide)), gd_t (inb_nI (by omega) (by omega)), big_ok, bi_some, if_pos c]
    cases hu : upB (ga σ 19 p)
    · rw [if_pos (b2i_0.mpr rfl), smS_ok, bi_some, Ta_scanName_87, addTok hj, bv_some, Ta_scanName_92]
      rfl
    · rw [if_neg (by decide), Ta_scanName_87, addTok hj, bv_some, Ta_scanName_92]
      rfl
  · rw [if_neg (show ¬ nI (nmE (ga σ 19) n p - p) ≤ (8 : Int32) from nI_ge (a := 8) (b := nmE (ga σ 19) n p - p) (by omega) (by omega)), addTok hj, bv_some, Ta_scanName_92, if_neg c]
theorem scanSign_ok (hB : byt (ga σ 19) n) (hl : gi σ 101 = nI n) {p : Nat} (hp : p < n) (hj : j ≤ 1200) (hF : 12 ≤ F) (hs : (upB (ga σ 19 p) || loB (ga σ 19 p)) = false) : Ta_scanSign F (tkSt σ j f g h) (nI p) = some (nI (tokS (ga σ 19) n p).2.2, tkSt σ (j + 1) (upd f j (tokS (ga σ 19) n p).1) (vp_updL g j (tokS (ga σ 19) n p).2.1) (upd h j (nI p))) := by
  obtain ⟨e1, e2, e3, e4, e5, e6⟩ := tkSt_zs σ j f g h
  have b19 : ga (tkSt σ j f g h) 19 = ga σ 19 := e6 19 (by decide) (by decide)
  have l101 : gi (tkSt σ j f g h) 101 = nI n := (e2 101 (by decide)).trans hl
  have hn := hB.1
  have k65 : Ta_scanSign_65 F (tkSt σ j f g h) (nI p) (ga σ 19 p) = some (nI (p + 1), tkSt σ (j + 1) (upd f j (sgS (ga σ 19 p))) (vp_updL g j 0) (upd h j (nI p))) := by
    obtain ⟨c, hc, ec⟩ := hB.2 p hp
    rw [Ta_scanSign_65, ec, i2c_dec c hc]
    obtain ⟨r, e, q⟩ := idx_ok (F := F) hF (σ := tkSt σ j f g h) hc
    rw [e, bi_some]
    unfold sgS
    cases hb : sgnB (nI c)
    · rw [if_pos (q.mpr hb), Ta_scanSign_81, addTok hj, bv_some, nI_1]
      rfl
    · rw [if_neg (fun z => by rw [q.mp z] at hb; cases hb), Ta_scanSign_81, addTok hj, bv_some, nI_1]
      rfl
  have k54 : Ta_scanSign_54 F (tkSt σ j f g h) (nI p) (ga σ 19 p) = some (nI (p + 2), tkSt σ (j + 1) (upd f j (ga σ 19 p)) (vp_updL g j 0) (upd h j (nI p))) := by
    rw [Ta_scanSign_54, addTok hj, bv_some, show (2 : Int32) = nI 2 from by decide, nI_add]
  have k29 : ∀ d : Int32, Ta_scanSign_29 F (tkSt σ j f g h) (nI p) (ga σ 19 p) d = if (ga σ 19 p = 58 ∧ d = 58) ∨ (ga σ 19 p = 45 ∧ d = 62) then some (nI (p + 2), tkSt σ (j + 1) (upd f j (ga σ 19 p)) (vp_updL g j 0) (upd h j (nI p))) else some (nI (p + 1), tkSt σ (j + 1) (upd f j (sgS (ga σ 19 p))) (vp_updL g j 0) (upd h j (nI p))) := by
    intro d
    rw [Ta_scanSign_29, Ta_scanSign_42, k54, k65]
    by_cases c1 : ga σ 19 p = 58
    · rw [if_pos c1, if_neg (show ¬ ga σ 19 p = 45 by rw [c1]; decide)]
      by_cases c2 : d = 58
      · rw [if_pos c2, if_pos (Or.inl ⟨c1, c2⟩)]
      · rw [if_neg c2, if_neg (fun z => z.elim (fun z => c2 z.2) (fun z => absurd (z.1.symm.trans c1) (by decide)))]
    · rw [if_neg c1]
      by_cases c3 : ga σ 19 p = 45
      · rw [if_pos c3]
        by_cases c4 : d = 62
        · rw [if_pos c4, if_pos (Or.inr ⟨c3, c4⟩)]
        · rw [if_neg c4, if_neg (fun z => z.elim (fun z => c1 z.1) (fun z => c4 z.2))]
      · rw [if_neg c3, if_neg (fun z => z.elim (fun z => c1 z.1) (fun z => c3 z.1))]
  rw [Ta_scanSign, l101, b19, nI_1, gd_t (inb_nI (by omega) (by omega)), nI_clamp (by omega)]
  unfold tokS
  rw [if_neg (show ¬ (upB (ga σ 19 p) || loB (ga σ 19 p)) = true by rw [hs]; decide)]
  by_cases c : p + 1 < n
  · rw [if_neg (nI_ge c (by omega)), gd_t (inb_nI (by omega) (by omega)), nI_clamp (by omega), k29]
    by_cases d : (ga σ 19 p = 58 ∧ ga σ 19 (p + 1) = 58) ∨ (ga σ 19 p = 45 ∧ ga σ 19 (p + 1) = 62)
    · rw [if_pos d, if_pos (d.elim (fun z => Or.inl ⟨z.1, c, z.2⟩) (fun z => Or.inr ⟨z.1, c, z.2⟩))]
    · rw [if_neg d, if_neg (fun z => d (z.elim (fun z => Or.inl ⟨z.1, z.2.2⟩) (fun z => Or.inr ⟨z.1, z.2.2⟩)))]
  · rw [if_pos (nI_le (by omega) (by omega)), k29, if_neg (fun z => z.elim (fun z => absurd z.2 (by decide)) (fun z => absurd z.2 (by decide))), if_neg (fun z => z.elim (fun z => c z.2.1) (fun z => c z.2.1))]
end SC
