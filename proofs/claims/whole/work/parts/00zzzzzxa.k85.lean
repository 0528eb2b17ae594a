/-! The reference's rows of items: laid, walked, added to. Own text. -/
theorem it_O (f a : TE) (h : okT f) : it (blk (tO f a)) = 0 :: (it (blk f) ++ it (blk a)) := by
  show it (bmp (blk f) 1 ++ blk a) = _
  rw [it_app, it_bmp (blk_ne f h)]
  rfl
theorem nI_lt10 (n : Nat) (h : n < 1000) : ¬ nI (10 + n) < 10 := fun z => absurd z (nI_nlt (a := 10 + n) (b := 10) (by omega) (by omega))
section M
variable {F : Nat} {τ : zS}
/-- a type is laid as items -/
def layP (F A : Nat) (τ0 : zS) (pr me : Int32) (lo hi : Nat) (t : TE) : Prop := ∀ (n : Nat) (As : List AE), nd τ0 pr me lo hi t n As → ∀ (f m s : Nat) (τ : zS), sx [] [53, A] τ0 τ → ga τ 53 s = nI n → s + (it (blk t)).length ≤ 15000 → m + (it (blk t)).length ≤ 1200 → ∃ τ', Md_lay_12 F (f + (it (blk t)).length) τ A (nI (s + 1)) (nI m) = Md_lay_12 F f τ' A (nI s) (nI (m + (it (blk t)).length)) ∧ sx [] [53, A] τ0 τ' ∧ (∀ i, i < s → ga τ' 53 i = ga τ 53 i) ∧ (∀ i, i < m → ga τ' A i = ga τ A i) ∧ mRw τ' A m (it (blk t))
theorem lay_t {A : Nat} (hA : A = 59 ∨ A = 61) {pr me : Int32} {lo hi : Nat} {τ0 : zS} (hh : hi ≤ 1000) (t : TE) (ok : okT t) : layP F A τ0 pr me lo hi t := by
  have hpt : isPt A = true := by rcases hA with z | z <;> rw [z] <;> decide
  have hA2 : A ≠ 2 := by omega
  have hA4 : A ≠ 4 := by omega
  have hA5 : A ≠ 5 := by omega
  have hA53 : A ≠ 53 := by omega
  have key : ∀ (f m s n : Nat) (τ : zS), sx [] [53, A] τ0 τ → ga τ 53 s = nI n → n < 1000 → s ≤ 15000 → Md_lay_12 F (f + 1) τ A (nI (s + 1)) (nI m) = (if ga τ0 2 n = 0 then Md_lay_48 F (Md_lay_12 F f) τ A (nI s) (nI m) (nI n) else if ga τ0 2 n = 1 then Md_lay_48 F (Md_lay_12 F f) τ A (nI s) (nI m) (nI n) else if ga τ0 2 n = 2 then Md_lay_94 F (Md_lay_12 F f) τ A (nI s) (nI m) (nI n) A (nI m) 0 else if ga τ0 2 n = 3 then Md_lay_94 F (Md_lay_12 F f) τ A (nI s) (nI m) (nI n) A (nI m) 1 else Md_lay_94 F (Md_lay_12 F f) τ A (nI s) (nI m) (nI n) A (nI m) 2) := by
    intro f m s n τ hs hn hn2 hsb
    have e2 : ga τ 2 = ga τ0 2 := hs.2.1 2 (by simp; omega)
    rw [Md_lay_12, Md_lay_b12, if_neg (nI_nle (by omega) (by omega)), nI_prd, gd_t (inb_nI (by omega) (by omega)), nI_clamp (by omega), hn, gd_t (inb_nI (by omega) (by omega)), nI_clamp (by omega), e2]
  have bin : ∀ (v : Nat) (f m s n n1 n2 : Nat) (τ : zS), sx [] [53, A] τ0 τ → ga τ0 2 n ≠ 3 → ga τ0 4 n = nI n1 → ga τ0 5 n = nI n2 → n < 1000 → s + 1 ≤ 15000 → m < 1200 → ∃ τ', Md_lay_94 F (Md_lay_12 F f) τ A (nI s) (nI m) (nI n) A (nI m) (nI v) = Md_lay_12 F f τ' A (nI (s + 1 + 1)) (nI (m + 1)) ∧ sx [] [53, A] τ0 τ' ∧ (∀ i, i < s → ga τ' 53 i = ga τ 53 i) ∧ ga τ' 53 s = nI n2 ∧ ga τ' 53 (s + 1) = nI n1 ∧ (∀ i, i < m → ga τ' A i = ga τ A i) ∧ ga τ' A m = nI v := by
    intro v f m s n n1 n2 τ hs h3 h4 h5 hn2 hsb hm
    have e2 : ga τ 2 = ga τ0 2 := hs.2.1 2 (by simp; omega)
    have e4 : ga τ 4 = ga τ0 4 := hs.2.1 4 (by simp; omega)
    have e5 : ga τ 5 = ga τ0 5 := hs.2.1 5 (by simp; omega)
    refine ⟨sa (sa (sa τ A m (nI v)) 53 s (nI n2)) 53 (s + 1) (nI n1), ?_, sx_sa (sx_sa (sx_sa hs (by simp) _ _) (by simp) _ _) (by simp) _ _, fun i hi => ?_, ?_, ?_, fun i hi => ?_, ?_⟩
    · have g2 : ga (sa τ A m (nI v)) 2 n = ga τ0 2 n := by simp only [zs, if_neg hA2.symm, e2]
      have g5 : ga (sa τ A m (nI v)) 5 n = nI n2 := by simp only [zs, if_neg hA5.symm, e5]; exact h5
      have g4 : ga (sa (sa τ A m (nI v)) 53 s (nI n2)) 4 n = nI n1 := by simp only [zs, if_neg (show ¬ (4 : Nat) = 53 by decide), if_neg hA4.symm, e4]; exact h4
      rw [Md_lay_94, gd_t hpt, gd_t (inb_nI (by omega) (by omega)), gd_t (inb_nI (by omega) (by omega)), nI_clamp (by omega), nI_clamp (by omega), g2, if_neg h3, gd_t (inb_nI (by omega) (by omega)), nI_clamp (by omega), g5, Md_lay_122, gd_t (inb_nI (by omega) (by omega)), nI_1, gd_t (inb_nI (by omega) (by omega)), nI_clamp (by omega), nI_clamp (by omega), g4, Md_lay_138, nI_1, nI_1]
    · simp only [zs, if_true, up_at]
      rw [if_neg (by omega), if_neg (by omega), if_neg hA53.symm]
    · simp only [zs, if_true, up_at]
      rw [if_neg (by omega)]
    · simp only [zs, if_true, up_at]
    · simp only [zs, if_neg hA53, if_true, up_at]
      rw [if_neg (by omega)]
    · simp only [zs, if_neg hA53, if_true, up_at]
  have two : ∀ (v : Nat) (t1 t2 : TE), v < 10 → layP F A τ0 pr me lo hi t1 → layP F A τ0 pr me lo hi t2 → ∀ (n n1 n2 : Nat) (A1 A2 : List AE), ga τ0 2 n ≠ 3 → ga τ0 4 n = nI n1 → ga τ0 5 n = nI n2 → n < 1000 → nd τ0 pr me lo hi t1 n1 A1 → nd τ0 pr me lo hi t2 n2 A2 → ∀ (f m s : Nat) (τ : zS), sx [] [53, A] τ0 τ → s + (v :: (it (blk t1) ++ it (blk t2))).length ≤ 15000 → m + (v :: (it (blk t1) ++ it (blk t2))).length ≤ 1200 → ∃ τ', Md_lay_94 F (Md_lay_12 F (f + (it (blk t2)).length + (it (blk t1)).length)) τ A (nI s) (nI m) (nI n) A (nI m) (nI v) = Md_lay_12 F f τ' A (nI s) (nI (m + (v :: (it (blk t1) ++ it (blk t2))).length)) ∧ sx [] [53, A] τ0 τ' ∧ (∀ i, i < s → ga τ' 53 i = ga τ 53 i) ∧ (∀ i, i < m → ga τ' A i = ga τ A i) ∧ mRw τ' A m (v :: (it (blk t1) ++ it (blk t2))) := by
    intro v t1 t2 hv i1 i2 n n1 n2 A1 A2 h3 h4 h5 hn d1 d2 f m s τ hs hb1 hb2
    simp only [List.length_cons, List.length_append] at hb1 hb2
    obtain ⟨τ1, a1, a2, a3, a4, a5, a6, a7⟩ := bin v (f + (it (blk t2)).length + (it (blk t1)).length) m s n n1 n2 τ hs h3 h4 h5 hn (by omega) (by omega)
    obtain ⟨τ2, b1, b2, b3, b4, b5⟩ := i1 n1 A1 d1 (f + (it (blk t2)).length) (m + 1) (s + 1) τ1 a2 a5 (by omega) (by omega)
    obtain ⟨τ3, c1, c2, c3, c4, c5⟩ := i2 n2 A2 d2 f (m + 1 + (it (blk t1)).length) s τ2 b2 (by rw [b3 s (by omega)]; exact a4) (by omega) (by omega)
    refine ⟨τ3, ?_, c2, fun i hi => by rw [c3 i hi, b3 i (by omega), a3 i hi], fun i hi => by rw [c4 i (by omega), b4 i (by omega), a6 i hi], ?_⟩
    · rw [a1, b1, c1]
      congr 2
      simp only [List.length_cons, List.length_append]
      omega
    · have e2 : ga τ3 2 = ga τ2 2 := by rw [c2.2.1 2 (by simp; omega), b2.2.1 2 (by simp; omega)]
      have e3 : gb τ3 3 = gb τ2 3 := by rw [sx_gb c2, sx_gb b2]
      refine ⟨Or.inl ⟨hv, ?_⟩, (mRw_app _ _ _).mpr ⟨mRw_fr e2 e3 _ (m + 1) (m + 1) (fun j hj => c4 _ (by omega)) b5, c5⟩⟩
      rw [c4 m (by omega), b4 m (by omega), a7]
  refine tE_ind (P := layP F A τ0 pr me lo hi) ?_ ?_ ?_ ?_ ?_ t ok
  · intro c _ n As hd f m s τ hs hn hb1 hb2
    obtain ⟨d1, d2, d3, d4, d5, d6, d7⟩ := hd
    have e1 : (it (blk (.var c))).length = 1 := rfl
    have hc2 : lfB c = 0 ∨ lfB c = 1 := by unfold lfB; omega
    rw [e1] at hb1 hb2 ⊢
    refine ⟨sa τ A m (nI (10 + n)), ?_, sx_sa hs (by simp) _ _, fun i hi => by simp only [zs, if_neg hA53.symm], fun i hi => by simp only [zs, if_true, up_at]; rw [if_neg (by omega)], ?_, trivial⟩
    · have e48 : Md_lay_48 F (Md_lay_12 F f) τ A (nI s) (nI m) (nI n) = Md_lay_12 F f (sa τ A m (nI (10 + n))) A (nI s) (nI (m + 1)) := by
        rw [Md_lay_48, gd_t hpt, gd_t (inb_nI (by omega) (by omega)), nI_clamp (by omega), Md_lay_138, nI_1, show (10 : Int32) = nI 10 from rfl, nI_add]
      rw [key f m s n τ hs hn (by omega) (by omega), e48]
      rcases hc2 with z | z
      · rw [if_pos (by rw [d3, z]; rfl)]
      · rw [if_neg (by rw [d3, z]; decide), if_pos (by rw [d3, z]; rfl)]
    · refine Or.inr ⟨by omega, n, by omega, by simp only [zs, if_true, up_at], ?_, ?_⟩
      · simp only [zs, if_neg hA2.symm, Nat.add_sub_cancel_left]
        rw [hs.2.1 2 (by simp; omega)]; exact d3
      · simp only [zs, Nat.add_sub_cancel_left]
        rw [sx_gb hs]; exact d4
  · intro u v ou ov iu iv n As hd f m s τ hs hn hb1 hb2
    obtain ⟨d1, d2, d3, n1, n2, A1, A2, d4, d5, d6, d7, d8⟩ := hd
    rw [it_O u v ou] at hb1 hb2 ⊢
    obtain ⟨τ', e1, e2⟩ := two 0 u v (by omega) iu iv n n1 n2 A1 A2 (by rw [d3]; decide) d4 d5 (by omega) d6 d7 f m s τ hs hb1 hb2
    refine ⟨τ', ?_, e2⟩
    rw [show f + (0 :: (it (blk u) ++ it (blk v))).length = f + (it (blk v)).length + (it (blk u)).length + 1 by simp; omega, key _ m s n τ hs hn (by omega) (by omega), d3, if_neg (by decide), if_neg (by decide), if_pos rfl, ← e1]
    rfl
  · intro u v ou ov iu iv n As hd f m s τ hs hn hb1 hb2
    obtain ⟨d1, d2, d3, n1, n2, A1, A2, d4, d5, d6, d7, d8⟩ := hd
    have eR : it (blk (tR u v)) = 2 :: (it (blk u) ++ it (blk v)) := by
      show it ((0, 2) :: (blk u ++ blk v)) = _
      rw [it, it_app]; rfl
    rw [eR] at hb1 hb2 ⊢
    obtain ⟨τ', e1, e2⟩ := two 2 u v (by omega) iu iv n n1 n2 A1 A2 (by rw [d3]; decide) d4 d5 (by omega) d6 d7 f m s τ hs hb1 hb2
    refine ⟨τ', ?_, e2⟩
    rw [show f + (2 :: (it (blk u) ++ it (blk v))).length = f + (it (blk v)).length + (it (blk u)).length + 1 by simp; omega, key _ m s n τ hs hn (by omega) (by omega), d3, if_neg (by decide), if_neg (by decide), if_neg (by decide), if_neg (by decide), ← e1]
    rfl
  · intro p u ou iu n As hd f m s τ hs hn hb1 hb2
    obtain ⟨d1, d2, d3, n1, A1, d4, d5, d6⟩ := hd
    have eI : it (blk (tI p u)) = 1 :: it (blk u) := rfl
    rw [eI] at hb1 hb2 ⊢
    simp only [List.length_cons] at hb1 hb2
    have e4 : ga τ 4 = ga τ0 4 := hs.2.1 4 (by simp; omega)
    have e2 : ga τ 2 = ga τ0 2 := hs.2.1 2 (by simp; omega)
    have s1 : sx [] [53, A] τ0 (sa (sa τ A m 1) 53 s (nI n1)) := sx_sa (sx_sa hs (by simp) _ _) (by simp) _ _
    obtain ⟨τ', b1, b2, b3, b4, b5⟩ := iu n1 A1 d5 f (m + 1) s (sa (sa τ A m 1) 53 s (nI n1)) s1 (by simp only [zs, if_true, up_at]) (by omega) (by omega)
    refine ⟨τ', ?_, b2, fun i hi => ?_, fun i hi => ?_, Or.inl ⟨by omega, ?_⟩, b5⟩
    · have g2 : ga (sa τ A m 1) 2 n = 3 := by simp only [zs, if_neg hA2.symm, e2]; exact d3
      have g4 : ga (sa τ A m 1) 4 n = nI n1 := by simp only [zs, if_neg hA4.symm, e4]; exact d4
      rw [List.length_cons, show f + ((it (blk u)).length + 1) = f + (it (blk u)).length + 1 by omega, key _ m s n τ hs hn (by omega) (by omega), d3, if_neg (by decide), if_neg (by decide), if_neg (by decide), if_pos rfl, Md_lay_94, gd_t hpt, gd_t (inb_nI (by omega) (by omega)), gd_t (inb_nI (by omega) (by omega)), nI_clamp (by omega), nI_clamp (by omega), g2, if_pos rfl, Md_lay_122, gd_t (inb_nI (by omega) (by omega)), gd_t (inb_nI (by omega) (by omega)), nI_clamp (by omega), nI_clamp (by omega), g4, Md_lay_138, nI_1, nI_1, b1]
      congr 2
      omega
    · rw [b3 i hi]
      simp only [zs, if_true, up_at]
      rw [if_neg (by omega), if_neg hA53.symm]
    · rw [b4 i (by omega)]
      simp only [zs, if_neg hA53, if_true, up_at]
      rw [if_neg (by omega)]
    · rw [b4 m (by omega)]
      simp only [zs, if_neg hA53, if_true, up_at]
      rfl
  · intro p u ou iu
    exact iu
theorem layM {A : Nat} (hF : 20000 ≤ F) (hA : A = 59 ∨ A = 61) {pr me : Int32} {lo hi n : Nat} {As : List AE} (hh : hi ≤ 1000) {t : TE} (ok : okT t) (hd : nd τ pr me lo hi t n As) (hl : (it (blk t)).length ≤ 1000) : ∃ τ', Md_lay F τ (nI n) A = some (nI (it (blk t)).length, τ') ∧ sx [] [53, A] τ τ' ∧ mRw τ' A 0 (it (blk t)) := by
  obtain ⟨F', hF'⟩ : ∃ F', F = F' + 1 + (it (blk t)).length := ⟨F - 1 - (it (blk t)).length, by omega⟩
  obtain ⟨τ', a1, a2, a3, a4, a5⟩ := lay_t (F := F) hA hh t ok n As hd (F' + 1) 0 0 (sa τ 53 0 (nI n)) (sx_sa (sx_rfl _ _ _) (by simp) _ _) (by simp only [zs, if_true, up_at]) (by omega) (by omega)
  refine ⟨τ', ?_, a2, a5⟩
  rw [Md_lay, gd_t (by decide), show Md_lay_12 F F = Md_lay_12 F (F' + 1 + (it (blk t)).length) by rw [← hF']]
  show Md_lay_12 F (F' + 1 + (it (blk t)).length) (sa τ 53 0 (nI n)) A (nI (0 + 1)) (nI 0) = _
  rw [a1, Md_lay_12, Md_lay_b12, if_pos (by decide), Nat.zero_add]
end M
