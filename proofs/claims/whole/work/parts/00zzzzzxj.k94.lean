/-! The class shows a type: the whole. Own text. -/
/-- before a type is shown -/
def shI (σ : zS) (x Z : Nat) (L pre post : List BE) (t : TE) (j : Nat) (S : List (Nat × Nat)) (W : List Int32) : Prop := SH σ x Z L ∧ L = pre ++ (bmp (blk t) j ++ post) ∧ FR σ S ∧ gi σ 907 = nI S.length ∧ topO L S ∧ S.length ≤ pre.length ∧ (∀ p, p ∈ S → p.2 ≤ 400) ∧ (∀ b, b ∈ L → b.1 ≤ 400) ∧ (∀ b, b ∈ L → 10 ≤ b.2 → nmOk (lfN (b.2 - 10))) ∧ lnC σ x W ∧ W.length + 11 * (blk t).length + 25 < 2300
def shP (F : Nat) (t : TE) : Prop := ∀ (x Z : Nat) (L pre post : List BE) (S : List (Nat × Nat)) (j : Nat) (σ : zS) (W : List Int32), (0 < j → isR t = false ∧ isI t = false) → shI σ x Z L pre post t j S W → ∃ σ' tn k xh l, blk t = (k, xh) :: l ∧ tn + S.length < 200 ∧ FR σ' ((pre.length, k + fx xh) :: S) ∧ gi σ' 907 = nI (S.length + 1) ∧ lnC σ' x (W ++ (seS (topS L S) ++ ((if wrS (stS (topS L S)) (k + j, xh) = true then [40] else []) ++ bdS t))) ∧ frW x σ σ' ∧ ∀ f, Pl_show_11 F (f + (blk t).length) σ x (nI pre.length) = bv (Pl_endNodes_2 F (F - tn) σ' x (nI tn)) (fun σ7 => Pl_show_11 F f σ7 x (nI (pre.length + (blk t).length)))
section C
variable {F : Nat}
theorem sh_step (hF : 20000 ≤ F) {σ : zS} {x Z i : Nat} {L : List BE} {S : List (Nat × Nat)} {W : List Int32} (h : SH σ x Z L) (hFR : FR σ S) (h907 : gi σ 907 = nI S.length) (hT : topO L S) (hS : S.length < 200) (hd : ∀ p, p ∈ S → p.2 ≤ 400) {b : BE} (hb : L[i]? = some b) (hk : b.1 ≤ 400) (hl : lnC σ x W) (hW : W.length + 20 < 2300) (hn : 10 ≤ b.2 → nmOk (lfN (b.2 - 10))) : ∃ σ', (∀ f, Pl_show_11 F (f + 1) σ x (nI i) = bv (Pl_endNodes_2 F F σ' x (nI 0)) (fun σ7 => Pl_show_11 F f σ7 x (nI (i + 1)))) ∧ FR σ' ((i, 0) :: S) ∧ gi σ' 907 = nI (S.length + 1) ∧ lnC σ' x (W ++ (seS (topS L S) ++ ((if wrS (stS (topS L S)) b = true then [40] else []) ++ ((if b.2 = 1 then [91] else []) ++ (if b.2 < 10 then [] else nmS (lfN (b.2 - 10))))))) ∧ frW x σ σ' := by
  obtain ⟨a1, a2, a3, a4, a5⟩ := sh_at h hb
  obtain ⟨hil, _⟩ := List.getElem?_eq_some_iff.mp hb
  have hL := h.2.2.2.2.1
  obtain ⟨σ1, e1, e2, e3⟩ := beginC (F := F) hF h hFR h907 hT (by omega) (fun p hp => by have := hd p hp; omega) hb (by omega) hl hW hn
  have g907 : gi σ1 907 = nI S.length := by rw [e3.1]; exact h907
  refine ⟨si (sa (sa σ1 58 S.length (nI i)) 59 S.length 0) 907 (nI (S.length + 1)), fun f => ?_, ⟨?_, ?_, FR_fr S (fun k hk => ?_) hFR⟩, by simp [zs], ⟨by simp only [zs]; exact e2.1, fun k v hv => by simp only [zs]; exact e2.2 k v hv⟩, frW_tr (frL_W e3) ⟨fun r hr => by simp [zs, hr], fun a q1 q2 => by simp [zs, q1, q2], fun a => by simp [zs], fun a => by simp [zs], fun a => by simp [zs], fun j _ => by simp [zs], fun a _ => by simp [zs], fun a => by simp [zs]⟩⟩
  · rw [Pl_show_11, Pl_show_b11, h.1, gd_t h.2.1, h.2.2.2.1, if_neg (nI_ge hil (by omega)), h907, if_neg (show ¬ (200 : Int32) ≤ nI S.length from nI_ge (b := 200) hS (by omega)), e1, bv_some, g907, gd_t (inb_nI (by omega) (by omega)), nI_clamp (by omega), nI_1, nI_1]
    rfl
  · simp [zs, up_at]
  · simp [zs, up_at]; rfl
  · simp only [zs, if_true, up_at, if_neg (show ¬ (58 : Nat) = 59 by decide)]
    rw [if_neg (by omega), if_neg (by omega), e3.2.1, e3.2.1]
    exact ⟨rfl, rfl⟩
theorem sh_hd {L pre post : List BE} {t : TE} {j k xh : Nat} {l : List BE} (hL : L = pre ++ (bmp (blk t) j ++ post)) (hb : blk t = (k, xh) :: l) : L[pre.length]? = some (k + j, xh) := by
  rw [hL, hb]
  simp [bmp]
/-- a whole type shown, and its frame gone -/
theorem sh_close (hF : 20000 ≤ F) {t : TE} (ht : sp t) (hP : shP F t) {σ : zS} {x Z : Nat} {L pre post : List BE} {S : List (Nat × Nat)} {W : List Int32} (hI : shI σ x Z L pre post t 0 S W) : ∃ σ' tn, tn + S.length ≤ 200 ∧ FR σ' (incS S) ∧ gi σ' 907 = nI S.length ∧ lnC σ' x (W ++ (seS (topS L S) ++ prS t (stS (topS L S)))) ∧ frW x σ σ' ∧ ∀ f, Pl_show_11 F (f + (blk t).length) σ x (nI pre.length) = bv (Pl_endNodes_2 F (F - tn) σ' x (nI tn)) (fun σ7 => Pl_show_11 F f σ7 x (nI (pre.length + (blk t).length))) := by
  obtain ⟨σ1, tn, k, xh, l, a1, a2, a3, a4, a5, a6, a7⟩ := hP x Z L pre post S 0 σ W (fun z => absurd z (by omega)) hI
  obtain ⟨i1, i2, i3, i4, i5, i6, i7, i8, i9, i10, i11⟩ := hI
  have h1 := SH_L i1 a6
  have hb := sh_hd i2 a1
  rw [Nat.add_zero] at hb a5
  have hbm : (k, xh) ∈ L := List.mem_of_getElem? hb
  obtain ⟨k', x', l', b1, b2, b3, b4, b5, b6⟩ := hd_blk t ht
  have e : k' = k ∧ x' = xh := by
    rw [a1] at b1
    simp at b1
    exact ⟨b1.1.1.symm, b1.1.2.symm⟩
  obtain ⟨e1, e2⟩ := e
  subst e1 e2
  have hst : stS (topS L S) ≤ 2 := by
    cases topS L S with
    | none => simp [stS]
    | some p =>
      show (if fx p.1.2 ≤ p.2 then 2 else if p.1.2 = 2 ∧ p.2 = 0 then 1 else 0) ≤ 2
      by_cases u : fx p.1.2 ≤ p.2
      · rw [if_pos u]; omega
      · rw [if_neg u]
        by_cases v : p.1.2 = 2 ∧ p.2 = 0
        · rw [if_pos v]; omega
        · rw [if_neg v]; omega
  have hk : k' ≤ 400 := i8 _ hbm
  have hfx := fx_le x'
  have hsl : (seS (topS L S)).length ≤ 2 := by
    cases topS L S with
    | none => simp [seS]
    | some p =>
      unfold seS
      dsimp only
      by_cases u : fx p.1.2 ≤ p.2
      · rw [if_pos u]; simp
      · rw [if_neg u]
        by_cases v : p.2 = 1
        · rw [if_pos v]; simp
        · rw [if_neg v]; simp
  have hbd := bdS_len t ht
  have hpl : (if wrS (stS (topS L S)) (k', x') = true then [40] else [] : List Int32).length ≤ 1 := by split <;> simp
  obtain ⟨σ2, c1, c2, c3, c4, c5⟩ := en_pop (F := F) h1 a3 a4 hb i5 (by omega) (fun p hp => by have := i7 p hp; omega) (by show k' + fx x' ≤ 1000; omega) (by show k' ≤ 1000; omega) rfl (fun z => (b2 z).1) (show tn < 200 by omega) a5 (by simp only [List.length_append]; omega)
  obtain ⟨F', hF'⟩ : ∃ F', F - tn = F' + 1 := ⟨F - tn - 1, by omega⟩
  refine ⟨σ2, tn + 1, by omega, c3, c4, ?_, frW_tr a6 c5, fun f => ?_⟩
  · rw [b6 _ hst]
    simp only [List.append_assoc] at c2 ⊢
    exact c2
  · rw [a7 f, hF', c1 F', show F - (tn + 1) = F' by omega]
theorem showT (hF : 20000 ≤ F) : ∀ t : TE, sp t → shP F t := by
  refine sp_ind ?_ ?_ ?_ ?_
  · -- a name
    intro c x Z L pre post S j σ W _ hI
    obtain ⟨i1, i2, i3, i4, i5, i6, i7, i8, i9, i10, i11⟩ := hI
    have e1 : (blk (.var c)).length = 1 := rfl
    rw [e1] at i11 ⊢
    have hb : L[pre.length]? = some (0 + j, 10 + c) := sh_hd i2 (show blk (.var c) = (0, 10 + c) :: [] from rfl)
    have hbm : (0 + j, 10 + c) ∈ L := List.mem_of_getElem? hb
    have hlen : pre.length < L.length := (List.getElem?_eq_some_iff.mp hb).1
    have hL := i1.2.2.2.2.1
    obtain ⟨σ1, a1, a2, a3, a4, a5⟩ := sh_step (F := F) hF i1 i3 i4 i5 (by omega) i7 hb (i8 _ hbm) i10 (by omega) (i9 _ hbm)
    refine ⟨σ1, 0, 0, 10 + c, [], rfl, by omega, by rw [fx_lf]; exact a2, a3, ?_, a5, fun f => by rw [a1 f]; rfl⟩
    rw [if_neg (show ¬ (0 + j, 10 + c).2 = 1 by show ¬ 10 + c = 1; omega), if_neg (show ¬ (0 + j, 10 + c).2 < 10 by show ¬ 10 + c < 10; omega), List.nil_append, show (0 + j, 10 + c).2 - 10 = c by show 10 + c - 10 = c; omega] at a4
    exact a4
  · -- an application
    intro f a hh hf ha pf pa x Z L pre post S j σ W _ hI
    obtain ⟨i1, i2, i3, i4, i5, i6, i7, i8, i9, i10, i11⟩ := hI
    have eb : blk (tO f a) = bmp (blk f) 1 ++ blk a := rfl
    have fne := (sp_fo f hf).2.1
    have el : (blk (tO f a)).length = (blk f).length + (blk a).length := by rw [eb, List.length_append, bmp_len]
    rw [el] at i11 ⊢
    have i2' : L = pre ++ (bmp (blk f) (1 + j) ++ (blk a ++ post)) := by
      rw [i2, eb, bmp_app (bmp_ne fne 1), bmp_bmp, List.append_assoc]
    obtain ⟨σ1, tn, k, xh, l, a1, a2, a3, a4, a5, a6, a7⟩ := pf x Z L pre (blk a ++ post) S (1 + j) σ W (fun _ => hh) ⟨i1, i2', i3, i4, i5, i6, i7, i8, i9, i10, by omega⟩
    have h1 := SH_L i1 a6
    have hb := sh_hd i2' a1
    have hbm : (k + (1 + j), xh) ∈ L := List.mem_of_getElem? hb
    have hkL : k + (1 + j) ≤ 400 := i8 _ hbm
    have hlen : pre.length < L.length := (List.getElem?_eq_some_iff.mp hb).1
    have hL := i1.2.2.2.2.1
    obtain ⟨k', x', l', b1, b2, b3, b4, b5, b6⟩ := hd_blk f hf
    have e : k' = k ∧ x' = xh := by
      rw [a1] at b1
      simp at b1
      exact ⟨b1.1.1.symm, b1.1.2.symm⟩
    obtain ⟨e1, e2⟩ := e
    subst e1 e2
    have hx1 : x' ≠ 1 := fun z => by have := (b2 z).2; rw [hh.2] at this; cases this
    have hx2 : x' ≠ 2 := fun z => by have := (b3 z).2; rw [hh.1] at this; cases this
    have hfx : fx x' = 0 := by unfold fx; rw [if_neg hx1, if_neg hx2]
    rw [hfx, Nat.add_zero] at a3
    obtain ⟨F', hF'⟩ : ∃ F', F - tn = F' + 1 := ⟨F - tn - 1, by omega⟩
    have ho := en_open (F := F) h1 a3 a4 hb (by omega) (by show k' ≤ 1000; omega) (by show k' + (1 + j) ≤ 1000; omega) (by show k' < k' + (1 + j) + fx x'; omega) (fun z => hx1 z.1) (show tn < 200 by omega) F'
    -- its last one
    have hpl : (pre ++ bmp (blk f) (1 + j)).length = pre.length + (blk f).length := by rw [List.length_append, bmp_len]
    have hfl : 0 < (blk f).length := List.length_pos_iff.mpr fne
    have hsl : (seS (topS L S)).length ≤ 2 := by
      cases topS L S with
      | none => simp [seS]
      | some p =>
        unfold seS
        dsimp only
        by_cases u : fx p.1.2 ≤ p.2
        · rw [if_pos u]; simp
        · rw [if_neg u]
          by_cases v : p.2 = 1
          · rw [if_pos v]; simp
          · rw [if_neg v]; simp
    have hbd := bdS_len f hf
    have hop : (if wrS (stS (topS L S)) (k' + (1 + j), x') = true then [40] else [] : List Int32).length ≤ 1 := by split <;> simp
    obtain ⟨σ2, tn2, c1, c2, c3, c4, c5, c6⟩ := sh_close (F := F) hF ha pa (σ := σ1) (x := x) (Z := Z) (L := L) (pre := pre ++ bmp (blk f) (1 + j)) (post := post) (S := (pre.length, k') :: S) ⟨h1, by rw [bmp_0, i2', List.append_assoc], a3, a4, fun p hp => by
      rcases List.mem_cons.mp hp with z | z
      · rw [z]; exact hlen
      · exact i5 p z, by rw [hpl, List.length_cons]; omega, fun p hp => by
      rcases List.mem_cons.mp hp with z | z
      · rw [z]; show k' ≤ 400; omega
      · exact i7 p z, i8, i9, a5, by simp only [List.length_append]; omega⟩
    have htop : topS L ((pre.length, k') :: S) = some ((k' + (1 + j), x'), k') := by
      show (L[pre.length]?).map _ = _
      rw [hb]; rfl
    have hst2 : stS (topS L ((pre.length, k') :: S)) = 2 := by
      rw [htop]
      show (if fx x' ≤ k' then 2 else _) = 2
      rw [if_pos (by omega)]
    have hse2 : seS (topS L ((pre.length, k') :: S)) = [32] := by
      rw [htop]
      show (if fx x' ≤ k' then [32] else _) = [32]
      rw [if_pos (by omega)]
    rw [hst2, hse2] at c4
    refine ⟨σ2, tn2, k' + 1, x', l ++ blk a, by rw [eb, a1]; rfl, by simp at c1; omega, by rw [hfx, Nat.add_zero]; exact c2, c3, ?_, frW_tr a6 c5, fun g => ?_⟩
    · rw [show k' + 1 + j = k' + (1 + j) by omega, show bdS (tO f a) = bdS f ++ (32 :: prS a 2) from rfl]
      simp only [List.append_assoc, List.cons_append, List.nil_append] at c4 ⊢
      exact c4
    · rw [show g + ((blk f).length + (blk a).length) = g + (blk a).length + (blk f).length by omega, a7, hF', ho, bv_some, ← hpl, c6 g, hpl, Nat.add_assoc]
  · -- an arrow
    intro u v hu hv pu pv x Z L pre post S j σ W hj hI
    have hj0 : j = 0 := by
      by_cases z : 0 < j
      · have := (hj z).1; cases this
      · omega
    subst hj0
    obtain ⟨i1, i2, i3, i4, i5, i6, i7, i8, i9, i10, i11⟩ := hI
    have eb : blk (tR u v) = (0, 2) :: (blk u ++ blk v) := rfl
    have el : (blk (tR u v)).length = (blk u).length + (blk v).length + 1 := by rw [eb]; simp
    rw [el] at i11 ⊢
    have hul : 0 < (blk u).length := List.length_pos_iff.mpr (sp_fo u hu).2.1
    rw [bmp_0, eb] at i2
    have hb : L[pre.length]? = some (0, 2) := by rw [i2]; simp
    have hbm : (0, 2) ∈ L := List.mem_of_getElem? hb
    have hlen : pre.length < L.length := (List.getElem?_eq_some_iff.mp hb).1
    have hL := i1.2.2.2.2.1
    have hLl : L.length = pre.length + (1 + ((blk u).length + (blk v).length) + post.length) := by rw [i2]; simp; omega
    obtain ⟨σ1, a1, a2, a3, a4, a5⟩ := sh_step (F := F) hF i1 i3 i4 i5 (by omega) i7 hb (by omega) i10 (by omega) (fun z => by omega)
    rw [if_neg (show ¬ ((0, 2) : BE).2 = 1 by decide), if_pos (show ((0, 2) : BE).2 < 10 by decide), List.append_nil, List.append_nil] at a4
    have h1 := SH_L i1 a5
    obtain ⟨F', hF'⟩ : ∃ F', F = F' + 1 := ⟨F - 1, by omega⟩
    have ho := en_open (F := F) h1 a2 a3 hb (by omega) (show 0 ≤ 1000 by omega) (by decide) (show 0 < 0 + fx 2 by decide) (show ¬ (2 = 1 ∧ 0 = 1) by omega) (show 0 < 200 by omega) F'
    rw [← hF'] at ho
    have hsl : (seS (topS L S)).length ≤ 2 := by
      cases topS L S with
      | none => simp [seS]
      | some p =>
        unfold seS
        dsimp only
        by_cases u : fx p.1.2 ≤ p.2
        · rw [if_pos u]; simp
        · rw [if_neg u]
          by_cases v : p.2 = 1
          · rw [if_pos v]; simp
          · rw [if_neg v]; simp
    have hop : (if wrS (stS (topS L S)) (0, 2) = true then [40] else [] : List Int32).length ≤ 1 := by split <;> simp
    have hTn : ∀ d, topO L ((pre.length, d) :: S) := fun d p hp => by
      rcases List.mem_cons.mp hp with z | z
      · rw [z]; exact hlen
      · exact i5 p z
    have hdn : ∀ d, d ≤ 400 → ∀ p, p ∈ (pre.length, d) :: S → p.2 ≤ 400 := fun d hd p hp => by
      rcases List.mem_cons.mp hp with z | z
      · rw [z]; exact hd
      · exact i7 p z
    -- the left side
    obtain ⟨σ2, t2, c1, c2, c3, c4, c5, c6⟩ := sh_close (F := F) hF hu pu (σ := σ1) (x := x) (Z := Z) (L := L) (pre := pre ++ [(0, 2)]) (post := blk v ++ post) (S := (pre.length, 0) :: S) ⟨h1, by rw [bmp_0, i2]; simp, a2, a3, hTn 0, by simp; omega, hdn 0 (by omega), i8, i9, a4, by simp only [List.length_append]; omega⟩
    have htop0 : topS L ((pre.length, 0) :: S) = some ((0, 2), 0) := by
      show (L[pre.length]?).map _ = _
      rw [hb]; rfl
    rw [htop0, show stS (some ((0, 2), 0)) = 1 from rfl, show seS (some ((0, 2), 0)) = [] from rfl, List.nil_append] at c4
    have h2 := SH_L h1 c5
    have c1' : t2 < 200 := by simp at c1; omega
    obtain ⟨F2, hF2⟩ : ∃ F2, F - t2 = F2 + 1 := ⟨F - t2 - 1, by omega⟩
    have ho2 := en_open (F := F) (p := (pre.length, 1)) (S := S) h2 c2 c3 hb (by omega) (show 1 ≤ 1000 by omega) (by decide) (show 1 < 0 + fx 2 by decide) (show ¬ (2 = 1 ∧ 1 = 1) by omega) c1' F2
    have hpl2 : (prS u 1).length + 1 ≤ 11 * (blk u).length := (prS_len u 1 hu).1
    -- the right side
    obtain ⟨σ3, t3, d1, d2, d3, d4, d5, d6⟩ := sh_close (F := F) hF hv pv (σ := σ2) (x := x) (Z := Z) (L := L) (pre := pre ++ (0, 2) :: blk u) (post := post) (S := (pre.length, 1) :: S) ⟨h2, by rw [bmp_0, i2]; simp, c2, c3, hTn 1, by simp; omega, hdn 1 (by omega), i8, i9, c4, by simp only [List.length_append]; omega⟩
    have htop1 : topS L ((pre.length, 1) :: S) = some ((0, 2), 1) := by
      show (L[pre.length]?).map _ = _
      rw [hb]; rfl
    rw [htop1, show stS (some ((0, 2), 1)) = 0 from rfl, show seS (some ((0, 2), 1)) = [45, 62] from rfl] at d4
    refine ⟨σ3, t3, 0, 2, blk u ++ blk v, rfl, by simp at d1; omega, d2, d3, ?_, frW_tr a5 (frW_tr c5 d5), fun g => ?_⟩
    · rw [show bdS (tR u v) = prS u 1 ++ (45 :: 62 :: prS v 0) from rfl]
      simp only [List.append_assoc, List.cons_append, List.nil_append, Nat.add_zero] at d4 ⊢
      exact d4
    · have q1 : (pre ++ [((0, 2) : BE)]).length = pre.length + 1 := by simp
      have q2 : (pre ++ (0, 2) :: blk u).length = pre.length + 1 + (blk u).length := by simp; omega
      rw [q1] at c6
      rw [q2] at d6
      rw [show g + ((blk u).length + (blk v).length + 1) = g + (blk v).length + (blk u).length + 1 by omega, a1, ho, bv_some, c6, hF2, ho2, bv_some, d6, show pre.length + 1 + (blk u).length + (blk v).length = pre.length + ((blk u).length + (blk v).length + 1) by omega]
  · -- a list
    intro p t ht pt x Z L pre post S j σ W hj hI
    have hj0 : j = 0 := by
      by_cases z : 0 < j
      · have := (hj z).2; cases this
      · omega
    subst hj0
    obtain ⟨i1, i2, i3, i4, i5, i6, i7, i8, i9, i10, i11⟩ := hI
    have eb : blk (tI p t) = (0, 1) :: blk t := rfl
    have el : (blk (tI p t)).length = (blk t).length + 1 := by rw [eb]; simp
    rw [el] at i11 ⊢
    rw [bmp_0, eb] at i2
    have htl : 0 < (blk t).length := List.length_pos_iff.mpr (sp_fo t ht).2.1
    have hb : L[pre.length]? = some (0, 1) := by rw [i2]; simp
    have hlen : pre.length < L.length := (List.getElem?_eq_some_iff.mp hb).1
    have hL := i1.2.2.2.2.1
    have hLl : L.length = pre.length + (1 + (blk t).length + post.length) := by rw [i2]; simp; omega
    obtain ⟨σ1, a1, a2, a3, a4, a5⟩ := sh_step (F := F) hF i1 i3 i4 i5 (by omega) i7 hb (by omega) i10 (by omega) (fun z => by omega)
    rw [if_pos (show ((0, 1) : BE).2 = 1 from rfl), if_pos (show ((0, 1) : BE).2 < 10 by decide), List.append_nil] at a4
    have h1 := SH_L i1 a5
    obtain ⟨F', hF'⟩ : ∃ F', F = F' + 1 := ⟨F - 1, by omega⟩
    have ho := en_open (F := F) h1 a2 a3 hb (by omega) (show 0 ≤ 1000 by omega) (by decide) (show 0 < 0 + fx 1 by decide) (show ¬ (1 = 1 ∧ 0 = 1) by omega) (show 0 < 200 by omega) F'
    rw [← hF'] at ho
    have hsl : (seS (topS L S)).length ≤ 2 := by
      cases topS L S with
      | none => simp [seS]
      | some p =>
        unfold seS
        dsimp only
        by_cases u : fx p.1.2 ≤ p.2
        · rw [if_pos u]; simp
        · rw [if_neg u]
          by_cases v : p.2 = 1
          · rw [if_pos v]; simp
          · rw [if_neg v]; simp
    have hop : (if wrS (stS (topS L S)) (0, 1) = true then [40] else [] : List Int32).length ≤ 1 := by split <;> simp
    obtain ⟨σ2, t2, c1, c2, c3, c4, c5, c6⟩ := sh_close (F := F) hF ht pt (σ := σ1) (x := x) (Z := Z) (L := L) (pre := pre ++ [(0, 1)]) (post := post) (S := (pre.length, 0) :: S) ⟨h1, by rw [bmp_0, i2]; simp, a2, a3, fun p hp => by
      rcases List.mem_cons.mp hp with z | z
      · rw [z]; exact hlen
      · exact i5 p z, by simp; omega, fun p hp => by
      rcases List.mem_cons.mp hp with z | z
      · rw [z]; exact Nat.zero_le _
      · exact i7 p z, i8, i9, a4, by simp only [List.length_append, List.length_cons, List.length_nil]; omega⟩
    have htop0 : topS L ((pre.length, 0) :: S) = some ((0, 1), 0) := by
      show (L[pre.length]?).map _ = _
      rw [hb]; rfl
    rw [htop0, show stS (some ((0, 1), 0)) = 0 from rfl, show seS (some ((0, 1), 0)) = [] from rfl, List.nil_append] at c4
    refine ⟨σ2, t2, 0, 1, blk t, rfl, by simp at c1; omega, c2, c3, ?_, frW_tr a5 c5, fun g => ?_⟩
    · rw [show bdS (tI p t) = 91 :: prS t 0 from rfl]
      simp only [List.append_assoc, List.cons_append, List.nil_append, Nat.add_zero] at c4 ⊢
      exact c4
    · have q1 : (pre ++ [((0, 1) : BE)]).length = pre.length + 1 := by simp
      rw [q1] at c6
      rw [show g + ((blk t).length + 1) = g + (blk t).length + 1 by omega, a1, ho, bv_some, c6, show pre.length + 1 + (blk t).length = pre.length + ((blk t).length + 1) by omega]
end C
