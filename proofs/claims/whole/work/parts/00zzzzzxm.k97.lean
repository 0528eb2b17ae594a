/-! A type that was asked, its synonyms replaced, shown: both. Own text. -/
/-- the rows of the class's Plainer -/
def RWs (σ : zS) : Prop := isP (gr σ 901) ∧ isP (gr σ 902) ∧ isP (gr σ 903) ∧ gr σ 901 ≠ gr σ 902 ∧ gr σ 901 ≠ gr σ 903 ∧ gr σ 902 ≠ gr σ 903
/-- a row that has no synonym any more, in both -/
def RP (σ τ : zS) (L : List BE) : Prop := L.length ≤ 200 ∧ mi σ (100 * gr σ 901 + 4) = nI L.length ∧ cRw σ (gr σ 901) 0 L ∧ mRw τ 59 0 (it L) ∧ ∃ t, blk t = L ∧ sp t ∧ (∀ c, c ∈ lvs t → gdc c) ∧ ∀ b, b ∈ L → b.1 ≤ 400
section P
variable {F : Nat} {σ τ : zS} {D : Nat} {G : SG}
theorem sp_lvs : ∀ t, sp t → ∀ c, c ∈ lvs t → ∃ b, b ∈ blk t ∧ b.2 = 10 + c := by
  refine sp_ind ?_ ?_ ?_ ?_
  · intro c c' hc
    rw [List.mem_singleton.mp hc]
    exact ⟨(0, 10 + c), List.mem_singleton.mpr rfl, rfl⟩
  · intro f a _ _ _ hf ha c hc
    rcases List.mem_append.mp hc with z | z
    · obtain ⟨b, b1, b2⟩ := hf c z
      have : ∀ l : List BE, b ∈ l → ∃ b', b' ∈ bmp l 1 ∧ b'.2 = b.2 := by
        intro l hl
        cases l with
        | nil => cases hl
        | cons d l =>
          rcases List.mem_cons.mp hl with w | w
          · exact ⟨(d.1 + 1, d.2), List.mem_cons_self, by rw [w]⟩
          · exact ⟨b, List.mem_cons_of_mem _ w, rfl⟩
      obtain ⟨b', c1, c2⟩ := this _ b1
      exact ⟨b', List.mem_append_left _ c1, c2.trans b2⟩
    · obtain ⟨b, b1, b2⟩ := ha c z
      exact ⟨b, List.mem_append_right _ b1, b2⟩
  · intro l r _ _ hl hr c hc
    rcases List.mem_append.mp hc with z | z
    · obtain ⟨b, b1, b2⟩ := hl c z
      exact ⟨b, List.mem_cons_of_mem _ (List.mem_append_left _ b1), b2⟩
    · obtain ⟨b, b1, b2⟩ := hr c z
      exact ⟨b, List.mem_cons_of_mem _ (List.mem_append_right _ b1), b2⟩
  · intro p t _ ht c hc
    obtain ⟨b, b1, b2⟩ := ht c hc
    exact ⟨b, List.mem_cons_of_mem _ b1, b2⟩
theorem mem_it_le {b : BE} : ∀ l : List BE, b ∈ l → b.1 ≤ (it l).length
  | [], h => by cases h
  | c :: l, h => by
    rw [it, List.length_append]
    rcases List.mem_cons.mp h with z | z
    · rw [z]; unfold itB; simp; omega
    · have := mem_it_le l z; omega
/-- all synonyms of a term replaced -/
theorem plain_go (hF : 200000 ≤ F) (hdc : dcN σ τ D) (hS : SYN σ τ D G) (hRW : RWs σ) {j T s0 nn lo hi : Nat} {o : Int32} {t : TE} {As : List AE} (ok : okT t) (hrw : rwL σ 11 s0 (hdT t :: tlT t)) (hnd : nd τ o (-1) lo hi t nn As) (hhi : hi ≤ 1000) (hs0 : s0 + lnT t ≤ 200) (hj : j < T) (hT : T ≤ 200) (h7 : mi σ 1107 = nI T) (h70 : ma σ 70 j = nI s0) (hen : (j + 1 = T ∧ mi σ 1104 = nI (s0 + lnT t)) ∨ (j + 1 < T ∧ ma σ 70 (j + 1) = nI (s0 + lnT t))) {lk : Nat → IT} {κ : IT} (hlk : ∀ c, lfB c = 0 → lk c = kT σ D G (lfN c)) (hWT : WT lk t κ) (hob : ∀ b, b ∈ blk t → okb σ D b) : ∃ b σ' τ', Pl_replaceAll F σ 11 (nI j) = some (b, σ') ∧ Md_isPlain F τ (nI nn) = some (b, τ') ∧ frPl (gr σ 903) σ σ' ∧ RWs σ' ∧ sx [95, 96, 97] [53, 59, 60, 61] τ τ' ∧ (b = 0 ∨ (b = 1 ∧ ∃ L, RP σ' τ' L)) := by
  obtain ⟨r1, r2, r3, r4, r5, r6⟩ := hRW
  have hKW := KW_t lk t ok κ hWT
  have hfo := KW_fo lk _ _ hKW
  have hfl := (fo_len _ _ hfo).1
  have hlb := blk_len t ok
  simp only [List.length_cons, List.length_nil] at hfl
  -- the class
  obtain ⟨Z, hZ⟩ : ∃ Z, Z = gr σ 901 := ⟨_, rfl⟩
  obtain ⟨Y, hY⟩ : ∃ Y, Y = gr σ 902 := ⟨_, rfl⟩
  obtain ⟨W, hW⟩ : ∃ W, W = gr σ 903 := ⟨_, rfl⟩
  rw [← hZ] at r1 r4 r5
  rw [← hY] at r2 r4 r6
  rw [← hW] at r3 r5 r6 ⊢
  have rZ := isP_row r1
  obtain ⟨σ1, hσ1⟩ : ∃ s, s = si (ti (ti σ (100 * Z + 4) 0) (100 * Z + 7) 0) 908 1 := ⟨_, rfl⟩
  have z11 : (11 : Nat) ≠ Z := by unfold isP at r1; omega
  have f1 : frRo Z σ σ1 := by
    rw [hσ1]
    exact ⟨fun r hr => by simp [zs, hr], fun a => by simp [zs], fun b => by simp [zs], fun a => by simp [zs], fun a => by simp [zs], fun j h1 h2 => by simp [zs, h1, h2], fun a _ _ _ => by simp [zs], fun b _ => by simp [zs]⟩
  have N1 : NX σ1 Z [] := Or.inl ⟨by simp, by rw [hσ1]; simp [zs], by rw [hσ1]; simp [zs]; rfl, trivial⟩
  have hc1 : cRw σ1 11 s0 (blk t) := cRw_o (by decide) rZ z11 f1 (cRw_blk t ok hrw)
  obtain ⟨σ2, c1, c2, c3⟩ := copyC (F := F) (X := 11) (Y := Z) (l := blk t) (L := []) (i := s0) (e := s0 + lnT t) (by omega) (by decide) rZ z11 hc1 (by rw [hlb]) (by omega) N1
  rw [List.nil_append] at c2
  have f2 : frRo Z σ σ2 := frRo_tr f1 c3
  have hPR : PR σ2 Z Y (blk t) := by
    rcases c2 with ⟨u1, u2, u3, u4⟩ | ⟨u1, _⟩
    · exact ⟨by rw [f2.2.2.2.2.1]; exact hZ.symm, by rw [f2.2.2.2.2.1]; exact hY.symm, u1, u2, u3, u4⟩
    · omega
  have eC : Pl_replaceAll F σ 11 (nI j) = Pl_replaceAll_40 F F σ2 0 0 0 := by
    have g7 : mi σ1 1107 = nI T := by rw [f1.2.2.2.2.2.1 1107 (by unfold isP at r1; omega) (by unfold isP at r1; omega)]; exact h7
    have g4 : mi σ1 1104 = mi σ 1104 := f1.2.2.2.2.2.1 1104 (by unfold isP at r1; omega) (by unfold isP at r1; omega)
    have g70 : ma σ1 70 = ma σ 70 := f1.2.2.2.2.2.2.1 70 (by unfold isP at r1; unfold rA; omega) (by unfold isP at r1; unfold rA; omega) (by unfold isP at r1; unfold rA; omega)
    have hte : Ro_termEnd F σ1 11 (nI j) = some (nI (s0 + lnT t), σ1) := by
      rw [Ro_termEnd, gd_t (by decide), show mi σ1 (100 * 11 + 7) = nI T from g7, nI_1]
      rcases hen with ⟨w1, w2⟩ | ⟨w1, w2⟩
      · rw [if_pos (nI_le (by omega) (by omega)), show mi σ1 (100 * 11 + 4) = mi σ 1104 from g4, w2]; rfl
      · rw [if_neg (nI_ge (by omega) (by omega)), gd_t (inb_nI (by omega) (by omega)), nI_clamp (by omega), show ma σ1 (rA 11 4) = ma σ 70 from g70, w2]; rfl
    have gr1 : gr σ1 901 = Z := by rw [f1.2.2.2.2.1]; exact hZ.symm
    have e70 : ma (ti (ti σ (100 * Z + 4) 0) (100 * Z + 7) 0) (rA 11 4) j = nI s0 := h70
    rw [Pl_replaceAll, ← hZ, gd_t rZ, Ro_clear, gd_t rZ, bv_some, gd_t (by decide), gd_t (inb_nI (by omega) (by omega)), ← hσ1, hte, bi_some, nI_clamp (by omega), e70, gr1, c1, bv_some]
  -- the reference
  obtain ⟨τ1, d1, d2, d3⟩ := layM (F := F) (A := 59) (by omega) (Or.inl rfl) hhi ok hnd (by omega)
  have s2 : sx [95, 96, 97] [53, 59, 60, 61] τ (si τ1 95 (nI (it (blk t)).length)) := sx_si (sx_mono (by simp) (by simp) d2) (by simp) _
  have eM : Md_isPlain F τ (nI nn) = Md_isPlain_17 F F (si τ1 95 (nI (it (blk t)).length)) 0 0 := by
    rw [Md_isPlain, d1, bi_some]
  have hRB : RB σ D lk κ σ2 (si τ1 95 (nI (it (blk t)).length)) Z Y ([] ++ blk t) := ⟨hPR, by simp [zs], mRw_fr (τ := τ1) (by simp [zs]) (by simp [zs]) _ 0 0 (fun j _ => by simp [zs]) d3, hob, hKW⟩
  obtain ⟨b, σ', τ', e1, e2, e3, e4, ⟨Z', Y', q1, q2, q3, q4, q5, q6, q7⟩, e5⟩ := pl_loop (F := F) (σ0 := σ) (τ0 := τ) (D := D) (G := G) (lk := lk) (κ := κ) (W := W) hF hdc hS hlk r3 300 0 (by omega) σ2 (si τ1 95 (nI (it (blk t)).length)) [] (blk t) Z Y F F r1 r2 r4 r5 r6 (frPl_ro r3 r1 r5 f2) s2 hRB (fun b hb => by cases hb) (by omega) (by omega)
  have g903 : gr σ' 903 = W := by rw [e3.2.2.2.2.1 903 (by decide) (by decide)]; exact hW.symm
  refine ⟨b, σ', τ', by rw [eC]; exact e1, by rw [eM]; exact e2, e3, ⟨by rw [q1]; exact q3, by rw [q2]; exact q4, by rw [g903]; exact r3, by rw [q1, q2]; exact q5, by rw [q1, g903]; exact q6, by rw [q2, g903]; exact q7⟩, e4, ?_⟩
  rcases e5 with z | ⟨z, Z2, Y2, L, p1, p2, p3, p4, p5, p6⟩
  · exact Or.inl z
  · refine Or.inr ⟨z, L, p2.2.2.1, by rw [p2.1]; exact p2.2.2.2.2.1, by rw [p2.1]; exact p2.2.2.2.2.2, p4, ?_⟩
    obtain ⟨ts, t1, t2, t3⟩ := KW_tree lk L [κ] (fun b hb => (p5 b hb).1) p6
    have hfo2 := (fo_len _ _ (KW_fo lk _ _ p6)).1
    have hL2 := p2.2.2.1
    cases ts with
    | nil => simp at t2
    | cons t' ts =>
      cases ts with
      | cons _ _ => simp at t2
      | nil =>
        have et : L = blk t' := by rw [t1]; show blk t' ++ [] = _; rw [List.append_nil]
        have st := t3 t' List.mem_cons_self
        refine ⟨t', et.symm, st, fun c hc => ?_, fun b hb => ?_⟩
        · obtain ⟨b, b1, b2⟩ := sp_lvs t' st c hc
          have := (p5 b (by rw [et]; exact b1)).2.2 (by omega)
          rw [b2, Nat.add_sub_cancel_left] at this
          exact this
        · have := mem_it_le L hb
          omega
/-- the class shows the row -/
theorem show_go (hF : 20000 ≤ F) (hRW : RWs σ) {L : List BE} (hRP : RP σ τ L) {x : Nat} (hx : isLine x = true) {t : TE} (et : blk t = L) (st : sp t) (gt : ∀ c, c ∈ lvs t → gdc c) : ∃ σ', Pl_show F σ x = some σ' ∧ lnC σ' x (prS t 0) ∧ frW x σ σ' := by
  obtain ⟨h1, h2, h3, h4, _, _, _, _, h5⟩ := hRP
  have rZ := isP_row hRW.1
  obtain ⟨c1, c2⟩ := lnC_clear (F := F) (σ := σ) hx
  obtain ⟨σ1, hσ1⟩ : ∃ s, s = si (ti σ (100 * x + 1) 0) 907 0 := ⟨_, rfl⟩
  have f1 : frW x σ σ1 := by
    rw [hσ1]
    exact ⟨fun r hr => by simp [zs, hr], fun a _ _ => by simp [zs], fun a => by simp [zs], fun a => by simp [zs], fun a => by simp [zs], fun j hj => by simp [zs, hj], fun a _ => by simp [zs], fun a => by simp [zs]⟩
  have hSH : SH σ x (gr σ 901) L := ⟨rfl, rZ, hx, h2, h1, h3, fun b hb => (sp_fo t st).2.2 b (by rw [et]; exact hb)⟩
  have hl1 : lnC σ1 x [] := ⟨by rw [hσ1]; exact c2.1, fun i v hv => by simp at hv⟩
  have hnm : ∀ b, b ∈ L → 10 ≤ b.2 → nmOk (lfN (b.2 - 10)) := by
    intro b hb h10
    have ex : ∀ t, sp t → ∀ b, b ∈ blk t → 10 ≤ b.2 → b.2 - 10 ∈ lvs t := by
      refine sp_ind ?_ ?_ ?_ ?_
      · intro c b hb _
        rw [List.mem_singleton.mp hb]
        show 10 + c - 10 ∈ [c]
        rw [Nat.add_sub_cancel_left]; exact List.mem_singleton.mpr rfl
      · intro f a _ _ _ hf ha b hb h
        rcases List.mem_append.mp hb with z | z
        · obtain ⟨b', w1, w2⟩ := mem_bmp z
          exact List.mem_append_left _ (by rw [← w2]; exact hf b' w1 (by omega))
        · exact List.mem_append_right _ (ha b z h)
      · intro l r _ _ hl hr b hb h
        rcases List.mem_cons.mp hb with z | z
        · rw [z] at h; exact absurd h (by decide)
        · rcases List.mem_append.mp z with w | w
          · exact List.mem_append_left _ (hl b w h)
          · exact List.mem_append_right _ (hr b w h)
      · intro p t _ ht b hb h
        rcases List.mem_cons.mp hb with z | z
        · rw [z] at h; exact absurd h (by decide)
        · exact ht b z h
    exact (gdc_nm (gt _ (ex t st b (by rw [et]; exact hb) h10))).1
  obtain ⟨σ2, tn, a1, a2, a3, a4, a5, a6⟩ := sh_close (F := F) hF st (showT hF t st) (σ := σ1) (x := x) (Z := gr σ 901) (L := L) (pre := []) (post := []) (S := []) (W := []) ⟨SH_L hSH f1, by rw [bmp_0, et, List.append_nil]; rfl, trivial, by rw [hσ1]; simp [zs]; rfl, (fun p hp => by cases hp), Nat.le_refl _, (fun p hp => by cases hp), h5, hnm, hl1, by rw [et]; simp; omega⟩
  have hLn : (blk t).length = L.length := by rw [et]
  obtain ⟨F', hF'⟩ : ∃ F', F = F' + 1 + (blk t).length := ⟨F - 1 - (blk t).length, by omega⟩
  refine ⟨σ2, ?_, a4, frW_tr f1 a5⟩
  have h2b := SH_L hSH (frW_tr f1 a5)
  obtain ⟨F2, hF2⟩ : ∃ F2, F - tn = F2 + 1 := ⟨F - tn - 1, by simp at a1; omega⟩
  have hend : Pl_endNodes_2 F (F - tn) σ2 x (nI tn) = some σ2 := by
    rw [hF2, Pl_endNodes_2, Pl_endNodes_b2]
    by_cases w : (200 : Int32) ≤ nI tn
    · rw [if_pos w]; rfl
    · rw [if_neg w, a3, if_pos (by decide)]; rfl
  rw [Pl_show, gd_t hx, c1, bv_some, ← hσ1, show Pl_show_11 F F = Pl_show_11 F (F' + 1 + (blk t).length) by rw [← hF']]
  have e0 := a6 (F' + 1)
  rw [List.length_nil, Nat.zero_add] at e0
  show Pl_show_11 F (F' + 1 + (blk t).length) σ1 x (nI 0) = _
  rw [e0, hend, bv_some, Pl_show_11, Pl_show_b11, h2b.1, gd_t h2b.2.1, h2b.2.2.2.1, if_pos (nI_le (by omega) (by omega))]
  rfl
end P
