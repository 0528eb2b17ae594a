/-! Synonyms of a text, blocks of a type. Own text. -/
theorem okT_gd : ∀ t, okT t → ∀ c, c ∈ lvs t → gdc c
  | .var c, h, c', hc => by rw [List.mem_singleton.mp hc]; exact h.2
  | .op (.op (.var 0) f) a, h, c, hc => by
    rcases List.mem_append.mp hc with z | z
    · exact okT_gd f h.1 c z
    · exact okT_gd a h.2 c z
  | .op (.op (.var 1) l) r, h, c, hc => by
    rcases List.mem_append.mp hc with z | z
    · exact okT_gd l h.1 c z
    · exact okT_gd r h.2 c z
  | .op (.op (.var 2) (.var _)) t, h, c, hc => okT_gd t h c hc
  | .op (.op (.var 3) (.var _)) t, h, c, hc => okT_gd t h c hc
/-- the synonyms of a text, their nodes below N -/
def SYQ (σ τ : zS) (D : Nat) (G : SG) (N : Nat) : Prop := ∀ y, y < D → ga σ 29 y = 1 → ∃ q t nn As pr me lo hi pks r fv, ga σ 32 y = nI q ∧ q ≤ 3 ∧ (∀ i j, i < j → j < q → gb σ 33 (3 * y + i) ≠ gb σ 33 (3 * y + j)) ∧ okT t ∧ RY σ y (blk t) ∧ nd τ pr me lo hi t nn As ∧ hi ≤ N ∧ ga τ 41 y = nI nn ∧ (it (blk t)).length ≤ 400 ∧ List.length pks = q ∧ gT G (ga σ 40 y).toNatClampNeg = arr pks r ∧ WT (lkQ σ D G fv) t r ∧ (∀ v j, fPa σ y v q 0 = nI j → j < q → pks[j]? = some (fv v)) ∧ (∀ c, c ∈ lvs t → lfB c ≠ 0 → fPa σ y (lfN c) q 0 ≠ -1) ∧ ∀ b, b ∈ blk t → okb σ D b
theorem SYQ_SYN {σ τ : zS} {D N : Nat} {G : SG} (h : SYQ σ τ D G N) (hN : N ≤ 1000) : SYN σ τ D G := by
  intro y hy h29
  obtain ⟨q, t, nn, As, pr, me, lo, hi, pks, r, fv, a1, a2, a3, a4, a5, a6, a7, a8⟩ := h y hy h29
  exact ⟨q, t, nn, As, pr, me, lo, hi, pks, r, fv, a1, a2, a3, a4, a5, a6, by omega, a8⟩
theorem okb_cg {σ σ' : zS} {D : Nat} {b : BE} (h1 : ∀ a, a = 29 ∨ a = 32 ∨ a = 40 → ga σ' a = ga σ a) (h2 : ∀ b, b = 30 ∨ b = 33 → gb σ' b = gb σ b) (h : okb σ D b) : okb σ' D b := by
  obtain ⟨a1, a2, a3⟩ := h
  refine ⟨a1, fun y hy => ?_, a3⟩
  obtain ⟨y1, y2, y3, y4, y5⟩ := hy
  rw [fTy_cg (h1 29 (by simp)) (h2 30 (by simp))] at y4
  rw [h1 29 (by simp)] at y5
  rw [h1 32 (by simp)]
  exact a2 y ⟨y1, y2, y3, y4, y5⟩
theorem kT_G {σ : zS} {D : Nat} {G G' : SG} (hG : ∀ y, y < D → gT G' (ga σ 40 y).toNatClampNeg = gT G (ga σ 40 y).toNatClampNeg) (hD : D ≤ 16) (v : Int64) : kT σ D G' v = kT σ D G v := by
  unfold kT
  rcases fTy_rng σ v D 0 with z | ⟨j, _, j1, j2, _⟩
  · rw [if_pos z, if_pos z]
  · rw [j2, nI_clamp (by omega), hG j (by omega)]
theorem SYQ_cg {σ τ σ' τ' : zS} {D N : Nat} {G G' : SG} (h : SYQ σ τ D G N) (hD : D ≤ 16) (hG : ∀ y, y < D → gT G' (ga σ 40 y).toNatClampNeg = gT G (ga σ 40 y).toNatClampNeg) (h1 : ∀ a, a = 29 ∨ a = 32 ∨ a = 40 → ga σ' a = ga σ a) (h2 : ∀ b, b = 30 ∨ b = 33 → gb σ' b = gb σ b) (h3 : ∀ j, j = 1007 ∨ j = 1004 → mi σ' j = mi σ j) (h4 : ∀ a, 60 ≤ a → a < 66 → ma σ' a = ma σ a) (h5 : mb σ' 61 = mb σ 61) (t1 : ∀ i, i < N → ga τ' 2 i = ga τ 2 i ∧ gb τ' 3 i = gb τ 3 i ∧ ga τ' 4 i = ga τ 4 i ∧ ga τ' 5 i = ga τ 5 i) (t2 : ga τ' 41 = ga τ 41) : SYQ σ' τ' D G' N := by
  intro y hy h29
  rw [h1 29 (by simp)] at h29
  obtain ⟨q, t, nn, As, pr, me, lo, hi, pks, r, fv, a1, a2, a3, a4, a5, a6, a7, a8, a9, a10, a11, a12, a13, a14, a15⟩ := h y hy h29
  have hk : ∀ v, kT σ' D G' v = kT σ D G v := fun v => by
    rw [kT_cg (h1 29 (by simp)) (h1 40 (by simp)) (h2 30 (by simp)), kT_G hG hD]
  have hlk : lkQ σ' D G' fv = lkQ σ D G fv := by
    funext c
    unfold lkQ
    rw [hk]
  refine ⟨q, t, nn, As, pr, me, lo, hi, pks, r, fv, by rw [h1 32 (by simp)]; exact a1, a2, by rw [h2 33 (by simp)]; exact a3, a4, RY_cg h3 h4 h5 a5, nd_mono (τ := τ) (Nat.le_refl _) (Nat.le_refl _) (fun i _ hi => t1 i (by omega)) t nn As a6, a7, by rw [t2]; exact a8, a9, a10, ?_, by rw [hlk]; exact a12, fun v j hv => ?_, fun c hc hb => ?_, fun b hb => okb_cg h1 h2 (a15 b hb)⟩
  · rw [h1 40 (by simp), hG y hy]; exact a11
  · rw [fPa_cg (h2 33 (by simp))] at hv; exact a13 v j hv
  · rw [fPa_cg (h2 33 (by simp))]; exact a14 c hc hb
section S
variable {F : Nat} {σ τ : zS} {D M N : Nat} {G : SG} {TL : List TR}
/-- the blocks of a type whose names have the ones that they take -/
theorem okb_t {t : TE} (hdc : dcN σ τ D) (ok : okT t) (hv : ∀ e, e ∈ hdT t :: tlT t → e.1 = 2 → ∃ i v, i < M ∧ ga σ 43 i = 5 ∧ gb σ 44 i = e.2.1 ∧ ga σ 47 i = nI v ∧ v ≤ e.2.2.1) (htk : ∀ i, i < M → tkO σ D i) (hl : lnT t ≤ 200) (hfo : fo (blk t) 1) : ∀ b, b ∈ blk t → okb σ D b := by
  intro b hb
  have hD := hdc.2.2.1
  obtain ⟨b0, l, e1, e2, e3⟩ := blk_hd t ok
  have hmap : (blk t).map cEn = (hdT t :: tlT t).map dropS := by rw [e1, List.map_cons, List.map_cons, e2, e3]
  have hlv := blk_lvs t ok b hb
  have hx : okx b := by
    rcases hlv with z | z | ⟨z, _⟩
    · exact Or.inl z
    · exact Or.inr (Or.inl z)
    · exact Or.inr (Or.inr z)
  refine ⟨hx, fun y hy => ?_, fun h10 => ?_⟩
  · obtain ⟨y1, y2, y3, y4, y5⟩ := hy
    have hm : cEn b ∈ (hdT t :: tlT t).map dropS := by rw [← hmap]; exact List.mem_map.mpr ⟨b, hb, rfl⟩
    obtain ⟨e, em, ee⟩ := List.mem_map.mp hm
    have hcb : cEn b = (2, lfN (b.2 - 10), b.1) := by
      obtain ⟨k, x⟩ := b
      have : x = 10 + (x - 10) := by have : 10 ≤ x := y2; omega
      show cEn (k, x) = (2, lfN (x - 10), k)
      rw [this, cEn_lf, Nat.add_sub_cancel_left, if_pos (by have := y3; exact this)]
    rw [hcb] at ee
    have ee1 : e.1 = 2 := congrArg (fun q => q.1) ee
    have ee2 : e.2.1 = lfN (b.2 - 10) := congrArg (fun q => q.2.1) ee
    have ee3 : e.2.2.1 = b.1 := congrArg (fun q => q.2.2) ee
    obtain ⟨i, v, i1, i2, i3, i4, i5⟩ := hv e em ee1
    obtain ⟨so, q, d1, d2, d3, d4, d5, d6, d7, d8, d9⟩ := hdc.2.2.2 y y1
    refine ⟨q, d7, d2, ?_⟩
    have hle := htk i i1 i2 y y1 (by rw [i3, ee2]; exact y4) y5
    rw [d7, i4] at hle
    have hbk : b.1 ≤ (it (blk t)).length := by
      have : ∀ l : List BE, b ∈ l → b.1 ≤ (it l).length := by
        intro l
        induction l with
        | nil => intro h; cases h
        | cons c l ihl =>
          intro h
          rw [it, List.length_append]
          rcases List.mem_cons.mp h with z | z
          · rw [z]; unfold itB; simp; omega
          · have := ihl z; omega
      exact this _ hb
    have hfl := (fo_len _ _ hfo).1
    rw [blk_len t ok] at hfl
    have := (nI_leI (a := q) (b := v) (by omega) (by omega)).mp hle
    omega
  · rcases hlv with z | z | ⟨z, w⟩
    · omega
    · omega
    · exact okT_gd t ok _ w
theorem cTL_at {L1 L2 : List TR} {o nn : Nat} {t : TE} {As : List AE} {me : Int32} (h : cTL σ M 0 0 (L1 ++ (o, t, nn, As, me) :: L2)) : ma σ 65 L1.length = nI o ∧ ma σ 64 L1.length = nI (lenT L1) ∧ okT t ∧ rwL σ 10 (lenT L1) (hdT t :: tlT t) ∧ lfM σ M o t ∧ (∀ e L3, L2 = e :: L3 → ma σ 64 (L1.length + 1) = nI (lenT L1 + lnT t)) := by
  rw [cTL_app, Nat.zero_add, Nat.zero_add] at h
  obtain ⟨_, ⟨⟨a1, a2, a3, a4, a5⟩, a6⟩⟩ := h
  refine ⟨a1, a2, a3, a4, a5, fun e L3 z => ?_⟩
  subst z
  obtain ⟨o', t', nn', As', me'⟩ := e
  exact a6.1.2.1
theorem cTL_ow {y : Nat} : ∀ (l : List TR) (j s lo : Nat), cTL σ M j s l → soL y lo l → y ≤ 16 → ∀ T, j ≤ T → T < j + l.length → ma σ 65 T ≠ nI y
  | [], j, s, lo, _, _, _, T, h1, h2 => by simp at h2; omega
  | (o, t, nn, As, me) :: l, j, s, lo, hc, hs, hy, T, h1, h2 => by
    obtain ⟨⟨a1, _⟩, a6⟩ := hc
    by_cases e : T = j
    · rw [e, a1]
      intro z
      have := hs.2.1
      have := (nI_eq (a := o) (b := y) (by omega) (by omega)).mp z
      omega
    · exact cTL_ow l (j + 1) _ o a6 hs.2.2 hy T (by omega) (by simp at h2; omega)
theorem mTL_at : ∀ (l : List TR) (a mc : Nat) (o nn : Nat) (t : TE) (As : List AE) (me : Int32), mTL τ N a mc l → (o, t, nn, As, me) ∈ l → nd τ (nI o) me 0 N t nn As ∧ (ga τ 33 o = 1 → ga τ 41 o = nI nn)
  | [], a, mc, o, nn, t, As, me, _, h => by cases h
  | (o', t', nn', As', me') :: l, a, mc, o, nn, t, As, me, hc, h => by
    obtain ⟨⟨a1, a2, a3, a4, a5⟩, a6⟩ := hc
    rcases List.mem_cons.mp h with z | z
    · cases z; exact ⟨a1, a3⟩
    · exact mTL_at l _ _ o nn t As me a6 z
theorem syn_of (hTS : TS σ τ D M N TL) (hSY : SY τ D TL) (hW : WKD σ D G TL (fun y => decide (y < D))) (hP : PDs σ D) (htk : ∀ i, i < M → tkO σ D i) : SYQ σ τ D G N := by
  obtain ⟨⟨a1, a2, a3⟩, ⟨b1, b2⟩, ⟨c1, c2⟩, d1, e1, ⟨f1, f2, f3, f4, f5, f6, f7⟩, ⟨g1, g2, g3, g4, g5, g6, g7⟩, ⟨i1, i2⟩, ⟨j1, j2⟩, k1⟩ := hTS
  have hD := a2.2.1
  intro y hy h29
  obtain ⟨so, q, d1', d2, d3, d4, d5, d6, d7, d8, d9⟩ := a1.2.2.2 y hy
  have h33 : ga τ 33 y = 1 := by rw [d4, ← d3]; exact h29
  obtain ⟨L1, t, nn, As, me, L2, eL, sL⟩ := hSY y hy h33
  have hmem : (y, t, nn, As, me) ∈ TL := by rw [eL]; exact List.mem_append_right _ List.mem_cons_self
  have f1' := f1
  rw [eL] at f1'
  obtain ⟨m1, m2, m3, m4, m5, m6⟩ := cTL_at f1'
  have hL1 : cTL σ M 0 0 L1 := ((cTL_app σ M L1 _ 0 0).mp f1').1
  obtain ⟨n1, n2⟩ := mTL_at TL 0 0 y nn t As me g1 hmem
  obtain ⟨x1, pks, r, fv, x2, x3, x4, x5⟩ := hW y t nn As me hmem (decide_eq_true hy) h29
  have eq : qN σ y = q := by unfold qN; rw [d7, nI_clamp (by omega)]
  rw [eq] at x2 x5
  have hfo := KW_fo _ _ _ (KW_t (lkQ σ D G fv) t m3 r x4)
  have hll : lenT TL = lenT L1 + (lnT t + lenT L2) := by rw [eL, lenT_app]; rfl
  have hTl : TL.length = L1.length + (L2.length + 1) := by rw [eL]; simp
  have hlb := blk_len t m3
  have hfl := (fo_len _ _ hfo).1
  simp only [List.length_cons, List.length_nil] at hfl
  refine ⟨q, t, nn, As, nI y, me, 0, N, pks, r, fv, d7, d2, hP y hy q d7 d2, m3, ⟨L1.length, lenT L1, TL.length, f2, by omega, f5, m2, m1, fun T hT => cTL_ow L1 0 0 0 hL1 sL (by omega) T (Nat.zero_le _) (by omega), ?_, cRw_blk t m3 m4, by omega⟩, n1, Nat.le_refl _, n2 h33, by omega, x2, x3, x4, x5, fun c hc hb => ?_, okb_t a1 m3 m5.2 htk (by omega) hfo⟩
  · cases hL2 : L2 with
    | nil =>
      left
      rw [hL2] at hll hTl
      refine ⟨by simp at hTl; omega, ?_⟩
      rw [f3, hll, hlb]
      rfl
    | cons e L3 =>
      right
      rw [hL2] at hTl
      exact ⟨by simp at hTl; omega, by rw [hlb]; exact m6 e L3 hL2⟩
  · obtain ⟨i, q1, q2, q3, q4⟩ := m5.1 c hc
    rw [if_neg hb] at q2
    have := i2 i y q1 q2 q4 hy (by rw [h29]; decide)
    rw [q3, eq] at this
    exact this
end S
