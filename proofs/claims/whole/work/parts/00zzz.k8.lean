/-! Looking for a ring in the class; unify() as a whole. Own text. -/
section K
variable {F : Nat} {σ σ0 : zS} {G G0 : SG} {s x y : Nat}
theorem fl_loop {n : Nat} (hn : n ≤ 1713) : ∀ (d f i : Nat) (g : Nat → Int32), i + d = n → d < f → (∀ k, k < i → g k = 0) → ∃ g', Ar_fill_10 F f (sA σ 26 g) 26 (nI n) 0 (nI i) = some (sA σ 26 g') ∧ ∀ k, k < n → g' k = 0 := by
  intro d
  induction d with
  | zero =>
    intro f i g hi hf hg
    obtain ⟨f, rfl⟩ : ∃ f', f = f' + 1 := ⟨f - 1, by omega⟩
    refine ⟨g, ?_, fun k hk => hg k (by omega)⟩
    rw [Ar_fill_10, Ar_fill_b10, if_pos (nI_le (by omega) (by omega))]
  | succ d ih =>
    intro f i g hi hf hg
    obtain ⟨f, rfl⟩ : ∃ f', f = f' + 1 := ⟨f - 1, by omega⟩
    rw [Ar_fill_10, Ar_fill_b10, if_neg (nI_ge (by omega) (by omega)), gd_t (by decide), gd_t (inb_nI (by omega) (by omega)), nI_clamp (by omega), sa_sA', nI_1]
    apply ih f (i + 1) _ (by omega) (by omega)
    intro k hk
    rw [up_at]
    by_cases e : k = i
    · rw [if_pos e]
    · rw [if_neg e]; exact hg k (by omega)
theorem clrC (hF : 20000 ≤ F) (h : CS σ G) : ∃ σ', Ki_clearMarks F σ = some σ' ∧ sx [] [26] σ σ' ∧ ∀ k, k < gn G → ga σ' 26 k = 0 := by
  obtain ⟨a1, a2, a3, _⟩ := h
  obtain ⟨g, e1, w1⟩ := fl_loop (F := F) (σ := σ) a3 (gn G) F 0 (ga σ 26) (by omega) (by omega) (fun k hk => by omega)
  rw [sA_self] at e1
  refine ⟨sA σ 26 g, ?_, sx_sA (sx_rfl _ _ σ) (by decide) _, fun k hk => by rw [ga_sA]; exact w1 k hk⟩
  have hr : Ar_rangeCheck F σ (1713 : Int32) 0 (nI (gn G)) = some σ := by
    rw [Ar_rangeCheck, if_pos (nI_pos' (by omega)), if_pos (by decide), if_pos (show nI (gn G) ≤ (1713 : Int32) from nI_le (b := 1713) a3 (by omega))]
  rw [Ki_clearMarks, Ar_fill, gd_t (by decide), a1, hr, bv_some, show (0 : Int32) = nI 0 from rfl]
  have e2 : Ar_fill_10 F F σ 26 (nI (gn G)) (nI 0) (nI 0) = some (sA σ 26 g) := e1
  rw [e2, bv_some]
def mkC (σ : zS) (n : Nat) (μ : Nat → Nat) : Prop := ∀ k, k < n → ga σ 26 k = nI (μ k)
def c0 (μ : Nat → Nat) (n : Nat) : Nat := cN (fun k => decide (μ k = 0)) n
theorem c0_upd {μ : Nat → Nat} {n a c : Nat} (ha : a < n) (h0 : μ a = 0) (hc : c ≠ 0) : c0 (fun k => if k = a then c else μ k) n + 1 = c0 μ n := by
  have low : ∀ d, d ≤ a → c0 (fun k => if k = a then c else μ k) d = c0 μ d := by
    intro d hd
    exact cN_cg d (fun i hi => by simp only [if_neg (show ¬ i = a by omega)])
  have key : ∀ d, a < d → c0 (fun k => if k = a then c else μ k) d + 1 = c0 μ d := by
    intro d
    induction d with
    | zero => intro hd; omega
    | succ d ih =>
      intro hd
      show cN _ (d + 1) + 1 = cN _ (d + 1)
      rw [cN, cN]
      by_cases e : d = a
      · subst e
        have := low d (Nat.le_refl _)
        unfold c0 at this
        rw [this, if_neg (show ¬ decide ((if d = d then c else μ d) = 0) = true by rw [if_pos rfl]; simp [hc]), if_pos (show decide (μ d = 0) = true by simp [h0])]
      · have := ih (by omega)
        unfold c0 at this
        simp only [if_neg e]
        simp only at this
        omega
  exact key n ha
theorem c0_same {μ : Nat → Nat} {n a c : Nat} (h0 : μ a ≠ 0) (hc : c ≠ 0) : c0 (fun k => if k = a then c else μ k) n = c0 μ n := by
  apply cN_cg
  intro i _
  by_cases e : i = a
  · simp only [if_pos e]; rw [e]; simp [h0, hc]
  · simp only [if_neg e]
theorem ring_loop (hF : 20000 ≤ F) (hs : s < gn G) (hrs : gup G s = s) : ∀ (mu f t : Nat) (σ : zS) (L : List Nat) (μ : Nat → Nat), CS σ G → stC σ L → mkC σ (gn G) μ → DI G s L μ → 3 * c0 μ (gn G) + L.length ≤ mu → L.length + 2 * c0 μ (gn G) ≤ 1 + 2 * gn G → t + mu < 1000000 → mu < f → ∃ r σ', Ki_hasRing_20 F f σ (nI t) = some (r, σ') ∧ sx [309] [26, 28] σ σ' ∧ ((r = 0 ∧ finT G s) ∨ (r = 1 ∧ ∀ d, ¬ dpt d (gT G s))) := by
  intro mu
  induction mu with
  | zero =>
    intro f t σ L μ hcs hst hmk hdi hmu hlb ht hf
    obtain ⟨f, rfl⟩ : ∃ f', f = f' + 1 := ⟨f - 1, by omega⟩
    have : L = [] := List.length_eq_zero_iff.mp (by omega)
    subst this
    refine ⟨0, σ, ?_, sx_rfl _ _ σ, Or.inl ⟨rfl, di_end hcs.2.2.2.2.2.1 hs hrs hdi⟩⟩
    rw [Ki_hasRing_20, Ki_hasRing_b20, if_neg (show ¬ (1000000 : Int32) ≤ nI t from nI_ge (b := 1000000) (by omega) (by omega)), hst.1, if_pos (by decide)]
    rfl
  | succ mu ih =>
    intro f t σ L μ hcs hst hmk hdi hmu hlb ht hf
    obtain ⟨f, rfl⟩ : ∃ f', f = f' + 1 := ⟨f - 1, by omega⟩
    have hw := hcs.2.2.2.2.2.1
    have hn13 := hcs.2.2.1
    cases L with
    | nil =>
      refine ⟨0, σ, ?_, sx_rfl _ _ σ, Or.inl ⟨rfl, di_end hw hs hrs hdi⟩⟩
      rw [Ki_hasRing_20, Ki_hasRing_b20, if_neg (show ¬ (1000000 : Int32) ≤ nI t from nI_ge (b := 1000000) (by omega) (by omega)), hst.1, if_pos (by decide)]
      rfl
    | cons now L =>
      simp only [List.length_cons] at hmu hlb
      obtain ⟨n1, n2, n3⟩ := hdi.1 now List.mem_cons_self
      have cnow : (nI now).toNatClampNeg = now := nI_clamp (by omega)
      obtain ⟨σa, a1, a2, a3⟩ := popC (F := F) hst (by omega)
      have csa : CS σa G := CS_sx a3 (by decide) (by decide) (by decide) (by decide) hcs
      have mka : ga σa 26 now = nI (μ now) := by rw [a3.2.1 26 (by decide)]; exact hmk now n1
      have mkA : mkC σa (gn G) μ := fun k hk => by rw [a3.2.1 26 (by decide)]; exact hmk k hk
      have hpos : ¬ gi σ 309 ≤ 0 := by
        rw [hst.1]
        exact nI_ge (a := 0) (by simp only [List.length_cons]; omega) (by simp only [List.length_cons]; omega)
      have hμ := hdi.2.2.2.2.2 now
      have e0 : Ki_hasRing_20 F (f + 1) σ (nI t) = (if nI (μ now) = (1 : Int32) then (Ki_hasRing_147 F (Ki_hasRing_20 F f) (sa σa 26 now (2 : Int32)) (nI t)) else (if nI (μ now) = 0 then (bi (Ki_isArrow F σa (nI now)) (fun r10 σ9 => if r10 = 0 then (Ki_hasRing_147 F (Ki_hasRing_20 F f) σ9 (nI t)) else (bi (Ki_find F (sa σ9 26 now (1 : Int32)) (ga σ9 23 now)) (fun r14 σ13 => bi (Ki_find F σ13 (ga σ13 24 now)) (fun r17 σ16 => gd (inb r14 1713) (if (ga σ16 26 r14.toNatClampNeg) = (1 : Int32) then (Ki_hasRing_128 F σ16) else (gd (inb r17 1713) (if (ga σ16 26 r17.toNatClampNeg) = (1 : Int32) then (Ki_hasRing_128 F σ16) else (bv (Ki_push F σ16 (nI now)) (fun σ23 => bv (Ki_push F σ23 r17) (fun σ25 => bv (Ki_push F σ25 r14) (fun σ27 => Ki_hasRing_147 F (Ki_hasRing_20 F f) σ27 (nI t)))))))))))))  else (Ki_hasRing_147 F (Ki_hasRing_20 F f) σa (nI t)))) := by
        rw [Ki_hasRing_20, Ki_hasRing_b20, if_neg (show ¬ (1000000 : Int32) ≤ nI t from nI_ge (b := 1000000) (by omega) (by omega)), if_neg hpos, a1, bi_some, gd_t (inb_nI (by omega) (by omega)), cnow, mka]
      rw [e0]
      have sxa : sx [309] [26, 28] σ σa := sx_mono (by decide) (by decide) a3
      -- the pieces that go on
      have skip : dnG G μ now → ∃ r σ', Ki_hasRing_147 F (Ki_hasRing_20 F f) σa (nI t) = some (r, σ') ∧ sx [309] [26, 28] σ σ' ∧ ((r = 0 ∧ finT G s) ∨ (r = 1 ∧ ∀ d, ¬ dpt d (gT G s))) := by
        intro hd
        obtain ⟨r, σ', w1, w2, w3⟩ := ih f (t + 1) σa L μ csa a2 mkA (di_skip hdi hd) (by omega) (by omega) (by omega) (by omega)
        exact ⟨r, σ', by rw [Ki_hasRing_147, nI_1, w1], sx_tr sxa w2, w3⟩
      rcases (show μ now = 0 ∨ μ now = 1 ∨ μ now = 2 by omega) with z | z | z
      · rw [z, if_neg (by decide), if_pos (show nI 0 = (0 : Int32) from rfl), isArC csa n1, bi_some]
        by_cases h2 : gso G now = 2
        · rw [if_pos h2, if_neg (by decide)]
          obtain ⟨l1, l2⟩ := (hw.1 now n1).2.2 h2
          have hn0 : now ≠ 0 := fun e => by have := hcs.2.2.2.2.1; rw [e] at h2; omega
          obtain ⟨_, q2, q3⟩ : gso G now = 2 ∧ ga σa 23 now = nI (gle G now) ∧ ga σa 24 now = nI (gri G now) := by
            rcases (csa.2.2.2.2.2.2 now n1).2.2 hn0 with y | y
            · omega
            · exact y
          obtain ⟨σb, hσb⟩ : ∃ σb, σb = sa σa 26 now 1 := ⟨_, rfl⟩
          have sxb : sx [] [26] σa σb := by rw [hσb]; exact sx_sa (sx_rfl _ _ σa) (by decide) _ _
          have csb : CS σb G := CS_sx sxb (by decide) (by decide) (by decide) (by decide) csa
          have f1 := findC (F := F) hF csb l1
          have f2 := findC (F := F) hF csb l2
          have lc := rt_lt hw l1
          have rc := rt_lt hw l2
          have mkb : mkC σb (gn G) (fun k => if k = now then 1 else μ k) := by
            intro k hk
            have : ga σb 26 k = if k = now then 1 else ga σa 26 k := by rw [hσb]; simp [zs, up_at]
            rw [this]
            show _ = nI (if k = now then 1 else μ k)
            by_cases e : k = now
            · rw [if_pos e, if_pos e]; rfl
            · rw [if_neg e, if_neg e]; exact mkA k hk
          have ml : ga σb 26 (lcG G now) = nI (if lcG G now = now then 1 else μ (lcG G now)) := mkb _ lc
          have mr : ga σb 26 (rcG G now) = nI (if rcG G now = now then 1 else μ (rcG G now)) := mkb _ rc
          have e1 : ga σb 24 now = nI (gri G now) := by rw [sxb.2.1 24 (by decide)]; exact q3
          rw [q2, ← hσb, f1, bi_some, e1, f2, bi_some, gd_t (inb_nI (by omega) (by omega)), nI_clamp (by omega), gd_t (inb_nI (by omega) (by omega)), nI_clamp (by omega)]
          have ml' : ga σb 26 (rt G (gle G now)) = _ := ml
          have mr' : ga σb 26 (rt G (gri G now)) = _ := mr
          have b2 : ∀ a, (if a = now then 1 else μ a) ≤ 2 := by
            intro a
            have := hdi.2.2.2.2.2 a
            split <;> omega
          have one : ∀ v, v ≤ 2 → (nI v = (1 : Int32) ↔ v = 1) := fun v hv => ⟨fun z => (nI_eq (a := v) (b := 1) (by omega) (by omega)).mp z, fun z => by rw [z]; rfl⟩
          rw [ml', mr']
          by_cases hl : (if lcG G now = now then 1 else μ (lcG G now)) = 1
          · rw [if_pos ((one _ (b2 _)).mpr hl)]
            exact ⟨1, σb, rfl, sx_tr sxa (sx_mono (by decide) (by decide) sxb), Or.inr ⟨rfl, fun d => di_ring hw hdi h2 (Or.inl rfl) hl d⟩⟩
          · rw [if_neg (fun w => hl ((one _ (b2 _)).mp w))]
            by_cases hr : (if rcG G now = now then 1 else μ (rcG G now)) = 1
            · rw [if_pos ((one _ (b2 _)).mpr hr)]
              exact ⟨1, σb, rfl, sx_tr sxa (sx_mono (by decide) (by decide) sxb), Or.inr ⟨rfl, fun d => di_ring hw hdi h2 (Or.inr rfl) hr d⟩⟩
            · rw [if_neg (fun w => hr ((one _ (b2 _)).mp w))]
              have cc := c0_upd (μ := μ) (n := gn G) (a := now) (c := 1) n1 z (by decide)
              have stb : stC σb L := ⟨by rw [sxb.1 309 (by decide)]; exact a2.1, stL_cg L (fun i _ => by rw [sxb.2.1 28 (by decide)]) a2.2⟩
              obtain ⟨σc, c1, c2, c3⟩ := pushC (F := F) stb (by omega) now
              obtain ⟨σd, d1, d2, d3⟩ := pushC (F := F) c2 (by simp only [List.length_cons]; omega) (rt G (gri G now))
              obtain ⟨σe, e1', e2', e3'⟩ := pushC (F := F) d2 (by simp only [List.length_cons]; omega) (rt G (gle G now))
              have sxe : sx [309] [28] σb σe := sx_tr (sx_tr c3 d3) e3'
              obtain ⟨r, σ', w1, w2, w3⟩ := ih f (t + 1) σe (lcG G now :: rcG G now :: now :: L) (fun k => if k = now then 1 else μ k) (CS_sx sxe (by decide) (by decide) (by decide) (by decide) csb) e2' (fun k hk => by rw [sxe.2.1 26 (by decide)]; exact mkb k hk) (di_enter hw hdi z h2 hl hr) (by simp only [List.length_cons]; omega) (by simp only [List.length_cons]; omega) (by omega) (by omega)
              refine ⟨r, σ', ?_, sx_tr (sx_tr (sx_tr sxa (sx_mono (by decide) (by decide) sxb)) (sx_mono (by decide) (by decide) sxe)) w2, w3⟩
              rw [c1, bv_some, d1, bv_some, e1', bv_some, Ki_hasRing_147, nI_1, w1]
        · rw [if_neg h2, if_pos (show (0 : Int32) = 0 from rfl)]
          exact skip (Or.inl h2)
      · rw [z, if_pos (show nI 1 = (1 : Int32) from rfl)]
        obtain ⟨σb, hσb⟩ : ∃ σb, σb = sa σa 26 now 2 := ⟨_, rfl⟩
        have sxb : sx [] [26] σa σb := by rw [hσb]; exact sx_sa (sx_rfl _ _ σa) (by decide) _ _
        have mkb : mkC σb (gn G) (fun k => if k = now then 2 else μ k) := by
          intro k hk
          have : ga σb 26 k = if k = now then 2 else ga σa 26 k := by rw [hσb]; simp [zs, up_at]
          rw [this]
          show _ = nI (if k = now then 2 else μ k)
          by_cases e : k = now
          · rw [if_pos e, if_pos e]; rfl
          · rw [if_neg e, if_neg e]; exact mkA k hk
        have cc := c0_same (μ := μ) (n := gn G) (a := now) (c := 2) (by omega) (by decide)
        have stb : stC σb L := ⟨by rw [sxb.1 309 (by decide)]; exact a2.1, stL_cg L (fun i _ => by rw [sxb.2.1 28 (by decide)]) a2.2⟩
        obtain ⟨r, σ', w1, w2, w3⟩ := ih f (t + 1) σb L _ (CS_sx sxb (by decide) (by decide) (by decide) (by decide) csa) stb mkb (di_exit hw hdi z) (by omega) (by omega) (by omega) (by omega)
        exact ⟨r, σ', by rw [← hσb, Ki_hasRing_147, nI_1, w1], sx_tr (sx_tr sxa (sx_mono (by decide) (by decide) sxb)) w2, w3⟩
      · rw [z, if_neg (by decide), if_neg (by decide)]
        exact skip (Or.inr z)
theorem ringCk (hF : 20000 ≤ F) (h : CS σ G) (hx : x < gn G) : ∃ r σ', Ki_hasRing F σ (nI x) = some (r, σ') ∧ sx [309] [26, 28] σ σ' ∧ ((r = 0 ∧ finT G x) ∨ (r = 1 ∧ ∀ d, ¬ dpt d (gT G x))) := by
  have hw := h.2.2.2.2.2.1
  have hn13 := h.2.2.1
  obtain ⟨σ1, a1, a2, a3⟩ := clrC (F := F) hF h
  have cs1 : CS (si σ1 309 0) G := CS_sx (I := [309]) (A := [26]) (sx_si (sx_mono (by decide) (by decide) a2) (by decide) _) (by decide) (by decide) (by decide) (by decide) h
  have f1 := findC (F := F) hF cs1 hx
  have hr := rt_lt hw hx
  have st1 : stC (si σ1 309 0) [] := ⟨by simp [zs]; rfl, trivial⟩
  obtain ⟨σ2, b1, b2, b3⟩ := pushC (F := F) st1 (by decide) (rt G x)
  have cs2 : CS σ2 G := CS_sx b3 (by decide) (by decide) (by decide) (by decide) cs1
  have mk2 : mkC σ2 (gn G) (fun _ => 0) := by
    intro k hk
    rw [b3.2.1 26 (by decide)]
    simp only [zs]
    rw [a3 k hk]; rfl
  have hc0 : c0 (fun _ => 0) (gn G) ≤ gn G := cN_le _ _
  obtain ⟨r, σ', w1, w2, w3⟩ := ring_loop (F := F) hF hr (rt_root hw hx) (3 * gn G + 1) F 0 σ2 [rt G x] (fun _ => 0) cs2 b2 mk2 (di_start hr (rt_root hw hx)) (by simp only [List.length_cons, List.length_nil]; omega) (by simp only [List.length_cons, List.length_nil]; omega) (by omega) (by omega)
  refine ⟨r, σ', ?_, ?_, ?_⟩
  · rw [Ki_hasRing, a1, bv_some, f1, bi_some, b1, bv_some]
    exact w1
  · exact sx_tr (sx_tr (sx_si (sx_mono (by decide) (by decide) a2) (by decide) _) (sx_mono (by decide) (by decide) b3)) w2
  · rw [gT_rt hw hx]
    rcases w3 with ⟨z1, z2⟩ | z
    · left
      refine ⟨z1, ?_⟩
      obtain ⟨d, hd⟩ := z2
      exact ⟨d, by rw [gT_rt hw hx]; exact hd⟩
    · exact Or.inr z
/-- what stays of a store when an equation is made true -/
def upS (G G' : SG) : Prop := gn G' = gn G ∧ gso G' = gso G ∧ gle G' = gle G ∧ gri G' = gri G ∧ ∀ k, gup G' k = gup G k ∨ (gup G k = k ∧ (gso G k = 0 ∨ gup G' k < k))
theorem unifyC (hF : 20000 ≤ F) (h : CS σ G) (hx : x < gn G) (hy : y < gn G) : ∃ r σ', Ki_unify F σ (nI x) (nI y) = some (r, σ') ∧ sx [308, 309] [25, 26, 27, 28] σ σ' ∧ ((r = 1 ∧ ∃ G', CS σ' G' ∧ upS G G' ∧ (∀ v, Sol G' v ↔ Sol G v ∧ v x = v y) ∧ ∃ d, dpt d (gT G' x)) ∨ (r = 0 ∧ ga σ' 25 = ga σ 25 ∧ unso G x y)) := by
  have hw := h.2.2.2.2.2.1
  have hn13 := h.2.2.1
  obtain ⟨σ1, hσ1⟩ : ∃ σ1, σ1 = si (si σ 308 0) 309 0 := ⟨_, rfl⟩
  have sx1 : sx [308, 309] [] σ σ1 := by rw [hσ1]; exact sx_si (sx_si (sx_rfl _ _ σ) (by decide) _) (by decide) _
  have st1 : stC σ1 [] := ⟨by rw [hσ1]; simp [zs]; rfl, trivial⟩
  obtain ⟨σ2, b1, b2, b3⟩ := pushC (F := F) st1 (by decide) x
  obtain ⟨σ3, c1, c2, c3⟩ := pushC (F := F) b2 (by simp) y
  have sx3 : sx [308, 309] [25, 26, 27, 28] σ σ3 := sx_tr (sx_tr (sx_mono (by decide) (by decide) sx1) (sx_mono (by decide) (by decide) b3)) (sx_mono (by decide) (by decide) c3)
  have cs3 : CS σ3 G := by
    refine CS_cg (σ := σ) (sx3.1 306 (by decide)) (fun k _ => ⟨by rw [sx3.2.1 23 (by decide)], by rw [sx3.2.1 24 (by decide)], ?_⟩) h
    rw [c3.2.1 25 (by decide), b3.2.1 25 (by decide), sx1.2.1 25 (by decide)]
  have mi3 : MI σ G x y σ3 G [(y, x)] [] := by
    refine ⟨cs3, ⟨rfl, rfl, rfl, rfl⟩, c2, fun q hq => ?_, ⟨?_, trivial, fun t ht => (by cases ht), fun k _ => ?_⟩, fun t ht => (by cases ht), (by simp), (by simp), fun v => ?_, sx3, fun k => Or.inl rfl⟩
    · rw [List.mem_singleton.mp hq]; exact ⟨hy, hx⟩
    · rw [c3.1 308 (by decide), b3.1 308 (by decide), hσ1]; simp [zs]; rfl
    · rw [c3.2.1 25 (by decide), b3.2.1 25 (by decide), sx1.2.1 25 (by decide)]
    · constructor
      · rintro ⟨s1, s2⟩
        refine ⟨s1, fun q hq => ?_⟩
        rw [List.mem_singleton.mp hq]; exact s2.symm
      · rintro ⟨s1, s2⟩
        exact ⟨s1, (s2 (y, x) (List.mem_singleton.mpr rfl)).symm⟩
  obtain ⟨σ4, r, d1, d2⟩ := uni_loop (F := F) hF (2 * gn G + 1) F 0 σ3 G [(y, x)] [] mi3 (by unfold muM; simp only [List.length_cons, List.length_nil]; omega) (by omega) (by omega)
  have e0 : Ki_unify F σ (nI x) (nI y) = Ki_unify_88 F σ4 (nI x) r := by
    rw [Ki_unify, ← hσ1, b1, bv_some, c1, bv_some]
    exact d1
  rcases d2 with ⟨hr, G', T', hm⟩ | ⟨hr, hc, T', ht, hl, hsx⟩
  · obtain ⟨m1, m2, m3, m4, m5, m6, m7, m8, m9, m10, m11⟩ := hm
    have hw' := m1.2.2.2.2.2.1
    obtain ⟨r2, σ5, e1, e2, e3⟩ := ringCk (F := F) hF m1 (x := x) (by rw [m2.1]; exact hx)
    have hsol : ∀ v, Sol G' v ↔ Sol G v ∧ v x = v y := by
      intro v
      rw [m9 v]
      exact ⟨fun z => ⟨z, fun q hq => by cases hq⟩, fun z => z.1⟩
    have e4 : Ki_unify F σ (nI x) (nI y) = if r2 = 0 then some ((1 : Int32), σ5) else Ki_unify_102 F σ5 := by
      rw [e0, hr, Ki_unify_88, if_neg (by decide), e1, bi_some]
    rcases e3 with ⟨z1, d, z2⟩ | ⟨z1, z2⟩
    · refine ⟨1, σ5, by rw [e4, if_pos z1], sx_tr m10 (sx_mono (by decide) (by decide) e2), Or.inl ⟨rfl, G', CS_sx e2 (by decide) (by decide) (by decide) (by decide) m1, ⟨m2.1, m2.2.1, m2.2.2.1, m2.2.2.2, m11⟩, hsol, _, z2⟩⟩
    · have ht5 : trC σ σ5 (gn G') T' := by
        obtain ⟨t1, t2, t3, t4⟩ := m5
        exact ⟨by rw [e2.1 308 (by decide)]; exact t1, stL_cg T' (fun i _ => by rw [e2.2.1 27 (by decide)]) t2, t3, fun k hk => by rw [e2.2.1 25 (by decide)]; exact t4 k hk⟩
      have := nrt_lt (G := G') (k := 0) (by have := m1.2.1; omega) m1.2.2.2.1
      have hg := m2.1
      obtain ⟨σ6, u1, u2, u3⟩ := undoC (F := F) hF (n := gn G') (by omega) ht5 (by omega)
      refine ⟨0, σ6, by rw [e4, if_neg (by rw [z1]; decide), u1], sx_tr (sx_tr m10 (sx_mono (by decide) (by decide) e2)) u2, Or.inr ⟨rfl, u3, fun v hv hxy d hd => ?_⟩⟩
      exact z2 d (sol_dpt hw' ((hsol v).mpr ⟨hv, hxy⟩) (by rw [m2.1]; exact hx) hd)
  · obtain ⟨σ6, u1, u2, u3⟩ := undoC (F := F) hF hn13 ht hl
    refine ⟨0, σ6, by rw [e0, hr, Ki_unify_88, if_pos rfl, u1], sx_tr hsx u2, Or.inr ⟨rfl, u3, fun v hv hxy d hd => hc v hv hxy⟩⟩
end K
