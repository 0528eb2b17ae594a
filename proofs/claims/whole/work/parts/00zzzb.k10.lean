/-! Looking for a ring in the reference; equate() as a whole. Own text. -/
section K
variable {F : Nat} {τ : zS} {H : SG} {s x y : Nat}
theorem um_loop {n : Nat} (hn : n ≤ 4000) (h48 : gi τ 48 = nI n) : ∀ (d f i : Nat) (g : Nat → Int32), i + d = n → d < f → (∀ k, k < i → g k = 0) → ∃ g', Md_unmark_2 F f (sA τ 54 g) (nI i) = some (sA τ 54 g') ∧ ∀ k, k < n → g' k = 0 := by
  intro d
  induction d with
  | zero =>
    intro f i g hi hf hg
    obtain ⟨f, rfl⟩ : ∃ f', f = f' + 1 := ⟨f - 1, by omega⟩
    refine ⟨g, ?_, fun k hk => hg k (by omega)⟩
    rw [Md_unmark_2, Md_unmark_b2, show gi (sA τ 54 g) 48 = nI n by simp only [zs, h48], if_pos (nI_le (by omega) (by omega))]
  | succ d ih =>
    intro f i g hi hf hg
    obtain ⟨f, rfl⟩ : ∃ f', f = f' + 1 := ⟨f - 1, by omega⟩
    rw [Md_unmark_2, Md_unmark_b2, show gi (sA τ 54 g) 48 = nI n by simp only [zs, h48], if_neg (nI_ge (by omega) (by omega)), gd_t (inb_nI (by omega) (by omega)), nI_clamp (by omega), sa_sA', nI_1]
    apply ih f (i + 1) _ (by omega) (by omega)
    intro k hk
    rw [up_at]
    by_cases e : k = i
    · rw [if_pos e]
    · rw [if_neg e]; exact hg k (by omega)
theorem unmarkM (hF : 20000 ≤ F) (h : MS τ H) : ∃ τ', Md_unmark F τ = some τ' ∧ sx [] [54] τ τ' ∧ ∀ k, k < gn H → ga τ' 54 k = 0 := by
  have hn := h.2.2.1
  obtain ⟨g, e1, w1⟩ := um_loop (F := F) (τ := τ) hn h.1 (gn H) F 0 (ga τ 54) (by omega) (by omega) (fun k hk => by omega)
  rw [sA_self] at e1
  exact ⟨sA τ 54 g, e1, sx_sA (sx_rfl _ _ τ) (by decide) _, fun k hk => by rw [ga_sA]; exact w1 k hk⟩
def mkM (τ : zS) (n : Nat) (μ : Nat → Nat) : Prop := ∀ k, k < n → ga τ 54 k = nI (μ k)
theorem onWay (hF : 20000 ≤ F) (h : MS τ H) {μ : Nat → Nat} (hm : mkM τ (gn H) μ) (hμ : ∀ k, μ k ≤ 2) {k : Nat} (hk : k < gn H) : Md_isOnWay F τ (nI k) = some (if μ (rt H k) = 1 then 1 else 0, τ) := by
  have hr := rt_lt h.2.2.2.1 hk
  have hn := h.2.2.1
  have hb := hμ (rt H k)
  rw [Md_isOnWay, topM hF h hk, bi_some, gd_t (inb_nI (by omega) (by omega)), nI_clamp (by omega), hm _ hr, Md_isOnWay_19, Md_isOnWay_19, gd_t (by decide), gd_t (by decide)]
  by_cases e : μ (rt H k) = 1
  · rw [if_pos (show nI (μ (rt H k)) = (1 : Int32) by rw [e]; rfl), if_pos e]
  · rw [if_neg (show ¬ nI (μ (rt H k)) = (1 : Int32) from fun z => e ((nI_eq (b := 1) (by omega) (by omega)).mp z)), if_neg e]
theorem nI_s1 (k : Nat) : nI (k + 1) - (1 : Int32) = nI k := by rw [Int32.sub_eq_add_neg]; exact nI_prd k
theorem gr_loop (hF : 20000 ≤ F) (hs : s < gn H) (hrs : gup H s = s) : ∀ (mu f : Nat) (τ : zS) (E : List Nat) (μ : Nat → Nat), MS τ H → stL τ 53 E → (∀ k, k ∈ E → k < gn H) → mkM τ (gn H) μ → DI H s (E.map (rt H)) μ → 3 * c0 μ (gn H) + E.length ≤ mu → E.length + 2 * c0 μ (gn H) ≤ 1 + 2 * gn H → mu < f → ∃ r τ', Md_goesRound_13 F f τ (nI E.length) = some (r, τ') ∧ sx [] [53, 54] τ τ' ∧ ((r = 0 ∧ finT H s) ∨ (r = 1 ∧ ∀ d, ¬ dpt d (gT H s))) := by
  intro mu
  induction mu with
  | zero =>
    intro f τ E μ hms hst hE hmk hdi hmu hlb hf
    obtain ⟨f, rfl⟩ : ∃ f', f = f' + 1 := ⟨f - 1, by omega⟩
    have : E = [] := List.length_eq_zero_iff.mp (by omega)
    subst this
    exact ⟨0, τ, by rw [Md_goesRound_13, Md_goesRound_b13]; rfl, sx_rfl _ _ τ, Or.inl ⟨rfl, di_end hms.2.2.2.1 hs hrs hdi⟩⟩
  | succ mu ih =>
    intro f τ E μ hms hst hE hmk hdi hmu hlb hf
    obtain ⟨f, rfl⟩ : ∃ f', f = f' + 1 := ⟨f - 1, by omega⟩
    have hw := hms.2.2.2.1
    have hn4 := hms.2.2.1
    cases E with
    | nil => exact ⟨0, τ, by rw [Md_goesRound_13, Md_goesRound_b13]; rfl, sx_rfl _ _ τ, Or.inl ⟨rfl, di_end hw hs hrs hdi⟩⟩
    | cons k E =>
      simp only [List.length_cons] at hmu hlb
      have hk := hE k List.mem_cons_self
      have hE' : ∀ j, j ∈ E → j < gn H := fun j hj => hE j (List.mem_cons_of_mem _ hj)
      obtain ⟨now, hnow⟩ : ∃ now, now = rt H k := ⟨_, rfl⟩
      have hdi' : DI H s (now :: E.map (rt H)) μ := by rw [hnow]; exact hdi
      obtain ⟨n1, n2, n3⟩ := hdi'.1 now List.mem_cons_self
      have cnow : (nI now).toNatClampNeg = now := nI_clamp (by omega)
      have hμ := hdi.2.2.2.2.2
      have hμn := hμ now
      have hpos : ¬ nI (k :: E).length ≤ 0 := nI_ge (a := 0) (by simp only [List.length_cons]; omega) (by simp only [List.length_cons]; omega)
      have tp := topM (F := F) hF hms hk
      have el : (nI E.length).toNatClampNeg = E.length := nI_clamp (by omega)
      have e0 : Md_goesRound_13 F (f + 1) τ (nI (k :: E).length) = (if nI (μ now) = (1 : Int32) then (Md_goesRound_13 F f (sa τ 54 now (2 : Int32)) (nI E.length)) else (if nI (μ now) = (2 : Int32) then (Md_goesRound_13 F f τ (nI E.length)) else (if nI (gso H now) = (2 : Int32) then (bi (Md_isOnWay F (sa τ 54 now (1 : Int32)) (ga τ 27 now)) (fun r11 σ10 => if r11 = 0 then (bi (Md_isOnWay F σ10 (ga σ10 28 now)) (fun r15 σ14 => if r15 = 0 then (gd (inb (nI (E.length + 1)) 16000) (gd (inb (nI (E.length + 1) + (1 : Int32)) 16000) (Md_goesRound_13 F f (sa (sa σ14 53 (nI (E.length + 1)).toNatClampNeg (ga σ14 28 now)) 53 (nI (E.length + 1) + (1 : Int32)).toNatClampNeg (ga σ14 27 now)) (nI (E.length + 1) + (2 : Int32))))) else (Md_goesRound_112 F σ14))) else (Md_goesRound_112 F σ10))) else (Md_goesRound_13 F f τ (nI E.length))))) := by
        rw [Md_goesRound_13, Md_goesRound_b13, if_neg hpos, List.length_cons, nI_s1, gd_t (inb_nI (by omega) (by omega)), el, hst.1, tp, bi_some, ← hnow, gd_t (inb_nI (by omega) (by omega)), cnow, hmk _ n1, (hms.2.2.2.2 _ n1).1]
        unfold Md_goesRound_73
        rw [nI_prd]
      rw [e0]
      have skip : dnG H μ now → ∃ r τ', Md_goesRound_13 F f τ (nI E.length) = some (r, τ') ∧ sx [] [53, 54] τ τ' ∧ ((r = 0 ∧ finT H s) ∨ (r = 1 ∧ ∀ d, ¬ dpt d (gT H s))) := fun hd =>
        ih f τ E μ hms hst.2 hE' hmk (di_skip hdi' hd) (by omega) (by omega) (by omega)
      rcases (show μ now = 0 ∨ μ now = 1 ∨ μ now = 2 by omega) with z | z | z
      · rw [z, if_neg (by decide), if_neg (by decide)]
        by_cases h2 : gso H now = 2
        · rw [if_pos (show nI (gso H now) = (2 : Int32) by rw [h2]; rfl)]
          obtain ⟨l1, l2⟩ := (hw.1 now n1).2.2 h2
          obtain ⟨q2, q3⟩ := (hms.2.2.2.2 now n1).2.2 h2
          obtain ⟨τb, hτb⟩ : ∃ τb, τb = sa τ 54 now 1 := ⟨_, rfl⟩
          have sxb : sx [] [54] τ τb := by rw [hτb]; exact sx_sa (sx_rfl _ _ τ) (by decide) _ _
          have msb : MS τb H := MS_sx sxb (by decide) (by decide) (by decide) (by decide) (by decide) hms
          have mkb : mkM τb (gn H) (fun k => if k = now then 1 else μ k) := by
            intro k hk
            have : ga τb 54 k = if k = now then 1 else ga τ 54 k := by rw [hτb]; simp [zs, up_at]
            rw [this]
            show _ = nI (if k = now then 1 else μ k)
            by_cases e : k = now
            · rw [if_pos e, if_pos e]; rfl
            · rw [if_neg e, if_neg e]; exact hmk k hk
          have b2 : ∀ a, (if a = now then 1 else μ a) ≤ 2 := by
            intro a
            have := hμ a
            split <;> omega
          have w1 : Md_isOnWay F τb (nI (gle H now)) = some (if (if lcG H now = now then 1 else μ (lcG H now)) = 1 then 1 else 0, τb) := onWay (F := F) hF msb mkb b2 l1
          have w2 : Md_isOnWay F τb (nI (gri H now)) = some (if (if rcG H now = now then 1 else μ (rcG H now)) = 1 then 1 else 0, τb) := onWay (F := F) hF msb mkb b2 l2
          have e28 : ga τb 28 now = nI (gri H now) := by rw [sxb.2.1 28 (by decide)]; exact q3
          have e27 : ga τb 27 now = nI (gle H now) := by rw [sxb.2.1 27 (by decide)]; exact q2
          rw [← hτb, q2, w1, bi_some]
          by_cases hl : (if lcG H now = now then 1 else μ (lcG H now)) = 1
          · rw [if_pos hl, if_neg (by decide)]
            exact ⟨1, τb, rfl, sx_mono (by decide) (by decide) sxb, Or.inr ⟨rfl, fun d => di_ring hw hdi' h2 (Or.inl rfl) hl d⟩⟩
          · rw [if_neg hl, if_pos rfl, e28, w2, bi_some]
            by_cases hr : (if rcG H now = now then 1 else μ (rcG H now)) = 1
            · rw [if_pos hr, if_neg (by decide)]
              exact ⟨1, τb, rfl, sx_mono (by decide) (by decide) sxb, Or.inr ⟨rfl, fun d => di_ring hw hdi' h2 (Or.inr rfl) hr d⟩⟩
            · rw [if_neg hr, if_pos rfl, nI_1, nI_ad (E.length + 1) 2 (2 : Int32) rfl, gd_t (inb_nI (by omega) (by omega)), gd_t (inb_nI (by omega) (by omega)), nI_clamp (by omega), nI_clamp (by omega), e27, e28]
              have cc := c0_upd (μ := μ) (n := gn H) (a := now) (c := 1) n1 z (by decide)
              obtain ⟨τc, hτc⟩ : ∃ τc, τc = sa (sa τb 53 (E.length + 1) (nI (gri H now))) 53 (E.length + 1 + 1) (nI (gle H now)) := ⟨_, rfl⟩
              have sxc : sx [] [53] τb τc := by rw [hτc]; exact sx_sa (sx_sa (sx_rfl _ _ τb) (by decide) _ _) (by decide) _ _
              have r53 : ∀ i, ga τc 53 i = if i = E.length + 1 + 1 then nI (gle H now) else if i = E.length + 1 then nI (gri H now) else ga τb 53 i := by
                intro i; rw [hτc]; simp [zs, up_at]
              have stc : stL τc 53 (gle H now :: gri H now :: k :: E) := by
                refine ⟨by rw [r53]; simp, ?_, stL_cg (k :: E) (fun i hi => ?_) hst⟩
                · rw [r53, if_neg (by simp only [List.length_cons]; omega), if_pos (by simp)]
                · simp only [List.length_cons] at hi
                  rw [r53, if_neg (by omega), if_neg (by omega), sxb.2.1 53 (by decide)]
              rw [← hτc]
              have hmap : (gle H now :: gri H now :: k :: E).map (rt H) = lcG H now :: rcG H now :: now :: E.map (rt H) := by rw [hnow]; rfl
              obtain ⟨r, τ', v1, v2, v3⟩ := ih f τc (gle H now :: gri H now :: k :: E) (fun k => if k = now then 1 else μ k) (MS_sx sxc (by decide) (by decide) (by decide) (by decide) (by decide) msb) stc (fun j hj => by
                rcases List.mem_cons.mp hj with w | w
                · rw [w]; exact l1
                · rcases List.mem_cons.mp w with w | w
                  · rw [w]; exact l2
                  · exact hE j w) (fun k hk => by rw [sxc.2.1 54 (by decide)]; exact mkb k hk) (by rw [hmap]; exact di_enter hw hdi' z h2 hl hr) (by simp only [List.length_cons]; omega) (by simp only [List.length_cons]; omega) (by omega)
              exact ⟨r, τ', v1, sx_tr (sx_tr (sx_mono (by decide) (by decide) sxb) (sx_mono (by decide) (by decide) sxc)) v2, v3⟩
        · rw [if_neg (show ¬ nI (gso H now) = (2 : Int32) from fun w => h2 ((nI_eq (b := 2) (by have := (hw.1 now n1).1; omega) (by omega)).mp w))]
          exact skip (Or.inl h2)
      · rw [z, if_pos (show nI 1 = (1 : Int32) from rfl)]
        obtain ⟨τb, hτb⟩ : ∃ τb, τb = sa τ 54 now 2 := ⟨_, rfl⟩
        have sxb : sx [] [54] τ τb := by rw [hτb]; exact sx_sa (sx_rfl _ _ τ) (by decide) _ _
        have mkb : mkM τb (gn H) (fun k => if k = now then 2 else μ k) := by
          intro k hk
          have : ga τb 54 k = if k = now then 2 else ga τ 54 k := by rw [hτb]; simp [zs, up_at]
          rw [this]
          show _ = nI (if k = now then 2 else μ k)
          by_cases e : k = now
          · rw [if_pos e, if_pos e]; rfl
          · rw [if_neg e, if_neg e]; exact hmk k hk
        have cc := c0_same (μ := μ) (n := gn H) (a := now) (c := 2) (by omega) (by decide)
        obtain ⟨r, τ', w1, w2, w3⟩ := ih f τb E _ (MS_sx sxb (by decide) (by decide) (by decide) (by decide) (by decide) hms) (stL_cg E (fun i _ => by rw [sxb.2.1 53 (by decide)]) hst.2) hE' mkb (di_exit hw hdi' z) (by omega) (by omega) (by omega)
        exact ⟨r, τ', by rw [← hτb, w1], sx_tr (sx_mono (by decide) (by decide) sxb) w2, w3⟩
      · rw [z, if_neg (by decide), if_pos (show nI 2 = (2 : Int32) from rfl)]
        exact skip (Or.inr z)
theorem roundM (hF : 20000 ≤ F) (h : MS τ H) (hx : x < gn H) : ∃ r τ', Md_goesRound F τ (nI x) = some (r, τ') ∧ sx [] [53, 54] τ τ' ∧ ((r = 0 ∧ finT H x) ∨ (r = 1 ∧ ∀ d, ¬ dpt d (gT H x))) := by
  have hw := h.2.2.2.1
  have hn4 := h.2.2.1
  obtain ⟨τ1, a1, a2, a3⟩ := unmarkM (F := F) hF h
  obtain ⟨τ2, hτ2⟩ : ∃ τ2, τ2 = sa τ1 53 0 (nI x) := ⟨_, rfl⟩
  have sx2 : sx [] [53] τ1 τ2 := by rw [hτ2]; exact sx_sa (sx_rfl _ _ τ1) (by decide) _ _
  have ms2 : MS τ2 H := MS_sx sx2 (by decide) (by decide) (by decide) (by decide) (by decide) (MS_sx a2 (by decide) (by decide) (by decide) (by decide) (by decide) h)
  have hr := rt_lt hw hx
  have st2 : stL τ2 53 [x] := ⟨by rw [hτ2]; simp [zs, up_at], trivial⟩
  have mk2 : mkM τ2 (gn H) (fun _ => 0) := by
    intro k hk
    rw [sx2.2.1 54 (by decide), a3 k hk]; rfl
  have hc0 : c0 (fun _ => 0) (gn H) ≤ gn H := cN_le _ _
  obtain ⟨r, τ', w1, w2, w3⟩ := gr_loop (F := F) hF hr (rt_root hw hx) (3 * gn H + 1) F τ2 [x] (fun _ => 0) ms2 st2 (fun k hk => by rw [List.mem_singleton.mp hk]; exact hx) mk2 (di_start hr (rt_root hw hx)) (by simp only [List.length_cons, List.length_nil]; omega) (by simp only [List.length_cons, List.length_nil]; omega) (by omega)
  refine ⟨r, τ', ?_, ?_, ?_⟩
  · rw [Md_goesRound, a1, bv_some, gd_t (by decide), show (0 : Int32).toNatClampNeg = 0 from rfl, ← hτ2]
    exact w1
  · exact sx_tr (sx_tr (sx_mono (by decide) (by decide) a2) (sx_mono (by decide) (by decide) sx2)) w2
  · rcases w3 with ⟨z1, d, z2⟩ | ⟨z1, z2⟩
    · exact Or.inl ⟨z1, d, by rw [gT_rt hw hx]; exact z2⟩
    · exact Or.inr ⟨z1, fun d => by rw [gT_rt hw hx]; exact z2 d⟩
theorem equateM (hF : 20000 ≤ F) (h : MS τ H) (h8 : gi τ 8 = 0) (hx : x < gn H) (hy : y < gn H) (p : Int32) : ∃ τ', Md_equate F τ (nI x) (nI y) p = some τ' ∧ ((sx [] [29, 30, 53, 54] τ τ' ∧ ∃ H', MS τ' H' ∧ gn H' = gn H ∧ gso H' = gso H ∧ (∀ v, Sol H' v ↔ Sol H v ∧ v x = v y) ∧ ∃ d, dpt d (gT H' x)) ∨ (sx [8, 9, 10, 79, 80] [29, 30, 53, 54] τ τ' ∧ MS τ' H ∧ unso H x y ∧ gi τ' 8 = 6 ∧ gi τ' 9 = p ∧ gi τ' 10 = 1 ∧ gi τ' 79 = nI x ∧ gi τ' 80 = nI y)) := by
  have hw := h.2.2.2.1
  have hn4 := h.2.2.1
  obtain ⟨g, c1, c2, c3⟩ := md_copy (F := F) (x0 := 29) (x1 := 30) (by decide) (by decide) (by decide) hn4 (gn H) F 0 τ rfl (by omega) (Nat.zero_le _)
  obtain ⟨τ1, hτ1⟩ : ∃ τ1, τ1 = sA τ 30 g := ⟨_, rfl⟩
  have sx1 : sx [] [30] τ τ1 := by rw [hτ1]; exact sx_sA (sx_rfl _ _ τ) (by decide) _
  have ms1 : MS τ1 H := MS_sx sx1 (by decide) (by decide) (by decide) (by decide) (by decide) h
  have ec : Md_copy F τ 29 30 (gi τ 48) = some τ1 := by rw [Md_copy, h.1, hτ1]; exact c1
  have k30 : ∀ k, k < gn H → ga τ1 30 k = nI (gup H k) := by
    intro k hk
    rw [hτ1, ga_sA, c2 k (Nat.zero_le _) hk]
    exact (h.2.2.2.2 k hk).2.1
  obtain ⟨τ2, hτ2⟩ : ∃ τ2, τ2 = sa (sa τ1 53 0 (nI x)) 53 1 (nI y) := ⟨_, rfl⟩
  have sx2 : sx [] [53] τ1 τ2 := by rw [hτ2]; exact sx_sa (sx_sa (sx_rfl _ _ τ1) (by decide) _ _) (by decide) _ _
  have ms2 : MS τ2 H := MS_sx sx2 (by decide) (by decide) (by decide) (by decide) (by decide) ms1
  have mr2 : MR τ2 H x y τ2 H [(y, x)] := by
    refine ⟨ms2, ⟨rfl, rfl, rfl, rfl⟩, ⟨by rw [hτ2]; simp [zs, up_at, flt], by rw [hτ2]; simp [zs, up_at, flt], trivial⟩, fun q hq => ?_, by simp, fun v => ?_, sx_rfl _ _ _⟩
    · rw [List.mem_singleton.mp hq]; exact ⟨hy, hx⟩
    · constructor
      · rintro ⟨s1, s2⟩
        refine ⟨s1, fun q hq => ?_⟩
        rw [List.mem_singleton.mp hq]; exact s2.symm
      · rintro ⟨s1, s2⟩
        exact ⟨s1, (s2 (y, x) (List.mem_singleton.mpr rfl)).symm⟩
  obtain ⟨r, τ3, j1, j2, j3⟩ := jo_loop (F := F) hF (2 * gn H + 1) F τ2 H [(y, x)] mr2 (by unfold muM; simp only [List.length_cons, List.length_nil]; omega) (by omega)
  have ej : Md_join F τ1 (nI x) (nI y) = some (r, τ3) := by
    rw [Md_join, gd_t (by decide), gd_t (by decide), show (0 : Int32).toNatClampNeg = 0 from rfl, show (1 : Int32).toNatClampNeg = 1 from rfl, ← hτ2]
    exact j1
  have sx3 : sx [] [29, 30, 53, 54] τ τ3 := sx_tr (sx_tr (sx_mono (by decide) (by decide) sx1) (sx_mono (by decide) (by decide) sx2)) (sx_mono (by decide) (by decide) j2)
  have k30' : ∀ (τ4 : zS), sx [] [53, 54] τ3 τ4 → ∀ k, k < gn H → ga τ4 30 k = nI (gup H k) := by
    intro τ4 h4 k hk
    rw [h4.2.1 30 (by decide), j2.2.1 30 (by decide), sx2.2.1 30 (by decide)]
    exact k30 k hk
  -- putting it back
  have back : ∀ (τ4 : zS), sx [] [53, 54] τ3 τ4 → unso H x y → ∃ τ', Md_equate_40 F τ4 (nI x) (nI y) p = some τ' ∧ (sx [8, 9, 10, 79, 80] [29, 30, 53, 54] τ τ' ∧ MS τ' H ∧ unso H x y ∧ gi τ' 8 = 6 ∧ gi τ' 9 = p ∧ gi τ' 10 = 1 ∧ gi τ' 79 = nI x ∧ gi τ' 80 = nI y) := by
    intro τ4 h4 hu
    have sx4 : sx [] [29, 30, 53, 54] τ τ4 := sx_tr sx3 (sx_mono (by decide) (by decide) h4)
    obtain ⟨g2, d1, d2, d3⟩ := md_copy (F := F) (x0 := 30) (x1 := 29) (by decide) (by decide) (by decide) hn4 (gn H) F 0 τ4 rfl (by omega) (Nat.zero_le _)
    obtain ⟨τ5, hτ5⟩ : ∃ τ5, τ5 = sA τ4 29 g2 := ⟨_, rfl⟩
    have sx5 : sx [] [29, 30, 53, 54] τ τ5 := by rw [hτ5]; exact sx_sA sx4 (by decide) _
    have ed : Md_copy F τ4 30 29 (gi τ4 48) = some τ5 := by rw [Md_copy, sx4.1 48 (by decide), h.1, hτ5]; exact d1
    have h85 : gi τ5 8 = 0 := by rw [sx5.1 8 (by decide)]; exact h8
    obtain ⟨τ6, hτ6⟩ : ∃ τ6, τ6 = si (si (si (si (si τ5 8 6) 9 p) 10 1) 79 (nI x)) 80 (nI y) := ⟨_, rfl⟩
    have sx6 : sx [8, 9, 10, 79, 80] [29, 30, 53, 54] τ τ6 := by
      rw [hτ6]
      exact sx_si (sx_si (sx_si (sx_si (sx_si (sx_mono (by decide) (by decide) sx5) (by decide) _) (by decide) _) (by decide) _) (by decide) _) (by decide) _
    refine ⟨τ6, ?_, sx6, ?_, hu, by rw [hτ6]; simp [zs], by rw [hτ6]; simp [zs], by rw [hτ6]; simp [zs], by rw [hτ6]; simp [zs], by rw [hτ6]; simp [zs]⟩
    · rw [Md_equate_40, ed, bv_some, Md_wrong, if_pos h85, Md_wrong_17, bv_some, Md_equate_77, hτ6]
    · refine MS_cg (τ := τ) (sx6.1 48 (by decide)) (fun k hk => ⟨by rw [sx6.2.1 26 (by decide)], by rw [sx6.2.1 27 (by decide)], by rw [sx6.2.1 28 (by decide)], ?_⟩) h
      have : ga τ6 29 = ga τ5 29 := by rw [hτ6]; simp [zs]
      rw [this, hτ5, ga_sA, d2 k (Nat.zero_le _) hk, k30' τ4 h4 k hk, (h.2.2.2.2 k hk).2.1]
  have e0 : Md_equate F τ (nI x) (nI y) p = if r = 0 then Md_equate_40 F τ3 (nI x) (nI y) p else bi (Md_goesRound F τ3 (nI x)) (fun r9 σ8 => if r9 = 0 then (Md_equate_77 F σ8) else (Md_equate_40 F σ8 (nI x) (nI y) p)) := by
    rw [Md_equate, if_pos (by rw [h8]; decide), ec, bv_some, ej, bi_some]
  rcases j3 with ⟨hr, H', hm⟩ | ⟨hr, hc⟩
  · obtain ⟨m1, m2, m3, m4, m5, m6, m7⟩ := hm
    have hw' := m1.2.2.2.1
    have hsol : ∀ v, Sol H' v ↔ Sol H v ∧ v x = v y := by
      intro v
      rw [m6 v]
      exact ⟨fun z => ⟨z, fun q hq => by cases hq⟩, fun z => z.1⟩
    obtain ⟨r2, τ4, e1, e2, e3⟩ := roundM (F := F) hF m1 (x := x) (by rw [m2.1]; exact hx)
    rw [hr, if_neg (by decide), e1, bi_some] at e0
    rcases e3 with ⟨z1, d, z2⟩ | ⟨z1, z2⟩
    · refine ⟨τ4, by rw [e0, if_pos z1]; rfl, Or.inl ⟨sx_tr sx3 (sx_mono (by decide) (by decide) e2), H', MS_sx e2 (by decide) (by decide) (by decide) (by decide) (by decide) m1, m2.1, m2.2.1, hsol, _, z2⟩⟩
    · obtain ⟨τ', b1, b2⟩ := back τ4 e2 (fun v hv hxy d hd => z2 d (sol_dpt hw' ((hsol v).mpr ⟨hv, hxy⟩) (by rw [m2.1]; exact hx) hd))
      exact ⟨τ', by rw [e0, if_neg (by rw [z1]; decide), b1], Or.inr b2⟩
  · obtain ⟨τ', b1, b2⟩ := back τ3 (sx_rfl _ _ τ3) (fun v hv hxy d hd => hc v hv hxy)
    exact ⟨τ', by rw [e0, if_pos hr, b1], Or.inr b2⟩
end K
