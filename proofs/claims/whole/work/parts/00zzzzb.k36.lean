/-! What is open is closed, in both. Own text. -/
theorem noO_cl {G : SG} (hw : wfG G) (h : noO G) : ∀ (p : List Bool) (k : Nat), k < gn G → gT G k p ≤ 1 := by
  intro p
  induction p with
  | nil =>
    intro k hk
    have hr := rt_lt hw hk
    rcases so3 hw hr with z | z | z
    · exact absurd z (h _ hr (rt_root hw hk))
    · rw [gT_1 z]; exact Nat.zero_le 1
    · rw [gT_2 z]; exact Nat.le_refl 1
  | cons b q ih =>
    intro k hk
    have hr := rt_lt hw hk
    rcases so3 hw hr with z | z | z
    · exact absurd z (h _ hr (rt_root hw hk))
    · rw [gT_1 z]; exact Nat.zero_le 1
    · rw [gT_2 z]
      obtain ⟨d1, d2⟩ := (hw.1 _ hr).2.2 z
      cases b
      · exact ih _ d1
      · exact ih _ d2
theorem sT_clo {θ : Nat → IT} : ∀ (p : List Bool) (t : IT), wfT t → (∀ q, t q ≤ 1) → sT θ t p = t p := by
  intro p
  induction p with
  | nil =>
    intro t hw h
    rcases lab3 (t []) with z | z | ⟨r, z⟩
    · rw [sT_0 θ z, z]; rfl
    · rw [sT_1 θ z, z]; rfl
    · have := h []; omega
  | cons b q ih =>
    intro t hw h
    rcases lab3 (t []) with z | z | ⟨r, z⟩
    · rw [sT_0 θ z, wfT_0 hw z]
    · rw [sT_1 θ z]
      cases b
      · exact ih _ (wfT_dw hw _) (fun q => h (false :: q))
      · exact ih _ (wfT_dw hw _) (fun q => h (true :: q))
    · have := h []; omega
/-- where nothing is open there is one solution -/
theorem sol_noO {G : SG} (hw : wfG G) (h : noO G) {w : Nat → IT} (hv : Sol G w) {k : Nat} (hk : k < gn G) : w k = gT G k := by
  rw [sol_gen hw hv hk]
  funext p
  exact sT_clo p _ (gT_wfT hw hk) (fun q => noO_cl hw h q k hk)
/-- a finite closed tree is an expression -/
theorem tree_TE : ∀ (d : Nat) (t : IT), wfT t → dpt d t → (∀ p, t p ≤ 1) → ∃ T : TE, ∀ α, ev α T = t := by
  intro d
  induction d with
  | zero =>
    intro t hw hd h
    rcases lab3 (t []) with z | z | ⟨r, z⟩
    · exact ⟨.var 0, fun α => (wfT_0 hw z).symm⟩
    · exact absurd z (hd [] (Nat.le_refl _))
    · have := h []; omega
  | succ d ih =>
    intro t hw hd h
    rcases lab3 (t []) with z | z | ⟨r, z⟩
    · exact ⟨.var 0, fun α => (wfT_0 hw z).symm⟩
    · obtain ⟨T1, h1⟩ := ih (dw t false) (wfT_dw hw _) (dpt_dw hd _) (fun p => h (false :: p))
      obtain ⟨T2, h2⟩ := ih (dw t true) (wfT_dw hw _) (dpt_dw hd _) (fun p => h (true :: p))
      exact ⟨.op T1 T2, fun α => by rw [ev, h1, h2]; exact (iA_dw z).symm⟩
    · have := h []; omega
/-- a closed kind is told by its expression -/
theorem rp_clo {G : SG} (hw : wfG G) (h : noO G) {k : Nat} (hk : k < gn G) {T : TE} (hT : ∀ α, ev α T = gT G k) (dom : Nat → Prop) (m : Nat → Nat) : rp G dom m k T :=
  ⟨hk, fun w hv α _ => by rw [sol_noO hw h hv hk, hT α]⟩
theorem rp_fin {G : SG} {dom : Nat → Prop} {m : Nat → Nat} {E : List (TE × TE)} (h : Rp G dom m E) {k : Nat} {e : TE} (g : rp G dom m k e) : ∃ d, dpt d (gT G k) := by
  obtain ⟨h1, ⟨d, h2⟩, h3, h4, h5⟩ := h
  have hα : ∀ x, dpt d ((fun z => @ite IT (dom z) (Classical.propDecidable _) (gT G (m z)) iS) x) := by
    intro z
    show dpt d (@ite IT (dom z) (Classical.propDecidable _) (gT G (m z)) iS)
    by_cases hz : dom z
    · rw [if_pos hz]; exact h2 z hz
    · rw [if_neg hz]; exact dpt_S d
  rw [g.2 _ (gT_sol h1) _ (fun z hz => if_pos hz)]
  exact ev_dpt hα e
/-- closing by links, as the class does -/
def clG (G : SG) : SG := (gn G, gso G, gle G, gri G, fun k => if gup G k = k ∧ gso G k = 0 then 0 else gup G k)
/-- and by sorts, as the reference does -/
def clH (G : SG) : SG := (gn G, fun k => if gup G k = k ∧ gso G k = 0 then 1 else gso G k, gle G, gri G, gup G)
theorem clH_wf {G : SG} (h : wfG G) : wfG (clH G) := by
  refine ⟨fun k hk => ?_, h.2⟩
  obtain ⟨a1, a2, a3⟩ := h.1 k hk
  show (if gup G k = k ∧ gso G k = 0 then 1 else gso G k) ≤ 2 ∧ gup G k < gn G ∧ ((if gup G k = k ∧ gso G k = 0 then 1 else gso G k) = 2 → _)
  by_cases c : gup G k = k ∧ gso G k = 0
  · rw [if_pos c]; exact ⟨by omega, a2, fun z => by omega⟩
  · rw [if_neg c]; exact ⟨a1, a2, a3⟩
theorem clH_no {G : SG} : noO (clH G) := by
  intro k hk hr
  show (if gup G k = k ∧ gso G k = 0 then 1 else gso G k) ≠ 0
  by_cases c : gup G k = k ∧ gso G k = 0
  · rw [if_pos c]; decide
  · rw [if_neg c]; exact fun z => c ⟨hr, z⟩
theorem clH_sol {G : SG} (h : wfG G) : Sol (clH G) (fun k => clT (gT G k)) := by
  intro k hk
  have hs := sT_sol h (fun _ => iS) k hk
  refine ⟨hs.1, fun hr => ⟨fun z => ?_, fun z => ?_⟩⟩
  · by_cases c : gup G k = k ∧ gso G k = 0
    · show clT (gT G k) = iS
      rw [gT_0 (by rw [rt_self c.1]; exact c.2)]
      exact sT_V _ _
    · exact (hs.2 hr).1 (by
        have z' : (if gup G k = k ∧ gso G k = 0 then 1 else gso G k) = 1 := z
        rw [if_neg c] at z'; exact z')
  · have z' : (if gup G k = k ∧ gso G k = 0 then 1 else gso G k) = 2 := z
    by_cases c : gup G k = k ∧ gso G k = 0
    · rw [if_pos c] at z'; cases z'
    · rw [if_neg c] at z'; exact (hs.2 hr).2 z'
theorem clH_T {G : SG} (h : wfG G) {k : Nat} (hk : k < gn G) : gT (clH G) k = clT (gT G k) := (sol_noO (clH_wf h) clH_no (clH_sol h) hk).symm
theorem chn_cl {G : SG} (h0 : gup G 0 = 0) (hs : gso G 0 ≠ 0) : ∀ (j k r : Nat), chn (gup G) j k r → chn (gup (clG G)) j k r ∨ (chn (gup (clG G)) (j + 1) k 0 ∧ gup G r = r ∧ gso G r = 0) := by
  have e0 : gup (clG G) 0 = 0 := by
    show (if gup G 0 = 0 ∧ gso G 0 = 0 then 0 else gup G 0) = 0
    split
    · rfl
    · exact h0
  intro j
  induction j with
  | zero =>
    intro k r h
    obtain ⟨h1, h2⟩ := h
    subst h1
    by_cases c : gso G k = 0
    · right
      have e : gup (clG G) k = 0 := if_pos ⟨h2, c⟩
      exact ⟨⟨by rw [e]; intro z; subst z; exact hs c, by rw [e]; exact ⟨rfl, e0⟩⟩, h2, c⟩
    · left
      have e : gup (clG G) k = gup G k := if_neg (fun z => c z.2)
      exact ⟨rfl, by rw [e]; exact h2⟩
  | succ j ih =>
    intro k r h
    have e : gup (clG G) k = gup G k := if_neg (fun z => h.1 z.1)
    rcases ih _ r h.2 with z | z
    · left; exact ⟨by rw [e]; exact h.1, by rw [e]; exact z⟩
    · right; exact ⟨⟨by rw [e]; exact h.1, by rw [e]; exact z.1⟩, z.2⟩
theorem clG_wf {G : SG} (h : wfG G) (hn : 0 < gn G) (h0 : gup G 0 = 0) (hs : gso G 0 ≠ 0) : wfG (clG G) := by
  have hle : nrt G ≤ nrt (clG G) := by
    unfold nrt
    exact cN_mono (fun i hi => by
      simp at hi ⊢
      have e : gup (clG G) i = gup G i := if_neg (fun z => hi z.1)
      rw [e]; exact hi) _
  refine ⟨fun k hk => ?_, fun k hk => ?_⟩
  · obtain ⟨a1, a2, a3⟩ := h.1 k hk
    refine ⟨a1, ?_, a3⟩
    show (if gup G k = k ∧ gso G k = 0 then 0 else gup G k) < gn G
    split
    · exact hn
    · exact a2
  · obtain ⟨j, r, c1, c2, c3⟩ := h.2 k hk
    rcases chn_cl h0 hs j k r c1 with z | z
    · exact ⟨j, r, z, c2, by omega⟩
    · refine ⟨j + 1, 0, z.1, hn, ?_⟩
      have hlt : nrt G < nrt (clG G) := by
        unfold nrt
        refine cN_lt (i := r) (fun i hi => ?_) (by simp [z.2.1]) ?_ _ c2
        · simp at hi ⊢
          have e : gup (clG G) i = gup G i := if_neg (fun z => hi z.1)
          rw [e]; exact hi
        · have e : gup (clG G) r = 0 := if_pos z.2
          simp [e]
          intro y
          subst y
          exact hs z.2.2
      omega
theorem clG_no {G : SG} (h0 : gso G 0 ≠ 0) : noO (clG G) := by
  intro k hk hr
  show gso G k ≠ 0
  intro z
  have hr' : (if gup G k = k ∧ gso G k = 0 then 0 else gup G k) = k := hr
  by_cases c : gup G k = k ∧ gso G k = 0
  · rw [if_pos c] at hr'
    subst hr'
    exact h0 z
  · rw [if_neg c] at hr'
    exact c ⟨hr', z⟩
theorem clG_sol {G : SG} (h : wfG G) (hn : 0 < gn G) (h0 : gup G 0 = 0) (hs : gso G 0 = 1) : Sol (clG G) (fun k => clT (gT G k)) := by
  intro k hk
  have hss := sT_sol h (fun _ => iS) k hk
  by_cases c : gup G k = k ∧ gso G k = 0
  · have e : gup (clG G) k = 0 := if_pos c
    rw [e]
    refine ⟨?_, fun hr => ?_⟩
    · show clT (gT G k) = clT (gT G 0)
      rw [gT_0 (by rw [rt_self c.1]; exact c.2), gT_1 (by rw [rt_self h0]; exact hs)]
      exact (sT_V _ _).trans (sT_S _).symm
    · subst hr
      rw [hs] at c
      cases c.2
  · have e : gup (clG G) k = gup G k := if_neg c
    rw [e]
    exact hss
theorem clG_T {G : SG} (h : wfG G) (hn : 0 < gn G) (h0 : gup G 0 = 0) (hs : gso G 0 = 1) {k : Nat} (hk : k < gn G) : gT (clG G) k = clT (gT G k) := (sol_noO (clG_wf h hn h0 (by rw [hs]; decide)) (clG_no (by rw [hs]; decide)) (clG_sol h hn h0 hs) hk).symm
section K
variable {F : Nat} {σ τ : zS} {G H : SG}
/-- the class closes -/
theorem cg_loop (hC : CS σ G) {lo : Nat} (hlo : ∀ k, k < lo → gup G k = k → gso G k ≠ 0) : ∀ (d f k : Nat) (g : Nat → Int32), lo ≤ k → k + d = gn G → d < f → (∀ i, i < gn G → g i = if i < k ∧ gup G i = i ∧ gso G i = 0 then 0 else ga σ 25 i) → ∃ g', Ki_closeGroup_5 F f (sA σ 25 g) (nI k) = some (si (sA σ 25 g') 307 (gi σ 306)) ∧ ∀ i, i < gn G → g' i = if gup G i = i ∧ gso G i = 0 then 0 else ga σ 25 i := by
  obtain ⟨a1, a2, a3, a4, a5, a6, a7⟩ := hC
  intro d
  induction d with
  | zero =>
    intro f k g hlk hk hf hg
    obtain ⟨f, rfl⟩ : ∃ f', f = f' + 1 := ⟨f - 1, by omega⟩
    obtain rfl : k = gn G := by omega
    refine ⟨g, ?_, fun i hi => ?_⟩
    · have h306 : gi (sA σ 25 g) 306 = gi σ 306 := by simp only [zs]
      rw [Ki_closeGroup_5, Ki_closeGroup_b5, h306, a1, if_pos (nI_le (Nat.le_refl _) (by omega))]
    · rw [hg i hi]
      by_cases c : gup G i = i ∧ gso G i = 0
      · rw [if_pos ⟨hi, c⟩, if_pos c]
      · rw [if_neg (fun z => c z.2), if_neg c]
  | succ d ih =>
    intro f k g hlk hk hf hg
    obtain ⟨f, rfl⟩ : ∃ f', f = f' + 1 := ⟨f - 1, by omega⟩
    have hkn : k < gn G := by omega
    have h306 : gi (sA σ 25 g) 306 = nI (gn G) := by simp only [zs]; exact a1
    have e23 : ga (sA σ 25 g) 23 = ga σ 23 := by simp only [zs]; rfl
    have e25 : ga (sA σ 25 g) 25 = g := by simp only [zs, if_true]
    obtain ⟨b1, b2, b3⟩ := a7 k hkn
    have hop : Ki_isOpen F (sA σ 25 g) (nI k) = some (if gso G k = 0 then 1 else 0, sA σ 25 g) := by
      by_cases k0 : k = 0
      · subst k0
        rw [Ki_isOpen, nI_0, if_pos rfl, a5, if_neg (by decide)]
        rfl
      · rw [Ki_isOpen, if_neg (nI_ne0 (by omega) (by omega)), gd_t (inb_nI (by omega) (by omega)), nI_clamp (by omega), e23]
        rcases b3 k0 with ⟨z1, z2⟩ | ⟨z1, z2, z3⟩
        · rw [z2, if_pos rfl, z1, if_pos rfl]; rfl
        · obtain ⟨d1, d2⟩ := (a6.1 k hkn).2.2 z1
          rw [z2, if_neg (nI_m1 _ (by omega)), z1, if_neg (by decide)]; rfl
    have step : ∀ g2 : Nat → Int32, (∀ i, i < gn G → g2 i = if i < k + 1 ∧ gup G i = i ∧ gso G i = 0 then 0 else ga σ 25 i) → ∃ g', Ki_closeGroup_38 F (Ki_closeGroup_5 F f) (sA σ 25 g2) (nI k) = some (si (sA σ 25 g') 307 (gi σ 306)) ∧ ∀ i, i < gn G → g' i = if gup G i = i ∧ gso G i = 0 then 0 else ga σ 25 i := by
      intro g2 hg2
      rw [Ki_closeGroup_38, nI_1]
      exact ih f (k + 1) g2 (by omega) (by omega) (by omega) hg2
    have same : ¬ (gup G k = k ∧ gso G k = 0) → ∀ i, i < gn G → g i = if i < k + 1 ∧ gup G i = i ∧ gso G i = 0 then 0 else ga σ 25 i := by
      intro hc i hi
      rw [hg i hi]
      by_cases e : i = k
      · subst e
        rw [if_neg (fun z => hc z.2), if_neg (fun z => hc z.2)]
      · by_cases c : i < k ∧ gup G i = i ∧ gso G i = 0
        · rw [if_pos c, if_pos ⟨by omega, c.2⟩]
        · rw [if_neg c, if_neg (fun z => c ⟨by omega, z.2⟩)]
    have gk : g k = ga σ 25 k := by rw [hg k hkn, if_neg (fun z => by omega)]
    rw [Ki_closeGroup_5, Ki_closeGroup_b5, h306, if_neg (nI_ge hkn (by omega)), hop, bi_some]
    by_cases c0 : gso G k = 0
    · show ∃ g', (if (if gso G k = 0 then (1 : Int32) else 0) = 0 then _ else _) = _ ∧ _
      rw [if_pos c0, if_neg (by decide), gd_t (inb_nI (by omega) (by omega)), nI_clamp (by omega), e25, gk]
      by_cases cr : gup G k = k
      · rw [if_pos (b1 cr)]
        have es : sa (sA σ 25 g) 25 k 0 = sA σ 25 (upd g k 0) := by
          unfold sa; rw [e25, sA_sA]
        rw [es]
        refine step (upd g k 0) (fun i hi => ?_)
        rw [up_at]
        by_cases e : i = k
        · rw [if_pos e, if_pos ⟨by omega, by rw [e]; exact cr, by rw [e]; exact c0⟩]
        · rw [if_neg e, hg i hi]
          by_cases c : i < k ∧ gup G i = i ∧ gso G i = 0
          · rw [if_pos c, if_pos ⟨by omega, c.2⟩]
          · rw [if_neg c, if_neg (fun z => c ⟨by omega, z.2⟩)]
      · rw [if_neg (by rw [b2 cr]; exact nI_m1 _ (by have := (a6.1 k hkn).2.1; omega))]
        exact step g (same (fun z => cr z.1))
    · show ∃ g', (if (if gso G k = 0 then (1 : Int32) else 0) = 0 then _ else _) = _ ∧ _
      rw [if_neg c0, if_pos rfl]
      exact step g (same (fun z => c0 z.2))
theorem closeC (hF : 20000 ≤ F) (hC : CS σ G) {lo : Nat} (h307 : gi σ 307 = nI lo) (hlo1 : lo ≤ gn G) (hlo : ∀ k, k < lo → gup G k = k → gso G k ≠ 0) : ∃ σ', Ki_closeGroup F σ = some σ' ∧ CS σ' (clG G) ∧ sx [307] [25] σ σ' ∧ gi σ' 307 = nI (gn G) := by
  have hC0 := hC
  obtain ⟨a1, a2, a3, a4, a5, a6, a7⟩ := hC
  have e0 : sA σ 25 (ga σ 25) = σ := sA_self σ 25
  obtain ⟨g', g1, g2⟩ := cg_loop (F := F) hC0 hlo (gn G - lo) F lo (ga σ 25) (Nat.le_refl _) (by omega) (by omega) (fun i hi => by
    by_cases c : i < lo ∧ gup G i = i ∧ gso G i = 0
    · exact absurd c.2.2 (hlo i c.1 c.2.1)
    · rw [if_neg c])
  rw [e0] at g1
  have hs : sx [307] [25] σ (si (sA σ 25 g') 307 (gi σ 306)) := sx_si (sx_sA (sx_rfl _ _ _) (by decide) _) (by decide) _
  refine ⟨_, by rw [Ki_closeGroup, h307]; exact g1, ⟨by rw [hs.1 306 (by decide)]; exact a1, a2, a3, ?_, a5, clG_wf a6 (by omega) a4 (by rw [a5]; decide), fun k hk => ?_⟩, hs, by simp [zs, a1]⟩
  · show (if gup G 0 = 0 ∧ gso G 0 = 0 then 0 else gup G 0) = 0
    split
    · rfl
    · exact a4
  · have e25 : ga (si (sA σ 25 g') 307 (gi σ 306)) 25 k = g' k := by simp only [zs, if_true]
    rw [e25, g2 k hk, hs.2.1 23 (by decide), hs.2.1 24 (by decide)]
    obtain ⟨b1, b2, b3⟩ := a7 k hk
    by_cases c : gup G k = k ∧ gso G k = 0
    · have e : gup (clG G) k = 0 := if_pos c
      rw [if_pos c, e]
      refine ⟨fun z => ?_, fun _ => nI_0.symm, b3⟩
      subst z
      rw [a5] at c
      cases c.2
    · have e : gup (clG G) k = gup G k := if_neg c
      rw [if_neg c, e]
      exact ⟨b1, b2, b3⟩
/-- the reference closes -/
theorem ch_loop (hM : MS τ H) : ∀ (d f k : Nat) (g : Nat → Int32), k + d = gn H → d < f → (∀ i, i < gn H → g i = if i < k ∧ gup H i = i ∧ gso H i = 0 then 1 else ga τ 26 i) → ∃ g', Md_closeGroup_87 F f (sA τ 26 g) (nI k) = some (sA τ 26 g') ∧ ∀ i, i < gn H → g' i = if gup H i = i ∧ gso H i = 0 then 1 else ga τ 26 i := by
  obtain ⟨a1, a2, a3, a4, a5⟩ := hM
  intro d
  induction d with
  | zero =>
    intro f k g hk hf hg
    obtain ⟨f, rfl⟩ : ∃ f', f = f' + 1 := ⟨f - 1, by omega⟩
    obtain rfl : k = gn H := by omega
    refine ⟨g, ?_, fun i hi => ?_⟩
    · have h48 : gi (sA τ 26 g) 48 = nI (gn H) := by simp only [zs]; exact a1
      rw [Md_closeGroup_87, Md_closeGroup_b87, h48, if_pos (nI_le (Nat.le_refl _) (by omega))]
    · rw [hg i hi]
      by_cases c : gup H i = i ∧ gso H i = 0
      · rw [if_pos ⟨hi, c⟩, if_pos c]
      · rw [if_neg (fun z => c z.2), if_neg c]
  | succ d ih =>
    intro f k g hk hf hg
    obtain ⟨f, rfl⟩ : ∃ f', f = f' + 1 := ⟨f - 1, by omega⟩
    have hkn : k < gn H := by omega
    have h48 : gi (sA τ 26 g) 48 = nI (gn H) := by simp only [zs]; exact a1
    have e26 : ga (sA τ 26 g) 26 = g := by simp only [zs, if_true]
    have e29 : ga (sA τ 26 g) 29 = ga τ 29 := by simp only [zs]; rfl
    obtain ⟨b1, b2, b3⟩ := a5 k hkn
    have gk : g k = nI (gso H k) := by rw [hg k hkn, if_neg (fun z => by omega), b1]
    have hs2 := (a4.1 k hkn).1
    have hup := (a4.1 k hkn).2.1
    have step : ∀ v : Int32, (v = if gup H k = k ∧ gso H k = 0 then 1 else ga τ 26 k) → ∃ g', Md_closeGroup_129 F (Md_closeGroup_87 F f) (sA τ 26 g) (nI k) (nI k) v = some (sA τ 26 g') ∧ ∀ i, i < gn H → g' i = if gup H i = i ∧ gso H i = 0 then 1 else ga τ 26 i := by
      intro v hv
      have es : sa (sA τ 26 g) 26 k v = sA τ 26 (upd g k v) := by
        unfold sa; rw [e26, sA_sA]
      rw [Md_closeGroup_129, gd_t (inb_nI (by omega) (by omega)), nI_clamp (by omega), es, nI_1]
      refine ih f (k + 1) (upd g k v) (by omega) (by omega) (fun i hi => ?_)
      rw [up_at]
      by_cases e : i = k
      · subst e
        rw [if_pos rfl, hv]
        by_cases c : gup H i = i ∧ gso H i = 0
        · rw [if_pos c, if_pos ⟨by omega, c⟩]
        · rw [if_neg c, if_neg (fun z => c z.2)]
      · rw [if_neg e, hg i hi]
        by_cases c : i < k ∧ gup H i = i ∧ gso H i = 0
        · rw [if_pos c, if_pos ⟨by omega, c.2⟩]
        · rw [if_neg c, if_neg (fun z => c ⟨by omega, z.2⟩)]
    have e123 : Md_closeGroup_123 F (Md_closeGroup_87 F f) (sA τ 26 g) (nI k) (nI k) = Md_closeGroup_129 F (Md_closeGroup_87 F f) (sA τ 26 g) (nI k) (nI k) (ga τ 26 k) := by
      rw [Md_closeGroup_123, gd_t (inb_nI (by omega) (by omega)), nI_clamp (by omega), e26, gk, b1]
    rw [Md_closeGroup_87, Md_closeGroup_b87, h48, if_neg (nI_ge hkn (by omega)), gd_t (inb_nI (by omega) (by omega)), nI_clamp (by omega), e26, gk, e29, b2]
    by_cases c0 : gso H k = 0
    · rw [if_pos (by rw [c0]; exact nI_0)]
      by_cases cr : gup H k = k
      · rw [if_pos (by rw [cr])]
        exact step 1 (by rw [if_pos ⟨cr, c0⟩])
      · rw [if_neg (fun z => cr ((nI_eq (by omega) (by omega)).mp z)), e123]
        exact step _ (by rw [if_neg (fun z => cr z.1)])
    · rw [if_neg (nI_ne0 (by omega) (by omega)), e123]
      exact step _ (by rw [if_neg (fun z => c0 z.2)])
theorem closeH (hF : 20000 ≤ F) (hM : MS τ H) : ∃ τ', Md_closeGroup_87 F F τ 0 = some τ' ∧ MS τ' (clH H) ∧ sx [] [26] τ τ' := by
  have hM0 := hM
  obtain ⟨a1, a2, a3, a4, a5⟩ := hM
  have e0 : sA τ 26 (ga τ 26) = τ := sA_self τ 26
  obtain ⟨g', g1, g2⟩ := ch_loop (F := F) hM0 (gn H) F 0 (ga τ 26) (by omega) (by omega) (fun i hi => by rw [if_neg (fun z => by omega)])
  rw [e0] at g1
  have hs : sx [] [26] τ (sA τ 26 g') := sx_sA (sx_rfl _ _ _) (by decide) _
  refine ⟨_, by rw [← nI_0]; exact g1, ⟨by rw [hs.1 48 (by decide)]; exact a1, a2, a3, clH_wf a4, fun k hk => ?_⟩, hs⟩
  have e26 : ga (sA τ 26 g') 26 k = g' k := by simp only [zs, if_true]
  obtain ⟨b1, b2, b3⟩ := a5 k hk
  rw [e26, g2 k hk, hs.2.1 29 (by decide), hs.2.1 27 (by decide), hs.2.1 28 (by decide)]
  by_cases c : gup H k = k ∧ gso H k = 0
  · have e : gso (clH H) k = 1 := if_pos c
    rw [if_pos c, e]
    exact ⟨rfl, b2, fun z => by cases z⟩
  · have e : gso (clH H) k = gso H k := if_neg c
    rw [if_neg c, e]
    exact ⟨b1, b2, b3⟩
end K
