/-! How many parameters are open, in both. Own text. -/
/-- b tells which parameters of the group are open -/
def opB (σ : zS) (a : Nat) (G : SG) (D : Nat) (gp : Nat → Bool) (b : Nat → Nat → Bool) : Prop := ∀ i, i < D → gp i = true → ∀ j, j < qN σ i → ∃ k d, ga σ a (3 * i + j) = nI k ∧ k < gn G ∧ dpt d (gT G k) ∧ (b i j = true ↔ ∃ p v, gT G k p = v + 2)
section K
variable {F : Nat} {G H : SG} {D g : Nat} {gp : Nat → Bool} {x1 : Int32} {b : Nat → Nat → Bool}
theorem co_in (hF : 20000 ≤ F) (hx : ∀ j, j < 32 → bq x1 j = gp j) {σ0 : zS} (hd : dcO σ0 D) (ho : opB σ0 41 G D gp b) (rc : zS → Int32 → Int32 → Option zS) {i : Nat} (hi : i < D) (hg : gp i = true) : ∀ (d f j : Nat) (σ : zS), j + d = qN σ0 i → d < f → CS σ G → sx [309, 310] [26, 28, 35] σ0 σ → ga σ 35 i = nI (cN (b i) j) → ∃ σ', So_countOpens_15 F rc f σ x1 (nI i) (nI j) = rc σ' x1 (nI (i + 1)) ∧ CS σ' G ∧ sx [309, 310] [26, 28, 35] σ σ' ∧ ∀ l, ga σ' 35 l = if l = i then nI (cN (b i) (qN σ0 i)) else ga σ 35 l := by
  have hD := hd.2.1
  obtain ⟨so, q, c1, c2, c3, c4, c5⟩ := hd.2.2 i hi
  have hq : qN σ0 i = q := by unfold qN; rw [c3, nI_clamp (by omega)]
  rw [hq]
  intro d
  induction d with
  | zero =>
    intro f j σ hj hf hC hs h35
    obtain ⟨f, rfl⟩ : ∃ f', f = f' + 1 := ⟨f - 1, by omega⟩
    obtain rfl : j = q := by omega
    refine ⟨σ, ?_, hC, sx_rfl _ _ _, fun l => ?_⟩
    · rw [So_countOpens_15, So_countOpens_b15, gd_t (inb_nI (by omega) (by omega)), nI_clamp (by omega), hs.2.1 32 (by decide), c3, if_pos (nI_le (Nat.le_refl _) (by omega)), So_countOpens_78, nI_1]
    · by_cases e : l = i
      · rw [if_pos e, e, h35]
      · rw [if_neg e]
  | succ d ih =>
    intro f j σ hj hf hC hs h35
    obtain ⟨f, rfl⟩ : ∃ f', f = f' + 1 := ⟨f - 1, by omega⟩
    obtain ⟨k, dd, k1, k2, k3, k4⟩ := ho i hi hg j (by rw [hq]; omega)
    obtain ⟨r, σ1, a1, a2, a3, a4⟩ := hasOpC (F := F) hF hC k2 k3
    have hcs : cN (b i) (j + 1) = cN (b i) j + if b i j = true then 1 else 0 := rfl
    have s1 : sx [309, 310] [26, 28, 35] σ σ1 := sx_mono (by decide) (by decide) a2
    rw [So_countOpens_15, So_countOpens_b15, gd_t (inb_nI (by omega) (by omega)), nI_clamp (by omega), hs.2.1 32 (by decide), c3, if_neg (nI_ge (by omega) (by omega)), if_neg (fun z => by have := (bq_test x1 (m := i) (by omega)).mp z; rw [hx i (by omega), hg] at this; cases this), e3n, gd_t (inb_nI (by omega) (by omega)), nI_clamp (by omega), hs.2.1 41 (by decide), k1, a1, bi_some]
    have h35' : ga σ1 35 i = nI (cN (b i) j) := by rw [a2.2.1 35 (by decide)]; exact h35
    rcases a4 with ⟨rfl, hv⟩ | ⟨rfl, hv⟩
    · have hb : b i j = true := k4.mpr hv
      rw [if_pos hb] at hcs
      show ∃ σ', (if (1 : Int32) = 0 then _ else _) = _ ∧ _
      rw [if_neg (by decide), h35', nI_1, So_countOpens_72, nI_1]
      have s2 : sx [309, 310] [26, 28, 35] σ (sa σ1 35 i (nI (cN (b i) j + 1))) := sx_sa s1 (by decide) _ _
      have e35 : ∀ l, ga (sa σ1 35 i (nI (cN (b i) j + 1))) 35 l = if l = i then nI (cN (b i) j + 1) else ga σ 35 l := by
        intro l; simp only [zs, if_true]; rw [up_at, a2.2.1 35 (by decide)]
      obtain ⟨σ', b1, b2, b3, b4⟩ := ih f (j + 1) (sa σ1 35 i (nI (cN (b i) j + 1))) (by omega) (by omega) (CS_sx (sx_sa (sx_rfl [] [35] σ1) (by decide) i (nI (cN (b i) j + 1))) (by decide) (by decide) (by decide) (by decide) a3) (sx_tr hs s2) (by rw [e35, if_pos rfl, hcs])
      refine ⟨σ', b1, b2, sx_tr s2 b3, fun l => ?_⟩
      rw [b4]
      by_cases e : l = i
      · rw [if_pos e, if_pos e]
      · rw [if_neg e, if_neg e, e35, if_neg e]
    · have hb : ¬ b i j = true := fun z => by
        obtain ⟨p, v, hp⟩ := k4.mp z
        have := hv p
        omega
      rw [if_neg hb] at hcs
      show ∃ σ', (if (0 : Int32) = 0 then _ else _) = _ ∧ _
      rw [if_pos rfl, So_countOpens_72, nI_1]
      obtain ⟨σ', b1, b2, b3, b4⟩ := ih f (j + 1) σ1 (by omega) (by omega) a3 (sx_tr hs s1) (by rw [h35', hcs]; rfl)
      refine ⟨σ', b1, b2, sx_tr s1 b3, fun l => ?_⟩
      rw [b4]
      by_cases e : l = i
      · rw [if_pos e, if_pos e]
      · rw [if_neg e, if_neg e, a2.2.1 35 (by decide)]
theorem co_all (hF : 20000 ≤ F) (hx : ∀ j, j < 32 → bq x1 j = gp j) {σ0 : zS} (hd : dcO σ0 D) (ho : opB σ0 41 G D gp b) (h0 : ∀ i, i < D → gp i = true → ga σ0 35 i = 0) : ∀ (d f i : Nat) (σ : zS), i + d = D → d < f → CS σ G → sx [309, 310] [26, 28, 35] σ0 σ → (∀ l, ga σ 35 l = if l < i ∧ gp l = true then nI (cN (b l) (qN σ0 l)) else ga σ0 35 l) → ∃ σ', So_countOpens_2 F f σ x1 (nI i) = some σ' ∧ CS σ' G ∧ sx [309, 310] [26, 28, 35] σ0 σ' ∧ ∀ l, ga σ' 35 l = if l < D ∧ gp l = true then nI (cN (b l) (qN σ0 l)) else ga σ0 35 l := by
  have hD := hd.2.1
  intro d
  induction d with
  | zero =>
    intro f i σ hi hf hC hs h35
    obtain ⟨f, rfl⟩ : ∃ f', f = f' + 1 := ⟨f - 1, by omega⟩
    obtain rfl : i = D := by omega
    refine ⟨σ, ?_, hC, hs, h35⟩
    rw [So_countOpens_2, So_countOpens_b2, hs.1 400 (by decide), hd.1, if_pos (nI_le (Nat.le_refl _) (by omega))]
  | succ d ih =>
    intro f i σ hi hf hC hs h35
    obtain ⟨f, rfl⟩ : ∃ f', f = f' + 1 := ⟨f - 1, by omega⟩
    rw [So_countOpens_2, So_countOpens_b2, hs.1 400 (by decide), hd.1, if_neg (nI_ge (by omega) (by omega))]
    by_cases cg : gp i = true
    · obtain ⟨σ1, a1, a2, a3, a4⟩ := co_in (F := F) hF hx hd ho (So_countOpens_2 F f) (i := i) (by omega) cg (qN σ0 i) F 0 σ (by omega) (by
        obtain ⟨so, q, c1, c2, c3, c4, c5⟩ := hd.2.2 i (by omega)
        have hq : qN σ0 i = q := by unfold qN; rw [c3, nI_clamp (by omega)]
        omega) hC hs (by rw [h35, if_neg (fun z => by omega), h0 i (by omega) cg]; exact nI_0.symm)
      rw [nI_0] at a1
      rw [a1]
      refine ih f (i + 1) σ1 (by omega) (by omega) a2 (sx_tr hs a3) (fun l => ?_)
      rw [a4]
      by_cases e : l = i
      · subst e; rw [if_pos rfl, if_pos ⟨by omega, cg⟩]
      · rw [if_neg e, h35]
        by_cases c : l < i ∧ gp l = true
        · rw [if_pos c, if_pos ⟨by omega, c.2⟩]
        · rw [if_neg c, if_neg (fun z => c ⟨by omega, z.2⟩)]
    · have cf : gp i = false := by cases h : gp i <;> simp_all
      have sk : So_countOpens_15 F (So_countOpens_2 F f) F σ x1 (nI i) 0 = So_countOpens_2 F f σ x1 (nI (i + 1)) := by
        obtain ⟨F', hF'⟩ : ∃ F', F = F' + 1 := ⟨F - 1, by omega⟩
        have : ∀ F', So_countOpens_15 F (So_countOpens_2 F f) (F' + 1) σ x1 (nI i) 0 = So_countOpens_2 F f σ x1 (nI (i + 1)) := by
          intro F'
          rw [So_countOpens_15, So_countOpens_b15, gd_t (inb_nI (by omega) (by omega)), nI_clamp (by omega), if_pos ((bq_test x1 (m := i) (by omega)).mpr (by rw [hx i (by omega), cf])), So_countOpens_78, nI_1]
          split <;> rfl
        have h := this F'
        rw [← hF'] at h
        exact h
      rw [sk]
      refine ih f (i + 1) σ (by omega) (by omega) hC hs (fun l => ?_)
      rw [h35]
      by_cases c : l < i ∧ gp l = true
      · rw [if_pos c, if_pos ⟨by omega, c.2⟩]
      · rw [if_neg c, if_neg (fun z => by
          by_cases e : l = i
          · rw [e, cf] at z; cases z.2
          · exact c ⟨by omega, z.2⟩)]
/-- and in the reference -/
def opM (σ τ : zS) (H : SG) (D : Nat) (gp : Nat → Bool) (b : Nat → Nat → Bool) : Prop := ∀ i, i < D → gp i = true → ∀ j, j < qN σ i → ∃ k d, ga τ 50 (3 * i + j) = nI k ∧ k < gn H ∧ dpt d (gT H k) ∧ (b i j = true ↔ ∃ p v, gT H k p = v + 2)
theorem om_in (hF : 20000 ≤ F) {σ τ0 : zS} (hd : dcP τ0 D) (hqe : ∀ i, i < D → ga τ0 36 i = nI (qN σ i) ∧ qN σ i ≤ 3) (ho : opM σ τ0 H D gp b) (rc : zS → Int32 → Int32 → Option zS) {i : Nat} (hi : i < D) (hg : gp i = true) : ∀ (d f j : Nat) (τ : zS), j + d = qN σ i → d < f → MS τ H → sx [] [52, 53, 54] τ0 τ → ga τ 52 i = nI (cN (b i) j) → ∃ τ', Md_closeGroup_32 F rc f τ (nI g) (nI i) (nI j) = rc τ' (nI g) (nI (i + 1)) ∧ MS τ' H ∧ sx [] [52, 53, 54] τ τ' ∧ ∀ l, ga τ' 52 l = if l = i then nI (cN (b i) (qN σ i)) else ga τ 52 l := by
  have hD := hd.2.1
  obtain ⟨c3, c4⟩ := hqe i hi
  intro d
  induction d with
  | zero =>
    intro f j τ hj hf hM hs h52
    obtain ⟨f, rfl⟩ : ∃ f', f = f' + 1 := ⟨f - 1, by omega⟩
    have ej : j = qN σ i := by omega
    refine ⟨τ, ?_, hM, sx_rfl _ _ _, fun l => ?_⟩
    · rw [Md_closeGroup_32, Md_closeGroup_b32, gd_t (inb_nI (by omega) (by omega)), nI_clamp (by omega), hs.2.1 36 (by decide), c3, if_pos (nI_le (by omega) (by omega)), Md_closeGroup_79, nI_1]
    · by_cases e : l = i
      · rw [if_pos e, e, h52, ej]
      · rw [if_neg e]
  | succ d ih =>
    intro f j τ hj hf hM hs h52
    obtain ⟨f, rfl⟩ : ∃ f', f = f' + 1 := ⟨f - 1, by omega⟩
    obtain ⟨k, dd, k1, k2, k3, k4⟩ := ho i hi hg j (by omega)
    obtain ⟨r, τ1, a1, a2, a4⟩ := hasOpM (F := F) hF hM k2 k3
    have hcs : cN (b i) (j + 1) = cN (b i) j + if b i j = true then 1 else 0 := rfl
    have s1 : sx [] [52, 53, 54] τ τ1 := sx_mono (by decide) (by decide) a2
    have hM1 : MS τ1 H := MS_sx a2 (by decide) (by decide) (by decide) (by decide) (by decide) hM
    have go : ∀ v : Nat, nI v = nI (cN (b i) (j + 1)) → ∃ τ', Md_closeGroup_32 F rc f (sa τ1 52 i (nI v)) (nI g) (nI i) (nI (j + 1)) = rc τ' (nI g) (nI (i + 1)) ∧ MS τ' H ∧ sx [] [52, 53, 54] τ τ' ∧ ∀ l, ga τ' 52 l = if l = i then nI (cN (b i) (qN σ i)) else ga τ 52 l := by
      intro v hv
      have s2 : sx [] [52, 53, 54] τ (sa τ1 52 i (nI v)) := sx_sa s1 (by decide) _ _
      have e52 : ∀ l, ga (sa τ1 52 i (nI v)) 52 l = if l = i then nI v else ga τ 52 l := by
        intro l; simp only [zs, if_true]; rw [up_at, a2.2.1 52 (by decide)]
      obtain ⟨τ', b1, b2, b3, b4⟩ := ih f (j + 1) (sa τ1 52 i (nI v)) (by omega) (by omega) (MS_sx (sx_sa (sx_rfl [] [52] τ1) (by decide) i (nI v)) (by decide) (by decide) (by decide) (by decide) (by decide) hM1) (sx_tr hs s2) (by rw [e52, if_pos rfl, hv])
      refine ⟨τ', b1, b2, sx_tr s2 b3, fun l => ?_⟩
      rw [b4]
      by_cases e : l = i
      · rw [if_pos e, if_pos e]
      · rw [if_neg e, if_neg e, e52, if_neg e]
    rw [Md_closeGroup_32, Md_closeGroup_b32, gd_t (inb_nI (by omega) (by omega)), nI_clamp (by omega), hs.2.1 36 (by decide), c3, if_neg (nI_ge (by omega) (by omega)), gd_t (inb_nI (by omega) (by omega)), e3m, gd_t (inb_nI (by omega) (by omega)), nI_clamp (by omega), hs.2.1 50 (by decide), k1, a1, bi_some, h52]
    rcases a4 with ⟨rfl, hv⟩ | ⟨rfl, hv⟩
    · have hb : b i j = true := k4.mpr hv
      rw [if_pos hb] at hcs
      show ∃ τ', (if (1 : Int32) = 0 then _ else _) = _ ∧ _
      rw [if_neg (by decide), Md_closeGroup_71, gd_t (inb_nI (by omega) (by omega)), nI_clamp (by omega), nI_1, nI_1]
      exact go (cN (b i) j + 1) (by rw [hcs])
    · have hb : ¬ b i j = true := fun z => by
        obtain ⟨p, v, hp⟩ := k4.mp z
        have := hv p
        omega
      rw [if_neg hb] at hcs
      show ∃ τ', (if (0 : Int32) = 0 then _ else _) = _ ∧ _
      rw [if_pos rfl, Md_closeGroup_71, gd_t (inb_nI (by omega) (by omega)), nI_clamp (by omega), Int32.add_zero, nI_1]
      exact go (cN (b i) j) (by rw [hcs]; rfl)
theorem om_all (hF : 20000 ≤ F) {σ τ0 : zS} (hd : dcP τ0 D) (hqe : ∀ i, i < D → ga τ0 36 i = nI (qN σ i) ∧ qN σ i ≤ 3) (hgp : ∀ i, i < D → (ga τ0 48 i = nI g ↔ gp i = true)) (ho : opM σ τ0 H D gp b) : ∀ (d f i : Nat) (τ : zS), i + d = D → d < f → MS τ H → sx [] [52, 53, 54] τ0 τ → (∀ l, ga τ 52 l = if l < i ∧ gp l = true then nI (cN (b l) (qN σ l)) else ga τ0 52 l) → ∃ τ', Md_closeGroup_2 F f τ (nI g) (nI i) = Md_closeGroup_87 F F τ' 0 ∧ MS τ' H ∧ sx [] [52, 53, 54] τ0 τ' ∧ ∀ l, ga τ' 52 l = if l < D ∧ gp l = true then nI (cN (b l) (qN σ l)) else ga τ0 52 l := by
  have hD := hd.2.1
  intro d
  induction d with
  | zero =>
    intro f i τ hi hf hM hs h52
    obtain ⟨f, rfl⟩ : ∃ f', f = f' + 1 := ⟨f - 1, by omega⟩
    obtain rfl : i = D := by omega
    refine ⟨τ, ?_, hM, hs, h52⟩
    rw [Md_closeGroup_2, Md_closeGroup_b2, hs.1 52 (by decide), hd.1, if_pos (nI_le (Nat.le_refl _) (by omega))]
  | succ d ih =>
    intro f i τ hi hf hM hs h52
    obtain ⟨f, rfl⟩ : ∃ f', f = f' + 1 := ⟨f - 1, by omega⟩
    obtain ⟨c3, c4⟩ := hqe i (by omega)
    rw [Md_closeGroup_2, Md_closeGroup_b2, hs.1 52 (by decide), hd.1, if_neg (nI_ge (by omega) (by omega)), gd_t (inb_nI (by omega) (by omega)), nI_clamp (by omega), hs.2.1 48 (by decide)]
    by_cases cg : gp i = true
    · have s1 : sx [] [52, 53, 54] τ (sa τ 52 i 0) := sx_sa (sx_rfl _ _ _) (by decide) _ _
      obtain ⟨τ1, a1, a2, a3, a4⟩ := om_in (F := F) (g := g) hF hd hqe ho (Md_closeGroup_2 F f) (i := i) (by omega) cg (qN σ i) F 0 (sa τ 52 i 0) (by omega) (by omega) (MS_sx s1 (by decide) (by decide) (by decide) (by decide) (by decide) hM) (sx_tr hs s1) (by simp [zs, up_at]; exact nI_0.symm)
      rw [nI_0] at a1
      rw [if_pos ((hgp i (by omega)).mpr cg), a1]
      refine ih f (i + 1) τ1 (by omega) (by omega) a2 (sx_tr hs (sx_tr s1 a3)) (fun l => ?_)
      rw [a4]
      by_cases e : l = i
      · subst e; rw [if_pos rfl, if_pos ⟨by omega, cg⟩]
      · have : ga (sa τ 52 i 0) 52 l = ga τ 52 l := by simp [zs, up_at, e]
        rw [if_neg e, this, h52]
        by_cases c : l < i ∧ gp l = true
        · rw [if_pos c, if_pos ⟨by omega, c.2⟩]
        · rw [if_neg c, if_neg (fun z => c ⟨by omega, z.2⟩)]
    · have cf : gp i = false := by cases h : gp i <;> simp_all
      rw [if_neg (fun z => cg ((hgp i (by omega)).mp z)), Md_closeGroup_79, nI_1]
      refine ih f (i + 1) τ (by omega) (by omega) hM hs (fun l => ?_)
      rw [h52]
      by_cases c : l < i ∧ gp l = true
      · rw [if_pos c, if_pos ⟨by omega, c.2⟩]
      · rw [if_neg c, if_neg (fun z => by
          by_cases e : l = i
          · rw [e, cf] at z; cases z.2
          · exact c ⟨by omega, z.2⟩)]
end K
