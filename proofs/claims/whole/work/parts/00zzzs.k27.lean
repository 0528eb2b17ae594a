/-! The reference: kinds of all members of a group, kinds of nodes. Own text. -/
def dcP (τ : zS) (D : Nat) : Prop := gi τ 52 = nI D ∧ D ≤ 16 ∧ ∀ i, i < D → ∃ so q, ga τ 33 i = nI so ∧ so ≤ 2 ∧ ga τ 36 i = nI q ∧ q ≤ 3 ∧ (so = 2 → q = 1)
theorem dcP_cg {τ τ' : zS} {D : Nat} (h : dcP τ D) (h1 : gi τ' 52 = gi τ 52) (h2 : ga τ' 33 = ga τ 33) (h3 : ga τ' 36 = ga τ 36) : dcP τ' D := by
  unfold dcP
  rw [h1, h2, h3]
  exact h
section K
variable {F : Nat} {E : List EQ} {D g : Nat} {gp : Nat → Bool}
theorem pr_all (hF : 1300 ≤ F) : ∀ (d f i : Nat) (τ : zS) (H : SG) (dom : Nat → Prop) (m : Nat → Nat), i + d = D → d < f → dcP τ D → (∀ i, i < D → (ga τ 48 i = nI g ↔ gp i = true)) → RV τ H dom m E → dmK2 i 0 dom → gn H + 7 * cN gp D ≤ 4000 + 7 * cN gp i → ∃ τ' H' dom' m', Md_solve_2 F f τ (nI g) (nI i) = Md_solve_33 F F τ' (nI g) 0 ∧ RV τ' H' dom' m' E ∧ gn H' + 7 * cN gp i ≤ gn H + 7 * cN gp D ∧ xt H dom m H' dom' m' ∧ dmK2 D 0 dom' ∧ (∀ l, i ≤ l → l < D → gp l = true → dkM τ' H' dom' m' l) ∧ sx [48] [26, 27, 28, 29, 49, 50, 51] τ τ' ∧ ∀ l, (l < i ∨ gp l = false) → ga τ' 49 l = ga τ 49 l ∧ ga τ' 51 l = ga τ 51 l ∧ ∀ j, j < 3 → ga τ' 50 (3 * l + j) = ga τ 50 (3 * l + j) := by
  intro d
  induction d with
  | zero =>
    intro f i τ H dom m hi hf hd hg hL hdm hG
    obtain ⟨f, rfl⟩ : ∃ f', f = f' + 1 := ⟨f - 1, by omega⟩
    obtain rfl : i = D := by omega
    refine ⟨τ, H, dom, m, ?_, hL, Nat.le_refl _, xt_rfl _ _ _, hdm, fun l l1 l2 => by omega, sx_rfl _ _ _, fun l _ => ⟨rfl, rfl, fun _ _ => rfl⟩⟩
    rw [Md_solve_2, Md_solve_b2, hd.1, if_pos (nI_le (Nat.le_refl _) (by have := hd.2.1; omega))]
  | succ d ih =>
    intro f i τ H dom m hi hf hd hg hL hdm hG
    obtain ⟨f, rfl⟩ : ∃ f', f = f' + 1 := ⟨f - 1, by omega⟩
    have hD := hd.2.1
    have hcs : cN gp (i + 1) = cN gp i + if gp i = true then 1 else 0 := rfl
    have hle : cN gp (i + 1) ≤ cN gp D := cN_up gp (by omega)
    rw [Md_solve_2, Md_solve_b2, hd.1, if_neg (nI_ge (by omega) (by omega)), gd_t (inb_nI (by omega) (by omega)), nI_clamp (by omega)]
    by_cases c : gp i = true
    · rw [if_pos c] at hcs
      rw [if_pos ((hg i (by omega)).mpr c)]
      obtain ⟨so, q, b1, b2, b3, b4, b5⟩ := hd.2.2 i (by omega)
      obtain ⟨τ1, H1, dom1, m1, a1, a2, a3, a4, a5, a6, a7, a8, a9⟩ := pr_one (F := F) hF (i := i) (by omega) b1 b2 b3 b4 b5 hL (by omega) hdm
      obtain ⟨τ', H', dom', m', e1, e2, e3, e4, e5, e6, e7, e8⟩ := ih f (i + 1) τ1 H1 dom1 m1 (by omega) (by omega) (dcP_cg hd (a7.1 52 (by decide)) (a7.2.1 33 (by decide)) (a7.2.1 36 (by decide))) (fun i hi => by rw [a7.2.1 48 (by decide)]; exact hg i hi) a2 a5 (by omega)
      refine ⟨τ', H', dom', m', by rw [a1, bv_some, Md_solve_25, nI_1, e1], e2, by omega, xt_tr a4 e4, e5, fun l l1 l2 lg => ?_, sx_tr a7 e7, fun l hl => ?_⟩
      · by_cases el : l = i
        · subst el
          obtain ⟨q1, q2, q3⟩ := e8 l (Or.inl (by omega))
          exact dkM_cg a6 ⟨by rw [e7.2.1 33 (by decide)], by rw [e7.2.1 36 (by decide)], q1, q2⟩ q3 e4
        · exact e6 l (by omega) l2 lg
      · have hli : l ≠ i := by
          rcases hl with z | z
          · omega
          · intro z'; rw [z', c] at z; cases z
        obtain ⟨q1, q2, q3⟩ := e8 l (hl.imp (fun z => by omega) id)
        obtain ⟨r1, r2⟩ := a9 l hli
        exact ⟨q1.trans r1, q2.trans r2, fun j hj => (q3 j hj).trans (a8 _ (by omega))⟩
    · have cf : gp i = false := by cases h : gp i <;> simp_all
      rw [if_neg c] at hcs
      rw [if_neg (fun z => c ((hg i (by omega)).mp z)), Md_solve_25, nI_1]
      obtain ⟨τ', H', dom', m', e1, e2, e3, e4, e5, e6, e7, e8⟩ := ih f (i + 1) τ H dom m (by omega) (by omega) hd hg hL (fun z hz => by
        rcases hdm z hz with ⟨i', j', y1, y2, y3⟩ | ⟨i', y1, y2⟩
        · exact Or.inl ⟨i', j', y1, y2, by omega⟩
        · exact Or.inr ⟨i', by omega, y2⟩) (by omega)
      refine ⟨τ', H', dom', m', e1, e2, by omega, e4, e5, fun l l1 l2 lg => ?_, e7, fun l hl => ?_⟩
      · by_cases el : l = i
        · subst el; rw [cf] at lg; cases lg
        · exact e6 l (by omega) l2 lg
      · exact e8 l (hl.imp (fun z => by omega) id)
end K
/-- leaves -/
def isLf (τ : zS) (n : Nat) : Bool := decide (ga τ 2 n = 0) || decide (ga τ 2 n = 1)
/-- leaves of the group's members -/
def lfG (τ : zS) (gp : Nat → Bool) (n : Nat) : Bool := isLf τ n && gp (nL τ n)
/-- the kind of a leaf -/
def lfX (σ τ : zS) (D : Nat) (KA : Nat → TE) (n : Nat) : TE := if ga τ 2 n = 0 then tyF σ D KA (gb τ 3 n) else smF σ (nL τ n) (ga τ 4 n) (ga τ 5 n) (gb τ 3 n)
/-- kinds of nodes from lo to n: lg tells the leaves, lx their kinds -/
def lkI (τ0 τ : zS) (H : SG) (dom : Nat → Prop) (m : Nat → Nat) (lg : Nat → Bool) (lx : Nat → TE) (lo n : Nat) : Prop := ∀ l, lo ≤ l → l < n → ((ga τ0 2 l = 3 ∨ ga τ0 2 l = 4) → ga τ 6 l = nI 0) ∧ (lg l = true → ∃ k, ga τ 6 l = nI k ∧ rp H dom m k (lx l))
/-- open ones: of declarations and of leaves below n -/
def dmN (τ : zS) (lg : Nat → Bool) (n : Nat) (dom : Nat → Prop) : Prop := ∀ z, dom z → (1000 ≤ z ∧ z < 1064) ∨ ∃ l, l < n ∧ lg l = true ∧ ga τ 2 l = 1 ∧ z = cfr (ga τ 4 l) (ga τ 5 l) (gb τ 3 l)
/-- what is known of leaves -/
def lfH (σ τ : zS) (D N : Nat) (gp live : Nat → Bool) : Prop := fTy σ 4812404 D 0 = -1 ∧ ∀ n, n < N → isLf τ n = true → ∃ o, o < D ∧ ga τ 4 n = nI o ∧ (ga τ 2 n = 0 → gb τ 3 n = 4812404 ∨ ∃ y, y < D ∧ fTy σ (gb τ 3 n) D 0 = nI y ∧ (gp o = true → live y = true))
def skey (τ : zS) (l n : Nat) : Prop := ga τ 2 l = 1 ∧ ga τ 4 l = ga τ 4 n ∧ ga τ 5 l = ga τ 5 n ∧ gb τ 3 l = gb τ 3 n
section K
variable {F : Nat} {E : List EQ} {lg : Nat → Bool} {lx : Nat → TE} {τ0 : zS}
theorem lkI_cg {τ τ' : zS} {H H' : SG} {dom dom' : Nat → Prop} {m m' : Nat → Nat} {lo n : Nat} (h : lkI τ0 τ H dom m lg lx lo n) (h6 : ∀ l, l < n → ga τ' 6 l = ga τ 6 l) (hx : xt H dom m H' dom' m') : lkI τ0 τ' H' dom' m' lg lx lo n := by
  intro l hl0 hl
  obtain ⟨a1, a2⟩ := h l hl0 hl
  rw [h6 l hl]
  refine ⟨a1, fun z => ?_⟩
  obtain ⟨k, b1, b2⟩ := a2 z
  exact ⟨k, b1, hx _ _ b2⟩
theorem lkI_s {τ : zS} {H : SG} {dom : Nat → Prop} {m : Nat → Nat} {lo n : Nat} (h : lkI τ0 τ H dom m lg lx lo n) (h1 : (ga τ0 2 n = 3 ∨ ga τ0 2 n = 4) → ga τ 6 n = nI 0) (h2 : lg n = true → ∃ k, ga τ 6 n = nI k ∧ rp H dom m k (lx n)) : lkI τ0 τ H dom m lg lx lo (n + 1) := by
  intro l hl0 hl
  by_cases e : l = n
  · subst e; exact ⟨h1, h2⟩
  · exact h l hl0 (by omega)
/-- among the leaves ahead -/
theorem ks_find {τ : zS} {H : SG} {dom : Nat → Prop} {m : Nat → Nat} {lo n : Nat} (hn : n < 1000) (hs0 : ∀ a, a = 2 ∨ a = 4 ∨ a = 5 → ga τ a = ga τ0 a) (hs3 : gb τ 3 = gb τ0 3) (hR : RV τ H dom m E) (hH : gn H < 4000) (hlk : lkI τ0 τ H dom m lg lx lo n) (hdm : dmN τ0 lg n dom) (hg : lg n = true) (h1 : ga τ0 2 n = 1) (hcl : ∀ l, lo ≤ l → l < n → skey τ0 l n → lg l = true ∧ lx l = lx n) (ex : lx n = .var (cfr (ga τ0 4 n) (ga τ0 5 n) (gb τ0 3 n) + 1)) : ∀ (d f i : Nat), lo ≤ i → i + d = n → d < f → (∀ l, l < i → lg l = true → ¬ skey τ0 l n) → ∃ k τ' H' dom' m', Md_kindOfSmall_67 F f τ (nI n) (nI i) = some (nI k, τ') ∧ RV τ' H' dom' m' E ∧ sx [48] [26, 27, 28, 29] τ τ' ∧ xt H dom m H' dom' m' ∧ gn H' ≤ gn H + 1 ∧ rp H' dom' m' k (lx n) ∧ dmN τ0 lg (n + 1) dom' := by
  intro d
  induction d with
  | zero =>
    intro f i hlo hi hf hno
    obtain ⟨f, rfl⟩ : ∃ f', f = f' + 1 := ⟨f - 1, by omega⟩
    obtain rfl : i = n := by omega
    have hnd : ¬ dom (cfr (ga τ0 4 i) (ga τ0 5 i) (gb τ0 3 i)) := by
      intro z
      rcases hdm _ z with ⟨_, y⟩ | ⟨l, l1, l2, l3, l4⟩
      · have := cfr_ge (ga τ0 4 i) (ga τ0 5 i) (gb τ0 3 i); omega
      · obtain ⟨q1, q2, q3⟩ := cfr_inj l4
        exact hno l l1 l2 ⟨l3, q1.symm, q2.symm, q3.symm⟩
    obtain ⟨τ1, a1, a2, a3, a4, a5⟩ := rv_open (F := F) (x := cfr (ga τ0 4 i) (ga τ0 5 i) (gb τ0 3 i)) hR hH hnd
    refine ⟨gn H, τ1, _, _, _, ?_, a3, a2, a4, by rw [ad_n]; omega, by rw [ex]; exact a5, fun z hz => ?_⟩
    · rw [Md_kindOfSmall_67, Md_kindOfSmall_b67, if_pos (nI_le (Nat.le_refl _) (by omega)), a1, bi_some]
    · rcases hz with y | y
      · rcases hdm z y with w | ⟨l, l1, l2⟩
        · exact Or.inl w
        · exact Or.inr ⟨l, by omega, l2⟩
      · exact Or.inr ⟨i, by omega, hg, h1, y⟩
  | succ d ih =>
    intro f i hlo hi hf hno
    obtain ⟨f, rfl⟩ : ∃ f', f = f' + 1 := ⟨f - 1, by omega⟩
    have next : ¬ skey τ0 i n → ∃ k τ' H' dom' m', Md_kindOfSmall_141 F (Md_kindOfSmall_67 F f) τ (nI n) (nI i) = some (nI k, τ') ∧ RV τ' H' dom' m' E ∧ sx [48] [26, 27, 28, 29] τ τ' ∧ xt H dom m H' dom' m' ∧ gn H' ≤ gn H + 1 ∧ rp H' dom' m' k (lx n) ∧ dmN τ0 lg (n + 1) dom' := by
      intro hc
      rw [Md_kindOfSmall_141, nI_1]
      exact ih f (i + 1) (by omega) (by omega) (by omega) (fun l hl hll => by
        by_cases e : l = i
        · subst e; exact hc
        · exact hno l (by omega) hll)
    rw [Md_kindOfSmall_67, Md_kindOfSmall_b67, if_neg (nI_ge (by omega) (by omega)), gd_t (inb_nI (by omega) (by omega)), nI_clamp (by omega), nI_clamp (by omega), hs0 2 (by simp), hs0 4 (by simp), hs0 5 (by simp), hs3]
    by_cases c1 : ga τ0 2 i = 1
    · rw [if_pos c1, gd_t (inb_nI (by omega) (by omega))]
      by_cases c2 : ga τ0 4 i = ga τ0 4 n
      · rw [if_pos c2]
        by_cases c3 : ga τ0 5 i = ga τ0 5 n
        · rw [if_pos c3]
          by_cases c4 : gb τ0 3 i = gb τ0 3 n
          · rw [if_pos ((lgc _ _).mpr c4)]
            obtain ⟨hgi, exi⟩ := hcl i hlo (by omega) ⟨c1, c2, c3, c4⟩
            obtain ⟨k, k1, k2⟩ := (hlk i hlo (by omega)).2 hgi
            refine ⟨k, τ, H, dom, m, by rw [k1], hR, sx_rfl _ _ _, xt_rfl _ _ _, by omega, by rw [← exi]; exact k2, fun z hz => ?_⟩
            rcases hdm z hz with w | ⟨l, l1, l2⟩
            · exact Or.inl w
            · exact Or.inr ⟨l, by omega, l2⟩
          · rw [if_neg (fun z => c4 ((lgc _ _).mp z))]
            exact next (fun z => c4 z.2.2.2)
        · rw [if_neg c3]; exact next (fun z => c3 z.2.2.1)
      · rw [if_neg c2]; exact next (fun z => c2 z.2.1)
    · rw [if_neg c1]; exact next (fun z => c1 z.1)
/-- among the parameters -/
theorem ks_par {σ τ : zS} {n o q : Nat} {x2 : Int32} (hn : n < 1000) (ho : o < 16) (hq : q ≤ 3) (h36 : ga τ 36 o = nI q) (hnm : ∀ j, j < q → gb τ 37 (3 * o + j) = gb σ 33 (3 * o + j)) : ∀ (d f j : Nat), j + d = q → d < f → (fPa σ o (gb τ 3 n) d j = -1 → Md_kindOfSmall_10 F f τ (nI n) x2 (nI o) (nI j) = Md_kindOfSmall_64 F τ (nI n) x2) ∧ (∀ jj, jj < 3 → fPa σ o (gb τ 3 n) d j = nI jj → Md_kindOfSmall_10 F f τ (nI n) x2 (nI o) (nI j) = some (ga τ 50 (3 * o + jj), τ)) := by
  intro d
  induction d with
  | zero =>
    intro f j hj hf
    obtain ⟨f, rfl⟩ : ∃ f', f = f' + 1 := ⟨f - 1, by omega⟩
    refine ⟨fun _ => ?_, fun jj hjj z => ?_⟩
    · rw [Md_kindOfSmall_10, Md_kindOfSmall_b10, if_neg (nI_pos (by omega)), gd_t (inb_nI (by omega) (by omega)), nI_clamp (by omega), h36, if_pos (nI_le (by omega) (by omega))]
    · rw [fPa] at z
      exact absurd z.symm (nI_m1 jj (by omega))
  | succ d ih =>
    intro f j hj hf
    obtain ⟨f, rfl⟩ : ∃ f', f = f' + 1 := ⟨f - 1, by omega⟩
    obtain ⟨i1, i2⟩ := ih f (j + 1) (by omega) (by omega)
    have e0 : Md_kindOfSmall_10 F (f + 1) τ (nI n) x2 (nI o) (nI j) = if gb σ 33 (3 * o + j) = gb τ 3 n then some (ga τ 50 (3 * o + j), τ) else Md_kindOfSmall_10 F f τ (nI n) x2 (nI o) (nI (j + 1)) := by
      rw [Md_kindOfSmall_10, Md_kindOfSmall_b10, if_neg (nI_pos (by omega)), gd_t (inb_nI (by omega) (by omega)), nI_clamp (by omega), h36, if_neg (nI_ge (by omega) (by omega)), e3m, gd_t (inb_nI (by omega) (by omega)), gd_t (inb_nI (by omega) (by omega)), nI_clamp (by omega), nI_clamp (by omega), hnm j (by omega), gd_t (inb_nI (by omega) (by omega)), nI_1]
      by_cases c : gb σ 33 (3 * o + j) = gb τ 3 n
      · rw [if_pos ((lgc _ _).mpr c), if_pos c]
      · rw [if_neg (fun z => c ((lgc _ _).mp z)), if_neg c]
    rw [e0, fPa]
    by_cases c : gb σ 33 (3 * o + j) = gb τ 3 n
    · rw [if_pos c, if_pos c]
      refine ⟨fun z => absurd z (nI_m1 j (by omega)), fun jj hjj z => ?_⟩
      rw [(nI_eq (by omega) (by omega)).mp z]
    · rw [if_neg c, if_neg c]
      exact ⟨i1, i2⟩
end K
