/-! The reference: kinds of all nodes. Own text. -/
section K
variable {F : Nat} {E : List EQ} {D N g : Nat} {gp live : Nat → Bool} {KA : Nat → TE} {σ τ0 : zS} {H0 : SG} {dom0 : Nat → Prop} {m0 : Nat → Nat}
theorem dcN_tx {I A : List Nat} {τ τ' : zS} (h : dcN σ τ D) (hs : sx I A τ τ') (hI : 52 ∉ I) (hA : 33 ∉ A ∧ 35 ∉ A ∧ 36 ∉ A) : dcN σ τ' D :=
  dcN_cg rfl (hs.1 52 hI) (fun _ _ => rfl) (fun _ _ => rfl) (fun a ha => hs.2.1 a (by rcases ha with z | z | z <;> subst z; exact hA.1; exact hA.2.1; exact hA.2.2)) (fun a _ => sx_gb hs a) h
/-- one leaf or list or arrow -/
theorem ly_one (hF : 1300 ≤ F) (hdc : dcN σ τ0 D) (hlf : lfH σ τ0 D N gp live) (hK : ∀ y, y < D → live y = true → ∃ k, ga τ0 49 y = nI k ∧ rp H0 dom0 m0 k (KA y)) (hk : ∀ o, o < D → gp o = true → dkM τ0 H0 dom0 m0 o) {τ : zS} {H : SG} {dom : Nat → Prop} {m : Nat → Nat} {n : Nat} (hn : n < N) (hN : N ≤ 1000) (hs : sx [48] [6, 26, 27, 28, 29] τ0 τ) (hR : RV τ H dom m E) (hlk : lkI τ0 τ H dom m (lfG τ0 gp) (lfX σ τ0 D KA) 0 n) (hdm : dmN τ0 (lfG τ0 gp) n dom) (hxt : xt H0 dom0 m0 H dom m) (hH : gn H < 4000) (hin : isLf τ0 n = true → gp (nL τ0 n) = true) (h2 : ga τ0 2 n ≠ 2) : ∃ τ' H' dom' m', Md_layKind F τ (nI n) 0 = some τ' ∧ sx [48] [6, 26, 27, 28, 29] τ0 τ' ∧ RV τ' H' dom' m' E ∧ lkI τ0 τ' H' dom' m' (lfG τ0 gp) (lfX σ τ0 D KA) 0 (n + 1) ∧ dmN τ0 (lfG τ0 gp) (n + 1) dom' ∧ xt H dom m H' dom' m' ∧ gn H' ≤ gn H + (if lfG τ0 gp n = true then 1 else 0) := by
  have hD := hdc.2.2.1
  have hdm1 : dmN τ0 (lfG τ0 gp) (n + 1) dom := fun z hz => (hdm z hz).imp id (fun ⟨l, l1, l2⟩ => ⟨l, by omega, l2⟩)
  have a2 : ga τ 2 n = ga τ0 2 n := by rw [hs.2.1 2 (by decide)]
  have a3 : gb τ 3 = gb τ0 3 := sx_gb hs 3
  have setk : ∀ (τ1 : zS) (H1 : SG) (dom1 : Nat → Prop) (m1 : Nat → Nat) (k : Nat), sx [48] [26, 27, 28, 29] τ τ1 → RV τ1 H1 dom1 m1 E → xt H dom m H1 dom1 m1 → ((ga τ0 2 n = 3 ∨ ga τ0 2 n = 4) → k = 0) → (lfG τ0 gp n = true → rp H1 dom1 m1 k (lfX σ τ0 D KA n)) → sx [48] [6, 26, 27, 28, 29] τ0 (sa τ1 6 n (nI k)) ∧ RV (sa τ1 6 n (nI k)) H1 dom1 m1 E ∧ lkI τ0 (sa τ1 6 n (nI k)) H1 dom1 m1 (lfG τ0 gp) (lfX σ τ0 D KA) 0 (n + 1) := by
    intro τ1 H1 dom1 m1 k s1 r1 x1 h34 hlg
    refine ⟨sx_sa (sx_tr hs (sx_mono (by decide) (by decide) s1)) (by decide) _ _, rv_fr r1 (sx_sa (sx_rfl [] [6] τ1) (by decide) n (nI k)) (by decide) (by decide), ?_⟩
    have e6 : ∀ l, ga (sa τ1 6 n (nI k)) 6 l = if l = n then nI k else ga τ 6 l := by
      intro l; simp only [zs, if_true]; rw [up_at, s1.2.1 6 (by decide)]
    refine lkI_s (lkI_cg hlk (fun l hl => by rw [e6, if_neg (by omega)]) x1) (fun z => by rw [e6, if_pos rfl, h34 z]) (fun z => ⟨k, by rw [e6, if_pos rfl], hlg z⟩)
  rw [Md_layKind, gd_t (inb_nI (by omega) (by omega)), nI_clamp (by omega), a2, a3]
  by_cases c3 : ga τ0 2 n = 3
  · rw [if_pos c3, Md_layKind_20, gd_t (inb_nI (by omega) (by omega)), nI_clamp (by omega), hR.2.2.2.2, show (0 : Int32) = nI 0 from nI_0.symm]
    have hl : ¬ lfG τ0 gp n = true := by simp [lfG, isLf, c3]
    obtain ⟨b1, b2, b3⟩ := setk τ H dom m 0 (sx_rfl _ _ _) hR (xt_rfl _ _ _) (fun _ => rfl) (fun z => absurd z hl)
    exact ⟨_, H, dom, m, rfl, b1, b2, b3, hdm1, xt_rfl _ _ _, by omega⟩
  · rw [if_neg c3]
    by_cases c4 : ga τ0 2 n = 4
    · rw [if_pos c4, Md_layKind_20, gd_t (inb_nI (by omega) (by omega)), nI_clamp (by omega), hR.2.2.2.2, show (0 : Int32) = nI 0 from nI_0.symm]
      have hl : ¬ lfG τ0 gp n = true := by simp [lfG, isLf, c4]
      obtain ⟨b1, b2, b3⟩ := setk τ H dom m 0 (sx_rfl _ _ _) hR (xt_rfl _ _ _) (fun _ => rfl) (fun z => absurd z hl)
      exact ⟨_, H, dom, m, rfl, b1, b2, b3, hdm1, xt_rfl _ _ _, by omega⟩
    · rw [if_neg c4]
      by_cases c0 : ga τ0 2 n = 0
      · have hlf0 : isLf τ0 n = true := by simp [isLf, c0]
        obtain ⟨o, o1, o2, o3⟩ := hlf.2 n hn hlf0
        have onL : nL τ0 n = o := by unfold nL; rw [o2, nI_clamp (by omega)]
        have hgo : gp o = true := by rw [← onL]; exact hin hlf0
        have ex : lfX σ τ0 D KA n = tyF σ D KA (gb τ0 3 n) := by unfold lfX; rw [if_pos c0]
        rw [if_pos c0]
        by_cases ci : gb τ0 3 n = 4812404
        · rw [if_pos ((lgc _ _).mpr ci), Md_layKind_82, gd_t (inb_nI (by omega) (by omega)), nI_clamp (by omega), hR.2.2.2.2, show (0 : Int32) = nI 0 from nI_0.symm]
          obtain ⟨b1, b2, b3⟩ := setk τ H dom m 0 (sx_rfl _ _ _) hR (xt_rfl _ _ _) (fun _ => rfl) (fun z => by rw [ex, ci, tyF, if_pos hlf.1]; exact hR.2.2.1)
          exact ⟨_, H, dom, m, rfl, b1, b2, b3, hdm1, xt_rfl _ _ _, by omega⟩
        · obtain ⟨y, y1, y2, y3⟩ := (o3 c0).resolve_left ci
          obtain ⟨k, k1, k2⟩ := hK y y1 (y3 hgo)
          rw [if_neg (fun z => ci ((lgc _ _).mp z)), (findT (F := F) (by omega) (dcN_tx hdc hs (by decide) (by decide)) (gb τ0 3 n)).2, bi_some, y2]
          show ∃ τ' H' dom' m', gd (inb (nI y) 16) _ = _ ∧ _
          rw [gd_t (inb_nI (by omega) (by omega)), nI_clamp (by omega), hs.2.1 49 (by decide), k1, Md_layKind_82, gd_t (inb_nI (by omega) (by omega)), nI_clamp (by omega)]
          obtain ⟨b1, b2, b3⟩ := setk τ H dom m k (sx_rfl _ _ _) hR (xt_rfl _ _ _) (fun z => by rcases z with z | z <;> rw [c0] at z <;> exact absurd z (by decide)) (fun z => by rw [ex, tyF, if_neg (by rw [y2]; exact nI_m1 y (by omega)), y2, nI_clamp (by omega)]; exact hxt _ _ k2)
          exact ⟨_, H, dom, m, rfl, b1, b2, b3, hdm1, xt_rfl _ _ _, by omega⟩
      · rw [if_neg c0]
        by_cases c1 : ga τ0 2 n = 1
        · have hlf0 : isLf τ0 n = true := by simp [isLf, c1]
          obtain ⟨o, o1, o2, o3⟩ := hlf.2 n hn hlf0
          have onL : nL τ0 n = o := by unfold nL; rw [o2, nI_clamp (by omega)]
          have hgo : gp o = true := by rw [← onL]; exact hin hlf0
          have hgn : lfG τ0 gp n = true := by unfold lfG; rw [hlf0, onL, hgo]; rfl
          obtain ⟨so, q, d1, d2, d3, d4, d5, d6, d7⟩ := hk o o1 hgo
          obtain ⟨so', q', _, _, _, _, _, _, f7, f8, f9⟩ := hdc.2.2.2 o o1
          have hqq : q' = q := (nI_eq (by omega) (by omega)).mp (f8.symm.trans d3)
          subst hqq
          have hqN : qN σ o = q' := by unfold qN; rw [f7, nI_clamp (by omega)]
          have ex : lfX σ τ0 D KA n = smF σ o (ga τ0 4 n) (ga τ0 5 n) (gb τ0 3 n) := by unfold lfX; rw [if_neg c0, onL]
          have kp := ks_par (F := F) (σ := σ) (τ := τ) (n := n) (o := o) (q := q') (x2 := 0) (by omega) (by omega) d4 (by rw [hs.2.1 36 (by decide)]; exact d3) (fun j hj => by rw [sx_gb hs]; exact f9 j hj) q' F 0 (by omega) (by omega)
          rw [a3, nI_0] at kp
          have e0 : Md_kindOfSmall F τ (nI n) 0 = Md_kindOfSmall_10 F F τ (nI n) 0 (nI o) 0 := by
            rw [Md_kindOfSmall, gd_t (inb_nI (by omega) (by omega)), nI_clamp (by omega), hs.2.1 4 (by decide), o2]
          rw [if_pos c1, e0]
          rcases fPa_rng σ o (gb τ0 3 n) q' 0 with z | ⟨j, j1, j2, j3, j4⟩
          · have ex2 : lfX σ τ0 D KA n = .var (cfr (ga τ0 4 n) (ga τ0 5 n) (gb τ0 3 n) + 1) := by rw [ex, smF, hqN, if_pos z]
            obtain ⟨k, τ1, H1, dom1, m1, b1, b2, b3, b4, b5, b6, b7⟩ := ks_find (F := F) (lo := 0) (by omega) (fun a ha => hs.2.1 a (by rcases ha with z | z | z <;> subst z <;> decide)) a3 hR hH hlk hdm hgn c1 (fun l _ hl hsk => by
              obtain ⟨q1, q2, q3, q4⟩ := hsk
              refine ⟨?_, ?_⟩
              · unfold lfG isLf nL at hgn ⊢
                rw [q2]
                simp [q1]
                simp at hgn
                exact hgn.2
              · unfold lfX nL
                rw [q1, c1, if_neg (by decide), if_neg (by decide), q2, q3, q4]) ex2 n F 0 (by omega) (by omega) (by omega) (fun l hl => by omega)
            rw [kp.1 z, Md_kindOfSmall_64, show (0 : Int32) = nI 0 from nI_0.symm, b1, bi_some]
            obtain ⟨e1, e2, e3⟩ := setk τ1 H1 dom1 m1 k b3 b2 b4 (fun z => by rcases z with z | z <;> rw [c1] at z <;> exact absurd z (by decide)) (fun _ => b6)
            exact ⟨_, H1, dom1, m1, rfl, e1, e2, e3, b7, b4, by rw [if_pos hgn]; exact b5⟩
          · obtain ⟨k, k1, k2⟩ := d7 j (by omega)
            rw [kp.2 j (by omega) j3, bi_some, hs.2.1 50 (by decide), k1]
            obtain ⟨e1, e2, e3⟩ := setk τ H dom m k (sx_rfl _ _ _) hR (xt_rfl _ _ _) (fun z => by rcases z with z | z <;> rw [c1] at z <;> exact absurd z (by decide)) (fun _ => by rw [ex, smF, hqN, if_neg (by rw [j3]; exact nI_m1 j (by omega)), j3, nI_clamp (by omega)]; exact hxt _ _ k2)
            exact ⟨_, H, dom, m, rfl, e1, e2, e3, hdm1, xt_rfl _ _ _, by omega⟩
        · rw [if_neg c1]
          have hl : ¬ lfG τ0 gp n = true := by simp [lfG, isLf, c0, c1]
          exact ⟨τ, H, dom, m, rfl, hs, hR, lkI_s hlk (fun z => by rcases z with z | z <;> contradiction) (fun z => absurd z hl), hdm1, xt_rfl _ _ _, by omega⟩
theorem ly_all (hF : 1300 ≤ F) (hdc : dcN σ τ0 D) (hlf : lfH σ τ0 D N gp live) (hg : ∀ i, i < D → (ga τ0 48 i = nI g ↔ gp i = true)) (hK : ∀ y, y < D → live y = true → ∃ k, ga τ0 49 y = nI k ∧ rp H0 dom0 m0 k (KA y)) (hk : ∀ o, o < D → gp o = true → dkM τ0 H0 dom0 m0 o) (h16 : gi τ0 16 = nI N) (hN : N ≤ 1000) : ∀ (d f n : Nat) (τ : zS) (H : SG) (dom : Nat → Prop) (m : Nat → Nat), n + d = N → d < f → sx [48] [6, 26, 27, 28, 29] τ0 τ → RV τ H dom m E → lkI τ0 τ H dom m (lfG τ0 gp) (lfX σ τ0 D KA) 0 n → dmN τ0 (lfG τ0 gp) n dom → xt H0 dom0 m0 H dom m → gn H + cN (lfG τ0 gp) N < 4000 + cN (lfG τ0 gp) n → ∃ τ' H' dom' m', Md_solve_33 F f τ (nI g) (nI n) = Md_solve_98 F F τ' (nI g) 0 ∧ sx [48] [6, 26, 27, 28, 29] τ0 τ' ∧ RV τ' H' dom' m' E ∧ lkI τ0 τ' H' dom' m' (lfG τ0 gp) (lfX σ τ0 D KA) 0 N ∧ dmN τ0 (lfG τ0 gp) N dom' ∧ xt H0 dom0 m0 H' dom' m' ∧ gn H' + cN (lfG τ0 gp) n ≤ gn H + cN (lfG τ0 gp) N := by
  have hD := hdc.2.2.1
  intro d
  induction d with
  | zero =>
    intro f n τ H dom m hn hf hs hR hlk hdm hxt hG
    obtain ⟨f, rfl⟩ : ∃ f', f = f' + 1 := ⟨f - 1, by omega⟩
    obtain rfl : n = N := by omega
    refine ⟨τ, H, dom, m, ?_, hs, hR, hlk, hdm, hxt, Nat.le_refl _⟩
    rw [Md_solve_33, Md_solve_b33, hs.1 16 (by decide), h16, if_pos (nI_le (Nat.le_refl _) (by omega))]
  | succ d ih =>
    intro f n τ H dom m hn hf hs hR hlk hdm hxt hG
    obtain ⟨f, rfl⟩ : ∃ f', f = f' + 1 := ⟨f - 1, by omega⟩
    have hcs : cN (lfG τ0 gp) (n + 1) = cN (lfG τ0 gp) n + if lfG τ0 gp n = true then 1 else 0 := rfl
    have hle : cN (lfG τ0 gp) (n + 1) ≤ cN (lfG τ0 gp) N := cN_up _ (by omega)
    have hle0 : cN (lfG τ0 gp) n ≤ cN (lfG τ0 gp) N := cN_up _ (by omega)
    have a2 : ga τ 2 n = ga τ0 2 n := by rw [hs.2.1 2 (by decide)]
    have a4 : ga τ 4 n = ga τ0 4 n := by rw [hs.2.1 4 (by decide)]
    have lay : (isLf τ0 n = true → gp (nL τ0 n) = true) → ∃ τ' H' dom' m', Md_solve_85 F (Md_solve_33 F f) τ (nI g) (nI n) = Md_solve_98 F F τ' (nI g) 0 ∧ sx [48] [6, 26, 27, 28, 29] τ0 τ' ∧ RV τ' H' dom' m' E ∧ lkI τ0 τ' H' dom' m' (lfG τ0 gp) (lfX σ τ0 D KA) 0 N ∧ dmN τ0 (lfG τ0 gp) N dom' ∧ xt H0 dom0 m0 H' dom' m' ∧ gn H' + cN (lfG τ0 gp) n ≤ gn H + cN (lfG τ0 gp) N := by
      intro hin
      rw [Md_solve_85, Md_layKindOnce, gd_t (inb_nI (by omega) (by omega)), nI_clamp (by omega), a2]
      by_cases c2 : ga τ0 2 n = 2
      · rw [if_pos c2, Md_layKindOnce_16, bv_some, Md_solve_90, nI_1]
        have hl : ¬ lfG τ0 gp n = true := by simp [lfG, isLf, c2]
        rw [if_neg hl] at hcs
        obtain ⟨τ', H', dom', m', e1, e2, e3, e4, e5, e6, e7⟩ := ih f (n + 1) τ H dom m (by omega) (by omega) hs hR (lkI_s hlk (fun z => by rcases z with z | z <;> rw [c2] at z <;> exact absurd z (by decide)) (fun z => absurd z hl)) (fun z hz => (hdm z hz).imp id (fun ⟨l, l1, l2⟩ => ⟨l, by omega, l2⟩)) hxt (by omega)
        exact ⟨τ', H', dom', m', e1, e2, e3, e4, e5, e6, by omega⟩
      · obtain ⟨τ1, H1, dom1, m1, b1, b2, b3, b4, b5, b6, b7⟩ := ly_one (F := F) hF hdc hlf hK hk (n := n) (by omega) hN hs hR hlk hdm hxt (by omega) hin c2
        rw [if_neg c2, b1, bv_some, Md_layKindOnce_16, bv_some, Md_solve_90, nI_1]
        obtain ⟨τ', H', dom', m', e1, e2, e3, e4, e5, e6, e7⟩ := ih f (n + 1) τ1 H1 dom1 m1 (by omega) (by omega) b2 b3 b4 b5 (xt_tr hxt b6) (by omega)
        exact ⟨τ', H', dom', m', e1, e2, e3, e4, e5, e6, by omega⟩
    have e60 : isLf τ0 n = true → ∃ τ' H' dom' m', Md_solve_60 F (Md_solve_33 F f) τ (nI g) (nI n) = Md_solve_98 F F τ' (nI g) 0 ∧ sx [48] [6, 26, 27, 28, 29] τ0 τ' ∧ RV τ' H' dom' m' E ∧ lkI τ0 τ' H' dom' m' (lfG τ0 gp) (lfX σ τ0 D KA) 0 N ∧ dmN τ0 (lfG τ0 gp) N dom' ∧ xt H0 dom0 m0 H' dom' m' ∧ gn H' + cN (lfG τ0 gp) n ≤ gn H + cN (lfG τ0 gp) N := by
      intro hl
      obtain ⟨o, o1, o2, o3⟩ := hlf.2 n (by omega) hl
      have onL : nL τ0 n = o := by unfold nL; rw [o2, nI_clamp (by omega)]
      rw [Md_solve_60, Md_solve_65, if_neg (by decide), gd_t (inb_nI (by omega) (by omega)), nI_clamp (by omega), a4, o2, gd_t (inb_nI (by omega) (by omega)), nI_clamp (by omega), hs.2.1 48 (by decide)]
      by_cases cg : gp o = true
      · rw [if_pos ((hg o o1).mpr cg)]
        exact lay (fun _ => by rw [onL]; exact cg)
      · have hlg : ¬ lfG τ0 gp n = true := by unfold lfG; rw [onL]; simp [cg]
        rw [if_neg hlg] at hcs
        rw [if_neg (fun z => cg ((hg o o1).mp z)), Md_solve_90, nI_1]
        obtain ⟨τ', H', dom', m', e1, e2, e3, e4, e5, e6, e7⟩ := ih f (n + 1) τ H dom m (by omega) (by omega) hs hR (lkI_s hlk (fun z => by
          unfold isLf at hl
          rcases z with z | z <;> rw [z] at hl <;> exact absurd hl (by decide)) (fun z => absurd z hlg)) (fun z hz => (hdm z hz).imp id (fun ⟨l, l1, l2⟩ => ⟨l, by omega, l2⟩)) hxt (by omega)
        exact ⟨τ', H', dom', m', e1, e2, e3, e4, e5, e6, by omega⟩
    rw [Md_solve_33, Md_solve_b33, hs.1 16 (by decide), h16, if_neg (nI_ge (by omega) (by omega)), gd_t (inb_nI (by omega) (by omega)), nI_clamp (by omega), a2]
    by_cases c0 : ga τ0 2 n = 0
    · rw [if_pos c0]; exact e60 (by simp [isLf, c0])
    · rw [if_neg c0]
      by_cases c1 : ga τ0 2 n = 1
      · rw [if_pos c1]; exact e60 (by simp [isLf, c1])
      · rw [if_neg c1, Md_solve_65, if_pos rfl]
        exact lay (fun z => by simp [isLf, c0, c1] at z)
end K
