/-! A question: the reference lays kinds. Own text. -/
/-- leaves that are asked -/
def lfA (σ τ : zS) (D lo N : Nat) : Prop := fTy σ 4812404 D 0 = -1 ∧ ∀ n, lo ≤ n → n < N → isLf τ n = true → ga τ 4 n < 0 ∧ (ga τ 2 n = 0 → gb τ 3 n = 4812404 ∨ ∃ y, y < D ∧ fTy σ (gb τ 3 n) D 0 = nI y)
def laG (τ : zS) (lo n : Nat) : Bool := isLf τ n && decide (lo ≤ n)
def laX (σ τ : zS) (D : Nat) (KA : Nat → TE) (n : Nat) : TE := if ga τ 2 n = 0 then tyF σ D KA (gb τ 3 n) else .var (cfr (ga τ 4 n) (ga τ 5 n) (gb τ 3 n) + 1)
section K
variable {F : Nat} {E : List EQ} {D N lo : Nat} {KA : Nat → TE} {σ τ0 : zS} {H0 : SG} {dom0 : Nat → Prop} {m0 : Nat → Nat}
theorem la_one (hF : 1300 ≤ F) (hdc : dcN σ τ0 D) (hlf : lfA σ τ0 D lo N) (hK : ∀ y, y < D → ∃ k, ga τ0 49 y = nI k ∧ rp H0 dom0 m0 k (KA y)) {τ : zS} {H : SG} {dom : Nat → Prop} {m : Nat → Nat} {n : Nat} (hlo : lo ≤ n) (hn : n < N) (hN : N ≤ 1000) (hs : sx [48] [6, 26, 27, 28, 29] τ0 τ) (hR : RV τ H dom m E) (hlk : lkI τ0 τ H dom m (laG τ0 lo) (laX σ τ0 D KA) lo n) (hdm : dmN τ0 (laG τ0 lo) n dom) (hxt : xt H0 dom0 m0 H dom m) (hH : gn H < 4000) (h2 : ga τ0 2 n ≠ 2) : ∃ τ' H' dom' m', Md_layKind F τ (nI n) (nI lo) = some τ' ∧ sx [48] [6, 26, 27, 28, 29] τ0 τ' ∧ RV τ' H' dom' m' E ∧ lkI τ0 τ' H' dom' m' (laG τ0 lo) (laX σ τ0 D KA) lo (n + 1) ∧ dmN τ0 (laG τ0 lo) (n + 1) dom' ∧ xt H dom m H' dom' m' ∧ gn H' ≤ gn H + 1 := by
  have hD := hdc.2.2.1
  have hdm1 : dmN τ0 (laG τ0 lo) (n + 1) dom := fun z hz => (hdm z hz).imp id (fun ⟨l, l1, l2⟩ => ⟨l, by omega, l2⟩)
  have a2 : ga τ 2 n = ga τ0 2 n := by rw [hs.2.1 2 (by decide)]
  have a3 : gb τ 3 = gb τ0 3 := sx_gb hs 3
  have setk : ∀ (τ1 : zS) (H1 : SG) (dom1 : Nat → Prop) (m1 : Nat → Nat) (k : Nat), sx [48] [26, 27, 28, 29] τ τ1 → RV τ1 H1 dom1 m1 E → xt H dom m H1 dom1 m1 → ((ga τ0 2 n = 3 ∨ ga τ0 2 n = 4) → k = 0) → (laG τ0 lo n = true → rp H1 dom1 m1 k (laX σ τ0 D KA n)) → sx [48] [6, 26, 27, 28, 29] τ0 (sa τ1 6 n (nI k)) ∧ RV (sa τ1 6 n (nI k)) H1 dom1 m1 E ∧ lkI τ0 (sa τ1 6 n (nI k)) H1 dom1 m1 (laG τ0 lo) (laX σ τ0 D KA) lo (n + 1) := by
    intro τ1 H1 dom1 m1 k s1 r1 x1 h34 hlg
    refine ⟨sx_sa (sx_tr hs (sx_mono (by decide) (by decide) s1)) (by decide) _ _, rv_fr r1 (sx_sa (sx_rfl [] [6] τ1) (by decide) n (nI k)) (by decide) (by decide), ?_⟩
    have e6 : ∀ l, ga (sa τ1 6 n (nI k)) 6 l = if l = n then nI k else ga τ 6 l := by
      intro l; simp only [zs, if_true]; rw [up_at, s1.2.1 6 (by decide)]
    refine lkI_s (lkI_cg hlk (fun l hl => by rw [e6, if_neg (by omega)]) x1) (fun z => by rw [e6, if_pos rfl, h34 z]) (fun z => ⟨k, by rw [e6, if_pos rfl], hlg z⟩)
  rw [Md_layKind, gd_t (inb_nI (by omega) (by omega)), nI_clamp (by omega), a2, a3]
  by_cases c3 : ga τ0 2 n = 3
  · rw [if_pos c3, Md_layKind_20, gd_t (inb_nI (by omega) (by omega)), nI_clamp (by omega), hR.2.2.2.2, show (0 : Int32) = nI 0 from nI_0.symm]
    have hl : ¬ laG τ0 lo n = true := by simp [laG, isLf, c3]
    obtain ⟨b1, b2, b3⟩ := setk τ H dom m 0 (sx_rfl _ _ _) hR (xt_rfl _ _ _) (fun _ => rfl) (fun z => absurd z hl)
    exact ⟨_, H, dom, m, rfl, b1, b2, b3, hdm1, xt_rfl _ _ _, by omega⟩
  · rw [if_neg c3]
    by_cases c4 : ga τ0 2 n = 4
    · rw [if_pos c4, Md_layKind_20, gd_t (inb_nI (by omega) (by omega)), nI_clamp (by omega), hR.2.2.2.2, show (0 : Int32) = nI 0 from nI_0.symm]
      have hl : ¬ laG τ0 lo n = true := by simp [laG, isLf, c4]
      obtain ⟨b1, b2, b3⟩ := setk τ H dom m 0 (sx_rfl _ _ _) hR (xt_rfl _ _ _) (fun _ => rfl) (fun z => absurd z hl)
      exact ⟨_, H, dom, m, rfl, b1, b2, b3, hdm1, xt_rfl _ _ _, by omega⟩
    · rw [if_neg c4]
      by_cases c0 : ga τ0 2 n = 0
      · have hlf0 : isLf τ0 n = true := by simp [isLf, c0]
        obtain ⟨o2, o3⟩ := hlf.2 n hlo hn hlf0
        have ex : laX σ τ0 D KA n = tyF σ D KA (gb τ0 3 n) := by unfold laX; rw [if_pos c0]
        rw [if_pos c0]
        by_cases ci : gb τ0 3 n = 4812404
        · rw [if_pos ((lgc _ _).mpr ci), Md_layKind_82, gd_t (inb_nI (by omega) (by omega)), nI_clamp (by omega), hR.2.2.2.2, show (0 : Int32) = nI 0 from nI_0.symm]
          obtain ⟨b1, b2, b3⟩ := setk τ H dom m 0 (sx_rfl _ _ _) hR (xt_rfl _ _ _) (fun _ => rfl) (fun z => by rw [ex, ci, tyF, if_pos hlf.1]; exact hR.2.2.1)
          exact ⟨_, H, dom, m, rfl, b1, b2, b3, hdm1, xt_rfl _ _ _, by omega⟩
        · obtain ⟨y, y1, y2⟩ := (o3 c0).resolve_left ci
          obtain ⟨k, k1, k2⟩ := hK y y1
          rw [if_neg (fun z => ci ((lgc _ _).mp z)), (findT (F := F) (by omega) (dcN_tx hdc hs (by decide) (by decide)) (gb τ0 3 n)).2, bi_some, y2]
          show ∃ τ' H' dom' m', gd (inb (nI y) 16) _ = _ ∧ _
          rw [gd_t (inb_nI (by omega) (by omega)), nI_clamp (by omega), hs.2.1 49 (by decide), k1, Md_layKind_82, gd_t (inb_nI (by omega) (by omega)), nI_clamp (by omega)]
          obtain ⟨b1, b2, b3⟩ := setk τ H dom m k (sx_rfl _ _ _) hR (xt_rfl _ _ _) (fun z => by rcases z with z | z <;> rw [c0] at z <;> exact absurd z (by decide)) (fun z => by rw [ex, tyF, if_neg (by rw [y2]; exact nI_m1 y (by omega)), y2, nI_clamp (by omega)]; exact hxt _ _ k2)
          exact ⟨_, H, dom, m, rfl, b1, b2, b3, hdm1, xt_rfl _ _ _, by omega⟩
      · rw [if_neg c0]
        by_cases c1 : ga τ0 2 n = 1
        · have hlf0 : isLf τ0 n = true := by simp [isLf, c1]
          obtain ⟨o2, o3⟩ := hlf.2 n hlo hn hlf0
          have hgn : laG τ0 lo n = true := by unfold laG; rw [hlf0]; simp [hlo]
          have ex2 : laX σ τ0 D KA n = .var (cfr (ga τ0 4 n) (ga τ0 5 n) (gb τ0 3 n) + 1) := by unfold laX; rw [if_neg c0]
          obtain ⟨F', hF'⟩ : ∃ F', F = F' + 1 := ⟨F - 1, by omega⟩
          have e0 : Md_kindOfSmall F τ (nI n) (nI lo) = Md_kindOfSmall_64 F τ (nI n) (nI lo) := by
            rw [Md_kindOfSmall, gd_t (inb_nI (by omega) (by omega)), nI_clamp (by omega), hs.2.1 4 (by decide), show Md_kindOfSmall_10 F F = Md_kindOfSmall_10 F (F' + 1) from by rw [← hF'], Md_kindOfSmall_10, Md_kindOfSmall_b10, if_pos o2]
          rw [if_pos c1, e0]
          obtain ⟨k, τ1, H1, dom1, m1, b1, b2, b3, b4, b5, b6, b7⟩ := ks_find (F := F) (lo := lo) (by omega) (fun a ha => hs.2.1 a (by rcases ha with z | z | z <;> subst z <;> decide)) a3 hR hH hlk hdm hgn c1 (fun l hl0 hl hsk => by
            obtain ⟨q1, q2, q3, q4⟩ := hsk
            refine ⟨?_, ?_⟩
            · unfold laG isLf
              simp [q1, hl0]
            · unfold laX
              rw [q1, c1, if_neg (by decide), if_neg (by decide), q2, q3, q4]) ex2 (n - lo) F lo (by omega) (by omega) (by omega) (fun l hl hlg => by
              unfold laG at hlg
              simp at hlg
              omega)
          rw [Md_kindOfSmall_64, b1, bi_some]
          obtain ⟨e1, e2, e3⟩ := setk τ1 H1 dom1 m1 k b3 b2 b4 (fun z => by rcases z with z | z <;> rw [c1] at z <;> exact absurd z (by decide)) (fun _ => b6)
          exact ⟨_, H1, dom1, m1, rfl, e1, e2, e3, b7, b4, b5⟩
        · rw [if_neg c1]
          have hl : ¬ laG τ0 lo n = true := by simp [laG, isLf, c0, c1]
          exact ⟨τ, H, dom, m, rfl, hs, hR, lkI_s hlk (fun z => by rcases z with z | z <;> contradiction) (fun z => absurd z hl), hdm1, xt_rfl _ _ _, by omega⟩
/-- all nodes of the question -/
theorem la_all (hF : 1300 ≤ F) (hdc : dcN σ τ0 D) (hlf : lfA σ τ0 D lo N) (hK : ∀ y, y < D → ∃ k, ga τ0 49 y = nI k ∧ rp H0 dom0 m0 k (KA y)) (h16 : gi τ0 16 = nI N) (h89 : gi τ0 89 = nI lo) (hN : N ≤ 1000) {rr : Int32} : ∀ (d f n : Nat) (τ : zS) (H : SG) (dom : Nat → Prop) (m : Nat → Nat), n + d = N → d < f → lo ≤ n → sx [48] [6, 26, 27, 28, 29] τ0 τ → RV τ H dom m E → lkI τ0 τ H dom m (laG τ0 lo) (laX σ τ0 D KA) lo n → dmN τ0 (laG τ0 lo) n dom → xt H0 dom0 m0 H dom m → gn H + d < 4000 → ∃ τ' H' dom' m', Md_readAsked_121 F f τ rr (nI n) = Md_readAsked_161 F τ' rr ∧ sx [48] [6, 26, 27, 28, 29] τ0 τ' ∧ RV τ' H' dom' m' E ∧ lkI τ0 τ' H' dom' m' (laG τ0 lo) (laX σ τ0 D KA) lo N ∧ dmN τ0 (laG τ0 lo) N dom' ∧ xt H0 dom0 m0 H' dom' m' ∧ gn H' ≤ gn H + d := by
  intro d
  induction d with
  | zero =>
    intro f n τ H dom m hn hf hlo hs hR hlk hdm hxt hG
    obtain ⟨f, rfl⟩ : ∃ f', f = f' + 1 := ⟨f - 1, by omega⟩
    obtain rfl : n = N := by omega
    refine ⟨τ, H, dom, m, ?_, hs, hR, hlk, hdm, hxt, Nat.le_refl _⟩
    rw [Md_readAsked_121, Md_readAsked_b121, hs.1 16 (by decide), h16, if_pos (nI_le (Nat.le_refl _) (by omega))]
  | succ d ih =>
    intro f n τ H dom m hn hf hlo hs hR hlk hdm hxt hG
    obtain ⟨f, rfl⟩ : ∃ f', f = f' + 1 := ⟨f - 1, by omega⟩
    have a2 : ga τ 2 n = ga τ0 2 n := by rw [hs.2.1 2 (by decide)]
    rw [Md_readAsked_121, Md_readAsked_b121, hs.1 16 (by decide), h16, if_neg (nI_ge (by omega) (by omega)), if_pos hR.2.2.2.1, gd_t (inb_nI (by omega) (by omega)), nI_clamp (by omega), a2]
    by_cases c2 : ga τ0 2 n = 2
    · rw [if_pos c2, Md_readAsked_155, nI_1]
      have hl : ¬ laG τ0 lo n = true := by simp [laG, isLf, c2]
      obtain ⟨τ', H', dom', m', e1, e2, e3, e4, e5, e6, e7⟩ := ih f (n + 1) τ H dom m (by omega) (by omega) (by omega) hs hR (lkI_s hlk (fun z => by rcases z with z | z <;> rw [c2] at z <;> exact absurd z (by decide)) (fun z => absurd z hl)) (fun z hz => (hdm z hz).imp id (fun ⟨l, l1, l2⟩ => ⟨l, by omega, l2⟩)) hxt (by omega)
      exact ⟨τ', H', dom', m', e1, e2, e3, e4, e5, e6, by omega⟩
    · rw [if_neg c2, hs.1 89 (by decide), h89]
      obtain ⟨τ1, H1, dom1, m1, b1, b2, b3, b4, b5, b6, b7⟩ := la_one (F := F) hF hdc hlf hK hlo (n := n) (by omega) hN hs hR hlk hdm hxt (by omega) c2
      rw [b1, bv_some, Md_readAsked_155, nI_1]
      obtain ⟨τ', H', dom', m', e1, e2, e3, e4, e5, e6, e7⟩ := ih f (n + 1) τ1 H1 dom1 m1 (by omega) (by omega) (by omega) b2 b3 b4 b5 (xt_tr hxt b6) (by omega)
      exact ⟨τ', H', dom', m', e1, e2, e3, e4, e5, e6, by omega⟩
end K
