/-! Types and their kinds, apart from stores. Own text. -/
/-- a type has a kind, its leaves having theirs -/
def WT (lk : Nat → IT) : TE → IT → Prop
  | .var c, κ => κ = lk c
  | .op (.op (.var 0) f) a, κ => ∃ κa, WT lk f (iA κa κ) ∧ WT lk a κa
  | .op (.op (.var 1) l) r, κ => κ = iS ∧ WT lk l iS ∧ WT lk r iS
  | .op (.op (.var 2) (.var _)) t, κ => κ = iS ∧ WT lk t iS
  | .op (.op (.var 3) (.var _)) t, κ => WT lk t κ
  | _, _ => False
theorem WT_eqs {τ : zS} {ty sm : Int64 → TE} {α : Nat → IT} {lk : Nat → IT} (hlk : ∀ c, lk c = ev α (if lfB c = 0 then ty (lfN c) else sm (lfN c))) : ∀ (t : TE) (n : Nat), okT t → Eqs (eqP (eqC τ ty sm t n)) α → WT lk t (ev α (kE ty sm t n))
  | .var c, n, _, _ => by
    show _ = lk c
    rw [hlk]
    rfl
  | .op (.op (.var 0) f) a, n, ok, h => by
    rw [eqC, eqP_app, eqP_app] at h
    have h1 := WT_eqs (α := α) hlk f (nL τ n) ok.1 (fun z hz => h z (List.mem_append_left _ (List.mem_append_left _ hz)))
    have h2 := WT_eqs (α := α) hlk a (nR τ n) ok.2 (fun z hz => h z (List.mem_append_left _ (List.mem_append_right _ hz)))
    have h3 := h (kE ty sm f (nL τ n), .op (kE ty sm a (nR τ n)) (.var (n + 1))) (List.mem_append_right _ (List.mem_singleton.mpr rfl))
    refine ⟨ev α (kE ty sm a (nR τ n)), ?_, h2⟩
    rw [show ev α (kE ty sm f (nL τ n)) = iA (ev α (kE ty sm a (nR τ n))) (α n) from h3] at h1
    exact h1
  | .op (.op (.var 1) l) r, n, ok, h => by
    rw [eqC, eqP_app, eqP_app, eqP_app] at h
    have h1 := WT_eqs (α := α) hlk l (nL τ n) ok.1 (fun z hz => h z (List.mem_append_left _ (List.mem_append_left _ (List.mem_append_left _ hz))))
    have h2 := WT_eqs (α := α) hlk r (nR τ n) ok.2 (fun z hz => h z (List.mem_append_left _ (List.mem_append_right _ hz)))
    have h3 := h (kE ty sm l (nL τ n), .var 0) (List.mem_append_left _ (List.mem_append_left _ (List.mem_append_right _ (List.mem_singleton.mpr rfl))))
    have h4 := h (kE ty sm r (nR τ n), .var 0) (List.mem_append_right _ (List.mem_singleton.mpr rfl))
    rw [show ev α (kE ty sm l (nL τ n)) = iS from h3] at h1
    rw [show ev α (kE ty sm r (nR τ n)) = iS from h4] at h2
    exact ⟨rfl, h1, h2⟩
  | .op (.op (.var 2) (.var p)) t, n, ok, h => by
    rw [eqC, eqP_app] at h
    have h1 := WT_eqs (α := α) hlk t (nL τ n) ok (fun z hz => h z (List.mem_append_left _ hz))
    have h3 := h (kE ty sm t (nL τ n), .var 0) (List.mem_append_right _ (List.mem_singleton.mpr rfl))
    rw [show ev α (kE ty sm t (nL τ n)) = iS from h3] at h1
    exact ⟨rfl, h1⟩
  | .op (.op (.var 3) (.var p)) t, n, ok, h => WT_eqs (α := α) hlk t n ok h
/-- the kind of a type's name -/
def kT (σ : zS) (D : Nat) (G : SG) (v : Int64) : IT := if fTy σ v D 0 = -1 then iS else gT G (ga σ 40 (fTy σ v D 0).toNatClampNeg).toNatClampNeg
/-- leaves of what is asked -/
def lkQ (σ : zS) (D : Nat) (G : SG) (fv : Int64 → IT) (c : Nat) : IT := if lfB c = 0 then kT σ D G (lfN c) else fv (lfN c)
theorem lk_ty {σ : zS} {D : Nat} {G : SG} {KA : Nat → TE} (hw : wfG G) (hK : ∀ y, y < D → ∃ k, ga σ 40 y = nI k ∧ k < 2 ^ 31 ∧ rp G (fun _ => False) (fun z => z) k (KA y)) (hD : D ≤ 16) (α : Nat → IT) (v : Int64) : ev α (tyF σ D KA v) = kT σ D G v := by
  unfold tyF kT
  by_cases h : fTy σ v D 0 = -1
  · rw [if_pos h, if_pos h]; rfl
  · rw [if_neg h, if_neg h]
    obtain ⟨y, y1, y2, y3, _⟩ := (fTy_rng σ v D 0).resolve_left h
    obtain ⟨k, k1, k2, k3⟩ := hK y (by omega)
    rw [y3, nI_clamp (by omega), k1, nI_clamp k2]
    exact (k3.2 _ (gT_sol hw) α (fun x hx => hx.elim)).symm
theorem ev_var (α : Nat → IT) (n : Nat) : ev α (.var (n + 1)) = α n := rfl
theorem wt_of {σ τ : zS} {D : Nat} {G G2 : SG} {KA : Nat → TE} {dom2 : Nat → Prop} {m2 : Nat → Nat} {l r : Int32} {t : TE} {n : Nat} {Z : List (TE × TE)} (hw : wfG G) (hK : ∀ y, y < D → ∃ k, ga σ 40 y = nI k ∧ rp G (fun _ => False) (fun z => z) k (KA y)) (hD : D ≤ 16) (hg : gn G ≤ 4000) (ok : okT t) (hR : Rp G2 dom2 m2 (Z ++ eqP (eqC τ (tyF σ D KA) (fun v => .var (cfr l r v + 1)) t n))) : ∃ fv κ, WT (lkQ σ D G fv) t κ := by
  refine ⟨fun v => gT G2 (m2 (cfr l r v)), _, WT_eqs (τ := τ) (ty := tyF σ D KA) (sm := fun v => .var (cfr l r v + 1)) (α := fun z => gT G2 (m2 z)) (fun c => ?_) t n ok (fun z hz => hR.2.2.2.2 (gT G2) (gT_sol hR.1) (fun z => gT G2 (m2 z)) (fun z _ => rfl) z (List.mem_append_right _ hz))⟩
  unfold lkQ
  by_cases z : lfB c = 0
  · rw [if_pos z, if_pos z]
    refine (lk_ty hw (fun y hy => ?_) hD _ _).symm
    obtain ⟨k, k1, k2⟩ := hK y hy
    exact ⟨k, k1, by have := k2.1; omega, k2⟩
  · rw [if_neg z, if_neg z]
    exact (ev_var (fun z => gT G2 (m2 z)) (cfr l r (lfN c))).symm
/-- kinds of a row -/
def arr : List IT → IT → IT
  | [], κ => κ
  | a :: l, κ => iA a (arr l κ)
theorem arr_app : ∀ (l1 l2 : List IT) (κ : IT), arr (l1 ++ l2) κ = arr l1 (arr l2 κ)
  | [], l2, κ => rfl
  | a :: l, l2, κ => by rw [List.cons_append, arr, arr, arr_app l l2 κ]
theorem arr_S {l : List IT} {κ : IT} (h : iS = arr l κ) : l = [] ∧ κ = iS := by
  cases l with
  | nil => exact ⟨rfl, h.symm⟩
  | cons a l => exact absurd h iS_iA
/-- a longer row of what is taken ends in the shorter's -/
theorem arr_pre : ∀ (p as : List IT) (r κ : IT), p.length ≤ as.length → arr p r = arr as κ → ∃ as', as = p ++ as' ∧ r = arr as' κ
  | [], as, r, κ, _, h => ⟨as, rfl, h⟩
  | a :: p, [], r, κ, hl, _ => by simp at hl
  | a :: p, b :: as, r, κ, hl, h => by
    obtain ⟨e1, e2⟩ := iA_inj (show iA a (arr p r) = iA b (arr as κ) from h)
    obtain ⟨as', f1, f2⟩ := arr_pre p as r κ (by simpa using hl) e2
    exact ⟨as', by rw [e1, f1]; rfl, f2⟩
/-- only the leaves' kinds matter -/
theorem WT_cg {lk lk' : Nat → IT} : ∀ (t : TE) (κ : IT), (∀ c, c ∈ lvs t → lk' c = lk c) → WT lk t κ → WT lk' t κ
  | .var c, κ, h, g => by
    have g' : κ = lk c := g
    show κ = lk' c
    rw [h c (List.mem_singleton.mpr rfl)]; exact g'
  | .op (.op (.var 0) f) a, κ, h, g => by
    obtain ⟨κa, g1, g2⟩ := g
    exact ⟨κa, WT_cg f _ (fun c hc => h c (List.mem_append_left _ hc)) g1, WT_cg a _ (fun c hc => h c (List.mem_append_right _ hc)) g2⟩
  | .op (.op (.var 1) l) r, κ, h, g => by
    obtain ⟨g0, g1, g2⟩ := g
    exact ⟨g0, WT_cg l _ (fun c hc => h c (List.mem_append_left _ hc)) g1, WT_cg r _ (fun c hc => h c (List.mem_append_right _ hc)) g2⟩
  | .op (.op (.var 2) (.var _)) t, κ, h, g => ⟨g.1, WT_cg t _ h g.2⟩
  | .op (.op (.var 3) (.var _)) t, κ, h, g => WT_cg t _ h g
/-- open ones replaced in a solution -/
theorem Sol_sT {G : SG} {w : Nat → IT} (θ : Nat → IT) (h : Sol G w) : Sol G (fun k => sT θ (w k)) := by
  intro k hk
  obtain ⟨h1, h2⟩ := h k hk
  refine ⟨by show sT θ (w k) = sT θ (w (gup G k)); rw [← h1], fun z => ⟨fun y => ?_, fun y => ?_⟩⟩
  · show sT θ (w k) = iS
    rw [(h2 z).1 y, sT_S]
  · show sT θ (w k) = iA (sT θ (w (gle G k))) (sT θ (w (gri G k)))
    rw [(h2 z).2 y, sT_A]
theorem ev_chE (α : Nat → IT) (i : Nat) : ∀ (q : Nat) (r : TE), ev α (chE i q r) = arr ((List.range q).map (fun j => α (cpa i j))) (ev α r)
  | 0, r => rfl
  | j + 1, r => by
    rw [chE, ev_chE α i j, List.range_succ, List.map_append, arr_app]
    rfl
/-- a group's equations hold for trees, and its kinds are those -/
def grW (σ τ : zS) (D : Nat) (gp live : Nat → Bool) (KA : Nat → TE) (TL : List TR) (σ' : zS) (G' : SG) : Prop := ∃ α : Nat → IT, Eqs (eqP (mbE σ τ D gp KA 0 TL)) α ∧ ∀ y, y < D → (gp y = true ∨ live y = true) → ∃ k, ga σ' 40 y = nI k ∧ k < 2 ^ 31 ∧ gT G' k = ev α (KA y)
theorem mbE_in {σ τ : zS} {D : Nat} {gp : Nat → Bool} {KA : Nat → TE} {o nn : Nat} {t : TE} {As : List AE} {me : Int32} (hg : gp o = true) : ∀ (l : List TR) (j : Nat), (o, t, nn, As, me) ∈ l → ∃ j', ∀ e, e ∈ eqC τ (tyF σ D KA) (smF σ o (keyP σ o j') me) t nn ++ [(kE (tyF σ D KA) (smF σ o (keyP σ o j') me) t nn, rE (soN σ o) o, plT t)] → e ∈ mbE σ τ D gp KA j l
  | [], j, h => by cases h
  | x :: l, j, h => by
    rcases List.mem_cons.mp h with z | z
    · subst z
      refine ⟨j, fun e he => ?_⟩
      rw [mbE, if_pos hg]
      exact List.mem_append_left _ he
    · obtain ⟨j', hj⟩ := mbE_in hg l (j + 1) z
      obtain ⟨o', t', nn', As', me'⟩ := x
      refine ⟨j', fun e he => ?_⟩
      rw [mbE]
      exact List.mem_append_right _ (hj e he)
/-- synonyms that are done have kinds that fit -/
def WKD (σ : zS) (D : Nat) (G : SG) (TL : List TR) (dn : Nat → Bool) : Prop := ∀ o t nn As me, (o, t, nn, As, me) ∈ TL → dn o = true → ga σ 29 o = 1 → (∀ c, c ∈ lvs t → lfB c = 0 → fTy σ (lfN c) D 0 = -1 ∨ ∃ y, y < D ∧ fTy σ (lfN c) D 0 = nI y ∧ dn y = true) ∧ ∃ pks r fv, List.length pks = qN σ o ∧ gT G (ga σ 40 o).toNatClampNeg = arr pks r ∧ WT (lkQ σ D G fv) t r ∧ ∀ v j, fPa σ o v (qN σ o) 0 = nI j → j < qN σ o → pks[j]? = some (fv v)
theorem wkd_new {σ τ σ' : zS} {D : Nat} {G' : SG} {gp live : Nat → Bool} {KA : Nat → TE} {TL : List TR} {o nn : Nat} {t : TE} {As : List AE} {me : Int32} (hD : D ≤ 16) (hW : grW σ τ D gp live KA TL σ' G') (hm : (o, t, nn, As, me) ∈ TL) (ok : okT t) (ho : o < D) (hg : gp o = true) (h1 : ga σ 29 o = 1) (hKA : KA o = wE (soN σ o) (qN σ o) o) (hq : qN σ o ≤ 3) (hl : ∀ c, c ∈ lvs t → lfB c = 0 → fTy σ (lfN c) D 0 = -1 ∨ ∃ y, y < D ∧ fTy σ (lfN c) D 0 = nI y ∧ live y = true) (e29 : ga σ' 29 = ga σ 29) (e32 : ga σ' 32 = ga σ 32) (b30 : gb σ' 30 = gb σ 30) (b33 : gb σ' 33 = gb σ 33) : ∃ pks r fv, List.length pks = qN σ' o ∧ gT G' (ga σ' 40 o).toNatClampNeg = arr pks r ∧ WT (lkQ σ' D G' fv) t r ∧ ∀ v j, fPa σ' o v (qN σ' o) 0 = nI j → j < qN σ' o → pks[j]? = some (fv v) := by
  obtain ⟨α, w1, w2⟩ := hW
  obtain ⟨j', hj⟩ := mbE_in (σ := σ) (τ := τ) (D := D) (KA := KA) hg TL 0 hm
  have eqn : qN σ' o = qN σ o := by unfold qN; rw [e32]
  have so1 : soN σ o = 1 := by unfold soN; rw [h1]; rfl
  have hE : Eqs (eqP (eqC τ (tyF σ D KA) (smF σ o (keyP σ o j') me) t nn)) α := by
    intro z hz
    obtain ⟨e, e1, e2⟩ := List.mem_map.mp hz
    refine w1 z (List.mem_map.mpr ⟨e, hj e (List.mem_append_left _ e1), e2⟩)
  have hroot : ev α (kE (tyF σ D KA) (smF σ o (keyP σ o j') me) t nn) = ev α (rE 1 o) := by
    have := w1 (kE (tyF σ D KA) (smF σ o (keyP σ o j') me) t nn, rE (soN σ o) o) (List.mem_map.mpr ⟨_, hj _ (List.mem_append_right _ (List.mem_singleton.mpr rfl)), rfl⟩)
    rw [so1] at this
    exact this
  have hWT := WT_eqs (τ := τ) (α := α) (lk := fun c => ev α (if lfB c = 0 then tyF σ D KA (lfN c) else smF σ o (keyP σ o j') me (lfN c))) (fun c => rfl) t nn ok hE
  rw [hroot] at hWT
  obtain ⟨k, k1, k2, k3⟩ := w2 o ho (Or.inl hg)
  refine ⟨(List.range (qN σ o)).map (fun j => α (cpa o j)), ev α (rE 1 o), fun v => ev α (smF σ o (keyP σ o j') me v), by simp [eqn], ?_, WT_cg t _ (fun c hc => ?_) hWT, fun v j hv hj2 => ?_⟩
  · rw [k1, nI_clamp k2, k3, hKA, so1, wE, if_neg (by decide), ev_chE]
  · unfold lkQ
    by_cases z : lfB c = 0
    · rw [if_pos z, if_pos z]
      unfold kT
      rw [fTy_cg e29 b30]
      unfold tyF
      rcases hl c hc z with u | ⟨y, y1, y2, y3⟩
      · rw [if_pos u, if_pos u]; rfl
      · have hne : ¬ fTy σ (lfN c) D 0 = -1 := by rw [y2]; exact nI_m1 y (by omega)
        rw [if_neg hne, if_neg hne, y2, nI_clamp (by omega)]
        obtain ⟨k', q1, q2, q3⟩ := w2 y y1 (Or.inr y3)
        rw [q1, nI_clamp q2, q3]
    · rw [if_neg z, if_neg z]
  · rw [eqn] at hv hj2
    rw [fPa_cg b33] at hv
    have hne : ¬ fPa σ o v (qN σ o) 0 = -1 := by rw [hv]; exact nI_m1 j (by omega)
    show ((List.range (qN σ o)).map (fun j => α (cpa o j)))[j]? = some (ev α (smF σ o (keyP σ o j') me v))
    unfold smF
    rw [if_neg hne, hv, nI_clamp (by omega), List.getElem?_map, List.getElem?_range hj2]
    rfl
