/-! Types and their kinds, apart from stores. Own text. -/
/-- a type has a kind, its leaves having theirs -/
def WT (lk : Nat → IT) : TE → IT → Prop
  | .var c, κ => κ = lk c
  | .op (.op (.var 0) f) a, κ => ∃ κa, WT lk f (iA κa κ) ∧ WT lk a κa
  | .op (.op (.var 1) l) r, κ => κ = iS ∧ WT lk l iS ∧ WT lk r iS
  | .op (.op (.var 2) (.var _)) t, κ => κ = iS ∧ WT lk t iS
  | .op (.op (.var 3) (.var _)) t, κ => WT lk t κ
  | _, _ => False
theorem WT_eqs {τ : zS} {ty sm : Int64 → TE} {α : Nat → IT} {lk : Nat → IT} (hlk : ∀ c, lk c = ev α (if lfB c = 0 then ty (lfN c) else sm (lfN c))) : ∀ (t : TE) (n : Nat), okT t → Eqs (eqP (eqC τ ty sm t n)) α → WT lk t (ev α (kE ty sm t n))
  | .var c, n, _, _ => by
    show _ = lk c
    rw [hlk]
    rfl
  | .op (.op (.var 0) f) a, n, ok, h => by
    rw [eqC, eqP_app, eqP_app] at h
    have h1 := WT_eqs (α := α) hlk f (nL τ n) ok.1 (fun z hz => h z (List.mem_append_left _ (List.mem_append_left _ hz)))
    have h2 := WT_eqs (α := α) hlk a (nR τ n) ok.2 (fun z hz => h z (List.mem_append_left _ (List.mem_append_right _ hz)))
    have h3 := h (kE ty sm f (nL τ n), .op (kE ty sm a (nR τ n)) (.var (n + 1))) (List.mem_append_right _ (List.mem_singleton.mpr rfl))
    refine ⟨ev α (kE ty sm a (nR τ n)), ?_, h2⟩
    rw [show ev α (kE ty sm f (nL τ n)) = iA (ev α (kE ty sm a (nR τ n))) (α n) from h3] at h1
    exact h1
  | .op (.op (.var 1) l) r, n, ok, h => by
    rw [eqC, eqP_app, eqP_app, eqP_app] at h
    have h1 := WT_eqs (α := α) hlk l (nL τ n) ok.1 (fun z hz => h z (List.mem_append_left _ (List.mem_append_left _ (List.mem_append_left _ hz))))
    have h2 := WT_eqs (α := α) hlk r (nR τ n) ok.2 (fun z hz => h z (List.mem_append_left _ (List.mem_append_right _ hz)))
    have h3 := h (kE ty sm l (nL τ n), .var 0) (List.mem_append_left _ (List.mem_append_left _ (List.mem_append_right _ (List.mem_singleton.mpr rfl))))
    have h4 := h (kE ty sm r (nR τ n), .var 0) (List.mem_append_right _ (List.mem_singleton.mpr rfl))
    rw [show ev α (kE ty sm l (nL τ n)) = iS from h3] at h1
    rw [show ev α (kE ty sm r (nR τ n)) = iS from h4] at h2
    exact ⟨rfl, h1, h2⟩
  | .op (.op (.var 2) (.var p)) t, n, ok, h => by
    rw [eqC, eqP_app] at h
    have h1 := WT_eqs (α := α) hlk t (nL τ n) ok (fun z hz => h z (List.mem_append_left _ hz))
    have h3 := h (kE ty sm t (nL τ n), .var 0) (List.mem_append_right _ (List.mem_singleton.mpr rfl))
    rw [show ev α (kE ty sm t (nL τ n)) = iS from h3] at h1
    exact ⟨rfl, h1⟩
  | .op (.op (.var 3) (.var p)) t, n, ok, h => WT_eqs (α := α) hlk t n ok h
/-- the kind of a type's name -/
def kT (σ : zS) (D : Nat) (G : SG) (v : Int64) : IT := if fTy σ v D 0 = -1 then iS else gT G (ga σ 40 (fTy σ v D 0).toNatClampNeg).toNatClampNeg
/-- leaves of what is asked -/
def lkQ (σ : zS) (D : Nat) (G : SG) (fv : Int64 → IT) (c : Nat) : IT := if lfB c = 0 then kT σ D G (lfN c) else fv (lfN c)
theorem lk_ty {σ : zS} {D : Nat} {G : SG} {KA : Nat → TE} (hw : wfG G) (hK : ∀ y, y < D → ∃ k, ga σ 40 y = nI k ∧ k < 2 ^ 31 ∧ rp G (fun _ => False) (fun z => z) k (KA y)) (hD : D ≤ 16) (α : Nat → IT) (v : Int64) : ev α (tyF σ D KA v) = kT σ D G v := by
  unfold tyF kT
  by_cases h : fTy σ v D 0 = -1
  · rw [if_pos h, if_pos h]; rfl
  · rw [if_neg h, if_neg h]
    obtain ⟨y, y1, y2, y3, _⟩ := (fTy_rng σ v D 0).resolve_left h
    obtain ⟨k, k1, k2, k3⟩ := hK y (by omega)
    rw [y3, nI_clamp (by omega), k1, nI_clamp k2]
    exact (k3.2 _ (gT_sol hw) α (fun x hx => hx.elim)).symm
theorem ev_var (α : Nat → IT) (n : Nat) : ev α (.var (n + 1)) = α n := rfl
theorem wt_of {σ τ : zS} {D : Nat} {G G2 : SG} {KA : Nat → TE} {dom2 : Nat → Prop} {m2 : Nat → Nat} {l r : Int32} {t : TE} {n : Nat} {Z : List (TE × TE)} (hw : wfG G) (hK : ∀ y, y < D → ∃ k, ga σ 40 y = nI k ∧ rp G (fun _ => False) (fun z => z) k (KA y)) (hD : D ≤ 16) (hg : gn G ≤ 4000) (ok : okT t) (hR : Rp G2 dom2 m2 (Z ++ eqP (eqC τ (tyF σ D KA) (fun v => .var (cfr l r v + 1)) t n))) : ∃ fv κ, WT (lkQ σ D G fv) t κ := by
  refine ⟨fun v => gT G2 (m2 (cfr l r v)), _, WT_eqs (τ := τ) (ty := tyF σ D KA) (sm := fun v => .var (cfr l r v + 1)) (α := fun z => gT G2 (m2 z)) (fun c => ?_) t n ok (fun z hz => hR.2.2.2.2 (gT G2) (gT_sol hR.1) (fun z => gT G2 (m2 z)) (fun z _ => rfl) z (List.mem_append_right _ hz))⟩
  unfold lkQ
  by_cases z : lfB c = 0
  · rw [if_pos z, if_pos z]
    refine (lk_ty hw (fun y hy => ?_) hD _ _).symm
    obtain ⟨k, k1, k2⟩ := hK y hy
    exact ⟨k, k1, by have := k2.1; omega, k2⟩
  · rw [if_neg z, if_neg z]
    exact (ev_var (fun z => gT G2 (m2 z)) (cfr l r (lfN c))).symm
