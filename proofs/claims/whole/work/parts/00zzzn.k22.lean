/-! The equations of a group, as the class lists them. Own text. -/
theorem nI_bv (x : Int32) : nI x.toBitVec.toNat = x := by
  apply Int32.toBitVec_inj.mp
  apply BitVec.eq_of_toNat_eq
  unfold nI
  simp
def nC (x : Int32) : Nat := x.toBitVec.toNat
def soN (σ : zS) (i : Nat) : Nat := (ga σ 29 i).toNatClampNeg
def qN (σ : zS) (i : Nat) : Nat := (ga σ 32 i).toNatClampNeg
/-- what a big name stands for -/
def tyF (σ : zS) (D : Nat) (KA : Nat → TE) (v : Int64) : TE := if fTy σ v D 0 = -1 then .var 0 else KA (fTy σ v D 0).toNatClampNeg
/-- and a small one, in declaration o -/
def smF (σ : zS) (o : Nat) (pr me : Int32) (v : Int64) : TE := if fPa σ o v (qN σ o) 0 = -1 then .var (cfr pr me v + 1) else pE o (fPa σ o v (qN σ o) 0).toNatClampNeg
/-- told kinds -/
def inG (σ : zS) (D : Nat) (gp : Nat → Bool) (m : Nat) : Bool := decide (ga σ 43 m = 4) && decide (fDe σ (gb σ 44 m) D 0 ≠ -1) && gp (fDe σ (gb σ 44 m) D 0).toNatClampNeg
def tdE (σ : zS) (D : Nat) (gp : Nat → Bool) (KA TT : Nat → TE) : Nat → List EQ
  | 0 => []
  | m + 1 => tdE σ D gp KA TT m ++ (if inG σ D gp m = true then [(KA (fDe σ (gb σ 44 m) D 0).toNatClampNeg, TT m, nC (ga σ 45 m))] else [])
/-- the key of what is free in a term -/
def keyP (σ : zS) (o j : Nat) : Int32 := if ga σ 29 o = 2 then nI o else nI (1000 + j)
/-- terms -/
def mbE (σ τ : zS) (D : Nat) (gp : Nat → Bool) (KA : Nat → TE) : Nat → List TR → List EQ
  | _, [] => []
  | j, (o, t, nn, _, me) :: l => (if gp o = true then eqC τ (tyF σ D KA) (smF σ o (keyP σ o j) me) t nn ++ [(kE (tyF σ D KA) (smF σ o (keyP σ o j) me) t nn, rE (soN σ o) o, plT t)] else []) ++ mbE σ τ D gp KA (j + 1) l
/-- as the reference does them -/
def mrE (σ τ : zS) (D : Nat) (gp : Nat → Bool) (KA : Nat → TE) : Nat → List TR → List EQ
  | _, [] => []
  | j, (o, t, nn, _, me) :: l => (if gp o = true then eqR τ (tyF σ D KA) (smF σ o (keyP σ o j) me) t nn ++ [(kE (tyF σ D KA) (smF σ o (keyP σ o j) me) t nn, rE (soN σ o) o, plT t)] else []) ++ mrE σ τ D gp KA (j + 1) l
theorem mb_nt (σ τ : zS) (D : Nat) (gp : Nat → Bool) (KA : Nat → TE) : ∀ (l : List TR) (j : Nat), nt (mbE σ τ D gp KA j l) = nt (mrE σ τ D gp KA j l)
  | [], _ => rfl
  | (o, t, nn, As, me) :: l, j => by
    rw [mbE, mrE, nt_app, nt_app, mb_nt σ τ D gp KA l (j + 1)]
    by_cases h : gp o = true
    · rw [if_pos h, if_pos h, nt_app, nt_app, eq_nt]
    · rw [if_neg h, if_neg h]
def wT (gp : Nat → Bool) : List TR → Nat
  | [] => 0
  | (o, t, _, _, _) :: l => (if gp o = true then lnT t else 0) + wT gp l
def alA (τ : zS) : List TR → List Nat
  | [] => []
  | (_, t, nn, _, _) :: l => apN τ t nn ++ alA τ l
section K
variable {F : Nat} {τ : zS} {D M : Nat} {gp : Nat → Bool} {KA TT : Nat → TE} {x1 : Int32}
theorem td_len (σ : zS) : ∀ {a b : Nat}, a ≤ b → (tdE σ D gp KA TT a).length ≤ (tdE σ D gp KA TT b).length := by
  intro a b h
  induction b with
  | zero => obtain rfl : a = 0 := by omega
            exact Nat.le_refl _
  | succ b ih =>
    rcases Nat.lt_or_ge a (b + 1) with z | z
    · have := ih (by omega)
      rw [tdE, List.length_append]
      omega
    · obtain rfl : a = b + 1 := by omega
      exact Nat.le_refl _
/-- what the list of told kinds needs -/
def tdH (σ : zS) (G : SG) (dom : Nat → Prop) (m : Nat → Nat) (D M : Nat) (gp : Nat → Bool) (KA TT : Nat → TE) : Prop := (∀ y, y < D → gp y = true → ∃ k, ga σ 40 y = nI k ∧ rp G dom m k (KA y)) ∧ ∀ i, i < M → ga σ 43 i = 4 → ∃ k, ga σ 47 i = nI k ∧ rp G dom m k (TT i)
theorem td_all (hF : 1300 ≤ F) (hx : ∀ j, j < 32 → bq x1 j = gp j) {σ0 : zS} (hdc : dcN σ0 τ D) (h505 : gi σ0 505 = nI M) (hM : M ≤ 600) {G : SG} {dom : Nat → Prop} {m : Nat → Nat} (hT : tdH σ0 G dom m D M gp KA TT) (hlen : (tdE σ0 D gp KA TT M).length ≤ 216) : ∀ (d f i : Nat) (σ : zS), i + d = M → d < f → sx [807] [49, 50, 51] σ0 σ → lsE [] σ G dom m (tdE σ0 D gp KA TT i) → ∃ σ', So_listTold_2 F f σ x1 (nI i) = some σ' ∧ lsE [] σ' G dom m (tdE σ0 D gp KA TT M) ∧ sx [807] [49, 50, 51] σ0 σ' := by
  intro d
  induction d with
  | zero =>
    intro f i σ hi hf hs hL
    obtain ⟨f, rfl⟩ : ∃ f', f = f' + 1 := ⟨f - 1, by omega⟩
    obtain rfl : i = M := by omega
    refine ⟨σ, ?_, hL, hs⟩
    rw [So_listTold_2, So_listTold_b2, hs.1 505 (by decide), h505, if_pos (nI_le (Nat.le_refl _) (by omega))]
  | succ d ih =>
    intro f i σ hi hf hs hL
    obtain ⟨f, rfl⟩ : ∃ f', f = f' + 1 := ⟨f - 1, by omega⟩
    have hD := hdc.2.2.1
    have hdc' : dcN σ τ D := dcN_sy hdc (sy_sx hs) (by decide) (by decide)
    have hfD : fDe σ (gb σ 44 i) D 0 = fDe σ0 (gb σ0 44 i) D 0 := by rw [sx_gb hs, fDe_cg (sx_gb hs 30)]
    rw [So_listTold_2, So_listTold_b2, hs.1 505 (by decide), h505, if_neg (nI_ge (by omega) (by omega)), gd_t (inb_nI (by omega) (by omega)), nI_clamp (by omega), hs.2.1 43 (by decide)]
    have skip : inG σ0 D gp i = false → lsE [] σ G dom m (tdE σ0 D gp KA TT (i + 1)) := by
      intro z
      rw [tdE, z, if_neg (by decide), List.append_nil]
      exact hL
    by_cases c4 : ga σ0 43 i = 4
    · rw [if_pos c4, (findD (F := F) (by omega) hdc' (gb σ 44 i)).1, bi_some, hfD]
      show ∃ σ', So_listTold_46 F (So_listTold_2 F f) σ x1 (nI i) (fDe σ0 (gb σ0 44 i) D 0) = some σ' ∧ _
      rcases fDe_rng σ0 (gb σ0 44 i) D 0 with z | ⟨y, y1, y2, y3, y4⟩
      · rw [z, So_listTold_46, if_pos (by decide), So_listTold_90, nI_1]
        exact ih f (i + 1) σ (by omega) (by omega) hs (skip (by simp [inG, z]))
      · rw [y3, So_listTold_46, if_neg (nI_pos (by omega))]
        by_cases cg : gp y = true
        · have hin : inG σ0 D gp i = true := by
            unfold inG
            rw [y3, nI_clamp (by omega), cg]
            simp [c4, nI_m1 y (by omega)]
          rw [if_neg (fun z => by have := (bq_test x1 (m := y) (by omega)).mp z; rw [hx y (by omega), cg] at this; cases this), gd_t (inb_nI (by omega) (by omega)), gd_t (inb_nI (by omega) (by omega)), nI_clamp (by omega), nI_clamp (by omega), hs.2.1 40 (by decide), hs.2.1 47 (by decide), hs.2.1 45 (by decide)]
          obtain ⟨k, k1, k2⟩ := hT.1 y (by omega) cg
          obtain ⟨k', k3, k4⟩ := hT.2 i (by omega) c4
          have hl : (tdE σ0 D gp KA TT (i + 1)).length ≤ 216 := Nat.le_trans (td_len σ0 (by omega)) hlen
          have e1 : tdE σ0 D gp KA TT (i + 1) = tdE σ0 D gp KA TT i ++ [(KA y, TT i, nC (ga σ0 45 i))] := by
            rw [tdE, if_pos hin, y3, nI_clamp (by omega)]
          rw [e1, List.length_append, List.length_singleton] at hl
          obtain ⟨σ1, a1, a2, a3⟩ := ls_eq (F := F) (p := nC (ga σ0 45 i)) hL (by omega) k2 k4
          rw [k1, k3, show ga σ0 45 i = nI (nC (ga σ0 45 i)) from (nI_bv _).symm, a1, bv_some, So_listTold_90, nI_1]
          exact ih f (i + 1) σ1 (by omega) (by omega) (sx_tr hs a3) (by rw [e1]; exact a2)
        · have cf : gp y = false := by cases h : gp y <;> simp_all
          rw [if_pos ((bq_test x1 (m := y) (by omega)).mpr (by rw [hx y (by omega), cf])), So_listTold_90, nI_1]
          exact ih f (i + 1) σ (by omega) (by omega) hs (skip (by unfold inG; rw [y3, nI_clamp (by omega), cf]; simp))
    · rw [if_neg c4]
      show ∃ σ', So_listTold_46 F (So_listTold_2 F f) σ x1 (nI i) (-1) = some σ' ∧ _
      rw [So_listTold_46, if_pos (by decide), So_listTold_90, nI_1]
      exact ih f (i + 1) σ (by omega) (by omega) hs (skip (by simp [inG, c4]))
end K
