/-! The equations of a type: what is open in them has a number. Own text. -/
def cpa (i j : Nat) : Nat := 1000 + 3 * i + j
def cre (i : Nat) : Nat := 1048 + i
def cfr (l r : Int32) (v : Int64) : Nat := 2048 + ((v.toBitVec.toNat * 4294967296 + l.toBitVec.toNat) * 4294967296 + r.toBitVec.toNat)
theorem cfr_inj {l r l' r' : Int32} {v v' : Int64} (h : cfr l r v = cfr l' r' v') : l = l' ∧ r = r' ∧ v = v' := by
  unfold cfr at h
  have a1 := l.toBitVec.isLt
  have a2 := r.toBitVec.isLt
  have a3 := l'.toBitVec.isLt
  have a4 := r'.toBitVec.isLt
  have e1 : r.toBitVec.toNat = r'.toBitVec.toNat := by omega
  have e2 : l.toBitVec.toNat = l'.toBitVec.toNat := by omega
  have e3 : v.toBitVec.toNat = v'.toBitVec.toNat := by omega
  exact ⟨Int32.toBitVec_inj.mp (BitVec.eq_of_toNat_eq e2), Int32.toBitVec_inj.mp (BitVec.eq_of_toNat_eq e1), Int64.toBitVec_inj.mp (BitVec.eq_of_toNat_eq e3)⟩
theorem cfr_ge (l r : Int32) (v : Int64) : 2048 ≤ cfr l r v := by unfold cfr; omega
/-- nodes below a node -/
def nL (τ : zS) (n : Nat) : Nat := (ga τ 4 n).toNatClampNeg
def nR (τ : zS) (n : Nat) : Nat := (ga τ 5 n).toNatClampNeg
section E
variable (τ : zS) (ty sm : Int64 → TE)
/-- the kind of a type, at its node -/
def kE : TE → Nat → TE
  | .var c, _ => if lfB c = 0 then ty (lfN c) else sm (lfN c)
  | .op (.op (.var 0) _) _, n => .var (n + 1)
  | .op (.op (.var 3) (.var _)) t, n => kE t n
  | _, _ => .var 0
/-- its equations, as the class lists them -/
def eqC : TE → Nat → List EQ
  | .var _, _ => []
  | .op (.op (.var 0) f) a, n => eqC f (nL τ n) ++ eqC a (nR τ n) ++ [(kE ty sm f (nL τ n), .op (kE ty sm a (nR τ n)) (.var (n + 1)), plT a)]
  | .op (.op (.var 1) l) r, n => eqC l (nL τ n) ++ [(kE ty sm l (nL τ n), .var 0, plT l)] ++ eqC r (nR τ n) ++ [(kE ty sm r (nR τ n), .var 0, plT r)]
  | .op (.op (.var 2) (.var _)) t, n => eqC t (nL τ n) ++ [(kE ty sm t (nL τ n), .var 0, plT t)]
  | .op (.op (.var 3) (.var _)) t, n => eqC t n
  | _, _ => []
/-- and as the reference does -/
def eqR : TE → Nat → List EQ
  | .var _, _ => []
  | .op (.op (.var 0) f) a, n => eqR f (nL τ n) ++ eqR a (nR τ n) ++ [(kE ty sm f (nL τ n), .op (kE ty sm a (nR τ n)) (.var (n + 1)), plT a)]
  | .op (.op (.var 1) l) r, n => eqR l (nL τ n) ++ [(kE ty sm l (nL τ n), .var 0, plT l)] ++ eqR r (nR τ n) ++ (if isR r = true then [] else [(kE ty sm r (nR τ n), .var 0, plT r)])
  | .op (.op (.var 2) (.var _)) t, n => eqR t (nL τ n) ++ [(kE ty sm t (nL τ n), .var 0, plT t)]
  | .op (.op (.var 3) (.var _)) t, n => eqR t n
  | _, _ => []
/-- the applications of a type -/
def apN : TE → Nat → List Nat
  | .var _, _ => []
  | .op (.op (.var 0) f) a, n => apN f (nL τ n) ++ apN a (nR τ n) ++ [n]
  | .op (.op (.var 1) l) r, n => apN l (nL τ n) ++ apN r (nR τ n)
  | .op (.op (.var 2) (.var _)) t, n => apN t (nL τ n)
  | .op (.op (.var 3) (.var _)) t, n => apN t n
  | _, _ => []
theorem kE_R : ∀ (r : TE) (n : Nat), isR r = true → kE ty sm r n = .var 0
  | .op (.op (.var 1) _) _, _, _ => rfl
theorem nt_1 {e : EQ} (h1 : e.1 = .var 0) (h2 : e.2.1 = .var 0) : nt [e] = [] := by
  simp only [nt, List.filter_cons, h1, h2]; rfl
theorem eq_nt : ∀ (t : TE) (n : Nat), nt (eqC τ ty sm t n) = nt (eqR τ ty sm t n)
  | .var _, _ => rfl
  | .op (.op (.var 0) f) a, n => by
    rw [eqC, eqR, nt_app, nt_app, nt_app, nt_app, eq_nt f, eq_nt a]
  | .op (.op (.var 1) l) r, n => by
    rw [eqC, eqR, nt_app, nt_app, nt_app, nt_app, nt_app, nt_app, eq_nt l, eq_nt r]
    by_cases h : isR r = true
    · rw [if_pos h, nt_1 (e := (kE ty sm r (nR τ n), .var 0, plT r)) (kE_R ty sm r _ h) rfl]; rfl
    · rw [if_neg h]
  | .op (.op (.var 2) (.var _)) t, n => by rw [eqC, eqR, nt_app, nt_app, eq_nt t]
  | .op (.op (.var 3) (.var _)) t, n => by rw [eqC, eqR, eq_nt t]
  | .op (.op (.var 2) (.op _ _)) _, _ => rfl
  | .op (.op (.var 3) (.op _ _)) _, _ => rfl
  | .op (.op (.var (_ + 4)) _) _, _ => rfl
  | .op (.op (.op _ _) _) _, _ => rfl
  | .op (.var _) _, _ => rfl
end E
/-- the applications among acts -/
def a0 (As : List AE) : List Nat := (As.filter (fun e => e.1 == 0)).map (fun e => e.2.1)
theorem a0_app (A B : List AE) : a0 (A ++ B) = a0 A ++ a0 B := by simp [a0]
theorem a0_0 (n p : Nat) : a0 [(0, n, p)] = [n] := rfl
theorem a0_1 (n p : Nat) : a0 [(1, n, p)] = [] := rfl
theorem nd_bd {τ : zS} {pr me : Int32} {lo hi : Nat} : ∀ (t : TE) (n : Nat) (As : List AE), nd τ pr me lo hi t n As → lo ≤ n ∧ n < hi
  | .var c, n, As, h => ⟨h.1, h.2.1⟩
  | .op (.op (.var 0) f) a, n, As, h => ⟨h.1, h.2.1⟩
  | .op (.op (.var 1) l) r, n, As, h => ⟨h.1, h.2.1⟩
  | .op (.op (.var 2) (.var _)) t, n, As, h => ⟨h.1, h.2.1⟩
  | .op (.op (.var 3) (.var _)) t, n, As, h => nd_bd t n As h
theorem nd_ap {τ : zS} {pr me : Int32} {lo hi : Nat} (hh : hi ≤ 1000) : ∀ (t : TE) (n : Nat) (As : List AE), nd τ pr me lo hi t n As → a0 As = apN τ t n ∧ ∀ x, x ∈ apN τ t n → x < hi ∧ ga τ 2 x = 2
  | .var c, n, As, h => by rw [h.2.2.2.2.2.2]; exact ⟨rfl, fun x hx => by cases hx⟩
  | .op (.op (.var 0) f) a, n, As, h => by
    obtain ⟨a1, a2, a3, n1, n2, A1, A2, a4, a5, a6, a7, a8⟩ := h
    have b1 := (nd_bd f n1 A1 a6).2
    have b2 := (nd_bd a n2 A2 a7).2
    have l1 : nL τ n = n1 := by unfold nL; rw [a4, nI_clamp (by omega)]
    have l2 : nR τ n = n2 := by unfold nR; rw [a5, nI_clamp (by omega)]
    obtain ⟨c1, c2⟩ := nd_ap hh f n1 A1 a6
    obtain ⟨d1, d2⟩ := nd_ap hh a n2 A2 a7
    rw [a8, a0_app, a0_app, c1, d1, apN, l1, l2, a0_0]
    refine ⟨rfl, fun x hx => ?_⟩
    rcases List.mem_append.mp hx with z | z
    · rcases List.mem_append.mp z with y | y
      · exact c2 x y
      · exact d2 x y
    · rw [List.mem_singleton.mp z]; exact ⟨a2, a3⟩
  | .op (.op (.var 1) l) r, n, As, h => by
    obtain ⟨a1, a2, a3, n1, n2, A1, A2, a4, a5, a6, a7, a8⟩ := h
    have b1 := (nd_bd l n1 A1 a6).2
    have b2 := (nd_bd r n2 A2 a7).2
    have l1 : nL τ n = n1 := by unfold nL; rw [a4, nI_clamp (by omega)]
    have l2 : nR τ n = n2 := by unfold nR; rw [a5, nI_clamp (by omega)]
    obtain ⟨c1, c2⟩ := nd_ap hh l n1 A1 a6
    obtain ⟨d1, d2⟩ := nd_ap hh r n2 A2 a7
    have e0 : a0 (if isR r = true then [] else [(1, n2, plT r)]) = [] := by split <;> rfl
    rw [a8, a0_app, a0_app, a0_app, c1, d1, apN, l1, l2, a0_1, e0, List.append_nil, List.append_nil]
    refine ⟨rfl, fun x hx => ?_⟩
    rcases List.mem_append.mp hx with y | y
    · exact c2 x y
    · exact d2 x y
  | .op (.op (.var 2) (.var _)) t, n, As, h => by
    obtain ⟨a1, a2, a3, n1, A1, a4, a5, a6⟩ := h
    have b1 := (nd_bd t n1 A1 a5).2
    have l1 : nL τ n = n1 := by unfold nL; rw [a4, nI_clamp (by omega)]
    obtain ⟨c1, c2⟩ := nd_ap hh t n1 A1 a5
    rw [a6, a0_app, c1, apN, l1, a0_1, List.append_nil]
    exact ⟨rfl, c2⟩
  | .op (.op (.var 3) (.var _)) t, n, As, h => nd_ap hh t n As h
/-- frames: as sx, and the names of what is free may change -/
def sy (I A : List Nat) (σ σ' : zS) : Prop := (∀ r, r ∉ I → gi σ' r = gi σ r) ∧ (∀ a, a ∉ A → ga σ' a = ga σ a) ∧ (∀ b, b ≠ 55 → gb σ' b = gb σ b) ∧ σ'.2.2.1 = σ.2.2.1 ∧ σ'.2.2.2.2 = σ.2.2.2.2
theorem sy_sx {I A : List Nat} {σ σ' : zS} (h : sx I A σ σ') : sy I A σ σ' := ⟨h.1, h.2.1, fun b _ => sx_gb h b, by rw [h.2.2], by rw [h.2.2]⟩
theorem sy_rfl (I A : List Nat) (σ : zS) : sy I A σ σ := sy_sx (sx_rfl I A σ)
theorem sy_tr {I A : List Nat} {σ σ1 σ2 : zS} (h : sy I A σ σ1) (g : sy I A σ1 σ2) : sy I A σ σ2 := ⟨fun r hr => (g.1 r hr).trans (h.1 r hr), fun a ha => (g.2.1 a ha).trans (h.2.1 a ha), fun b hb => (g.2.2.1 b hb).trans (h.2.2.1 b hb), g.2.2.2.1.trans h.2.2.2.1, g.2.2.2.2.trans h.2.2.2.2⟩
theorem sy_mono {I A I' A' : List Nat} {σ σ' : zS} (hI : ∀ r, r ∈ I → r ∈ I') (hA : ∀ r, r ∈ A → r ∈ A') (h : sy I A σ σ') : sy I' A' σ σ' := ⟨fun r hr => h.1 r (fun z => hr (hI r z)), fun a ha => h.2.1 a (fun z => ha (hA a z)), h.2.2⟩
theorem sy_mi {I A : List Nat} {σ σ' : zS} (h : sy I A σ σ') (a : Nat) : mi σ' a = mi σ a := by unfold mi; rw [h.2.2.2.2]
theorem sy_ma {I A : List Nat} {σ σ' : zS} (h : sy I A σ σ') (a : Nat) : ma σ' a = ma σ a := by unfold ma; rw [h.2.2.2.2]
theorem sy_mb {I A : List Nat} {σ σ' : zS} (h : sy I A σ σ') (a : Nat) : mb σ' a = mb σ a := by unfold mb; rw [h.2.2.2.2]
theorem sy_si {I A : List Nat} {σ σ' : zS} (h : sy I A σ σ') {r : Nat} (hr : r ∈ I) (v : Int32) : sy I A σ (si σ' r v) := sy_tr h (sy_sx (sx_si (sx_rfl _ _ _) hr v))
theorem sy_sa {I A : List Nat} {σ σ' : zS} (h : sy I A σ σ') {b : Nat} (hb : b ∈ A) (i : Nat) (v : Int32) : sy I A σ (sa σ' b i v) := sy_tr h (sy_sx (sx_sa (sx_rfl _ _ _) hb i v))
theorem sy_sb {I A : List Nat} {σ σ' : zS} (h : sy I A σ σ') (i : Nat) (v : Int64) : sy I A σ (sb σ' 55 i v) :=
  sy_tr h ⟨fun r _ => by simp [zs], fun a _ => by simp [zs], fun b hb => by simp [zs, hb], rfl, rfl⟩
