/-! The reference does its acts. Own text. -/
/-- it has stopped at an equation -/
def knd (τ : zS) (c : Nat) : Prop := ∃ R, gi τ 48 = nI R ∧ R ≤ c
theorem knd_mo {τ : zS} {c c' : Nat} (h : knd τ c) (hc : c ≤ c') : knd τ c' := by
  obtain ⟨R, h1, h2⟩ := h
  exact ⟨R, h1, by omega⟩
def rvG (τ : zS) (E : List EQ) (e : EQ) (H : SG) (dom : Nat → Prop) (m : Nat → Nat) : Prop := ∃ x y, MS τ H ∧ Rp H dom m (eqP E) ∧ rp H dom m x e.1 ∧ rp H dom m y e.2.1 ∧ unso H x y ∧ gi τ 8 = 6 ∧ gi τ 9 = nI e.2.2 ∧ gi τ 10 = 1 ∧ gi τ 79 = nI x ∧ gi τ 80 = nI y ∧ rp H dom m 0 (.var 0)
def rvF (τ : zS) (E : List EQ) (e : EQ) : Prop := ∃ H dom m x y, MS τ H ∧ Rp H dom m (eqP E) ∧ rp H dom m x e.1 ∧ rp H dom m y e.2.1 ∧ unso H x y ∧ gi τ 8 = 6 ∧ gi τ 9 = nI e.2.2 ∧ gi τ 10 = 1 ∧ gi τ 79 = nI x ∧ gi τ 80 = nI y ∧ rp H dom m 0 (.var 0)
theorem rvG_F {τ : zS} {E : List EQ} {e : EQ} {H : SG} {dom : Nat → Prop} {m : Nat → Nat} (h : rvG τ E e H dom m) : rvF τ E e := by
  obtain ⟨x, y, h⟩ := h
  exact ⟨H, dom, m, x, y, h⟩
def rvE (τ : zS) (E : List EQ) (e : EQ) (H : SG) (dom : Nat → Prop) (m : Nat → Nat) : Prop := ∃ Hf df mf, rvG τ E e Hf df mf ∧ xt H dom m Hf df mf
theorem rvE_F {τ : zS} {E : List EQ} {e : EQ} {H : SG} {dom : Nat → Prop} {m : Nat → Nat} (h : rvE τ E e H dom m) : rvF τ E e := by
  obtain ⟨Hf, df, mf, h, _⟩ := h
  exact rvG_F h
section K
variable {F : Nat} {τ : zS} {H : SG} {dom : Nat → Prop} {m : Nat → Nat} {E : List EQ}
theorem rv_eq (hF : 20000 ≤ F) {x y p : Nat} {e1 e2 : TE} (h : RV τ H dom m E) (hx : rp H dom m x e1) (hy : rp H dom m y e2) : ∃ τ', Md_equate F τ (nI x) (nI y) (nI p) = some τ' ∧ ((sx [] [29, 30, 53, 54] τ τ' ∧ ∃ H', RV τ' H' dom m (E ++ [(e1, e2, p)]) ∧ xt H dom m H' dom m ∧ gn H' = gn H) ∨ (sx [8, 9, 10, 79, 80] [29, 30, 53, 54] τ τ' ∧ rvG τ' E (e1, e2, p) H dom m)) := by
  obtain ⟨a1, a2, a3, a4, a5⟩ := h
  obtain ⟨τ', b1, b2⟩ := equateM (F := F) hF a1 a4 hx.1 hy.1 (nI p)
  refine ⟨τ', b1, ?_⟩
  rcases b2 with ⟨c1, H', c2, c3, c4, c5, d, c6⟩ | ⟨c1, c2, c3, c4, c5, c6, c7, c8⟩
  · obtain ⟨R1, R2⟩ := Rp_eq (e1 := e1) (e2 := e2) a2 hx hy c2.2.2.2.1 c6 c3 c5
    exact Or.inl ⟨c1, H', ⟨c2, by rw [eqP_app, eqP_1]; exact R1, R2 _ _ a3, (c1.1 8 (by decide)).trans a4, (c1.1 49 (by decide)).trans a5⟩, R2, c3⟩
  · exact Or.inr ⟨c1, x, y, c2, a2, hx, hy, c3, c4, c5, c6, c7, c8, a3⟩
theorem rvG_fr {I A : List Nat} {τ' : zS} {e : EQ} (h : rvG τ E e H dom m) (hs : sx I A τ τ') (h1 : 48 ∉ I ∧ 8 ∉ I ∧ 9 ∉ I ∧ 10 ∉ I ∧ 79 ∉ I ∧ 80 ∉ I) (h2 : 26 ∉ A ∧ 27 ∉ A ∧ 28 ∉ A ∧ 29 ∉ A) : rvG τ' E e H dom m := by
  obtain ⟨x, y, a1, a2, a3, a4, a5, a6, a7, a8, a9, a10, a11⟩ := h
  obtain ⟨b1, b2, b3, b4, b5, b6⟩ := h1
  exact ⟨x, y, MS_sx hs b1 h2.1 h2.2.1 h2.2.2.1 h2.2.2.2 a1, a2, a3, a4, a5, (hs.1 8 b2).trans a6, (hs.1 9 b3).trans a7, (hs.1 10 b4).trans a8, (hs.1 79 b5).trans a9, (hs.1 80 b6).trans a10, a11⟩
/-- an application -/
theorem da_app (hF : 20000 ≤ F) {a n n1 n2 k1 k2 p : Nat} {x2 : Int32} {e1 e2 : TE} (h : RV τ H dom m E) (hH : gn H + 2 ≤ 4000) (hn : ¬ dom n) (ha : a < 1600) (hn' : n < 1000) (hn1 : n1 < 1000) (hn2 : n2 < 1000) (h7 : ga τ 7 a = 0) (h8 : ga τ 8 a = nI n) (h9 : ga τ 9 a = nI p) (h4 : ga τ 4 n = nI n1) (h5 : ga τ 5 n = nI n2) (k1' : ga τ 6 n1 = nI k1) (k2' : ga τ 6 n2 = nI k2) (r1 : rp H dom m k1 e1) (r2 : rp H dom m k2 e2) : ∃ τ', Md_doAct F τ (nI a) x2 = some τ' ∧ ((sx [48] [6, 26, 27, 28, 29, 30, 53, 54] τ τ' ∧ ∃ H' dom' m' k, RV τ' H' dom' m' (E ++ [(e1, .op e2 (.var (n + 1)), p)]) ∧ xt H dom m H' dom' m' ∧ gn H' = gn H + 2 ∧ (∀ z, dom' z → dom z ∨ z = n) ∧ (∀ l, ga τ' 6 l = if l = n then nI k else ga τ 6 l) ∧ rp H' dom' m' k (.var (n + 1))) ∨ (sx [8, 9, 10, 48, 79, 80] [6, 26, 27, 28, 29, 30, 53, 54] τ τ' ∧ rvE τ' E (e1, .op e2 (.var (n + 1)), p) H dom m ∧ gi τ' 48 = nI (gn H + 2))) := by
  obtain ⟨τ1, a1, a2, a3, a4, a5⟩ := rv_open (F := F) (x := n) h (by omega) hn
  obtain ⟨τ2, b1, b2, b3, b4, b5⟩ := rv_arr (F := F) (l := k2) (r := gn H) a3 (by rw [ad_n]; omega) (a4 _ _ r2) a5
  obtain ⟨τ3, c1, c2⟩ := rv_eq (F := F) (x := k1) (p := p) hF b3 (b4 _ _ (a4 _ _ r1)) b5
  have s12 : sx [48] [26, 27, 28, 29] τ τ2 := sx_tr a2 b2
  have e0 : Md_doAct F τ (nI a) x2 = some (sa τ3 6 n (nI (gn H))) := by
    rw [Md_doAct, gd_t (inb_nI (by omega) (by omega)), nI_clamp (by omega), h7, if_pos rfl, a1, bi_some, h8]
    show gd (inb (nI n) 1000) (gd (inb (ga τ1 5 (nI n).toNatClampNeg) 1000) _) = _
    rw [gd_t (inb_nI (by omega) (by omega)), nI_clamp (by omega), a2.2.1 5 (by decide), h5, gd_t (inb_nI (by omega) (by omega)), nI_clamp (by omega), a2.2.1 6 (by decide), k2', b1, bi_some]
    show gd (inb (ga τ2 4 n) 1000) _ = _
    rw [s12.2.1 4 (by decide), h4, gd_t (inb_nI (by omega) (by omega)), nI_clamp (by omega), s12.2.1 6 (by decide), k1', s12.2.1 9 (by decide), h9, c1, bv_some]
    rfl
  refine ⟨_, e0, ?_⟩
  have s6 : sx [] [6] τ3 (sa τ3 6 n (nI (gn H))) := sx_sa (sx_rfl _ _ _) (by decide) _ _
  rcases c2 with ⟨d1, H', d2, d3, d4⟩ | ⟨d1, d2⟩
  · refine Or.inl ⟨sx_sa (sx_tr (sx_mono (by decide) (by decide) s12) (sx_mono (by decide) (by decide) d1)) (by decide) _ _, H', _, _, gn H, rv_fr d2 s6 (by decide) (by decide), xt_tr a4 (xt_tr b4 d3), by rw [d4, ad_n, ad_n], fun z hz => hz, fun l => ?_, d3 _ _ (b4 _ _ a5)⟩
    simp only [zs, if_true]
    rw [up_at, d1.2.1 6 (by decide), s12.2.1 6 (by decide)]
  · exact Or.inr ⟨sx_sa (sx_tr (sx_mono (by decide) (by decide) s12) (sx_mono (by decide) (by decide) d1)) (by decide) _ _, ⟨_, _, _, rvG_fr d2 s6 (by decide) (by decide), xt_tr a4 b4⟩, by rw [s6.1 48 (by decide), d1.1 48 (by decide), b3.1.1, ad_n, ad_n]⟩
/-- a type that must be of kind star -/
theorem da_star (hF : 20000 ≤ F) {a n k p : Nat} {x2 : Int32} {e1 : TE} (h : RV τ H dom m E) (ha : a < 1600) (hn' : n < 1000) (h7 : ga τ 7 a = 1) (h8 : ga τ 8 a = nI n) (h9 : ga τ 9 a = nI p) (k' : ga τ 6 n = nI k) (r1 : rp H dom m k e1) : ∃ τ', Md_doAct F τ (nI a) x2 = some τ' ∧ ((sx [] [29, 30, 53, 54] τ τ' ∧ ∃ H', RV τ' H' dom m (E ++ [(e1, .var 0, p)]) ∧ xt H dom m H' dom m ∧ gn H' = gn H) ∨ (sx [8, 9, 10, 79, 80] [29, 30, 53, 54] τ τ' ∧ rvG τ' E (e1, .var 0, p) H dom m)) := by
  obtain ⟨τ', c1, c2⟩ := rv_eq (F := F) (x := k) (y := 0) (p := p) hF h r1 h.2.2.1
  refine ⟨τ', ?_, c2⟩
  rw [Md_doAct, gd_t (inb_nI (by omega) (by omega)), nI_clamp (by omega), h7, if_neg (by decide), h8, gd_t (inb_nI (by omega) (by omega)), nI_clamp (by omega), if_pos rfl, Md_doAct_109, gd_t (inb_nI (by omega) (by omega)), nI_clamp (by omega), h9, k', h.2.2.2.2, show (0 : Int32) = nI 0 from nI_0.symm, c1, bv_some]
  rfl
/-- a right side -/
theorem da_syn (hF : 20000 ≤ F) {a n k kr o p : Nat} {e1 e2 : TE} (h : RV τ H dom m E) (ha : a < 1600) (hn' : n < 1000) (ho : o < 16) (h7 : ga τ 7 a = 2) (h8 : ga τ 8 a = nI n) (h9 : ga τ 9 a = nI p) (k' : ga τ 6 n = nI k) (h51 : ga τ 51 o = nI kr) (r1 : rp H dom m k e1) (r2 : rp H dom m kr e2) : ∃ τ', Md_doAct F τ (nI a) (nI o) = some τ' ∧ ((sx [] [29, 30, 53, 54] τ τ' ∧ ∃ H', RV τ' H' dom m (E ++ [(e1, e2, p)]) ∧ xt H dom m H' dom m ∧ gn H' = gn H) ∨ (sx [8, 9, 10, 79, 80] [29, 30, 53, 54] τ τ' ∧ rvG τ' E (e1, e2, p) H dom m)) := by
  obtain ⟨τ', c1, c2⟩ := rv_eq (F := F) (x := k) (y := kr) (p := p) hF h r1 r2
  refine ⟨τ', ?_, c2⟩
  rw [Md_doAct, gd_t (inb_nI (by omega) (by omega)), nI_clamp (by omega), h7, if_neg (by decide), h8, gd_t (inb_nI (by omega) (by omega)), nI_clamp (by omega), if_neg (by decide), gd_t (inb_nI (by omega) (by omega)), Md_doAct_109, gd_t (inb_nI (by omega) (by omega)), nI_clamp (by omega), nI_clamp (by omega), h9, k', h51, c1, bv_some]
  rfl
end K
