/-! Merging in the class: the loop, and undoing. Own text. -/
section K
variable {F : Nat} {σ0 σ : zS} {G0 G : SG} {x y : Nat} {PL : List (Nat × Nat)} {T : List Nat}
def muM (G : SG) (PL : List (Nat × Nat)) : Nat := 2 * (gn G - nrt G) + PL.length
theorem mi_drop {q1 q2 : Nat} (h : MI σ0 G0 x y σ G ((q1, q2) :: PL) T) {σ1 : zS} (hs1 : sx [309] [28] σ σ1) (hst : stC σ1 (flt PL)) (he : rt G q1 = rt G q2) : MI σ0 G0 x y σ1 G PL T := by
  obtain ⟨c1, c2, c3, c4, c5, c6, c7, c8, c9, c10, c11⟩ := h
  have hw := c1.2.2.2.2.2.1
  obtain ⟨p1, p2⟩ := c4 (q1, q2) List.mem_cons_self
  refine ⟨CS_sx hs1 (by decide) (by decide) (by decide) (by decide) c1, c2, hst, fun q hq => c4 q (List.mem_cons_of_mem _ hq), ?_, c6, c7, by simp only [List.length_cons] at c8; omega, fun v => ?_, sx_tr c10 (sx_mono (by decide) (by decide) hs1), c11⟩
  · obtain ⟨t1, t2, t3, t4⟩ := c5
    exact ⟨by rw [hs1.1 308 (by decide)]; exact t1, stL_cg T (fun i _ => by rw [hs1.2.1 27 (by decide)]) t2, t3, fun k hk => by rw [hs1.2.1 25 (by decide)]; exact t4 k hk⟩
  · rw [c9 v]
    constructor
    · rintro ⟨s1, s2⟩
      exact ⟨s1, fun q hq => s2 q (List.mem_cons_of_mem _ hq)⟩
    · rintro ⟨s1, s2⟩
      refine ⟨s1, fun q hq => ?_⟩
      rcases List.mem_cons.mp hq with e | e
      · rw [e]
        show v q1 = v q2
        rw [sol_rt hw s1 p1, sol_rt hw s1 p2, he]
      · exact s2 q e
/-- no tree at all -/
def clash (G : SG) (x y : Nat) : Prop := ∀ v, Sol G v → v x ≠ v y
theorem mergeC {q1 q2 o w : Nat} (h : MI σ0 G0 x y σ G ((q1, q2) :: PL) T) {σ1 : zS} (hs1 : sx [309] [28] σ σ1) (hst : stC σ1 (flt PL)) (how : (o = rt G q1 ∧ w = rt G q2) ∨ (o = rt G q2 ∧ w = rt G q1)) (hle : o ≤ w) : ∃ r σ', Ki_merge F σ1 (nI o) (nI w) = some (r, σ') ∧ ((r = 1 ∧ ∃ G' PL' T', MI σ0 G0 x y σ' G' PL' T' ∧ muM G' PL' < muM G ((q1, q2) :: PL)) ∨ (r = 0 ∧ clash G0 x y ∧ trC σ0 σ' (gn G0) T ∧ sx [308, 309] [25, 26, 27, 28] σ0 σ' ∧ T.length ≤ 1713)) := by
  have hh := h
  obtain ⟨c1, c2, c3, c4, c5, c6, c7, c8, c9, c10, c11⟩ := h
  have hw := c1.2.2.2.2.2.1
  have hn13 := c1.2.2.1
  obtain ⟨p1, p2⟩ := c4 (q1, q2) List.mem_cons_self
  have hro : gup G o = o ∧ o < gn G := by
    rcases how with ⟨e, _⟩ | ⟨e, _⟩
    · rw [e]; exact ⟨rt_root hw p1, rt_lt hw p1⟩
    · rw [e]; exact ⟨rt_root hw p2, rt_lt hw p2⟩
  have hrw : gup G w = w ∧ w < gn G := by
    rcases how with ⟨_, e⟩ | ⟨_, e⟩
    · rw [e]; exact ⟨rt_root hw p2, rt_lt hw p2⟩
    · rw [e]; exact ⟨rt_root hw p1, rt_lt hw p1⟩
  have hcs1 : CS σ1 G := CS_sx hs1 (by decide) (by decide) (by decide) (by decide) c1
  have hnl : nrt G < gn G := nrt_lt hro.2 hro.1
  by_cases e : o = w
  · refine ⟨1, σ1, by rw [Ki_merge, if_pos (by rw [e])], Or.inl ⟨rfl, G, PL, T, mi_drop hh hs1 hst ?_, by unfold muM; simp only [List.length_cons]; omega⟩⟩
    rcases how with ⟨a, b⟩ | ⟨a, b⟩
    · rw [← a, ← b, e]
    · rw [← a, ← b, e]
  have hne : ¬ nI o = nI w := fun z => e ((nI_eq (by omega) (by omega)).mp z)
  have hmu : ∀ a b, a < gn G → gup G a = a → a ≠ b → gup G b = b → b < gn G → nrt (lkG G a b) = nrt G + 1 ∧ nrt G + 1 < gn G := by
    intro a b ha hra hab hrb hb
    have h1 := nrt_lk ha hra hab
    have h2 := nrt_lt (G := lkG G a b) (k := b) hb (by
      show (if b = a then b else gup G b) = b
      rw [if_neg (fun z => hab z.symm)]; exact hrb)
    rw [h1] at h2
    exact ⟨h1, h2⟩
  rw [Ki_merge, if_neg hne, isOpC hcs1 hrw.2, bi_some]
  by_cases sw : gso G w = 0
  · have hw0 : w ≠ 0 := fun z => by have := c1.2.2.2.2.1; rw [z] at sw; omega
    obtain ⟨σ', j1, j2, j3, j4, j5⟩ := mi_join (F := F) hh hs1 hst (a := w) (b := o) (by rcases how with ⟨a, b⟩ | ⟨a, b⟩; exact Or.inr ⟨b, a⟩; exact Or.inl ⟨b, a⟩) (fun z => e z.symm) hw0 (Or.inl sw)
    obtain ⟨m1, m2⟩ := hmu w o hrw.2 hrw.1 (fun z => e z.symm) hro.1 hro.2
    refine ⟨1, σ', by rw [if_pos sw, if_neg (by decide), j1, bv_some], Or.inl ⟨rfl, _, PL, _, j4 sw, ?_⟩⟩
    unfold muM
    show 2 * (gn G - nrt (lkG G w o)) + _ < _
    rw [m1]; simp only [List.length_cons]; omega
  rw [if_neg sw, if_pos (show (0 : Int32) = 0 from rfl), isOpC hcs1 hro.2, bi_some]
  by_cases so : gso G o = 0
  · have ho0 : o ≠ 0 := fun z => by have := c1.2.2.2.2.1; rw [z] at so; omega
    obtain ⟨σ', j1, j2, j3, j4, j5⟩ := mi_join (F := F) hh hs1 hst (a := o) (b := w) how e ho0 (Or.inl so)
    obtain ⟨m1, m2⟩ := hmu o w hro.2 hro.1 e hrw.1 hrw.2
    refine ⟨1, σ', by rw [if_pos so, if_neg (by decide), j1, bv_some], Or.inl ⟨rfl, _, PL, _, j4 so, ?_⟩⟩
    unfold muM
    show 2 * (gn G - nrt (lkG G o w)) + _ < _
    rw [m1]; simp only [List.length_cons]; omega
  rw [if_neg so, if_pos (show (0 : Int32) = 0 from rfl), isArC hcs1 hro.2, bi_some]
  have hw0 : w ≠ 0 := by omega
  have hw2 : gso G w = 2 := by
    rcases (c1.2.2.2.2.2.2 w hrw.2).2.2 hw0 with z | z
    · exact absurd z.1 sw
    · exact z.1
  have htr : trC σ0 σ1 (gn G0) T := by
    obtain ⟨t1, t2, t3, t4⟩ := c5
    rw [← c2.1]
    exact ⟨by rw [hs1.1 308 (by decide)]; exact t1, stL_cg T (fun i _ => by rw [hs1.2.1 27 (by decide)]) t2, t3, fun k hk => by rw [hs1.2.1 25 (by decide)]; exact t4 k hk⟩
  by_cases s2 : gso G o = 2
  · rw [if_pos s2, if_neg (by decide), isArC hcs1 hrw.2, bi_some, if_pos hw2, if_neg (by decide)]
    obtain ⟨σ', j1, j2, j3, j4, j5⟩ := mi_join (F := F) hh hs1 hst (a := w) (b := o) (by rcases how with ⟨a, b⟩ | ⟨a, b⟩; exact Or.inr ⟨b, a⟩; exact Or.inl ⟨b, a⟩) (fun z => e z.symm) hw0 (Or.inr ⟨hw2, s2, by omega⟩)
    obtain ⟨m1, m2⟩ := hmu w o hrw.2 hrw.1 (fun z => e z.symm) hro.1 hro.2
    have ho0 : o ≠ 0 := fun z => by have := c1.2.2.2.2.1; rw [z] at s2; omega
    obtain ⟨o1, o2, o3⟩ : gso G o = 2 ∧ ga σ1 23 o = nI (gle G o) ∧ ga σ1 24 o = nI (gri G o) := by
      rcases (hcs1.2.2.2.2.2.2 o hro.2).2.2 ho0 with z | z
      · omega
      · exact z
    obtain ⟨w1, w2, w3⟩ : gso G w = 2 ∧ ga σ1 23 w = nI (gle G w) ∧ ga σ1 24 w = nI (gri G w) := by
      rcases (hcs1.2.2.2.2.2.2 w hrw.2).2.2 hw0 with z | z
      · omega
      · exact z
    have hlen : (flt PL).length + 4 ≤ 3434 := by
      rw [flt_len]; simp only [List.length_cons] at c8; omega
    obtain ⟨σa, a1, a2, a3⟩ := pushC (F := F) j3 (by omega) (gle G o)
    obtain ⟨σb, b1, b2, b3⟩ := pushC (F := F) a2 (by simp only [List.length_cons]; omega) (gle G w)
    obtain ⟨σc, cc1, cc2, cc3⟩ := pushC (F := F) b2 (by simp only [List.length_cons]; omega) (gri G o)
    obtain ⟨σd, d1, d2, d3⟩ := pushC (F := F) cc2 (by simp only [List.length_cons]; omega) (gri G w)
    have co : (nI o).toNatClampNeg = o := nI_clamp (by omega)
    have cw' : (nI w).toNatClampNeg = w := nI_clamp (by omega)
    have e1 : ga σ' 23 o = nI (gle G o) := by rw [j2.2.1 23 (by decide), o2]
    have e2 : ga σa 23 w = nI (gle G w) := by rw [a3.2.1 23 (by decide), j2.2.1 23 (by decide), w2]
    have e3 : ga σb 24 o = nI (gri G o) := by rw [b3.2.1 24 (by decide), a3.2.1 24 (by decide), j2.2.1 24 (by decide), o3]
    have e4 : ga σc 24 w = nI (gri G w) := by rw [cc3.2.1 24 (by decide), b3.2.1 24 (by decide), a3.2.1 24 (by decide), j2.2.1 24 (by decide), w3]
    refine ⟨1, σd, ?_, Or.inl ⟨rfl, _, (gri G w, gri G o) :: (gle G w, gle G o) :: PL, _, j5 hw2 σd (gle G w) (gle G o) (gri G w) (gri G o) (sx_tr (sx_tr (sx_tr a3 b3) cc3) d3) d2 (Or.inl ⟨rfl, rfl⟩) (Or.inl ⟨rfl, rfl⟩), ?_⟩⟩
    · rw [j1, bv_some, gd_t (inb_nI (by omega) (by omega)), co, e1, a1, bv_some, gd_t (inb_nI (by omega) (by omega)), cw', e2, b1, bv_some, e3, cc1, bv_some, e4, d1, bv_some]
    · unfold muM
      show 2 * (gn G - nrt (lkG G w o)) + _ < _
      rw [m1]; simp only [List.length_cons]; omega
  · rw [if_neg s2, if_pos (show (0 : Int32) = 0 from rfl)]
    have hs : gso G o = 1 := by have := (hw.1 o hro.2).1; omega
    refine ⟨0, σ1, rfl, Or.inr ⟨rfl, fun v hv hxy => ?_, htr, sx_tr c10 (sx_mono (by decide) (by decide) hs1), by omega⟩⟩
    obtain ⟨u1, u2⟩ := (c9 v).mp ⟨hv, hxy⟩
    have := u2 (q1, q2) List.mem_cons_self
    rw [sol_rt hw u1 p1, sol_rt hw u1 p2] at this
    have hno := no_sol hw hro.2 hrw.2 hro.1 hrw.1 hs hw2 u1
    rcases how with ⟨a, b⟩ | ⟨a, b⟩
    · rw [← a, ← b] at this; exact hno this
    · rw [← a, ← b] at this; exact hno this.symm
theorem uni_loop (hF : 20000 ≤ F) : ∀ (mu f t : Nat) (σ : zS) (G : SG) (PL : List (Nat × Nat)) (T : List Nat), MI σ0 G0 x y σ G PL T → muM G PL ≤ mu → t + mu < 1000000 → mu + 1 < f → ∃ σ' r, Ki_unify_25 F f σ (nI x) 1 (nI t) = Ki_unify_88 F σ' (nI x) r ∧ ((r = 1 ∧ ∃ G' T', MI σ0 G0 x y σ' G' [] T') ∨ (r = 0 ∧ clash G0 x y ∧ ∃ T', trC σ0 σ' (gn G0) T' ∧ T'.length ≤ 1713 ∧ sx [308, 309] [25, 26, 27, 28] σ0 σ')) := by
  intro mu
  induction mu with
  | zero =>
    intro f t σ G PL T h hmu ht hf
    exfalso
    have hw := h.1
    have := nrt_lt (G := G) (k := 0) (by have := hw.2.1; omega) hw.2.2.2.1
    unfold muM at hmu; omega
  | succ mu ih =>
    intro f t σ G PL T h hmu ht hf
    obtain ⟨f, rfl⟩ : ∃ f', f = f' + 1 := ⟨f - 1, by omega⟩
    have hcs := h.1
    have hn13 := hcs.2.2.1
    have h309 := h.2.2.1.1
    have hlen : PL.length ≤ 1714 := by
      have := h.2.2.2.2.2.2.2.1
      have := nrt_lt (G := G) (k := 0) (by have := hcs.2.1; omega) hcs.2.2.2.1
      omega
    cases PL with
    | nil =>
      refine ⟨σ, 1, ?_, Or.inl ⟨rfl, G, T, h⟩⟩
      rw [Ki_unify_25, Ki_unify_b25, if_neg (show ¬ (1000000 : Int32) ≤ nI t from nI_ge (b := 1000000) (by omega) (by omega)), h309, if_pos (by decide)]
    | cons q PL =>
      obtain ⟨q1, q2⟩ := q
      obtain ⟨p1, p2⟩ := h.2.2.2.1 (q1, q2) List.mem_cons_self
      simp only [List.length_cons] at hlen
      have hst : stC σ (q1 :: q2 :: flt PL) := h.2.2.1
      have fl := flt_len PL
      obtain ⟨σa, a1, a2, a3⟩ := popC (F := F) hst (by simp only [List.length_cons]; omega)
      have csa : CS σa G := CS_sx a3 (by decide) (by decide) (by decide) (by decide) hcs
      have f1 := findC (F := F) hF csa p1
      obtain ⟨σb, b1, b2, b3⟩ := popC (F := F) a2 (by omega)
      have csb : CS σb G := CS_sx b3 (by decide) (by decide) (by decide) (by decide) csa
      have f2 := findC (F := F) hF csb p2
      have r1 : rt G q1 < gn G := rt_lt hcs.2.2.2.2.2.1 p1
      have r2 : rt G q2 < gn G := rt_lt hcs.2.2.2.2.2.1 p2
      have emin : (if nI (rt G q2) < nI (rt G q1) then nI (rt G q2) else nI (rt G q1)) = nI (min (rt G q2) (rt G q1)) := by
        by_cases z : rt G q2 < rt G q1
        · rw [if_pos (nI_lt z (by omega)), Nat.min_eq_left (by omega)]
        · rw [if_neg (fun y => z ((nI_ltI (by omega) (by omega)).mp y)), Nat.min_eq_right (by omega)]
      have emax : (if nI (rt G q1) < nI (rt G q2) then nI (rt G q2) else nI (rt G q1)) = nI (max (rt G q2) (rt G q1)) := by
        by_cases z : rt G q1 < rt G q2
        · rw [if_pos (nI_lt z (by omega)), Nat.max_eq_left (by omega)]
        · rw [if_neg (fun y => z ((nI_ltI (by omega) (by omega)).mp y)), Nat.max_eq_right (by omega)]
      obtain ⟨r, σ', m1, m2⟩ := mergeC (F := F) h (sx_tr a3 b3) b2 (o := min (rt G q2) (rt G q1)) (w := max (rt G q2) (rt G q1)) (by
        rcases Nat.le_total (rt G q2) (rt G q1) with z | z
        · right; exact ⟨Nat.min_eq_left z, Nat.max_eq_right z⟩
        · left; exact ⟨Nat.min_eq_right z, Nat.max_eq_left z⟩) (by omega)
      have hpos : ¬ nI (flt ((q1, q2) :: PL)).length ≤ 0 := by
        rw [flt_len]
        exact nI_ge (a := 0) (by simp only [List.length_cons]; omega) (by simp only [List.length_cons]; omega)
      have e0 : Ki_unify_25 F (f + 1) σ (nI x) 1 (nI t) = Ki_unify_25 F f σ' (nI x) r (nI (t + 1)) := by
        rw [Ki_unify_25, Ki_unify_b25, if_neg (show ¬ (1000000 : Int32) ≤ nI t from nI_ge (b := 1000000) (by omega) (by omega)), h309, if_neg hpos, if_neg (by decide), a1, bi_some, f1, bi_some, b1, bi_some, f2, bi_some, emin, emax, m1, bi_some, nI_1]
      rcases m2 with ⟨e1, G', PL', T', w1, w2⟩ | ⟨e1, w1, w2, w3, w4⟩
      · rw [e0, e1]
        exact ih f (t + 1) σ' G' PL' T' w1 (by omega) (by omega) (by omega)
      · obtain ⟨f, rfl⟩ : ∃ f', f = f' + 1 := ⟨f - 1, by omega⟩
        refine ⟨σ', 0, ?_, Or.inr ⟨rfl, w1, T, w2, w4, w3⟩⟩
        rw [e0, e1, Ki_unify_25, Ki_unify_b25]
        split
        · rfl
        · split
          · rfl
          · rw [if_pos rfl]
/-- undoing -/
theorem undo_loop {n : Nat} (hn : n ≤ 1713) {L : Nat → Int32} : ∀ (d f i : Nat) (σ : zS) (T T1 T2 : List Nat), T = T1 ++ T2 → T2.length = i → T1.length = d → d < f → T.length ≤ 1713 → gi σ 308 = nI T.length → stL σ 27 T → (∀ t, t ∈ T → t < n ∧ L t = -1) → (∀ k, k ∉ T1 → ga σ 25 k = L k) → ∃ σ', Ki_unify_105 F f σ (nI i) = some (0, σ') ∧ sx [308, 309] [25, 26, 27, 28] σ σ' ∧ ∀ k, ga σ' 25 k = L k := by
  intro d
  induction d with
  | zero =>
    intro f i σ T T1 T2 hT h2 h1 hf hl h308 hst ht hk
    obtain ⟨f, rfl⟩ : ∃ f', f = f' + 1 := ⟨f - 1, by omega⟩
    have e1 : T1 = [] := List.length_eq_zero_iff.mp h1
    subst e1
    rw [List.nil_append] at hT
    refine ⟨σ, ?_, sx_rfl _ _ σ, fun k => hk k (List.not_mem_nil)⟩
    rw [Ki_unify_105, Ki_unify_b105, h308, hT, h2, if_pos (nI_le (Nat.le_refl _) (by rw [hT, h2] at hl; omega))]
  | succ d ih =>
    intro f i σ T T1 T2 hT h2 h1 hf hl h308 hst ht hk
    obtain ⟨f, rfl⟩ : ∃ f', f = f' + 1 := ⟨f - 1, by omega⟩
    -- the last of T1 stands at place i
    obtain ⟨T1', t, e1⟩ : ∃ T1' t, T1 = T1' ++ [t] := by
      rcases List.eq_nil_or_concat T1 with z | ⟨A, b, z⟩
      · rw [z] at h1; simp at h1
      · exact ⟨A, b, by rw [z, List.concat_eq_append]⟩
    have hlen : T.length = d + 1 + i := by rw [hT, List.length_append, h1, h2]
    have hl1 : T1'.length = d := by
      rw [e1, List.length_append] at h1; simp only [List.length_cons, List.length_nil] at h1; omega
    have hat : ga σ 27 i = nI t := by
      have key : ∀ (A B : List Nat), stL σ 27 (A ++ t :: B) → ga σ 27 B.length = nI t := by
        intro A
        induction A with
        | nil => intro B h; exact h.1
        | cons a A ih => intro B h; exact ih B h.2
      rw [hT, e1, List.append_assoc] at hst
      have := key T1' T2 hst
      rw [h2] at this; exact this
    have htm : t ∈ T := by rw [hT, e1]; simp
    obtain ⟨tn, tL⟩ := ht t htm
    have e0 : Ki_unify_105 F (f + 1) σ (nI i) = Ki_unify_105 F f (sa σ 25 t (-1)) (nI (i + 1)) := by
      rw [Ki_unify_105, Ki_unify_b105, h308, if_neg (nI_ge (by omega) (by omega)), gd_t (inb_nI (by omega) (by omega)), nI_clamp (by omega), hat, gd_t (inb_nI (by omega) (by omega)), nI_clamp (by omega), nI_1]
    obtain ⟨σ', w1, w2, w3⟩ := ih f (i + 1) (sa σ 25 t (-1)) T T1' (t :: T2) (by rw [hT, e1, List.append_assoc]; rfl) (by rw [List.length_cons, h2]) hl1 (by omega) hl (by simp only [zs]; exact h308) (stL_cg T (fun j _ => by simp [zs]) hst) ht (fun k hk1 => by
      have : ga (sa σ 25 t (-1)) 25 k = if k = t then -1 else ga σ 25 k := by simp [zs, up_at]
      rw [this]
      by_cases e : k = t
      · rw [if_pos e, e, tL]
      · rw [if_neg e]
        refine hk k (fun z => ?_)
        rw [e1] at z
        rcases List.mem_append.mp z with z | z
        · exact hk1 z
        · exact e (List.mem_singleton.mp z))
    refine ⟨σ', by rw [e0, w1], sx_tr (sx_sa (sx_rfl _ _ σ) (by decide) _ _) w2, w3⟩
theorem undoC (hF : 20000 ≤ F) {n : Nat} (hn : n ≤ 1713) {T : List Nat} (h : trC σ0 σ n T) (hl : T.length ≤ 1713) : ∃ σ', Ki_unify_102 F σ = some (0, σ') ∧ sx [308, 309] [25, 26, 27, 28] σ σ' ∧ ga σ' 25 = ga σ0 25 := by
  obtain ⟨t1, t2, t3, t4⟩ := h
  obtain ⟨σ', w1, w2, w3⟩ := undo_loop (F := F) hn (L := ga σ0 25) T.length F 0 σ T T [] (by simp) rfl rfl (by omega) hl t1 t2 t3 t4
  exact ⟨σ', w1, w2, funext w3⟩
end K
