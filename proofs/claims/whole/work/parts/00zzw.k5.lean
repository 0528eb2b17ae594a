/-! Merging in the class. Own text. -/
def flt : List (Nat × Nat) → List Nat
  | [] => []
  | (a, b) :: l => a :: b :: flt l
theorem flt_len : ∀ l, (flt l).length = 2 * l.length
  | [] => rfl
  | (a, b) :: l => by simp only [flt, List.length_cons, flt_len l]; omega
def MI (σ0 : zS) (G0 : SG) (x y : Nat) (σ : zS) (G : SG) (PL : List (Nat × Nat)) (T : List Nat) : Prop :=
  CS σ G ∧ (gn G = gn G0 ∧ gso G = gso G0 ∧ gle G = gle G0 ∧ gri G = gri G0) ∧ stC σ (flt PL) ∧ (∀ q, q ∈ PL → q.1 < gn G ∧ q.2 < gn G) ∧ trC σ0 σ (gn G) T ∧ (∀ t, t ∈ T → gup G t ≠ t) ∧ T.length + nrt G0 = nrt G ∧ PL.length + nrt G0 ≤ 1 + nrt G ∧ (∀ v, (Sol G0 v ∧ v x = v y) ↔ (Sol G v ∧ ∀ q, q ∈ PL → v q.1 = v q.2)) ∧ sx [308, 309] [25, 26, 27, 28] σ0 σ ∧ ∀ k, gup G k = gup G0 k ∨ (gup G0 k = k ∧ (gso G0 k = 0 ∨ gup G k < k))
section K
variable {F : Nat} {σ0 σ : zS} {G0 G : SG} {x y : Nat} {PL : List (Nat × Nat)} {T : List Nat}
/-- joining two roots, in the invariant; the pair is gone from the stack -/
theorem mi_join {q1 q2 a b : Nat} (h : MI σ0 G0 x y σ G ((q1, q2) :: PL) T) {σ1 : zS} (hs1 : sx [309] [28] σ σ1) (hst : stC σ1 (flt PL)) (hab : (a = rt G q1 ∧ b = rt G q2) ∨ (a = rt G q2 ∧ b = rt G q1)) (hne : a ≠ b) (h0 : a ≠ 0) (hk : gso G a = 0 ∨ (gso G a = 2 ∧ gso G b = 2 ∧ b < a)) : ∃ σ', Ki_join F σ1 (nI a) (nI b) = some σ' ∧ sx [308] [25, 27] σ1 σ' ∧ stC σ' (flt PL) ∧ (gso G a = 0 → MI σ0 G0 x y σ' (lkG G a b) PL (a :: T)) ∧ (gso G a = 2 → ∀ σ'' l1 l2 r1 r2, sx [309] [28] σ' σ'' → stC σ'' (flt ((r1, r2) :: (l1, l2) :: PL)) → ((r1 = gri G a ∧ r2 = gri G b) ∨ (r1 = gri G b ∧ r2 = gri G a)) → ((l1 = gle G a ∧ l2 = gle G b) ∨ (l1 = gle G b ∧ l2 = gle G a)) → MI σ0 G0 x y σ'' (lkG G a b) ((r1, r2) :: (l1, l2) :: PL) (a :: T)) := by
  obtain ⟨c1, c2, c3, c4, c5, c6, c7, c8, c9, c10, c11⟩ := h
  have hw := c1.2.2.2.2.2.1
  obtain ⟨p1, p2⟩ := c4 (q1, q2) List.mem_cons_self
  have hra : gup G a = a ∧ a < gn G := by
    rcases hab with ⟨e, _⟩ | ⟨e, _⟩
    · rw [e]; exact ⟨rt_root hw p1, rt_lt hw p1⟩
    · rw [e]; exact ⟨rt_root hw p2, rt_lt hw p2⟩
  have hrb : gup G b = b ∧ b < gn G := by
    rcases hab with ⟨_, e⟩ | ⟨_, e⟩
    · rw [e]; exact ⟨rt_root hw p2, rt_lt hw p2⟩
    · rw [e]; exact ⟨rt_root hw p1, rt_lt hw p1⟩
  have hcs1 : CS σ1 G := CS_sx hs1 (by decide) (by decide) (by decide) (by decide) c1
  have htr1 : trC σ0 σ1 (gn G) T := by
    obtain ⟨t1, t2, t3, t4⟩ := c5
    refine ⟨by rw [hs1.1 308 (by decide)]; exact t1, stL_cg T (fun i _ => by rw [hs1.2.1 27 (by decide)]) t2, t3, fun k hk => by rw [hs1.2.1 25 (by decide)]; exact t4 k hk⟩
  have haT : a ∉ T := fun z => c6 a z hra.1
  have hnr : nrt (lkG G a b) = nrt G + 1 := nrt_lk hra.2 hra.1 hne
  have hlt : nrt (lkG G a b) < gn G := nrt_lt (G := lkG G a b) (k := b) hrb.2 (by
    show (if b = a then b else gup G b) = b
    rw [if_neg (fun z => hne z.symm)]; exact hrb.1)
  have hn13 := c1.2.2.1
  obtain ⟨σ', e1, w1, w2, w3⟩ := joinC (F := F) (σ0 := σ0) hcs1 htr1 hra.2 hrb.2 hne hra.1 hrb.1 h0 (by omega) haT
  have hst' : stC σ' (flt PL) := ⟨by rw [w3.1 309 (by decide)]; exact hst.1, stL_cg _ (fun i _ => by rw [w3.2.1 28 (by decide)]) hst.2⟩
  have hup : ∀ k, gup (lkG G a b) k = if k = a then b else gup G k := fun _ => rfl
  have hup11 : ∀ k, gup (lkG G a b) k = gup G0 k ∨ (gup G0 k = k ∧ (gso G0 k = 0 ∨ gup (lkG G a b) k < k)) := by
    intro k
    rw [hup]
    by_cases e : k = a
    · rw [if_pos e, e]
      right
      have g0 : gup G0 a = a := by
        rcases c11 a with z | z
        · rw [← z]; exact hra.1
        · exact z.1
      refine ⟨g0, ?_⟩
      rcases hk with z | z
      · left; rw [← c2.2.1]; exact z
      · right; exact z.2.2
    · rw [if_neg e]; exact c11 k
  have hT6 : ∀ t, t ∈ a :: T → gup (lkG G a b) t ≠ t := by
    intro t ht
    rw [hup]
    rcases List.mem_cons.mp ht with e | e
    · rw [if_pos e, e]; exact fun z => hne z.symm
    · rw [if_neg (fun z => haT (by rw [← z]; exact e))]
      exact c6 t e
  have hvab : ∀ v, Sol G v → (v q1 = v q2 ↔ v a = v b) := by
    intro v hv
    rw [sol_rt hw hv p1, sol_rt hw hv p2]
    rcases hab with ⟨e, e'⟩ | ⟨e, e'⟩
    · rw [e, e']
    · rw [e, e']; exact ⟨fun z => z.symm, fun z => z.symm⟩
  refine ⟨σ', e1, w3, hst', fun hz => ?_, fun hz σ'' l1 l2 r1 r2 hs2 hst2 hr hl => ?_⟩
  · refine ⟨w1, c2, hst', fun q hq => c4 q (List.mem_cons_of_mem _ hq), w2, hT6, by rw [hnr, List.length_cons]; omega, by rw [hnr]; simp only [List.length_cons] at c8; omega, fun v => ?_, ?_, hup11⟩
    · rw [c9 v, lk_1 hw hra.2 hrb.2 hne hra.1 hrb.1 (Or.inl hz) v]
      constructor
      · rintro ⟨s1, s2⟩
        exact ⟨⟨s1, (hvab v s1).mp (s2 (q1, q2) List.mem_cons_self)⟩, fun q hq => s2 q (List.mem_cons_of_mem _ hq)⟩
      · rintro ⟨⟨s1, s2⟩, s3⟩
        refine ⟨s1, fun q hq => ?_⟩
        rcases List.mem_cons.mp hq with e | e
        · rw [e]; exact (hvab v s1).mpr s2
        · exact s3 q e
    · exact sx_tr (sx_tr c10 (sx_mono (by decide) (by decide) hs1)) (sx_mono (by decide) (by decide) w3)
  · have ha2 : gso G a = 2 ∧ gso G b = 2 := by
      rcases hk with z | z
      · omega
      · exact ⟨z.1, z.2.1⟩
    obtain ⟨la, ra⟩ := (hw.1 a hra.2).2.2 ha2.1
    obtain ⟨lb, rb⟩ := (hw.1 b hrb.2).2.2 ha2.2
    have cs'' : CS σ'' (lkG G a b) := CS_sx hs2 (by decide) (by decide) (by decide) (by decide) w1
    refine ⟨cs'', c2, hst2, fun q hq => ?_, ?_, hT6, by rw [hnr, List.length_cons]; omega, by rw [hnr]; simp only [List.length_cons] at c8 ⊢; omega, fun v => ?_, ?_, hup11⟩
    · show q.1 < gn G ∧ q.2 < gn G
      rcases List.mem_cons.mp hq with e | e
      · rw [e]
        rcases hr with ⟨z1, z2⟩ | ⟨z1, z2⟩ <;> rw [z1, z2] <;> exact ⟨by assumption, by assumption⟩
      · rcases List.mem_cons.mp e with e | e
        · rw [e]
          rcases hl with ⟨z1, z2⟩ | ⟨z1, z2⟩ <;> rw [z1, z2] <;> exact ⟨by assumption, by assumption⟩
        · exact c4 q (List.mem_cons_of_mem _ e)
    · obtain ⟨t1, t2, t3, t4⟩ := w2
      exact ⟨by rw [hs2.1 308 (by decide)]; exact t1, stL_cg _ (fun i _ => by rw [hs2.2.1 27 (by decide)]) t2, t3, fun k hk => by rw [hs2.2.1 25 (by decide)]; exact t4 k hk⟩
    · rw [c9 v]
      have hlk := lk_2 hw hra.2 hrb.2 hne hra.1 hrb.1 ha2.1 ha2.2 v
      constructor
      · rintro ⟨s1, s2⟩
        obtain ⟨z1, z2, z3⟩ := hlk.mpr ⟨s1, (hvab v s1).mp (s2 (q1, q2) List.mem_cons_self)⟩
        refine ⟨z1, fun q hq => ?_⟩
        rcases List.mem_cons.mp hq with e | e
        · rw [e]
          rcases hr with ⟨y1, y2⟩ | ⟨y1, y2⟩
          · rw [y1, y2]; exact z3
          · rw [y1, y2]; exact z3.symm
        · rcases List.mem_cons.mp e with e | e
          · rw [e]
            rcases hl with ⟨y1, y2⟩ | ⟨y1, y2⟩
            · rw [y1, y2]; exact z2
            · rw [y1, y2]; exact z2.symm
          · exact s2 q (List.mem_cons_of_mem _ e)
      · rintro ⟨s1, s2⟩
        have z3 : v (gri G a) = v (gri G b) := by
          have := s2 (r1, r2) List.mem_cons_self
          rcases hr with ⟨y1, y2⟩ | ⟨y1, y2⟩
          · rw [y1, y2] at this; exact this
          · rw [y1, y2] at this; exact this.symm
        have z2 : v (gle G a) = v (gle G b) := by
          have := s2 (l1, l2) (List.mem_cons_of_mem _ List.mem_cons_self)
          rcases hl with ⟨y1, y2⟩ | ⟨y1, y2⟩
          · rw [y1, y2] at this; exact this
          · rw [y1, y2] at this; exact this.symm
        obtain ⟨u1, u2⟩ := hlk.mp ⟨s1, z2, z3⟩
        refine ⟨u1, fun q hq => ?_⟩
        rcases List.mem_cons.mp hq with e | e
        · rw [e]; exact (hvab v u1).mpr u2
        · exact s2 q (List.mem_cons_of_mem _ (List.mem_cons_of_mem _ e))
    · exact sx_tr (sx_tr (sx_tr c10 (sx_mono (by decide) (by decide) hs1)) (sx_mono (by decide) (by decide) w3)) (sx_mono (by decide) (by decide) hs2)
end K
