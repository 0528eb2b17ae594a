/-! Both readers side by side: a one that is a name. Own text. -/
section J
variable {F : Nat} {B : Nat → Int32} {n c X N0 : Nat} {h : Int32} {σ τ : zS} {k M s N a L : Nat}
theorem hh_it (hm : mS B n τ k M s N a L) (hL : L ≤ 8) (hh : ¬ (L = 0 ∧ h = 3 ∧ ¬ ga τ 19 0 < 0)) : ¬ (gi τ 42 = 0 ∧ h = 3 ∧ ¬ ga τ 19 0 < 0) := by
  rintro ⟨z1, z2, z3⟩
  apply hh
  refine ⟨?_, z2, z3⟩
  rw [hm.2.2.2.2.2.2.2.1] at z1
  exact (nI_eq (a := L) (b := 0) (by omega) (by omega)).mp z1
theorem nmT_big (hs : nmT (tkS B n k)) : (if lfB (lf (if tkS B n k = 2 then 0 else 1) (tkN B n k) (tkP B n k)) = 0 then (2 : Int32) else 3) = tkS B n k := by
  rcases hs with q | q
  · rw [if_pos q, lf_B (by omega), if_pos rfl, q]
  · rw [if_neg (show ¬ tkS B n k = 2 by rw [q]; decide), lf_B (by omega), if_neg (by decide), q]
theorem one_leaf (hT : tEnd B n c) (hX : isRow X = true) (hF : 1300 ≤ F) (hN0 : N0 ≤ 500) (hJ : JR B n c X N0 σ τ k M s N a L) (hL : L ≤ 8) (hs : nmT (tkS B n k)) (hv : lvO τ L) (hh : ¬ (L = 0 ∧ h = 3 ∧ ¬ ga τ 19 0 < 0)) (rT : zS → Int32 → Option (Int32 × zS)) : OneR F B n c X N0 h σ τ k M s N a L (Pa_parseOne_m F rT σ (nI L)) := by
  have hB := hT.1
  have hc := tE_c hT
  obtain ⟨hC, hM, hne, hme, hmb, hs2, hN, ha, how⟩ := hJ
  have hk := tEnd_s hT hC.2.1 (show tkS B n k ≠ 1 by rcases hs with q | q <;> rw [q] <;> decide)
  have h8 := (m_flt hM hne).1
  have hit := fun m => ro_it (F := F) m h h8 (hh_it hM hL hh)
  have hcl : Pa_parseOne_m F rT σ (nI L) = Pa_parseOne_26 F rT σ (tkS B n k) (nI (tkP B n k)) := by
    rw [Pa_parseOne_m, c_sort hT hC, bi_some, c_start hT hC, bi_some]
    rcases hs with q | q
    · rw [if_pos q]
    · rw [if_neg (by rw [q]; decide), if_pos q]
  have hgr : gr σ 605 = X := hC.2.2.2.2.1
  rcases Nat.lt_or_ge s 200 with q | q
  · -- there is room
    obtain ⟨hM6, hmb'⟩ := mB_add hB hmb hs
    obtain ⟨σ1, e1, C1, fr1, rw1', i1, g1, b1⟩ := c_roadd (F := F) hX hC q (tkS B n k) (tkN B n k) 0 (tkP B n k)
    obtain ⟨r, hr⟩ : ∃ r : Int32, r = if tkS B n k = 2 then 5 else 6 := ⟨_, rfl⟩
    obtain ⟨σ2, e2, C2, fr2, me2, i2⟩ := c_meadd (F := F) hT C1 hM6 r (gi σ1 606)
    obtain ⟨e3, C3, fr3⟩ := c_step (F := F) hT C2 (show tkS B n k ≠ 1 by rcases hs with q | q <;> rw [q] <;> decide)
    have hcl2 : Pa_parseOne_26 F rT σ (tkS B n k) (nI (tkP B n k)) = some (1, si σ2 106 (nI (k + 1))) := by
      have e66 : Pa_parseOne_66 F rT σ1 r = some (1, si σ2 106 (nI (k + 1))) := by
        rw [Pa_parseOne_66, e2, bv_some, e3, bv_some]
      rw [Pa_parseOne_26, c_name hT hC, bi_some, hgr, gd_t hX]
      rw [show (0 : Int32) = nI 0 from rfl, e1, bi_some, if_neg (by decide)]
      rcases hs with z | z
      · rw [if_pos z] at hr ⊢
        rw [← hr]
        exact e66
      · rw [if_neg (show ¬ tkS B n k = 2 by rw [z]; decide)] at hr ⊢
        rw [← hr]
        exact e66
    have frall : frC X M s σ (si σ2 106 (nI (k + 1))) := frC_tr (frC_tr fr1 fr2 (Nat.le_refl _) (by omega)) fr3 (by omega) (by omega)
    obtain ⟨τ1, frt, mS1, ⟨nd1, nd2, nd3, nd4⟩, met, hstep⟩ := m_leaf (F := F) hB hF hM hs q (by omega) (by omega)
    have hro : ∀ m τ', Md_addOne F τ1 (nI N) (if tkS B n k = 2 then nI M else -1) (nI (tkP B n k)) = some τ' → Md_readOpen_10 F (m + 1) τ h = Md_readOpen_10 F m τ' h := by
      intro m τ' e
      rw [hit m, hstep, e, bv_some]
    refine ⟨1, _, hcl.trans hcl2, frall, ?_⟩
    have hmeM : meR (si σ2 106 (nI (k + 1))) τ1 M := by
      obtain ⟨m1, m2, m3, m4, m5⟩ := me2
      obtain ⟨t1, t2, t3, t4, t5, t6⟩ := met
      unfold meR
      simp only [zs]
      rw [m1, m2, m3, m4, m5, t1, t2, t3, t4, t5, t6]
      refine ⟨rfl, rfl, ?_, ?_, fun _ => Or.inl ⟨rfl, rfl, 0, by omega, rfl⟩⟩
      · rw [hr]
        rcases hs with z | z
        · rw [if_pos z]; rfl
        · rw [if_neg (show ¬ tkS B n k = 2 by rw [z]; decide)]; rfl
      · rw [i1]; exact how
    have hme' : ∀ i, i < M + 1 → meR (si σ2 106 (nI (k + 1))) τ1 i := by
      intro i hi
      rcases Nat.lt_or_ge i M with z | z
      · exact meR_fr frall frt z (hme i z)
      · have : i = M := by omega
        subst this
        exact hmeM
    by_cases hb : tkS B n (k + 1) = 0
    · -- a bad token comes next
      left
      have hZ := (mS_Z mS1).1
      have hmt : (if tkS B n k = 2 then nI M else -1) = -1 ∨ ∃ m, (if tkS B n k = 2 then nI M else -1) = nI m ∧ M ≤ m ∧ m < 1400 := by
        by_cases z : tkS B n k = 2
        · right; exact ⟨M, by rw [if_pos z], Nat.le_refl _, by omega⟩
        · left; rw [if_neg z]
      obtain ⟨τ', ea, fra, q8, q9, ⟨a', ha', q23⟩, N2, hN2, q16⟩ := m_addok (F := F) hZ (by omega) (by omega) (by omega) (lvO_fr frt (by omega) hv) (nI N) (nI (tkP B n k)) hmt
      have hcu := (mS_Z mS1).2.2.2.1 hb
      refine ⟨1, tkP B n (k + 1), τ', by decide, Or.inr ⟨rfl, rfl, k + 1, M + 1, s + 1, C3, by omega, by omega, by omega, by omega, hb, rfl⟩, ⟨frM_tr (frM_tr (frM_rfl L N a M τ) frt (Nat.le_succ _) (Nat.le_refl _) (Nat.le_refl _) (Nat.le_refl _)) fra (Nat.le_refl _) (by omega) (by omega) (by omega), by rw [q8]; exact hcu.1, by rw [q9]; exact hcu.2, ⟨a', ha', q23⟩, N2, by omega, q16⟩, ?_⟩
      intro m
      rw [show m + (c + 2 - k) = (m + (c - k)) + 1 + 1 by omega, hro _ τ' ea, ro_end _ _ (by rw [q8, hcu.1]; decide)]
    · right
      refine ⟨rfl, k + 1, M + 1, s + 1, N + 1, a, .var (lf (if tkS B n k = 2 then 0 else 1) (tkN B n k) (tkP B n k)), [], N, τ1, by omega, by omega, by omega, ⟨C3, mS1, hb, hme', hmb', by omega, by omega, by omega, ownR_fr frall frt how⟩, frt, ?_, rfl, rfl, rfl, Nat.le_refl _, by omega, ?_, ?_, ?_, trivial, ?_, ?_, rfl, ?_, ?_⟩
      · refine ⟨?_, tok_gd hB hs⟩
        rw [lf_P (by split <;> omega) (by have := hB.1; omega)]
        have := hB.1
        omega
      · show N + 1 + 1 ≤ N + 2 * 1
        omega
      · have hp : tkP B n k < 2048 := by have := hB.1; omega
        have hb2 : (if tkS B n k = 2 then 0 else 1) < 2 := by split <;> omega
        refine ⟨?_, trivial⟩
        obtain ⟨w1, w2, w3, w4⟩ := rw1'
        have k7 := fr2.2.2.2.2.2.2.1
        have k8 := fr2.2.2.2.2.2.2.2
        refine ⟨?_, ?_, ?_, ?_⟩
        · simp only [zs]; rw [k7 _ _ (by omega), w1]; exact (nmT_big hs).symm
        · simp only [zs]; rw [k8 _ _ (by omega), w2]; exact (lf_N hb2 hp).symm
        · simp only [zs]; rw [k7 _ _ (by omega), w3]; rfl
        · simp only [zs]; rw [k7 _ _ (by omega), w4]; exact congrArg nI (lf_P hb2 hp).symm
      · have hp : tkP B n k < 2048 := by have := hB.1; omega
        have hb2 : (if tkS B n k = 2 then 0 else 1) < 2 := by split <;> omega
        refine ⟨Nat.le_refl _, by omega, ?_, ?_, nd3, nd4, rfl⟩
        · rw [nd1, lf_B hb2]; split <;> rfl
        · rw [nd2, lf_N hb2 hp]
      · exact lf_P (by split <;> omega) (by have := hB.1; omega)
      · have hp : tkP B n k < 2048 := by have := hB.1; omega
        have hb2 : (if tkS B n k = 2 then 0 else 1) < 2 := by split <;> omega
        refine ⟨⟨⟨?_, ?_, ?_⟩, trivial⟩, ?_⟩
        · simp only [zs]
          rw [me2.1, hr, lf_B hb2]
          split <;> rfl
        · simp only [zs]
          rw [me2.2.1, lf_N hb2 hp]
        · simp only [zs]
          rw [me2.2.2.2.1, i1]
        · have c23 : (hdT (.var (lf (if tkS B n k = 2 then 0 else 1) (tkN B n k) (tkP B n k)))).1 = 2 ∨ (hdT (.var (lf (if tkS B n k = 2 then 0 else 1) (tkN B n k) (tkP B n k)))).1 = 3 := by
            rw [show (hdT (.var (lf (if tkS B n k = 2 then 0 else 1) (tkN B n k) (tkP B n k)))).1 = tkS B n k from nmT_big hs]
            exact hs
          rw [vaL_y c23]
          exact ⟨fun _ => ⟨0, by simp only [zs]; exact me2.2.2.2.2, Nat.zero_le _⟩, trivial⟩
      · intro z2
        exact ⟨⟨by omega, (nmT_big hs).trans z2⟩, met.2.2.2.2.1, met.2.2.2.2.2, by simp only [zs]; exact me2.2.2.2.2⟩
      · intro m τ' e
        rw [show m + (k + 1 - k) = m + 1 by omega]
        exact hro m τ' e
  · -- no room
    have hs200 : s = 200 := by omega
    subst hs200
    obtain ⟨σ', t1, t2, t3, t4⟩ := c_tooMuch (F := F) hT hC
    obtain ⟨τ', t5, t6⟩ := m_leaf0 (F := F) (N0 := N0) hB hM hs (by omega) (by omega)
    refine ⟨0, σ', ?_, t4, Or.inl ⟨2, tkP B n k, τ', by decide, Or.inl ⟨rfl, t2, t3⟩, flM_tr (frM_rfl L N a M τ) t5 (Nat.le_succ _) (Nat.le_refl _) (Nat.le_refl _) (Nat.le_refl _), ?_⟩⟩
    · rw [hcl, Pa_parseOne_26, c_name hT hC, bi_some, hgr, gd_t hX, c_roful hX hC, bi_some, if_pos rfl, t1, bi_some]
      rfl
    · intro m
      rw [show m + (c + 2 - k) = (m + (c - k)) + 1 + 1 by omega, hit, t6, ro_end _ _ (by rw [t5.2.1]; decide)]
end J
