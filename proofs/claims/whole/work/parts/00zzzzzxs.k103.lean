/-! A question of two types: both answer alike. Own text. -/
section K
variable {F : Nat} {σ τ σa τa σ' τ' : zS} {D N0 : Nat} {G H Gc Hc : SG}
theorem ask2_ok (hF : 20000 ≤ F) (hBS : BS σ τ D G H N0) (hT : rTape σ τ) : ∃ b rr σ' τ', Q_takeTypes F σ 2 = some (b, σ') ∧ Md_readAsked F τ 1 = some (rr, τ') ∧ AO σ τ σ' τ' D G H N0 ∧ ((b = 0 ∧ gi σ' 200 ≠ 0 ∧ FT σ' τ') ∨ (b = 1 ∧ AW σ' τ' ∧ ∃ N1 N t nn t2 nn2, rr = nI nn ∧ gi τ' 91 = nI nn2 ∧ QT σ' τ' D G N0 N1 (-1) 0 0 t nn ∧ QT σ' τ' D G N1 N (-2) (lvs t).length (lnT t) t2 nn2 ∧ mi σ' 1107 = 2 ∧ mi σ' 1104 = nI (lnT t + lnT t2) ∧ ma σ' 70 0 = 0 ∧ ma σ' 70 1 = nI (lnT t))) := by
  obtain ⟨n, hn, hl, hl2, hB⟩ := hT
  have hbyt : byt (ga σ 19) n := ⟨hn, fun i hi => by
    obtain ⟨b1, b2, b3⟩ := hB i hi
    exact of_rng (n := 256) (by omega) (fun h => by
      have h1 := Int32.lt_iff_toInt_lt.mp h
      rw [show (0 : Int32).toInt = 0 from rfl] at h1
      omega) (fun h => by
      have h1 := Int32.le_iff_toInt_le.mp h
      rw [ti_nI (by omega)] at h1
      omega)⟩
  obtain ⟨σa, τa, rr, hK, hM, hAX, hres⟩ := ask2 (F := F) (by omega) hbyt hl (fun i hi => (hB i hi).1) hl2 hBS.2.2.2.2.2.2.2.2.1 hBS.2.2.2.2.2.2.2.2.2.1 (bs_88 hBS) (by have := hBS.2.2.2.2.1; omega)
  have eQ : Q_takeTypes F σ 2 = bv (Ch_checkTypes F (si σa 101 0)) (fun σ14 => Q_takeTypes_64 F F σ14 2 0) := hK (fun σ12 => bv (Ch_checkTypes F (si σ12 101 0)) (fun σ14 => Q_takeTypes_64 F F σ14 2 0))
  have sb : sx [101] [] σa (si σa 101 0) := sx_si (sx_rfl _ _ _) (by decide) _
  obtain ⟨F', hF'⟩ : ∃ F', F = F' + 1 := ⟨F - 1, by omega⟩
  have tflt : ∀ s : zS, gi s 200 ≠ 0 → Q_takeTypes_64 F F s 2 0 = some (0, s) := fun s hs => by
    rw [show Q_takeTypes_64 F F s 2 0 = Q_takeTypes_64 F (F' + 1) s 2 0 from by rw [← hF']]
    exact tt_flt hs F' 2 0
  rcases hres with ⟨f, p, hf, f1, f2, f3, f4, _⟩ | ⟨M, s, N, a, M1, s1, N1, a1', t, nn, As, t2', nn2, As2, hAC, hAT, hAT2, v1, v2, v3, v4, v5, v6, v7, v8, h70, h71, h70', h71', hrr, h91⟩
  · have b200 : gi (si σa 101 0) 200 = f := by rw [sb.1 200 (by decide)]; exact f1
    have fne : f ≠ 0 := by rcases hf with z | z <;> rw [z] <;> decide
    have e1 := names_flt (F := F) (σ := si σa 101 0) (by omega) (by rw [b200]; exact fne)
    refine ⟨0, rr, si σa 101 0, si τa 2 0, ?_, ?_, ao_flt hBS hAX (sx_rfl _ _ _) (sx_rfl _ _ _), Or.inl ⟨rfl, by rw [b200]; exact fne, ?_⟩⟩
    · rw [eQ, Ch_checkTypes, e1.1, bv_some, e1.2, bv_some, bv_some, tflt _ (by rw [b200]; exact fne)]
    · rw [hM]
      exact (ra_flt hF (by rw [f3]; exact fne)).1
    · refine Or.inr (Or.inl ?_)
      have b201 : gi (si σa 101 0) 201 = nI p := by rw [sb.1 201 (by decide)]; exact f2
      have h10 : gi (si τa 2 0) 10 = 0 := by simp [zs]; exact hAX.2.2.2.2.2
      have h9 : gi (si τa 2 0) 9 = nI p := by simp [zs]; exact f4
      have h8 : gi (si τa 2 0) 8 = f := by simp [zs]; exact f3
      rcases hf with z | z
      · exact ⟨1, by omega, by omega, by rw [b200, z]; rfl, by rw [h8, z]; rfl, by rw [b201, h9], h10⟩
      · exact ⟨2, by omega, by omega, by rw [b200, z]; rfl, by rw [h8, z]; rfl, by rw [b201, h9], h10⟩
  · obtain ⟨d1, d2, d3⟩ := ax_dc hBS hAX
    have hAC0 := hAC
    obtain ⟨a1, a2, a3, a4, a5, a6, a7, a8, a9, a10, a11, a12, a13, a14, a15, a16, a17⟩ := hAC
    have hAT0 := hAT
    have hAT20 := hAT2
    obtain ⟨t1, t2, t3, t4, t5, t6⟩ := hAT
    obtain ⟨u1, u2, u3, u4, u5, u6⟩ := hAT2
    have b200 : gi (si σa 101 0) 200 = 0 := by rw [sb.1 200 (by decide)]; exact a1
    have hle1 : leL (si σa 101 0) (-1) 0 (lvs t) := leL_cg (sb.2.1 43 (by decide)) (sx_gb sb 44) (sb.2.1 46 (by decide)) t5.1
    have hle2 : leL (si σa 101 0) (-1) M1 (lvs t2') := leL_cg (sb.2.1 43 (by decide)) (sx_gb sb 44) (sb.2.1 46 (by decide)) u5.1
    have hle : leL (si σa 101 0) (-1) 0 (lvs t ++ lvs t2') := (leL_app _ _ _ _ _).mpr ⟨hle1, by rw [Nat.zero_add, ← v5]; exact hle2⟩
    have hnm : nmR (si σa 101 0) τa D M false := by
      refine ⟨dcN_cg (sb.1 400 (by decide)) rfl (fun a _ => sb.2.1 a (by simp)) (fun a _ => sx_gb sb a) (fun a _ => rfl) (fun a _ => rfl) d1, by rw [sb.1 505 (by decide)]; exact a4, a5, a6, fun i hi => ?_, (fun z => by cases z), fun _ i hi => leL_all _ 0 i hle (Nat.zero_le _) (by rw [List.length_append]; omega)⟩
      have := a7 i hi
      unfold meR at this ⊢
      rw [sx_gb sb, sb.2.1 45 (by decide), sb.2.1 43 (by decide), sb.2.1 46 (by decide), sb.2.1 47 (by decide)]
      exact this
    rcases ask_chk (F := F) (rr := rr) hF hnm b200 a2 with ⟨k1, k2, k3, k4⟩ | ⟨f, p, σ1, τ1, hf, e1, e2, k1, k2⟩
    · obtain ⟨b, σ', τ', q1, q2, Gc, Hc, dom, m, dom2, m2, q3, q4, q5, q6, q7⟩ := ask2_sv (F := F) (rr := rr) hF hBS hAX hAC0 hAT0 hAT20 v1 v2 v3 v4 v5 v6 v7 v8 h70 h71 h70' h71' k3 hnm
      have hAO := ao_of hBS hAX q3 q4 q5 q6
      refine ⟨b, rr, σ', si τ' 2 0, by rw [eQ, k1, bv_some, q1], by rw [hM, k2, q2], hAO, ?_⟩
      have st : sx [2] [] τ' (si τ' 2 0) := sx_si (sx_rfl _ _ _) (by decide) _
      rcases q7 with ⟨g1, g2, g3, g4, g5, ⟨fv, κ, g6⟩, fv2, κ2, g7⟩ | ⟨g1, g2, g3⟩
      · have fT := q3.1
        have fM := q4.1
        have hN0 := hBS.2.2.2.2.2.2.2.2.2.1
        have qt : ∀ (lo hi : Nat) (o : Int32) (M0 s0 : Nat) (t : TE) (nn : Nat) (As : List AE), okT t → rwL σa 11 s0 (hdT t :: tlT t) → nd τa o (-1) lo hi t nn As → hi ≤ 1000 → s0 + lnT t ≤ 200 → leL (si σa 101 0) (-1) M0 (lvs t) → vaL σa M0 (hdT t :: tlT t) → M0 + (lvs t).length ≤ M → (∃ fv κ, WT (lkQ (si σa 101 0) D G fv) t κ) → QT σ' (si τ' 2 0) D G lo hi o M0 s0 t nn := by
          intro lo hi o M0 s0 t nn As z1 z2 z3 z4 z5 z6 z7 z8 z9
          obtain ⟨fv, κ, z9⟩ := z9
          refine ⟨z1, ?_, ⟨As, ?_⟩, z4, z5, ?_, fun i hi => ?_, fv, κ, ?_⟩
          · refine rwL_fr _ _ (fun j _ _ => ?_) z2
            have w1 : ∀ a, a ≠ lA 15 → a ≠ lA 16 → ma σ' a = ma σa a := fun a z1 z2 => by rw [fT.2.2.2.2.2.2.1 a z1 z2, sx_ma sb]
            rw [w1 _ (by decide) (by decide), w1 _ (by decide) (by decide), w1 _ (by decide) (by decide), fT.2.2.2.2.2.2.2, sx_mb sb]
            exact ⟨rfl, rfl, rfl, rfl⟩
          · refine nd_mono (τ := τa) (Nat.le_refl _) (Nat.le_refl _) (fun i _ _ => ?_) t nn As z3
            rw [st.2.1 2 (by decide), sx_gb st, st.2.1 4 (by decide), st.2.1 5 (by decide), fM.2.1 2 (by decide), sx_gb fM, fM.2.1 4 (by decide), fM.2.1 5 (by decide)]
            exact ⟨rfl, rfl, rfl, rfl⟩
          · exact ⟨leL_cg (fT.2.1 43 (by decide)) (fT.2.2.1 44 (by decide)) (fT.2.1 46 (by decide)) z6, vaL_fr _ _ (fun j _ _ => by rw [fT.2.1 47 (by decide), sb.2.1 47 (by decide)]) z7⟩
          · exact tkO_cg (fun a ha => fT.2.1 a (by rcases ha with z | z | z | z <;> subst z <;> decide)) (fun a ha => fT.2.2.1 a (by omega)) (k4 i (by omega))
          · rw [lkQ_cg (fT.2.1 29 (by decide)) (fT.2.1 40 (by decide)) (fT.2.2.1 30 (by decide))]
            exact z9
        refine Or.inr ⟨g1, ⟨g2, by rw [st.1 8 (by decide)]; exact g3, by rw [st.1 9 (by decide)]; exact g4, by rw [st.1 10 (by decide)]; exact g5⟩, N1, N, t, nn, t2', nn2, hrr, ?_, ?_, ?_, ?_, ?_, ?_, ?_⟩
        · rw [st.1 91 (by decide), fM.1 91 (by decide)]; exact h91
        · exact qt N0 N1 (-1) 0 0 t nn As t1 t2 t3 (by omega) (by omega) hle1 t5.2 (by omega) ⟨fv, κ, g6⟩
        · have := qt N1 N (-2) M1 s1 t2' nn2 As2 u1 u2 u3 (by omega) (by omega) hle2 u5.2 (by omega) ⟨fv2, κ2, g7⟩
          rw [v5, v3] at this
          exact this
        · rw [q3.1.2.2.2.2.2.1 1107 (by decide) (by decide), sx_mi sb, a9]; rfl
        · rw [q3.1.2.2.2.2.2.1 1104 (by decide) (by decide), sx_mi sb, a8, v6, v3]
        · rw [q3.1.2.2.2.2.2.2.1 70 (by decide) (by decide), sx_ma sb]; exact h70
        · rw [q3.1.2.2.2.2.2.2.1 70 (by decide) (by decide), sx_ma sb, h70', v3]
      · exact Or.inl ⟨g1, by rw [g2]; decide, Or.inr (Or.inr (six_fr g3 ⟨rfl, rfl⟩ (fun x _ => ⟨rfl, rfl⟩) (fun r hr => st.1 r (by simp; omega)) (fun a _ => st.2.1 a (by simp))))⟩
    · have hs1 : sx [200, 201] [] (si σa 101 0) σ1 := by rw [e1]; exact sx_si (sx_si (sx_rfl _ _ _) (by decide) _) (by decide) _
      have ht1 : sx [8, 9] [] τa τ1 := by rw [e2]; exact sx_si (sx_si (sx_rfl _ _ _) (by decide) _) (by decide) _
      have s200 : gi σ1 200 = f := by rw [e1]; simp [zs]
      have s201 : gi σ1 201 = p := by rw [e1]; simp [zs]
      have u8 : gi (si τ1 2 0) 8 = f := by rw [e2]; simp [zs]
      have u9 : gi (si τ1 2 0) 9 = p := by rw [e2]; simp [zs]
      have u10 : gi (si τ1 2 0) 10 = 0 := by rw [e2]; simp [zs]; exact hAX.2.2.2.2.2
      have fne : f ≠ 0 := by rcases hf with z | z <;> rw [z] <;> decide
      refine ⟨0, rr, σ1, si τ1 2 0, by rw [eQ, k1, bv_some, tflt _ (by rw [s200]; exact fne)], by rw [hM, k2], ao_flt hBS hAX hs1 ht1, Or.inl ⟨rfl, by rw [s200]; exact fne, Or.inr (Or.inl ?_)⟩⟩
      rcases hf with z | z
      · exact ⟨3, by omega, by omega, by rw [s200, z]; rfl, by rw [u8, z]; rfl, by rw [s201, u9], u10⟩
      · exact ⟨5, by omega, by omega, by rw [s200, z]; rfl, by rw [u8, z]; rfl, by rw [s201, u9], u10⟩
end K
