/-! A question of one type: both answer alike. Own text. -/
/-- behind a question -/
def AO (σ τ σ' τ' : zS) (D : Nat) (G H : SG) (N0 : Nat) : Prop := (∃ G', BS σ' τ' D G' H N0 ∧ gn G' = gn G ∧ ∀ k d, k < gn G → dpt d (gT G k) → gT G' k = gT G k) ∧ (∃ Gc Hc, CS σ' Gc ∧ MS τ' Hc ∧ ∀ y, y < D → dPr σ' τ' Gc Hc y) ∧ frQ σ σ' ∧ frPa N0 τ τ' ∧ gi σ' 101 = 0 ∧ gi τ' 2 = 0
/-- a type that was asked, in both -/
def QT (σ τ : zS) (D : Nat) (G : SG) (lo hi : Nat) (o : Int32) (M0 s0 : Nat) (t : TE) (nn : Nat) : Prop := okT t ∧ rwL σ 11 s0 (hdT t :: tlT t) ∧ (∃ As, nd τ o (-1) lo hi t nn As) ∧ hi ≤ 1000 ∧ s0 + lnT t ≤ 200 ∧ lvA σ (-1) M0 t ∧ (∀ i, i < M0 + (lvs t).length → tkO σ D i) ∧ ∃ fv κ, WT (lkQ σ D G fv) t κ
/-- what is asked has a kind, and both have it -/
def QK (σ τ : zS) (rr : Int32) : Prop := ∃ Gc Hc k k' nn d, CS σ Gc ∧ MS τ Hc ∧ rr = nI nn ∧ nn < 1000 ∧ gi σ 815 = nI k ∧ ga τ 6 nn = nI k' ∧ k < gn Gc ∧ k' < gn Hc ∧ dpt d (gT Gc k) ∧ dpt d (gT Hc k') ∧ prT (fun _ => 42) d (gT Gc k) = prT (fun _ => 42) d (gT Hc k')
def AW (σ τ : zS) : Prop := gi σ 200 = 0 ∧ gi τ 8 = 0 ∧ gi τ 9 = -3 ∧ gi τ 10 = 0
section K
variable {F : Nat} {σ τ σa τa σ' τ' : zS} {D N0 : Nat} {G H Gc Hc : SG}
theorem ao_of (hBS : BS σ τ D G H N0) (hAX : AX σ τ σa τa N0 (gn H)) (hc : kC0 (si σa 101 0) σ' G Gc) (hm : kM0 τa τ' H Hc) {dom dom2 : Nat → Prop} {m m2 : Nat → Nat} (hxC : xt G (fun _ => False) (fun z => z) Gc dom m) (hxM : xt H (fun _ => False) (fun z => z) Hc dom2 m2) : AO σ τ σ' (si τ' 2 0) D G H N0 := by
  obtain ⟨hCa, hMa⟩ := ax_st hBS hAX
  have sb : sx [101] [] σa (si σa 101 0) := sx_si (sx_rfl _ _ _) (by decide) _
  have st : sx [2] [] τ' (si τ' 2 0) := sx_si (sx_rfl _ _ _) (by decide) _
  have hCb : CS (si σa 101 0) G := CS_sx sb (by decide) (by decide) (by decide) (by decide) hCa
  have r3 := (rs_CS (σ0 := si σa 101 0) (G0 := G) (n := gn G) hCb rfl hc.2.1 hc.2.2.2.1 hc.2.2.1 (fun k hk => (hc.2.2.2.2 k hk).1) (fun k hk => (hc.2.2.2.2 k hk).2)).2.2
  refine ⟨⟨rsG (gn G) Gc, bs_back hBS hAX hc hm hxC, rfl, fun k d hk hd => ?_⟩, ⟨Gc, Hc, hc.2.1, MS_sx st (by decide) (by decide) (by decide) (by decide) (by decide) hm.2.1, cur_back hBS hAX hc hm hxC hxM⟩, frQ_of hAX hc.1, frPa_of hAX hm.1, ?_, by simp [zs]⟩
  · rw [r3 k hk]
    exact (cl_keep hCb.2.2.2.2.2.1 hBS.2.1 hxC hc.2.1.2.2.2.2.2.1 hk hd).2.1
  · rw [hc.1.1 101 (by decide)]; simp [zs]
theorem ao_flt (hBS : BS σ τ D G H N0) (hAX : AX σ τ σa τa N0 (gn H)) (hs : sx [200, 201] [] (si σa 101 0) σ') (ht : sx [8, 9] [] τa τ') : AO σ τ σ' (si τ' 2 0) D G H N0 := by
  obtain ⟨hCa, hMa⟩ := ax_st hBS hAX
  have sb : sx [101] [] σa (si σa 101 0) := sx_si (sx_rfl _ _ _) (by decide) _
  have hCb : CS (si σa 101 0) G := CS_sx sb (by decide) (by decide) (by decide) (by decide) hCa
  have h3 : KM (gn H) τa τa := ⟨gn H, hMa.1, Nat.le_refl _, hMa.2.2.1, fun k _ => ⟨rfl, rfl, rfl⟩⟩
  refine ao_of (Gc := G) (Hc := H) (dom := fun _ => False) (m := fun z => z) (dom2 := fun _ => False) (m2 := fun z => z) hBS hAX ⟨frT_sy (sy_sx hs) (by decide) (by decide), CS_sx hs (by decide) (by decide) (by decide) (by decide) hCb, tz_self hCb hBS.2.1, Nat.le_refl _, fun k _ => ⟨by rw [hs.2.1 23 (by decide)], by rw [hs.2.1 24 (by decide)]⟩⟩ ⟨sx_mono (by decide) (by decide) ht, MS_sx ht (by decide) (by decide) (by decide) (by decide) (by decide) hMa, KM_cg h3 (ht.1 48 (by decide)) (ht.2.1 26 (by decide)) (ht.2.1 27 (by decide)) (ht.2.1 28 (by decide))⟩ (fun _ _ h => h) (fun _ _ h => h)
theorem kT_cg (h29 : ga σ' 29 = ga σ 29) (h40 : ga σ' 40 = ga σ 40) (h30 : gb σ' 30 = gb σ 30) (v : Int64) : kT σ' D G v = kT σ D G v := by
  unfold kT
  rw [fTy_cg h29 h30, h40]
theorem lkQ_cg {fv : Int64 → IT} (h29 : ga σ' 29 = ga σ 29) (h40 : ga σ' 40 = ga σ 40) (h30 : gb σ' 30 = gb σ 30) : lkQ σ' D G fv = lkQ σ D G fv := by
  funext c
  unfold lkQ
  rw [kT_cg h29 h40 h30]
theorem leL_cg {o : Int32} {i : Nat} {l : List Nat} (h43 : ga σ' 43 = ga σ 43) (h44 : gb σ' 44 = gb σ 44) (h46 : ga σ' 46 = ga σ 46) (h : leL σ o i l) : leL σ' o i l := leL_fr l i (fun j _ _ => by rw [h43, h44, h46]; exact ⟨rfl, rfl, rfl⟩) h
/-- the kinds of what was asked are shown alike -/
theorem qk_of {dom dom2 : Nat → Prop} {m m2 : Nat → Nat} {E : List (TE × TE)} {e : TE} {k k' : Nat} (hR : Rp Gc dom m E) (hR' : Rp Hc dom2 m2 E) (hk : rp Gc dom m k e) (hk' : rp Hc dom2 m2 k' e) : k < gn Gc ∧ k' < gn Hc ∧ ∃ d, dpt d (gT Gc k) ∧ dpt d (gT Hc k') ∧ prT (fun _ => 42) d (gT Gc k) = prT (fun _ => 42) d (gT Hc k') := by
  obtain ⟨θ, θ', key⟩ := Rp_ren hR hR'
  obtain ⟨k1, k2⟩ := key k k' e hk hk'
  obtain ⟨d, hd⟩ := rp_fin hR hk
  have w1 := gT_wfT hR.1 hk.1
  have w2 := gT_wfT hR'.1 hk'.1
  have ha := (alk_ren w1 w2 k1 k2).1
  exact ⟨hk.1, hk'.1, d, hd, alk_dpt ha hd, alk_42 d _ _ ha⟩
theorem ask1_ok (hF : 20000 ≤ F) (hBS : BS σ τ D G H N0) (hT : rTape σ τ) : ∃ b rr σ' τ', Q_takeTypes F σ 1 = some (b, σ') ∧ Md_readAsked F τ 0 = some (rr, τ') ∧ AO σ τ σ' τ' D G H N0 ∧ ((b = 0 ∧ gi σ' 200 ≠ 0 ∧ FT σ' τ') ∨ (b = 1 ∧ AW σ' τ' ∧ QK σ' τ' rr ∧ ∃ N t nn, rr = nI nn ∧ QT σ' τ' D G N0 N (-1) 0 0 t nn ∧ mi σ' 1107 = 1 ∧ mi σ' 1104 = nI (lnT t) ∧ ma σ' 70 0 = 0)) := by
  obtain ⟨n, hn, hl, hl2, hB⟩ := hT
  have hbyt : byt (ga σ 19) n := ⟨hn, fun i hi => by
    obtain ⟨b1, b2, b3⟩ := hB i hi
    exact of_rng (n := 256) (by omega) (fun h => by
      have h1 := Int32.lt_iff_toInt_lt.mp h
      rw [show (0 : Int32).toInt = 0 from rfl] at h1
      omega) (fun h => by
      have h1 := Int32.le_iff_toInt_le.mp h
      rw [ti_nI (by omega)] at h1
      omega)⟩
  obtain ⟨σa, τa, rr, hK, hM, hAX, hres⟩ := ask1 (F := F) (by omega) hbyt hl (fun i hi => (hB i hi).1) hl2 hBS.2.2.2.2.2.2.2.2.1 hBS.2.2.2.2.2.2.2.2.2.1 (bs_88 hBS) (by have := hBS.2.2.2.2.1; omega)
  have eQ : Q_takeTypes F σ 1 = bv (Ch_checkTypes F (si σa 101 0)) (fun σ14 => Q_takeTypes_64 F F σ14 1 0) := hK (fun σ12 => bv (Ch_checkTypes F (si σ12 101 0)) (fun σ14 => Q_takeTypes_64 F F σ14 1 0))
  have sb : sx [101] [] σa (si σa 101 0) := sx_si (sx_rfl _ _ _) (by decide) _
  obtain ⟨F', hF'⟩ : ∃ F', F = F' + 1 := ⟨F - 1, by omega⟩
  have tflt : ∀ s : zS, gi s 200 ≠ 0 → Q_takeTypes_64 F F s 1 0 = some (0, s) := fun s hs => by
    rw [show Q_takeTypes_64 F F s 1 0 = Q_takeTypes_64 F (F' + 1) s 1 0 from by rw [← hF']]
    exact tt_flt hs F' 1 0
  rcases hres with ⟨f, p, hf, f1, f2, f3, f4, _⟩ | ⟨M, s, N, a, t, nn, As, hAC, hAT, hs, ha, hMl, h70, h71, hrr⟩
  · have b200 : gi (si σa 101 0) 200 = f := by rw [sb.1 200 (by decide)]; exact f1
    have fne : f ≠ 0 := by rcases hf with z | z <;> rw [z] <;> decide
    have e1 := names_flt (F := F) (σ := si σa 101 0) (by omega) (by rw [b200]; exact fne)
    refine ⟨0, rr, si σa 101 0, si τa 2 0, ?_, ?_, ao_flt hBS hAX (sx_rfl _ _ _) (sx_rfl _ _ _), Or.inl ⟨rfl, by rw [b200]; exact fne, ?_⟩⟩
    · rw [eQ, Ch_checkTypes, e1.1, bv_some, e1.2, bv_some, bv_some, tflt _ (by rw [b200]; exact fne)]
    · rw [hM]
      exact (ra_flt hF (by rw [f3]; exact fne)).1
    · refine Or.inr (Or.inl ?_)
      have b201 : gi (si σa 101 0) 201 = nI p := by rw [sb.1 201 (by decide)]; exact f2
      have h10 : gi (si τa 2 0) 10 = 0 := by simp [zs]; exact hAX.2.2.2.2.2
      have h9 : gi (si τa 2 0) 9 = nI p := by simp [zs]; exact f4
      have h8 : gi (si τa 2 0) 8 = f := by simp [zs]; exact f3
      rcases hf with z | z
      · exact ⟨1, by omega, by omega, by rw [b200, z]; rfl, by rw [h8, z]; rfl, by rw [b201, h9], h10⟩
      · exact ⟨2, by omega, by omega, by rw [b200, z]; rfl, by rw [h8, z]; rfl, by rw [b201, h9], h10⟩
  · obtain ⟨d1, d2, d3⟩ := ax_dc hBS hAX
    have hAC0 := hAC
    obtain ⟨a1, a2, a3, a4, a5, a6, a7, a8, a9, a10, a11, a12, a13, a14, a15, a16, a17⟩ := hAC
    have hAT0 := hAT
    obtain ⟨t1, t2, t3, t4, t5, t6⟩ := hAT
    have b200 : gi (si σa 101 0) 200 = 0 := by rw [sb.1 200 (by decide)]; exact a1
    have hle : leL (si σa 101 0) (-1) 0 (lvs t) := leL_cg (sb.2.1 43 (by decide)) (sx_gb sb 44) (sb.2.1 46 (by decide)) t5.1
    have hnm : nmR (si σa 101 0) τa D M false := by
      refine ⟨dcN_cg (sb.1 400 (by decide)) rfl (fun a _ => sb.2.1 a (by simp)) (fun a _ => sx_gb sb a) (fun a _ => rfl) (fun a _ => rfl) d1, by rw [sb.1 505 (by decide)]; exact a4, a5, a6, fun i hi => ?_, (fun z => by cases z), fun _ i hi => leL_all _ 0 i hle (Nat.zero_le _) (by omega)⟩
      have := a7 i hi
      unfold meR at this ⊢
      rw [sx_gb sb, sb.2.1 45 (by decide), sb.2.1 43 (by decide), sb.2.1 46 (by decide), sb.2.1 47 (by decide)]
      exact this
    rcases ask_chk (F := F) (rr := rr) hF hnm b200 a2 with ⟨k1, k2, k3, k4⟩ | ⟨f, p, σ1, τ1, hf, e1, e2, k1, k2⟩
    · obtain ⟨b, σ', τ', q1, q2, Gc, Hc, dom, m, dom2, m2, q3, q4, q5, q6, q7⟩ := ask1_sv (F := F) (rr := rr) hF hBS hAX hAC0 hAT0 hs ha hMl h70 h71 k3 hnm
      have hAO := ao_of hBS hAX q3 q4 q5 q6
      refine ⟨b, rr, σ', si τ' 2 0, by rw [eQ, k1, bv_some, q1], by rw [hM, k2, q2], hAO, ?_⟩
      have st : sx [2] [] τ' (si τ' 2 0) := sx_si (sx_rfl _ _ _) (by decide) _
      rcases q7 with ⟨g1, g2, g3, g4, g5, k, k', e, E, g6, g7, g8, g9, g10, g11, fv, κ, g12⟩ | ⟨g1, g2, g3⟩
      · refine Or.inr ⟨g1, ⟨g2, by rw [st.1 8 (by decide)]; exact g3, by rw [st.1 9 (by decide)]; exact g4, by rw [st.1 10 (by decide)]; exact g5⟩, ?_, N, t, nn, hrr, ?_, ?_, ?_, ?_⟩
        · obtain ⟨w1, w2, d, w3, w4, w5⟩ := qk_of g8 g9 g10 g11
          have hb := (nd_bd t nn As t3).2
          exact ⟨Gc, Hc, k, k', nn, d, q3.2.1, MS_sx st (by decide) (by decide) (by decide) (by decide) (by decide) q4.2.1, hrr, by have := hBS.2.2.2.2.2.2.2.2.2.1; omega, g6, by rw [st.2.1 6 (by decide)]; exact g7, w1, w2, w3, w4, w5⟩
        · have fT := q3.1
          have fM := q4.1
          refine ⟨t1, ?_, ⟨As, ?_⟩, by have := hBS.2.2.2.2.2.2.2.2.2.1; omega, by omega, ?_, fun i hi => ?_, fv, κ, ?_⟩
          · refine rwL_fr _ _ (fun j _ _ => ?_) t2
            have w1 : ∀ a, a ≠ lA 15 → a ≠ lA 16 → ma σ' a = ma σa a := fun a z1 z2 => by rw [fT.2.2.2.2.2.2.1 a z1 z2, sx_ma sb]
            rw [w1 _ (by decide) (by decide), w1 _ (by decide) (by decide), w1 _ (by decide) (by decide), fT.2.2.2.2.2.2.2, sx_mb sb]
            exact ⟨rfl, rfl, rfl, rfl⟩
          · refine nd_mono (τ := τa) (Nat.le_refl _) (Nat.le_refl _) (fun i _ _ => ?_) t nn As t3
            rw [st.2.1 2 (by decide), sx_gb st, st.2.1 4 (by decide), st.2.1 5 (by decide), fM.2.1 2 (by decide), sx_gb fM, fM.2.1 4 (by decide), fM.2.1 5 (by decide)]
            exact ⟨rfl, rfl, rfl, rfl⟩
          · exact ⟨leL_cg (fT.2.1 43 (by decide)) (fT.2.2.1 44 (by decide)) (fT.2.1 46 (by decide)) hle, vaL_fr _ _ (fun j _ _ => by rw [fT.2.1 47 (by decide), sb.2.1 47 (by decide)]) t5.2⟩
          · exact tkO_cg (fun a ha => fT.2.1 a (by rcases ha with z | z | z | z <;> subst z <;> decide)) (fun a ha => fT.2.2.1 a (by omega)) (k4 i (by omega))
          · rw [lkQ_cg (fT.2.1 29 (by decide)) (fT.2.1 40 (by decide)) (fT.2.2.1 30 (by decide))]
            exact g12
        · rw [q3.1.2.2.2.2.2.1 1107 (by decide) (by decide), sx_mi sb, a9]; rfl
        · rw [q3.1.2.2.2.2.2.1 1104 (by decide) (by decide), sx_mi sb, a8, hs]
        · rw [q3.1.2.2.2.2.2.2.1 70 (by decide) (by decide), sx_ma sb]; exact h70
      · exact Or.inl ⟨g1, by rw [g2]; decide, Or.inr (Or.inr (six_fr g3 ⟨rfl, rfl⟩ (fun x _ => ⟨rfl, rfl⟩) (fun r hr => st.1 r (by simp; omega)) (fun a _ => st.2.1 a (by simp))))⟩
    · have hs1 : sx [200, 201] [] (si σa 101 0) σ1 := by rw [e1]; exact sx_si (sx_si (sx_rfl _ _ _) (by decide) _) (by decide) _
      have ht1 : sx [8, 9] [] τa τ1 := by rw [e2]; exact sx_si (sx_si (sx_rfl _ _ _) (by decide) _) (by decide) _
      have s200 : gi σ1 200 = f := by rw [e1]; simp [zs]
      have s201 : gi σ1 201 = p := by rw [e1]; simp [zs]
      have u8 : gi (si τ1 2 0) 8 = f := by rw [e2]; simp [zs]
      have u9 : gi (si τ1 2 0) 9 = p := by rw [e2]; simp [zs]
      have u10 : gi (si τ1 2 0) 10 = 0 := by rw [e2]; simp [zs]; exact hAX.2.2.2.2.2
      have fne : f ≠ 0 := by rcases hf with z | z <;> rw [z] <;> decide
      refine ⟨0, rr, σ1, si τ1 2 0, by rw [eQ, k1, bv_some, tflt _ (by rw [s200]; exact fne)], by rw [hM, k2], ao_flt hBS hAX hs1 ht1, Or.inl ⟨rfl, by rw [s200]; exact fne, Or.inr (Or.inl ?_)⟩⟩
      rcases hf with z | z
      · exact ⟨3, by omega, by omega, by rw [s200, z]; rfl, by rw [u8, z]; rfl, by rw [s201, u9], u10⟩
      · exact ⟨5, by omega, by omega, by rw [s200, z]; rfl, by rw [u8, z]; rfl, by rw [s201, u9], u10⟩
end K
