/-! read(): from what holds between two calls to what holds there again. Own text. -/
section R
variable {F : Nat} {σ τ σ' τ' : zS} {D N0 : Nat} {G H : SG}
theorem BS_25 (h : BS σ τ D G H N0) : ga σ 25 0 = -1 := by
  obtain ⟨_, a2, _, a4, _, _, a7⟩ := h.1
  have := (a7 0 (by omega)).1 a4
  exact this
theorem r_read (hF : 200000 ≤ F) (h : RL σ τ) : ∃ r σ' τ', Q_read F σ = some (r, σ') ∧ Md_read F τ = some (r, τ') ∧ RL σ' τ' := by
  obtain ⟨⟨n, hn, hl, hl2, hB⟩, hSL, _, h85, hRW, D0, N00, G0, H0, _, hBS, _⟩ := h
  have hbyt : byt (ga σ 19) n := ⟨hn, fun i hi => by
    obtain ⟨b1, b2, b3⟩ := hB i hi
    exact of_rng (n := 256) (by omega) (fun h => by
      have h1 := Int32.lt_iff_toInt_lt.mp h
      rw [show (0 : Int32).toInt = 0 from rfl] at h1
      omega) (fun h => by
      have h1 := Int32.le_iff_toInt_le.mp h
      rw [ti_nI (by omega)] at h1
      omega)⟩
  obtain ⟨r, σ', τ', e1, e2, kC, kM, e3, e4, hr⟩ := read_ok (F := F) (by omega) hbyt hl (fun i hi => (hB i hi).1) hl2 (BS_25 hBS)
  have hT' : rTape σ' τ' := ⟨0, by omega, e3, e4, fun i hi => absurd hi (by omega)⟩
  have hSL' : SL σ' τ' := SL_fr hSL (fun a ha => by rcases ha with z | z <;> rw [z]; exact kC.1; exact kC.2.1) (fun j hj => by rcases hj with z | z <;> rw [z]; exact (kC.2.2.1 17 (by simp)).1; exact (kC.2.2.1 18 (by simp)).1) (fun a ha => by rcases ha with z | z <;> rw [z]; exact (kC.2.2.1 17 (by simp)).2; exact (kC.2.2.1 18 (by simp)).2) kM.2.1 kM.1
  have h85' : gi τ' 85 = 0 := by rw [kM.2.2.2]; exact h85
  have hRW' : RWs σ' := RWs_fr hRW (fun a ha => kC.2.2.2.2 a ha)
  refine ⟨r, σ', τ', e1, e2, hT', hSL', ?_⟩
  rcases hr with ⟨f, f1, f2, f3, f4, f5, f6, f7, f8, f9, f10, f11, f12, f13, ⟨G, g1, g2, g3⟩, ⟨H, N, m1, m2, m3, m4, m5, m6, m7, m8⟩⟩ | ⟨G, H, Nn, D, M, N, TL, K, r1, r2, r3, r4, r5, r6, r7, r8, r9, r10, r11, r12, r13, r14, r15, r16, r17, r18, r19, r20, r21, r22, r23, ⟨Gc, r24, r24'⟩, r25, r26, r27, r28, ⟨r29, r30, r31⟩, r32, r33⟩
  · -- a fault: nothing is declared
    refine ⟨?_, h85', hRW', 0, N, G, H, ⟨⟨f7, f10, by omega, fun i hi => absurd hi (by omega)⟩, ⟨f7, by omega, fun i hi => absurd hi (by omega)⟩, ⟨f10, by omega, fun i hi => absurd hi (by omega)⟩, fun i hi => absurd hi (by omega), ⟨0, by omega, f8, f11⟩, fun i j hi => absurd hi (by omega)⟩, ⟨g1, g2, g3, ?_, m2, m3, fun z => absurd z (by omega), fun y hy => absurd hy (by omega), m6, m7, m8, rfl, ⟨f7, f10, by omega, fun i hi => absurd hi (by omega)⟩, ⟨f7, by omega, fun i hi => absurd hi (by omega)⟩⟩, fun z => absurd z (by omega), fun y hy => absurd hy (by omega)⟩
    · by_cases c : f = 6
      · exact Or.inr (Or.inr (f13 c))
      · exact Or.inr (Or.inl ⟨f, f1, by omega, f4, f5, f6, f12 c⟩)
    · refine MS_cg ?_ (fun k hk => ?_) m1
      · rw [m1.1]; simp [zs]; exact m4
      · simp only [zs]
        exact ⟨rfl, rfl, rfl, by rw [if_pos trivial]; exact m5 k hk⟩
  · have hS : SYQ σ' τ' D G N := syn_of r2 r3 r29 r30 r31
    obtain ⟨⟨a1, a2, a3⟩, ⟨b1, b2⟩, ⟨c1, c2⟩, d1, e1', f1, ⟨g1, g2, g3, g4, g5, g6, g7⟩, i1, ⟨j1, j2⟩, k1⟩ := r2
    have hD := a1.2.2.1
    refine ⟨Or.inl ⟨r14, r15, r16, r17⟩, h85', hRW', D, N, G, H, ⟨a1, a2, a3, fun i hi => ⟨?_, (r33 i hi).1, (r32 i hi).2.2⟩, ⟨K, by omega, r10, r9⟩, fun i j hi hj => ⟨Nn i j, r12 i hi j (by omega), r13 i j (by omega) (by omega)⟩⟩, ⟨r18, r19, r20, ?_, r22, fun w hw => by rw [sol_noO r21.2.2.2.1 r23 hw r25.1, r25.2], fun _ => r23, r32, r28, by omega, k1, j1, a1, a2⟩, fun _ => ⟨Gc, H, r24, r21, r24'⟩, hS⟩
    · rw [r8 i hi]
      cases hg : gS Nn D K i with
      | some x => exact r11 i hi x hg
      | none =>
        obtain ⟨i', z⟩ := ld_ex (N := Nn) (fun i k j w1 w2 => by rw [r5] at w1 w2 ⊢; exact cw_tr (nbA_out M) w1 w2) hi hg
        rw [r7] at z; cases z
    · refine MS_cg ?_ (fun k hk => ?_) r21
      · rw [r21.1]; simp [zs]; exact r26
      · simp only [zs]
        exact ⟨rfl, rfl, rfl, by rw [if_pos trivial]; exact r27 k hk⟩
end R
