/-! A question of one type is solved. Own text. -/
section K
variable {F : Nat} {σ τ σ' τ' : zS} {D N0 : Nat} {G H : SG}
/-- both stop at the same equation -/
theorem six_of {σ1 τ1 : zS} {G1 : SG} {E E' Ea Eb Ea' Eb' : List EQ} {e e' : EQ} {dom1 : Nat → Prop} {m1 : Nat → Nat} {x y : Nat} (hnt : nt E = nt E') (hE : E = Ea ++ e :: Eb) (a2 : Rp G1 dom1 m1 (eqP Ea)) (a3 : rp G1 dom1 m1 x e.1) (a4 : rp G1 dom1 m1 y e.2.1) (a5 : unso G1 x y) (h200 : gi σ1 200 = 6) (h201 : gi σ1 201 = nI e.2.2) (hsh : ∀ d, dpt d (gT G1 x) → dpt d (gT G1 y) → lnR σ1 15 (prT (ltV (V2 d (gT G1 x) (gT G1 y))) d (gT G1 x)) ∧ lnR σ1 16 (prT (ltV (V2 d (gT G1 x) (gT G1 y))) d (gT G1 y))) (hE' : E' = Ea' ++ e' :: Eb') (b4 : rvF τ1 Ea' e') : six σ1 τ1 := by
  have hf : fail E Ea e := ⟨⟨Eb, hE⟩, fso_Rp a2, nfso_Rp a2 a3 a4 a5⟩
  obtain ⟨ee, en⟩ := fail_same hnt hf (rvF_fail hE' b4)
  subst ee
  obtain ⟨H1, dom2, m2, x', y', q1, q2, q3, q4, q5, q6, q7, q8, q9, q10, q11⟩ := b4
  have hRM : Rp H1 dom2 m2 (eqP Ea) := nt_Rp en.symm q2
  obtain ⟨θ, θ', key⟩ := Rp_ren a2 hRM
  obtain ⟨k1, k2⟩ := key x x' _ a3 q3
  obtain ⟨k3, k4⟩ := key y y' _ a4 q4
  obtain ⟨dx, hdx⟩ := rp_fin a2 a3
  obtain ⟨dy, hdy⟩ := rp_fin a2 a4
  have hdx' : dpt (dx + dy) (gT G1 x) := dpt_mono (by omega) hdx
  have hdy' : dpt (dx + dy) (gT G1 y) := dpt_mono (by omega) hdy
  have wx := gT_wfT a2.1 a3.1
  have wy := gT_wfT a2.1 a4.1
  have wx' := gT_wfT hRM.1 q3.1
  have wy' := gT_wfT hRM.1 q4.1
  obtain ⟨p1, p2⟩ := sides_eq wx wy wx' wy' k1 k2 k3 k4 hdx' hdy'
  obtain ⟨s1, s2⟩ := hsh (dx + dy) hdx' hdy'
  refine ⟨e.2.2, H1, x', y', dx + dy, h200, h201, q6, q7, q8, q1, q3.1, q4.1, q9, q10, ?_, ?_, ?_, ?_, fun w hw => (q11.2 w hw (fun z => w (m2 z)) (fun z _ => rfl))⟩
  · exact alk_dpt (alk_ren wx wx' k1 k2).1 hdx'
  · exact alk_dpt (alk_ren wy wy' k3 k4).1 hdy'
  · rw [← p1]; exact s1
  · rw [← p2]; exact s2
end K
