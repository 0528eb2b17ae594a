/-! Lists of equations: which is the first that no finite tree keeps. Own text. -/
abbrev EQ : Type := TE × TE × Nat
def eqP (E : List EQ) : List (TE × TE) := E.map (fun e => (e.1, e.2.1))
/-- finite trees keep them -/
def fso (E : List EQ) : Prop := ∃ (α : Nat → IT) (d : Nat), (∀ x, dpt d (α x)) ∧ Eqs (eqP E) α
theorem ev_dpt {α : Nat → IT} {d : Nat} (h : ∀ x, dpt d (α x)) : ∀ e : TE, ∃ d', dpt d' (ev α e)
  | .var 0 => ⟨0, dpt_S 0⟩
  | .var (n + 1) => ⟨d, h n⟩
  | .op a b => by
    obtain ⟨d1, h1⟩ := ev_dpt h a
    obtain ⟨d2, h2⟩ := ev_dpt h b
    exact ⟨(d1 + d2) + 1, dpt_A (dpt_mono (by omega) h1) (dpt_mono (by omega) h2)⟩
theorem eqP_app (E1 E2 : List EQ) : eqP (E1 ++ E2) = eqP E1 ++ eqP E2 := by simp [eqP]
theorem eqP_1 (e : EQ) : eqP [e] = [(e.1, e.2.1)] := rfl
section R
variable {G : SG} {dom : Nat → Prop} {m : Nat → Nat} {E : List EQ}
theorem fso_Rp (h : Rp G dom m (eqP E)) : fso E := by
  obtain ⟨h1, ⟨d, h2⟩, h3, h4, h5⟩ := h
  refine ⟨fun z => @ite IT (dom z) (Classical.propDecidable _) (gT G (m z)) iS, d, fun z => ?_, h5 _ (gT_sol h1) _ (fun z hz => if_pos hz)⟩
  show dpt d (@ite IT (dom z) (Classical.propDecidable _) (gT G (m z)) iS)
  by_cases hz : dom z
  · rw [if_pos hz]; exact h2 z hz
  · rw [if_neg hz]; exact dpt_S d
theorem nfso_Rp {x y : Nat} {e : EQ} (h : Rp G dom m (eqP E)) (hx : rp G dom m x e.1) (hy : rp G dom m y e.2.1) (hu : unso G x y) : ¬ fso (E ++ [e]) := by
  rintro ⟨α, d, ha, he⟩
  rw [eqP_app] at he
  obtain ⟨w, w1, w2⟩ := h.2.2.2.1 α (fun z hz => he z (List.mem_append_left _ hz))
  have k1 := hx.2 w w1 α (fun z hz => (w2 z hz).symm)
  have k2 := hy.2 w w1 α (fun z hz => (w2 z hz).symm)
  have k3 := he (e.1, e.2.1) (List.mem_append_right _ (by rw [eqP_1]; exact List.mem_singleton.mpr rfl))
  obtain ⟨d', hd⟩ := ev_dpt ha e.1
  exact hu w w1 (by rw [k1, k2]; exact k3) d' (by rw [k1]; exact hd)
theorem fso_pre {E1 E2 : List EQ} (h : fso (E1 ++ E2)) : fso E1 := by
  obtain ⟨α, d, h1, h2⟩ := h
  rw [eqP_app] at h2
  exact ⟨α, d, h1, fun z hz => h2 z (List.mem_append_left _ hz)⟩
end R
def isV0 : TE → Bool
  | .var 0 => true
  | _ => false
theorem isV0_t : ∀ {t : TE}, isV0 t = true → t = .var 0
  | .var 0, _ => rfl
/-- star = star says nothing -/
def nt (E : List EQ) : List EQ := E.filter (fun e => !(isV0 e.1 && isV0 e.2.1))
theorem nt_app (E1 E2 : List EQ) : nt (E1 ++ E2) = nt E1 ++ nt E2 := by simp [nt]
theorem nt_eqs (E : List EQ) (α : Nat → IT) : Eqs (eqP (nt E)) α ↔ Eqs (eqP E) α := by
  constructor
  · intro h z hz
    obtain ⟨e, he, rfl⟩ := List.mem_map.mp hz
    by_cases c : (isV0 e.1 && isV0 e.2.1) = true
    · obtain ⟨c1, c2⟩ := Bool.and_eq_true_iff.mp c
      show ev α e.1 = ev α e.2.1
      rw [isV0_t c1, isV0_t c2]
    · exact h _ (List.mem_map.mpr ⟨e, List.mem_filter.mpr ⟨he, by rw [Bool.not_eq_true] at c; rw [c]; rfl⟩, rfl⟩)
  · intro h z hz
    obtain ⟨e, he, rfl⟩ := List.mem_map.mp hz
    exact h _ (List.mem_map.mpr ⟨e, (List.mem_filter.mp he).1, rfl⟩)
theorem nt_fso (E : List EQ) : fso (nt E) ↔ fso E :=
  ⟨fun ⟨α, d, h1, h2⟩ => ⟨α, d, h1, (nt_eqs E α).mp h2⟩, fun ⟨α, d, h1, h2⟩ => ⟨α, d, h1, (nt_eqs E α).mpr h2⟩⟩
theorem nt_Rp {G : SG} {dom : Nat → Prop} {m : Nat → Nat} {E E' : List EQ} (hn : nt E = nt E') (h : Rp G dom m (eqP E)) : Rp G dom m (eqP E') := by
  obtain ⟨h1, h2, h3, h4, h5⟩ := h
  have k : ∀ α, Eqs (eqP E) α ↔ Eqs (eqP E') α := fun α => by rw [← nt_eqs E, ← nt_eqs E', hn]
  exact ⟨h1, h2, h3, fun α ha => h4 α ((k α).mpr ha), fun w hw α ha => (k α).mp (h5 w hw α ha)⟩
/-- the first that cannot be kept -/
def fail (E E1 : List EQ) (e : EQ) : Prop := (∃ E2, E = E1 ++ e :: E2) ∧ fso E1 ∧ ¬ fso (E1 ++ [e])
theorem fail_nt {E E1 : List EQ} {e : EQ} (h : fail E E1 e) : fail (nt E) (nt E1) e := by
  obtain ⟨⟨E2, rfl⟩, h2, h3⟩ := h
  have hc : (isV0 e.1 && isV0 e.2.1) = false := by
    cases hb : (isV0 e.1 && isV0 e.2.1) with
    | false => rfl
    | true =>
      refine absurd ((nt_fso _).mp ?_) h3
      rw [nt_app, show nt [e] = [] by simp only [nt, List.filter_cons, hb]; rfl, List.append_nil]
      exact (nt_fso _).mpr h2
  have he : nt [e] = [e] := by simp only [nt, List.filter_cons, hc]; rfl
  refine ⟨⟨nt E2, by rw [nt_app, show nt (e :: E2) = nt [e] ++ nt E2 from nt_app [e] E2, he]; rfl⟩, (nt_fso _).mpr h2, fun h => h3 ((nt_fso _).mp ?_)⟩
  rw [nt_app, he]; exact h
theorem fail_u {E E1 E1' : List EQ} {e e' : EQ} (h : fail E E1 e) (g : fail E E1' e') : E1 = E1' ∧ e = e' := by
  obtain ⟨⟨E2, rfl⟩, h2, h3⟩ := h
  obtain ⟨⟨E2', g1⟩, g2, g3⟩ := g
  have key : ∀ (A B A' B' : List EQ) (a a' : EQ), A ++ a :: B = A' ++ a' :: B' → A.length < A'.length → ∃ C, A' = (A ++ [a]) ++ C := by
    intro A
    induction A with
    | nil =>
      intro B A' B' a a' e hl
      cases A' with
      | nil => simp at hl
      | cons c A' => simp only [List.nil_append, List.cons_append, List.cons.injEq] at e; exact ⟨A', by rw [e.1]; rfl⟩
    | cons x A ih =>
      intro B A' B' a a' e hl
      cases A' with
      | nil => simp at hl
      | cons c A' =>
        simp only [List.cons_append, List.cons.injEq] at e
        obtain ⟨C, hC⟩ := ih B A' B' a a' e.2 (by simpa using hl)
        exact ⟨C, by rw [hC, e.1]; rfl⟩
  rcases Nat.lt_trichotomy E1.length E1'.length with z | z | z
  · obtain ⟨C, hC⟩ := key _ _ _ _ _ _ g1 z
    rw [hC] at g2
    exact absurd (fso_pre g2) h3
  · obtain ⟨k1, k2⟩ := List.append_inj g1 z
    exact ⟨k1, (List.cons.inj k2).1⟩
  · obtain ⟨C, hC⟩ := key _ _ _ _ _ _ g1.symm z
    rw [hC] at h2
    exact absurd (fso_pre h2) g3
theorem fail_not {E E1 : List EQ} {e : EQ} (h : fail E E1 e) : ¬ fso E := by
  obtain ⟨⟨E2, rfl⟩, h2, h3⟩ := h
  intro g
  exact h3 (fso_pre (E2 := E2) (by simpa using g))
theorem fail_same {E E' E1 E1' : List EQ} {e e' : EQ} (hn : nt E = nt E') (h : fail E E1 e) (g : fail E' E1' e') : e = e' ∧ nt E1 = nt E1' := by
  have h1 := fail_nt h
  have g1 := fail_nt g
  rw [hn] at h1
  obtain ⟨k1, k2⟩ := fail_u h1 g1
  exact ⟨k2, k1⟩
theorem fail_fso {E E' E1 : List EQ} {e : EQ} (hn : nt E = nt E') (h : fail E E1 e) : ¬ fso E' := by
  intro g
  exact fail_not h ((nt_fso E).mp (by rw [hn]; exact (nt_fso E').mpr g))
