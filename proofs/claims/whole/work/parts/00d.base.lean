/-! Reading and writing of states; small rows on loops and numbers. Own text. -/
theorem zs : (∀ (σ : zS) (k : Nat) (v : Int32) (j : Nat), gi (si σ k v) j = if j = k then v else gi σ j) ∧
  (∀ (σ : zS) (k : Nat) (f : Nat → Int32) (j : Nat), gi (sA σ k f) j = gi σ j) ∧
  (∀ (σ : zS) (k : Nat) (i : Nat) (v : Int32) (j : Nat), gi (sa σ k i v) j = gi σ j) ∧
  (∀ (σ : zS) (k : Nat) (v : Int64) (j : Nat), gi (sl σ k v) j = gi σ j) ∧
  (∀ (σ : zS) (k : Nat) (f : Nat → Int64) (j : Nat), gi (sB σ k f) j = gi σ j) ∧
  (∀ (σ : zS) (k : Nat) (i : Nat) (v : Int64) (j : Nat), gi (sb σ k i v) j = gi σ j) ∧
  (∀ (σ : zS) (k : Nat) (v : Nat) (j : Nat), gi (sr σ k v) j = gi σ j) ∧
  (∀ (σ : zS) (k : Nat) (v : Int32) (j : Nat), gi (ti σ k v) j = gi σ j) ∧
  (∀ (σ : zS) (k : Nat) (f : Nat → Int32) (j : Nat), gi (tA σ k f) j = gi σ j) ∧
  (∀ (σ : zS) (k : Nat) (i : Nat) (v : Int32) (j : Nat), gi (ta σ k i v) j = gi σ j) ∧
  (∀ (σ : zS) (k : Nat) (f : Nat → Int64) (j : Nat), gi (tB σ k f) j = gi σ j) ∧
  (∀ (σ : zS) (k : Nat) (i : Nat) (v : Int64) (j : Nat), gi (tb σ k i v) j = gi σ j) ∧
  (∀ (σ : zS) (k : Nat) (v : Int32) (j : Nat), ga (si σ k v) j = ga σ j) ∧
  (∀ (σ : zS) (k : Nat) (f : Nat → Int32) (j : Nat), ga (sA σ k f) j = if j = k then f else ga σ j) ∧
  (∀ (σ : zS) (k : Nat) (i : Nat) (v : Int32) (j : Nat), ga (sa σ k i v) j = if j = k then upd (ga σ k) i v else ga σ j) ∧
  (∀ (σ : zS) (k : Nat) (v : Int64) (j : Nat), ga (sl σ k v) j = ga σ j) ∧
  (∀ (σ : zS) (k : Nat) (f : Nat → Int64) (j : Nat), ga (sB σ k f) j = ga σ j) ∧
  (∀ (σ : zS) (k : Nat) (i : Nat) (v : Int64) (j : Nat), ga (sb σ k i v) j = ga σ j) ∧
  (∀ (σ : zS) (k : Nat) (v : Nat) (j : Nat), ga (sr σ k v) j = ga σ j) ∧
  (∀ (σ : zS) (k : Nat) (v : Int32) (j : Nat), ga (ti σ k v) j = ga σ j) ∧
  (∀ (σ : zS) (k : Nat) (f : Nat → Int32) (j : Nat), ga (tA σ k f) j = ga σ j) ∧
  (∀ (σ : zS) (k : Nat) (i : Nat) (v : Int32) (j : Nat), ga (ta σ k i v) j = ga σ j) ∧
  (∀ (σ : zS) (k : Nat) (f : Nat → Int64) (j : Nat), ga (tB σ k f) j = ga σ j) ∧
  (∀ (σ : zS) (k : Nat) (i : Nat) (v : Int64) (j : Nat), ga (tb σ k i v) j = ga σ j) ∧
  (∀ (σ : zS) (k : Nat) (v : Int32) (j : Nat), gl (si σ k v) j = gl σ j) ∧
  (∀ (σ : zS) (k : Nat) (f : Nat → Int32) (j : Nat), gl (sA σ k f) j = gl σ j) ∧
  (∀ (σ : zS) (k : Nat) (i : Nat) (v : Int32) (j : Nat), gl (sa σ k i v) j = gl σ j) ∧
  (∀ (σ : zS) (k : Nat) (v : Int64) (j : Nat), gl (sl σ k v) j = if j = k then v else gl σ j) ∧
  (∀ (σ : zS) (k : Nat) (f : Nat → Int64) (j : Nat), gl (sB σ k f) j = gl σ j) ∧
  (∀ (σ : zS) (k : Nat) (i : Nat) (v : Int64) (j : Nat), gl (sb σ k i v) j = gl σ j) ∧
  (∀ (σ : zS) (k : Nat) (v : Nat) (j : Nat), gl (sr σ k v) j = gl σ j) ∧
  (∀ (σ : zS) (k : Nat) (v : Int32) (j : Nat), gl (ti σ k v) j = gl σ j) ∧
  (∀ (σ : zS) (k : Nat) (f : Nat → Int32) (j : Nat), gl (tA σ k f) j = gl σ j) ∧
  (∀ (σ : zS) (k : Nat) (i : Nat) (v : Int32) (j : Nat), gl (ta σ k i v) j = gl σ j) ∧
  (∀ (σ : zS) (k : Nat) (f : Nat → Int64) (j : Nat), gl (tB σ k f) j = gl σ j) ∧
  (∀ (σ : zS) (k : Nat) (i : Nat) (v : Int64) (j : Nat), gl (tb σ k i v) j = gl σ j) ∧
  (∀ (σ : zS) (k : Nat) (v : Int32) (j : Nat), gb (si σ k v) j = gb σ j) ∧
  (∀ (σ : zS) (k : Nat) (f : Nat → Int32) (j : Nat), gb (sA σ k f) j = gb σ j) ∧
  (∀ (σ : zS) (k : Nat) (i : Nat) (v : Int32) (j : Nat), gb (sa σ k i v) j = gb σ j) ∧
  (∀ (σ : zS) (k : Nat) (v : Int64) (j : Nat), gb (sl σ k v) j = gb σ j) ∧
  (∀ (σ : zS) (k : Nat) (f : Nat → Int64) (j : Nat), gb (sB σ k f) j = if j = k then f else gb σ j) ∧
  (∀ (σ : zS) (k : Nat) (i : Nat) (v : Int64) (j : Nat), gb (sb σ k i v) j = if j = k then vp_updL (gb σ k) i v else gb σ j) ∧
  (∀ (σ : zS) (k : Nat) (v : Nat) (j : Nat), gb (sr σ k v) j = gb σ j) ∧
  (∀ (σ : zS) (k : Nat) (v : Int32) (j : Nat), gb (ti σ k v) j = gb σ j) ∧
  (∀ (σ : zS) (k : Nat) (f : Nat → Int32) (j : Nat), gb (tA σ k f) j = gb σ j) ∧
  (∀ (σ : zS) (k : Nat) (i : Nat) (v : Int32) (j : Nat), gb (ta σ k i v) j = gb σ j) ∧
  (∀ (σ : zS) (k : Nat) (f : Nat → Int64) (j : Nat), gb (tB σ k f) j = gb σ j) ∧
  (∀ (σ : zS) (k : Nat) (i : Nat) (v : Int64) (j : Nat), gb (tb σ k i v) j = gb σ j) ∧
  (∀ (σ : zS) (k : Nat) (v : Int32) (j : Nat), gr (si σ k v) j = gr σ j) ∧
  (∀ (σ : zS) (k : Nat) (f : Nat → Int32) (j : Nat), gr (sA σ k f) j = gr σ j) ∧
  (∀ (σ : zS) (k : Nat) (i : Nat) (v : Int32) (j : Nat), gr (sa σ k i v) j = gr σ j) ∧
  (∀ (σ : zS) (k : Nat) (v : Int64) (j : Nat), gr (sl σ k v) j = gr σ j) ∧
  (∀ (σ : zS) (k : Nat) (f : Nat → Int64) (j : Nat), gr (sB σ k f) j = gr σ j) ∧
  (∀ (σ : zS) (k : Nat) (i : Nat) (v : Int64) (j : Nat), gr (sb σ k i v) j = gr σ j) ∧
  (∀ (σ : zS) (k : Nat) (v : Nat) (j : Nat), gr (sr σ k v) j = if j = k then v else gr σ j) ∧
  (∀ (σ : zS) (k : Nat) (v : Int32) (j : Nat), gr (ti σ k v) j = gr σ j) ∧
  (∀ (σ : zS) (k : Nat) (f : Nat → Int32) (j : Nat), gr (tA σ k f) j = gr σ j) ∧
  (∀ (σ : zS) (k : Nat) (i : Nat) (v : Int32) (j : Nat), gr (ta σ k i v) j = gr σ j) ∧
  (∀ (σ : zS) (k : Nat) (f : Nat → Int64) (j : Nat), gr (tB σ k f) j = gr σ j) ∧
  (∀ (σ : zS) (k : Nat) (i : Nat) (v : Int64) (j : Nat), gr (tb σ k i v) j = gr σ j) ∧
  (∀ (σ : zS) (k : Nat) (v : Int32) (j : Nat), mi (si σ k v) j = mi σ j) ∧
  (∀ (σ : zS) (k : Nat) (f : Nat → Int32) (j : Nat), mi (sA σ k f) j = mi σ j) ∧
  (∀ (σ : zS) (k : Nat) (i : Nat) (v : Int32) (j : Nat), mi (sa σ k i v) j = mi σ j) ∧
  (∀ (σ : zS) (k : Nat) (v : Int64) (j : Nat), mi (sl σ k v) j = mi σ j) ∧
  (∀ (σ : zS) (k : Nat) (f : Nat → Int64) (j : Nat), mi (sB σ k f) j = mi σ j) ∧
  (∀ (σ : zS) (k : Nat) (i : Nat) (v : Int64) (j : Nat), mi (sb σ k i v) j = mi σ j) ∧
  (∀ (σ : zS) (k : Nat) (v : Nat) (j : Nat), mi (sr σ k v) j = mi σ j) ∧
  (∀ (σ : zS) (k : Nat) (v : Int32) (j : Nat), mi (ti σ k v) j = if j = k then v else mi σ j) ∧
  (∀ (σ : zS) (k : Nat) (f : Nat → Int32) (j : Nat), mi (tA σ k f) j = mi σ j) ∧
  (∀ (σ : zS) (k : Nat) (i : Nat) (v : Int32) (j : Nat), mi (ta σ k i v) j = mi σ j) ∧
  (∀ (σ : zS) (k : Nat) (f : Nat → Int64) (j : Nat), mi (tB σ k f) j = mi σ j) ∧
  (∀ (σ : zS) (k : Nat) (i : Nat) (v : Int64) (j : Nat), mi (tb σ k i v) j = mi σ j) ∧
  (∀ (σ : zS) (k : Nat) (v : Int32) (j : Nat), ma (si σ k v) j = ma σ j) ∧
  (∀ (σ : zS) (k : Nat) (f : Nat → Int32) (j : Nat), ma (sA σ k f) j = ma σ j) ∧
  (∀ (σ : zS) (k : Nat) (i : Nat) (v : Int32) (j : Nat), ma (sa σ k i v) j = ma σ j) ∧
  (∀ (σ : zS) (k : Nat) (v : Int64) (j : Nat), ma (sl σ k v) j = ma σ j) ∧
  (∀ (σ : zS) (k : Nat) (f : Nat → Int64) (j : Nat), ma (sB σ k f) j = ma σ j) ∧
  (∀ (σ : zS) (k : Nat) (i : Nat) (v : Int64) (j : Nat), ma (sb σ k i v) j = ma σ j) ∧
  (∀ (σ : zS) (k : Nat) (v : Nat) (j : Nat), ma (sr σ k v) j = ma σ j) ∧
  (∀ (σ : zS) (k : Nat) (v : Int32) (j : Nat), ma (ti σ k v) j = ma σ j) ∧
  (∀ (σ : zS) (k : Nat) (f : Nat → Int32) (j : Nat), ma (tA σ k f) j = if j = k then f else ma σ j) ∧
  (∀ (σ : zS) (k : Nat) (i : Nat) (v : Int32) (j : Nat), ma (ta σ k i v) j = if j = k then upd (ma σ k) i v else ma σ j) ∧
  (∀ (σ : zS) (k : Nat) (f : Nat → Int64) (j : Nat), ma (tB σ k f) j = ma σ j) ∧
  (∀ (σ : zS) (k : Nat) (i : Nat) (v : Int64) (j : Nat), ma (tb σ k i v) j = ma σ j) ∧
  (∀ (σ : zS) (k : Nat) (v : Int32) (j : Nat), mb (si σ k v) j = mb σ j) ∧
  (∀ (σ : zS) (k : Nat) (f : Nat → Int32) (j : Nat), mb (sA σ k f) j = mb σ j) ∧
  (∀ (σ : zS) (k : Nat) (i : Nat) (v : Int32) (j : Nat), mb (sa σ k i v) j = mb σ j) ∧
  (∀ (σ : zS) (k : Nat) (v : Int64) (j : Nat), mb (sl σ k v) j = mb σ j) ∧
  (∀ (σ : zS) (k : Nat) (f : Nat → Int64) (j : Nat), mb (sB σ k f) j = mb σ j) ∧
  (∀ (σ : zS) (k : Nat) (i : Nat) (v : Int64) (j : Nat), mb (sb σ k i v) j = mb σ j) ∧
  (∀ (σ : zS) (k : Nat) (v : Nat) (j : Nat), mb (sr σ k v) j = mb σ j) ∧
  (∀ (σ : zS) (k : Nat) (v : Int32) (j : Nat), mb (ti σ k v) j = mb σ j) ∧
  (∀ (σ : zS) (k : Nat) (f : Nat → Int32) (j : Nat), mb (tA σ k f) j = mb σ j) ∧
  (∀ (σ : zS) (k : Nat) (i : Nat) (v : Int32) (j : Nat), mb (ta σ k i v) j = mb σ j) ∧
  (∀ (σ : zS) (k : Nat) (f : Nat → Int64) (j : Nat), mb (tB σ k f) j = if j = k then f else mb σ j) ∧
  (∀ (σ : zS) (k : Nat) (i : Nat) (v : Int64) (j : Nat), mb (tb σ k i v) j = if j = k then vp_updL (mb σ k) i v else mb σ j) :=
  ⟨by intros; rfl, by intros; rfl, by intros; rfl, by intros; rfl, by intros; rfl, by intros; rfl, by intros; rfl, by intros; rfl, by intros; rfl, by intros; rfl, by intros; rfl, by intros; rfl, by intros; rfl, by intros; rfl, by intros; rfl, by intros; rfl, by intros; rfl, by intros; rfl, by intros; rfl, by intros; rfl, by intros; rfl, by intros; rfl, by intros; rfl, by intros; rfl, by intros; rfl, by intros; rfl, by intros; rfl, by intros; rfl, by intros; rfl, by intros; rfl, by intros; rfl, by intros; rfl, by intros; rfl, by intros; rfl, by intros; rfl, by intros; rfl, by intros; rfl, by intros; rfl, by intros; rfl, by intros; rfl, by intros; rfl, by intros; rfl, by intros; rfl, by intros; rfl, by intros; rfl, by intros; rfl, by intros; rfl, by intros; rfl, by intros; rfl, by intros; rfl, by intros; rfl, by intros; rfl, by intros; rfl, by intros; rfl, by intros; rfl, by intros; rfl, by intros; rfl, by intros; rfl, by intros; rfl, by intros; rfl, by intros; rfl, by intros; rfl, by intros; rfl, by intros; rfl, by intros; rfl, by intros; rfl, by intros; rfl, by intros; rfl, by intros; rfl, by intros; rfl, by intros; rfl, by intros; rfl, by intros; rfl, by intros; rfl, by intros; rfl, by intros; rfl, by intros; rfl, by intros; rfl, by intros; rfl, by intros; rfl, by intros; rfl, by intros; rfl, by intros; rfl, by intros; rfl, by intros; rfl, by intros; rfl, by intros; rfl, by intros; rfl, by intros; rfl, by intros; rfl, by intros; rfl, by intros; rfl, by intros; rfl, by intros; rfl, by intros; rfl, by intros; rfl⟩
theorem up_at (f : Nat → Int32) (k : Nat) (x : Int32) (j : Nat) : upd f k x j = if j = k then x else f j := rfl
theorem upL_at (f : Nat → Int64) (k : Nat) (x : Int64) (j : Nat) : vp_updL f k x j = if j = k then x else f j := rfl
theorem gd_true {β : Type} (o : Option β) : gd true o = o := rfl
theorem bi_some {α β : Type} (r : α) (σ : zS) (k : α → zS → Option β) : bi (some (r, σ)) k = k r σ := rfl
theorem bv_some {β : Type} (σ : zS) (k : zS → Option β) : bv (some σ) k = k σ := rfl
theorem inb_nI {n N : Nat} (h : n < N) (hN : N < 2 ^ 31) : inb (nI n) N = true := by
  have h1 : ¬ nI n < 0 := nI_pos (by omega)
  have h2 : ¬ N ≤ (nI n).toNatClampNeg := by rw [nI_clamp (by omega)]; omega
  simp [inb, h1, h2]
theorem isB_0 : isB 0 = true := by decide
theorem isB_1 : isB 1 = true := by decide
theorem ti_nI {n : Nat} (h : n < 2 ^ 31) : (nI n).toInt = n := nI_toInt h
/-- a number that is not below 0 and below a small one -/
theorem of_rng {x : Int32} {n : Nat} (hn : n < 2 ^ 31) (h0 : ¬ x < 0) (h1 : ¬ nI n ≤ x) : ∃ j, j < n ∧ x = nI j := by
  rcases pk_ix x hn with h | h | h
  · exact absurd h h0
  · exact absurd h h1
  · exact h
/-- what both tapes hold -/
def rTape (σ τ : zS) : Prop := ∃ n : Nat, n ≤ 1200 ∧ gi σ 101 = nI n ∧ gi τ 2 = nI n ∧ ∀ i, i < n → ga σ 19 i = ga τ 1 i ∧ 0 ≤ (ga σ 19 i).toInt ∧ (ga σ 19 i).toInt < 256
theorem cut_ok {F : Nat} {σ τ : zS} (h : rTape σ τ) (a : Int32) : ∃ r σ' τ', Q_cut F σ a = some (r, σ') ∧ Md_cut F τ a = some (r, τ') ∧ rTape σ' τ' := by
  obtain ⟨n, hn, h1, h2, h3⟩ := h
  by_cases c1 : a < 0
  · exact ⟨-2, σ, τ, by simp [Q_cut, Q_cut_15, c1], by simp [Md_cut, Md_cut_12, c1], n, hn, h1, h2, h3⟩
  · by_cases c2 : a ≤ nI n
    · obtain ⟨j, hj, rfl⟩ := nI_of2 (nI_toInt (by omega)) c1 c2
      refine ⟨nI n - nI j, si σ 101 (nI j), si τ 2 (nI j), by simp [Q_cut, c1, c2, h1], by simp [Md_cut, c1, c2, h2], j, by omega, ?_, ?_, ?_⟩
      · simp only [zs, if_true]
      · simp only [zs, if_true]
      · intro i hi
        simp only [zs]
        exact h3 i (by omega)
    · exact ⟨-2, σ, τ, by simp [Q_cut, Q_cut_15, c1, c2, h1], by simp [Md_cut, Md_cut_12, c1, c2, h2], n, hn, h1, h2, h3⟩
