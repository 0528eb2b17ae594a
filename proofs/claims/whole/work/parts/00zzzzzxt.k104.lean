/-! A type shown tells the type: texts that are equal come of rows that are equal. Own text. -/
def nmc (v : Int32) : Prop := ∃ x : Nat, v = nI x ∧ ((48 ≤ x ∧ x ≤ 57) ∨ (65 ≤ x ∧ x ≤ 90) ∨ (97 ≤ x ∧ x ≤ 122))
/-- no name goes on here -/
def nh (u : List Int32) : Prop := ∀ v w, u = v :: w → ¬ nmc v
def hs (k : Int32) (u : List Int32) : Prop := ∀ w, u ≠ k :: w
theorem nmc_n {k : Nat} (hk : ¬ ((48 ≤ k ∧ k ≤ 57) ∨ (65 ≤ k ∧ k ≤ 90) ∨ (97 ≤ k ∧ k ≤ 122))) (hk2 : k < 128) : ¬ nmc (nI k) := by
  rintro ⟨x, e, h⟩
  have := (nI_eq (a := k) (b := x) (by omega) (by omega)).mp e
  omega
theorem nh_c {k : Nat} (hk : ¬ ((48 ≤ k ∧ k ≤ 57) ∨ (65 ≤ k ∧ k ≤ 90) ∨ (97 ≤ k ∧ k ≤ 122))) (hk2 : k < 128) (u : List Int32) : nh (nI k :: u) := by
  intro v w e
  rw [← (List.cons.inj e).1]
  exact nmc_n hk hk2
theorem hs_c {k v : Int32} (h : v ≠ k) (u : List Int32) : hs k (v :: u) := fun w e => h (List.cons.inj e).1
theorem mun : ∀ (L L' : List Nat) (u u' : List Int32), (∀ x, x ∈ L → (48 ≤ x ∧ x ≤ 57) ∨ (65 ≤ x ∧ x ≤ 90) ∨ (97 ≤ x ∧ x ≤ 122)) → (∀ x, x ∈ L' → (48 ≤ x ∧ x ≤ 57) ∨ (65 ≤ x ∧ x ≤ 90) ∨ (97 ≤ x ∧ x ≤ 122)) → nh u → nh u' → L.map nI ++ u = L'.map nI ++ u' → L = L' ∧ u = u'
  | [], [], u, u', _, _, _, _, h => ⟨rfl, h⟩
  | [], x :: L', u, u', _, h2, hu, _, h => absurd ⟨x, rfl, h2 x List.mem_cons_self⟩ (hu (nI x) _ h)
  | x :: L, [], u, u', h1, _, _, hu', h => absurd ⟨x, rfl, h1 x List.mem_cons_self⟩ (hu' (nI x) _ h.symm)
  | x :: L, x' :: L', u, u', h1, h2, hu, hu', h => by
    have e := List.cons.inj (show nI x :: (L.map nI ++ u) = nI x' :: (L'.map nI ++ u') from h)
    have r1 := h1 x List.mem_cons_self
    have r2 := h2 x' List.mem_cons_self
    have ex := (nI_eq (a := x) (b := x') (by omega) (by omega)).mp e.1
    obtain ⟨i1, i2⟩ := mun L L' u u' (fun y hy => h1 y (List.mem_cons_of_mem _ hy)) (fun y hy => h2 y (List.mem_cons_of_mem _ hy)) hu hu' e.2
    exact ⟨by rw [ex, i1], i2⟩
theorem nm_hd {c : Nat} (h : gdc c) (u : List Int32) : ∃ v w, nmS (lfN c) ++ u = v :: w ∧ nmc v := by
  obtain ⟨_, b, l, e, h2, _⟩ := gdc_nm h
  exact ⟨nI b, l.map nI ++ u, by rw [e]; rfl, b, rfl, h2 b List.mem_cons_self⟩
theorem nm_split {c c' : Nat} (h : gdc c) (h' : gdc c') {u u' : List Int32} (hu : nh u) (hu' : nh u') (e : nmS (lfN c) ++ u = nmS (lfN c') ++ u') : (∀ k, cEn (k, 10 + c) = cEn (k, 10 + c')) ∧ u = u' := by
  obtain ⟨_, b, l, e1, e2, e3, e4, e5⟩ := gdc_nm h
  obtain ⟨_, b', l', e1', e2', e3', e4', e5'⟩ := gdc_nm h'
  rw [e1, e1'] at e
  obtain ⟨r1, r2⟩ := mun _ _ u u' e2 e2' hu hu' e
  refine ⟨fun k => ?_, r2⟩
  have eb : b = b' := (List.cons.inj r1).1
  rw [cEn_lf, cEn_lf, e5, e5', r1]
  by_cases z : lfB c = 0
  · have z' : lfB c' = 0 := by
      by_cases w : lfB c' = 0
      · exact w
      · have := e3 z; have := e4' w; omega
    rw [if_pos z, if_pos z']
  · have z' : ¬ lfB c' = 0 := by
      intro w
      have := e4 z; have := e3' w; omega
    rw [if_neg z, if_neg z']
/-- arguments shown -/
def aT : List TE → List Int32
  | [] => []
  | a :: as => 32 :: (prS a 2 ++ aT as)
def aB : List TE → List BE
  | [] => []
  | a :: as => blk a ++ aB as
theorem aT_app (a : TE) : ∀ as, aT (as ++ [a]) = aT as ++ (32 :: prS a 2)
  | [] => by simp [aT]
  | b :: as => by
    show 32 :: (prS b 2 ++ aT (as ++ [a])) = 32 :: (prS b 2 ++ aT as) ++ _
    rw [aT_app a as]; simp
theorem aB_app (a : TE) : ∀ as, aB (as ++ [a]) = aB as ++ blk a
  | [] => by simp [aB]
  | b :: as => by
    show blk b ++ aB (as ++ [a]) = (blk b ++ aB as) ++ _
    rw [aB_app a as]; simp
theorem aB_len {a : TE} : ∀ as, a ∈ as → (blk a).length ≤ (aB as).length
  | [], h => by cases h
  | b :: as, h => by
    show _ ≤ (blk b ++ aB as).length
    rw [List.length_append]
    rcases List.mem_cons.mp h with z | z
    · rw [z]; omega
    · have := aB_len as z; omega
def SPN (t : TE) (c : Nat) (as : List TE) : Prop := prS t 3 = nmS (lfN c) ++ aT as ∧ blk t = (as.length, 10 + c) :: aB as ∧ (∀ a, a ∈ as → sp a ∧ ∀ d, d ∈ lvs a → d ∈ lvs t) ∧ c ∈ lvs t ∧ prS t 0 = prS t 3 ∧ prS t 1 = prS t 3 ∧ ((as = [] ∧ prS t 2 = prS t 3) ∨ (as ≠ [] ∧ prS t 2 = 40 :: (prS t 3 ++ [41])))
theorem spn : ∀ t, sp t → isR t = false → isI t = false → ∃ c as, SPN t c as := by
  refine sp_ind ?_ ?_ ?_ ?_
  · intro c _ _
    exact ⟨c, [], by rw [aT, List.append_nil]; rfl, rfl, (fun a h => by cases h), List.mem_singleton.mpr rfl, rfl, rfl, Or.inl ⟨rfl, rfl⟩⟩
  · intro f a hf _ ha ihf _ _ _
    obtain ⟨c, as, h1, h2, h3, h4, h5, h6, h7⟩ := ihf hf.1 hf.2
    have e : ∀ s, s ≠ 2 → prS (tO f a) s = prS f 3 ++ (32 :: prS a 2) := fun s hs => by simp [tO, prS, hs]
    refine ⟨c, as ++ [a], ?_, ?_, fun b hb => ?_, List.mem_append_left _ h4, ?_, ?_, Or.inr ⟨by simp, ?_⟩⟩
    · rw [e 3 (by omega), h1, aT_app, List.append_assoc]
    · show bmp (blk f) 1 ++ blk a = _
      rw [h2, aB_app]
      simp [bmp]
    · rcases List.mem_append.mp hb with z | z
      · exact ⟨(h3 b z).1, fun d hd => List.mem_append_left _ ((h3 b z).2 d hd)⟩
      · rw [List.mem_singleton.mp z]
        exact ⟨ha, fun d hd => List.mem_append_right _ hd⟩
    · rw [e 0 (by omega), e 3 (by omega)]
    · rw [e 1 (by omega), e 3 (by omega)]
    · rw [e 3 (by omega)]; simp [tO, prS]
  · intro l r _ _ _ _ h; cases h
  · intro p t _ _ _ h; cases h
theorem frm : ∀ t, sp t → (isR t = false ∧ isI t = false) ∨ (∃ l r, t = tR l r ∧ sp l ∧ sp r) ∨ (∃ p x, t = tI p x ∧ sp x) := by
  refine sp_ind ?_ ?_ ?_ ?_
  · intro c; exact Or.inl ⟨rfl, rfl⟩
  · intro f a _ _ _ _ _; exact Or.inl ⟨rfl, rfl⟩
  · intro l r hl hr _ _; exact Or.inr (Or.inl ⟨l, r, rfl, hl, hr⟩)
  · intro p x hx _; exact Or.inr (Or.inr ⟨p, x, rfl, hx⟩)
theorem prS_R0 (l r : TE) : prS (tR l r) 0 = prS l 1 ++ (45 :: 62 :: prS r 0) := by simp [tR, prS]
theorem prS_Rs (l r : TE) {s : Nat} (h : 0 < s) : prS (tR l r) s = 40 :: (prS l 1 ++ (45 :: 62 :: (prS r 0 ++ [41]))) := by simp [tR, prS, h]
theorem prS_I (p : Nat) (x : TE) (s : Nat) : prS (tI p x) s = 91 :: (prS x 0 ++ [93]) := by simp [tI, prS]
def Jq (s : Nat) (t : TE) : Prop := ∀ (t' : TE) (u u' : List Int32), sp t' → (∀ c, c ∈ lvs t' → gdc c) → nh u → nh u' → (s ≠ 2 → hs 32 u ∧ hs 32 u') → (s = 0 → hs 45 u ∧ hs 45 u') → prS t s ++ u = prS t' s ++ u' → (blk t).map cEn = (blk t').map cEn ∧ u = u'
theorem nh_aT {u : List Int32} (h : nh u) : ∀ as, nh (aT as ++ u)
  | [] => h
  | a :: as => nh_c (k := 32) (by omega) (by omega) _
theorem args_eq : ∀ (as as' : List TE) (u u' : List Int32), (∀ a, a ∈ as → Jq 2 a) → (∀ a, a ∈ as' → sp a ∧ ∀ c, c ∈ lvs a → gdc c) → nh u → nh u' → hs 32 u → hs 32 u' → aT as ++ u = aT as' ++ u' → as.length = as'.length ∧ (aB as).map cEn = (aB as').map cEn ∧ u = u'
  | [], [], u, u', _, _, _, _, _, _, h => ⟨rfl, rfl, h⟩
  | [], a' :: as', u, u', _, _, _, _, h32, _, h => absurd h (h32 _)
  | a :: as, [], u, u', _, _, _, _, _, h32, h => absurd h.symm (h32 _)
  | a :: as, a' :: as', u, u', hJ, hs', hu, hu', h32, h32', h => by
    have e := (List.cons.inj (show (32 : Int32) :: (prS a 2 ++ aT as ++ u) = 32 :: (prS a' 2 ++ aT as' ++ u') from h)).2
    rw [List.append_assoc, List.append_assoc] at e
    obtain ⟨s1, s2⟩ := hs' a' List.mem_cons_self
    obtain ⟨r1, r2⟩ := hJ a List.mem_cons_self a' _ _ s1 s2 (nh_aT hu as) (nh_aT hu' as') (fun z => absurd rfl z) (fun z => absurd z (by omega)) e
    obtain ⟨i1, i2, i3⟩ := args_eq as as' u u' (fun b hb => hJ b (List.mem_cons_of_mem _ hb)) (fun b hb => hs' b (List.mem_cons_of_mem _ hb)) hu hu' h32 h32' r2
    refine ⟨by rw [List.length_cons, List.length_cons, i1], ?_, i3⟩
    show (blk a ++ aB as).map cEn = (blk a' ++ aB as').map cEn
    rw [List.map_append, List.map_append, r1, i2]
theorem arr_eq {l r l' r' : TE} {u u' : List Int32} (h1 : Jq 1 l) (h0 : Jq 0 r) (sl : sp l') (sr : sp r') (gl : ∀ c, c ∈ lvs l' → gdc c) (gr : ∀ c, c ∈ lvs r' → gdc c) (hu : nh u) (hu' : nh u') (h32 : hs 32 u ∧ hs 32 u') (h45 : hs 45 u ∧ hs 45 u') (e : prS l 1 ++ (45 :: 62 :: (prS r 0 ++ u)) = prS l' 1 ++ (45 :: 62 :: (prS r' 0 ++ u'))) : (blk (tR l r)).map cEn = (blk (tR l' r')).map cEn ∧ u = u' := by
  obtain ⟨a1, a2⟩ := h1 l' _ _ sl gl (nh_c (k := 45) (by omega) (by omega) _) (nh_c (k := 45) (by omega) (by omega) _) (fun _ => ⟨hs_c (by decide) _, hs_c (by decide) _⟩) (fun z => absurd z (by omega)) e
  have a3 := (List.cons.inj (List.cons.inj a2).2).2
  obtain ⟨b1, b2⟩ := h0 r' u u' sr gr hu hu' (fun _ => h32) (fun _ => h45) a3
  refine ⟨?_, b2⟩
  show cEn (0, 2) :: (blk l ++ blk r).map cEn = cEn (0, 2) :: (blk l' ++ blk r').map cEn
  rw [List.map_append, List.map_append, a1, b1]
theorem prS_inj : ∀ (n : Nat) (t : TE), (blk t).length ≤ n → sp t → (∀ c, c ∈ lvs t → gdc c) → Jq 0 t ∧ Jq 1 t ∧ Jq 2 t := by
  intro n
  induction n with
  | zero =>
    intro t hl ht
    have := List.length_pos_iff.mpr (sp_fo t ht).2.1
    omega
  | succ n ih =>
    intro t hl ht hg
    have c40 : ∀ x : Int32, nmc x → x ≠ 40 := fun x hx z => nmc_n (k := 40) (by omega) (by omega) (by rw [z] at hx; exact hx)
    have c91 : ∀ x : Int32, nmc x → x ≠ 91 := fun x hx z => nmc_n (k := 91) (by omega) (by omega) (by rw [z] at hx; exact hx)
    have n41 : ∀ u, nh (41 :: u) := fun u => nh_c (k := 41) (by omega) (by omega) u
    have n93 : ∀ u, nh (93 :: u) := fun u => nh_c (k := 93) (by omega) (by omega) u
    have n45 : ∀ u, nh (45 :: u) := fun u => nh_c (k := 45) (by omega) (by omega) u
    have x41 : ∀ u, hs 32 (41 :: u) ∧ hs 45 (41 :: u) := fun u => ⟨hs_c (by decide) u, hs_c (by decide) u⟩
    have x93 : ∀ u, hs 32 (93 :: u) ∧ hs 45 (93 :: u) := fun u => ⟨hs_c (by decide) u, hs_c (by decide) u⟩
    have x45 : ∀ u, hs 32 (45 :: u) := fun u => hs_c (by decide) u
    -- two lists
    have lst : ∀ (p x p' x' : _) (u u' : List Int32), Jq 0 x → sp x' → (∀ c, c ∈ lvs x' → gdc c) → 91 :: (prS x 0 ++ [93]) ++ u = 91 :: (prS x' 0 ++ [93]) ++ u' → (blk (tI p x)).map cEn = (blk (tI p' x')).map cEn ∧ u = u' := by
      intro p x p' x' u u' hx sx' gx' e
      have e1 := (List.cons.inj (show (91 : Int32) :: (prS x 0 ++ [93] ++ u) = 91 :: (prS x' 0 ++ [93] ++ u') from e)).2
      rw [List.append_assoc, List.append_assoc] at e1
      obtain ⟨r1, r2⟩ := hx x' _ _ sx' gx' (n93 _) (n93 _) (fun _ => ⟨(x93 _).1, (x93 _).1⟩) (fun _ => ⟨(x93 _).2, (x93 _).2⟩) e1
      refine ⟨?_, (List.cons.inj r2).2⟩
      show cEn (0, 1) :: (blk x).map cEn = cEn (0, 1) :: (blk x').map cEn
      rw [r1]
    rcases frm t ht with ⟨hR, hI⟩ | ⟨l, r, et, sl, sr⟩ | ⟨p, x, et, sx'⟩
    · -- a name and its arguments
      obtain ⟨c, as, p1, p2, p3, p4, p5, p6, p7⟩ := spn t ht hR hI
      have gc := hg c p4
      have hJ2 : ∀ a, a ∈ as → Jq 2 a := fun a ha => (ih a (by have := aB_len as ha; rw [p2, List.length_cons] at hl; omega) (p3 a ha).1 (fun d hd => hg d ((p3 a ha).2 d hd))).2.2
      have hd : ∀ u, ∃ v w, prS t 3 ++ u = v :: w ∧ nmc v := fun u => by
        rw [p1, List.append_assoc]; exact nm_hd gc _
      have spsp : ∀ (t' : TE) (c' : Nat) (as' : List TE) (u u' : List Int32), SPN t' c' as' → (∀ d, d ∈ lvs t' → gdc d) → nh u → nh u' → hs 32 u → hs 32 u' → prS t 3 ++ u = prS t' 3 ++ u' → (blk t).map cEn = (blk t').map cEn ∧ u = u' := by
        intro t' c' as' u u' hS' hg' hu hu' h32 h32' e
        obtain ⟨q1, q2, q3, q4, q5, q6, q7⟩ := hS'
        rw [p1, q1, List.append_assoc, List.append_assoc] at e
        obtain ⟨r1, r2⟩ := nm_split gc (hg' c' q4) (nh_aT hu as) (nh_aT hu' as') e
        obtain ⟨i1, i2, i3⟩ := args_eq as as' u u' hJ2 (fun a ha => ⟨(q3 a ha).1, fun d hd => hg' d ((q3 a ha).2 d hd)⟩) hu hu' h32 h32' r2
        refine ⟨?_, i3⟩
        rw [p2, q2, List.map_cons, List.map_cons, i1, i2, r1]
      have J1 : Jq 1 t := by
        intro t' u u' ht' hg' hu hu' h32 _ e
        obtain ⟨k1, k2⟩ := h32 (by omega)
        rw [p6] at e
        obtain ⟨v, w, hv, nv⟩ := hd u
        rcases frm t' ht' with ⟨hR', hI'⟩ | ⟨l', r', et', _⟩ | ⟨p', x', et', _⟩
        · obtain ⟨c', as', hS'⟩ := spn t' ht' hR' hI'
          rw [hS'.2.2.2.2.2.1] at e
          exact spsp t' c' as' u u' hS' hg' hu hu' k1 k2 e
        · rw [et', prS_Rs _ _ (by omega), hv] at e
          exact absurd (List.cons.inj e).1 (c40 v nv)
        · rw [et', prS_I, hv] at e
          exact absurd (List.cons.inj e).1 (c91 v nv)
      refine ⟨?_, J1, ?_⟩
      · intro t' u u' ht' hg' hu hu' h32 h45 e
        obtain ⟨k1, k2⟩ := h32 (by omega)
        obtain ⟨j1, j2⟩ := h45 rfl
        rw [p5, ← p6] at e
        rcases frm t' ht' with ⟨hR', hI'⟩ | ⟨l', r', et', sl', sr'⟩ | ⟨p', x', et', _⟩
        · obtain ⟨c', as', hS'⟩ := spn t' ht' hR' hI'
          rw [hS'.2.2.2.2.1, ← hS'.2.2.2.2.2.1] at e
          exact J1 t' u u' ht' hg' hu hu' (fun _ => ⟨k1, k2⟩) (fun z => absurd z (by omega)) e
        · rw [et', prS_R0, List.append_assoc] at e
          have := (J1 l' _ _ sl' (fun d hd => hg' d (by rw [et']; exact List.mem_append_left _ hd)) hu (n45 _) (fun _ => ⟨k1, x45 _⟩) (fun z => absurd z (by omega)) e).2
          exact absurd this (j1 _)
        · rw [et', prS_I, ← prS_I p' x' 1, ← et'] at e
          exact J1 t' u u' ht' hg' hu hu' (fun _ => ⟨k1, k2⟩) (fun z => absurd z (by omega)) e
      · intro t' u u' ht' hg' hu hu' _ _ e
        rcases p7 with ⟨z1, z2⟩ | ⟨z1, z2⟩
        · rw [z2] at e
          obtain ⟨v, w, hv, nv⟩ := hd u
          rcases frm t' ht' with ⟨hR', hI'⟩ | ⟨l', r', et', _⟩ | ⟨p', x', et', _⟩
          · obtain ⟨c', as', hS'⟩ := spn t' ht' hR' hI'
            obtain ⟨q1, q2, q3, q4, q5, q6, q7⟩ := hS'
            rcases q7 with ⟨w1, w2⟩ | ⟨w1, w2⟩
            · rw [w2, p1, q1, z1, w1] at e
              simp only [aT, List.append_nil] at e
              obtain ⟨r1, r2⟩ := nm_split gc (hg' c' q4) hu hu' e
              refine ⟨?_, r2⟩
              rw [p2, q2, z1, w1, List.map_cons, List.map_cons, r1]
            · rw [w2, hv] at e
              exact absurd (List.cons.inj e).1 (c40 v nv)
          · rw [et', prS_Rs _ _ (by omega), hv] at e
            exact absurd (List.cons.inj e).1 (c40 v nv)
          · rw [et', prS_I, hv] at e
            exact absurd (List.cons.inj e).1 (c91 v nv)
        · rw [z2] at e
          rcases frm t' ht' with ⟨hR', hI'⟩ | ⟨l', r', et', sl', sr'⟩ | ⟨p', x', et', _⟩
          · obtain ⟨c', as', hS'⟩ := spn t' ht' hR' hI'
            have hS0 := hS'
            obtain ⟨q1, q2, q3, q4, q5, q6, q7⟩ := hS'
            rcases q7 with ⟨w1, w2⟩ | ⟨w1, w2⟩
            · obtain ⟨v, w, hv, nv⟩ := nm_hd (hg' c' q4) (aT as' ++ u')
              rw [w2, q1, List.append_assoc, hv] at e
              exact absurd (List.cons.inj e).1.symm (c40 v nv)
            · rw [w2] at e
              have e1 := (List.cons.inj (show (40 : Int32) :: (prS t 3 ++ [41] ++ u) = 40 :: (prS t' 3 ++ [41] ++ u') from e)).2
              rw [List.append_assoc, List.append_assoc] at e1
              obtain ⟨r1, r2⟩ := spsp t' c' as' _ _ hS0 hg' (n41 _) (n41 _) (x41 _).1 (x41 _).1 e1
              exact ⟨r1, (List.cons.inj r2).2⟩
          · rw [et', prS_Rs _ _ (by omega)] at e
            have e1 := (List.cons.inj (show (40 : Int32) :: (prS t 3 ++ [41] ++ u) = 40 :: (prS l' 1 ++ (45 :: 62 :: (prS r' 0 ++ [41])) ++ u') from e)).2
            rw [List.append_assoc, List.append_assoc, ← p6] at e1
            have := (J1 l' _ _ sl' (fun d hd => hg' d (by rw [et']; exact List.mem_append_left _ hd)) (n41 _) (n45 _) (fun _ => ⟨(x41 _).1, x45 _⟩) (fun z => absurd z (by omega)) e1).2
            exact absurd (List.cons.inj this).1 (by decide)
          · rw [et', prS_I] at e
            exact absurd (List.cons.inj e).1 (by decide)
    · -- an arrow
      subst et
      have hlen : (blk (tR l r)).length = (blk l).length + (blk r).length + 1 := by
        show ((0, 2) :: (blk l ++ blk r) : List BE).length = _
        rw [List.length_cons, List.length_append]
      have gl : ∀ c, c ∈ lvs l → gdc c := fun c hc => hg c (List.mem_append_left _ hc)
      have gr : ∀ c, c ∈ lvs r → gdc c := fun c hc => hg c (List.mem_append_right _ hc)
      obtain ⟨_, l1, _⟩ := ih l (by omega) sl gl
      obtain ⟨r0, _, _⟩ := ih r (by omega) sr gr
      have brk : ∀ (s : Nat) (t' : TE) (u u' : List Int32), 0 < s → s ≤ 2 → sp t' → (∀ c, c ∈ lvs t' → gdc c) → prS (tR l r) s ++ u = prS t' s ++ u' → (blk (tR l r)).map cEn = (blk t').map cEn ∧ u = u' := by
        intro s t' u u' hs0 hs2 ht' hg' e
        rw [prS_Rs _ _ hs0] at e
        rcases frm t' ht' with ⟨hR', hI'⟩ | ⟨l', r', et', sl', sr'⟩ | ⟨p', x', et', _⟩
        · obtain ⟨c', as', hS'⟩ := spn t' ht' hR' hI'
          obtain ⟨q1, q2, q3, q4, q5, q6, q7⟩ := hS'
          obtain ⟨v, w, hv, nv⟩ := nm_hd (hg' c' q4) (aT as' ++ u')
          have n3 : prS t' s = prS t' 3 → False := fun z => by
            rw [z, q1, List.append_assoc, hv] at e
            exact c40 v nv (List.cons.inj e).1.symm
          by_cases s1 : s = 1
          · rw [s1] at n3
            exact absurd q6 n3
          · have s2 : s = 2 := by omega
            rw [s2] at n3 e
            rcases q7 with ⟨_, w2⟩ | ⟨_, w2⟩
            · exact absurd w2 n3
            · rw [w2] at e
              have e1 := (List.cons.inj (show (40 : Int32) :: (prS l 1 ++ (45 :: 62 :: (prS r 0 ++ [41])) ++ u) = 40 :: (prS t' 3 ++ [41] ++ u') from e)).2
              rw [List.append_assoc, List.append_assoc, ← q6] at e1
              have := (l1 t' _ _ ht' hg' (n45 _) (n41 _) (fun _ => ⟨x45 _, (x41 _).1⟩) (fun z => absurd z (by omega)) e1).2
              exact absurd (List.cons.inj this).1 (by decide)
        · subst et'
          rw [prS_Rs _ _ hs0] at e
          have e1 := (List.cons.inj (show (40 : Int32) :: (prS l 1 ++ (45 :: 62 :: (prS r 0 ++ [41])) ++ u) = 40 :: (prS l' 1 ++ (45 :: 62 :: (prS r' 0 ++ [41])) ++ u') from e)).2
          have e2 : prS l 1 ++ (45 :: 62 :: (prS r 0 ++ (41 :: u))) = prS l' 1 ++ (45 :: 62 :: (prS r' 0 ++ (41 :: u'))) := by
            simpa only [List.append_assoc, List.cons_append, List.nil_append] using e1
          obtain ⟨b1, b2⟩ := arr_eq l1 r0 sl' sr' (fun c hc => hg' c (List.mem_append_left _ hc)) (fun c hc => hg' c (List.mem_append_right _ hc)) (n41 _) (n41 _) ⟨(x41 _).1, (x41 _).1⟩ ⟨(x41 _).2, (x41 _).2⟩ e2
          exact ⟨b1, (List.cons.inj b2).2⟩
        · rw [et', prS_I] at e
          exact absurd (List.cons.inj e).1 (by decide)
      refine ⟨?_, fun t' u u' ht' hg' _ _ _ _ e => brk 1 t' u u' (by omega) (by omega) ht' hg' e, fun t' u u' ht' hg' _ _ _ _ e => brk 2 t' u u' (by omega) (by omega) ht' hg' e⟩
      intro t' u u' ht' hg' hu hu' h32 h45 e
      obtain ⟨k1, k2⟩ := h32 (by omega)
      obtain ⟨j1, j2⟩ := h45 rfl
      rw [prS_R0, List.append_assoc] at e
      have non : prS t' 0 = prS t' 1 → False := fun z => by
        rw [z] at e
        have := (l1 t' _ _ ht' hg' (n45 _) hu' (fun _ => ⟨x45 _, k2⟩) (fun z => absurd z (by omega)) e).2
        exact j2 _ this.symm
      rcases frm t' ht' with ⟨hR', hI'⟩ | ⟨l', r', et', sl', sr'⟩ | ⟨p', x', et', _⟩
      · obtain ⟨c', as', hS'⟩ := spn t' ht' hR' hI'
        exact absurd (hS'.2.2.2.2.1.trans hS'.2.2.2.2.2.1.symm) non
      · subst et'
        rw [prS_R0, List.append_assoc] at e
        exact arr_eq l1 r0 sl' sr' (fun c hc => hg' c (List.mem_append_left _ hc)) (fun c hc => hg' c (List.mem_append_right _ hc)) hu hu' ⟨k1, k2⟩ ⟨j1, j2⟩ e
      · exact absurd (by rw [et', prS_I, prS_I]) non
    · -- a list
      subst et
      have gx : ∀ c, c ∈ lvs x → gdc c := fun c hc => hg c hc
      obtain ⟨x0, _, _⟩ := ih x (by
        have : (blk (tI p x)).length = (blk x).length + 1 := rfl
        omega) sx' gx
      have all : ∀ (s : Nat) (t' : TE) (u u' : List Int32), s ≤ 2 → sp t' → (∀ c, c ∈ lvs t' → gdc c) → (s = 0 → nh u ∧ hs 32 u ∧ hs 45 u) → prS (tI p x) s ++ u = prS t' s ++ u' → (isR t' = true → 0 < s) → (blk (tI p x)).map cEn = (blk t').map cEn ∧ u = u' := by
        intro s t' u u' hs2 ht' hg' _ e hRs
        rw [prS_I] at e
        rcases frm t' ht' with ⟨hR', hI'⟩ | ⟨l', r', et', sl', sr'⟩ | ⟨p', x', et', sx''⟩
        · obtain ⟨c', as', hS'⟩ := spn t' ht' hR' hI'
          obtain ⟨q1, q2, q3, q4, q5, q6, q7⟩ := hS'
          obtain ⟨v, w, hv, nv⟩ := nm_hd (hg' c' q4) (aT as' ++ u')
          have n3 : prS t' s = prS t' 3 → False := fun z => by
            rw [z, q1, List.append_assoc, hv] at e
            exact c91 v nv (List.cons.inj e).1.symm
          have : s = 0 ∨ s = 1 ∨ s = 2 := by omega
          rcases this with z | z | z
          · rw [z] at n3; exact absurd q5 n3
          · rw [z] at n3; exact absurd q6 n3
          · rw [z] at n3 e
            rcases q7 with ⟨_, w2⟩ | ⟨_, w2⟩
            · exact absurd w2 n3
            · rw [w2] at e
              exact absurd (List.cons.inj e).1 (by decide)
        · subst et'
          rw [prS_Rs _ _ (hRs rfl)] at e
          exact absurd (List.cons.inj e).1 (by decide)
        · subst et'
          rw [prS_I] at e
          exact lst p x p' x' u u' x0 sx'' (fun c hc => hg' c hc) e
      have J1 : Jq 1 (tI p x) := fun t' u u' ht' hg' _ _ _ _ e => all 1 t' u u' (by omega) ht' hg' (fun z => absurd z (by omega)) e (fun _ => by omega)
      refine ⟨?_, J1, fun t' u u' ht' hg' _ _ _ _ e => all 2 t' u u' (by omega) ht' hg' (fun z => absurd z (by omega)) e (fun _ => by omega)⟩
      intro t' u u' ht' hg' hu hu' h32 h45 e
      obtain ⟨k1, k2⟩ := h32 (by omega)
      obtain ⟨j1, j2⟩ := h45 rfl
      rcases frm t' ht' with ⟨hR', hI'⟩ | ⟨l', r', et', sl', sr'⟩ | ⟨p', x', et', _⟩
      · exact all 0 t' u u' (by omega) ht' hg' (fun _ => ⟨hu, k1, j1⟩) e (fun z => by rw [hR'] at z; cases z)
      · subst et'
        rw [prS_I, ← prS_I p x 1, prS_R0, List.append_assoc] at e
        have := (J1 l' _ _ sl' (fun c hc => hg' c (List.mem_append_left _ hc)) hu (n45 _) (fun _ => ⟨k1, x45 _⟩) (fun z => absurd z (by omega)) e).2
        exact absurd this (j1 _)
      · exact all 0 t' u u' (by omega) ht' hg' (fun _ => ⟨hu, k1, j1⟩) e (fun z => by rw [et'] at z; cases z)
/-- equal texts, equal rows -/
theorem txt_row {t t' : TE} (ht : sp t) (hg : ∀ c, c ∈ lvs t → gdc c) (ht' : sp t') (hg' : ∀ c, c ∈ lvs t' → gdc c) (e : prS t 0 = prS t' 0) : (blk t).map cEn = (blk t').map cEn := by
  have n0 : nh [] := fun v w z => by cases z
  exact ((prS_inj _ t (Nat.le_refl _) ht hg).1 t' [] [] ht' hg' n0 n0 (fun _ => ⟨(fun w z => by cases z), (fun w z => by cases z)⟩) (fun _ => ⟨(fun w z => by cases z), (fun w z => by cases z)⟩) (by rw [e])).1
