/-! ===== growing: a step ===== -/
/-- the symbol by which a STATE is come to; a RULE's right side; a symbol's weight -/
def acT : List Nat := [99, 0, 1, 5, 13, 7, 0, 2, 3, 4, 5, 6, 11, 14, 8, 9, 10, 2, 3, 4, 12]
def acS (s : Nat) : Nat := acT.getD s 99
def rhT : List (List Nat) := [[], [0, 1], [5, 7, 2, 8], [13, 0, 14], [2, 9, 3], [3], [3, 10, 4], [4], [5], [6], [11, 2, 12]]
def rhS (r : Nat) : List Nat := rhT.getD r []
def cS (y : Nat) : Int := if y = 0 then 2 else if y = 1 then -2 else if y = 2 then 3 else if y = 3 then 1 else if y = 4 then -1 else if y = 99 then 0 else -3
def btT : List Int := [0, 2, 0, -1, -1, -4, 1, -1, -3, -5, -7, -7, -7, -2, -4, -4, -6, -4, -3, -7, -7]
def btS (s : Nat) : Int := btT.getD s 0
def rkT : List Nat := [9, 0, 0, 0, 9, 0, 0, 0, 1, 2, 3, 3, 0, 0, 0, 0, 0, 0, 1, 2, 0]
def rkS (s : Nat) : Nat := rkT.getD s 0
theorem ac_fin : ∀ a, a < 21 → ∀ y, y < 17 → ldN a y ≠ 0 → acS (ldN a y) = y := by decide +kernel
theorem bt_fin : ∀ a, a < 21 → ∀ y, y < 17 → ldN a y ≠ 0 → btS a + cS (acS (ldN a y)) ≤ btS (ldN a y) := by decide +kernel
theorem bt_le : ∀ a, a < 21 → btS a ≤ 2 := by decide +kernel
theorem rk_le : ∀ a, a < 21 → rkS a ≤ 9 := by decide +kernel
theorem rh_fin : ∀ r, r < 11 → (rhS r).length = lnN r ∧ 2 + ((rhS r).map cS).sum ≤ cS (syN r) := by decide +kernel
theorem ru_fin : ((List.range 21).all (fun s => match rlN s with
  | none => true
  | some r => (List.range (lnN r)).all (fun k => (bkT k s).all (fun a => (rhS r)[lnN r - 1 - k]? == some (acS a))) && (bkT (lnN r) s).all (fun a => decide (8 + rkS (ldN a (syN r)) + 1 ≤ 8 * lnN r + rkS s)))) = true := by decide +kernel
theorem ru_fin2 {s r : Nat} (hs : s < 21) (hr : rlN s = some r) : (∀ k, k < lnN r → ∀ a ∈ bkT k s, (rhS r)[lnN r - 1 - k]? = some (acS a)) ∧ ∀ a ∈ bkT (lnN r) s, 8 + rkS (ldN a (syN r)) + 1 ≤ 8 * lnN r + rkS s := by
  have h := List.all_eq_true.mp ru_fin s (List.mem_range.mpr hs)
  rw [hr] at h
  obtain ⟨h1, h2⟩ := Bool.and_eq_true_iff.mp h
  refine ⟨fun k hk a ha => ?_, fun a ha => ?_⟩
  · have := List.all_eq_true.mp (List.all_eq_true.mp h1 k (List.mem_range.mpr hk)) a ha
    exact beq_iff_eq.mp this
  · exact of_decide_eq_true (List.all_eq_true.mp h2 a ha)
theorem end_fin : ∀ s, s < 21 → ldN s (5 + 10) = 0 := by decide +kernel
/-- a stack's weight -/
def wSum (st : List (Nat × Nat)) : Int := (st.map (fun p => cS (acS p.2))).sum
theorem wSum_snoc {st : List (Nat × Nat)} {p : Nat × Nat} : wSum (st ++ [p]) = wSum st + cS (acS p.2) := by
  unfold wSum
  simp
theorem wSum_split {st : List (Nat × Nat)} (k : Nat) : wSum st = wSum (st.take k) + wSum (st.drop k) := by
  unfold wSum
  rw [← List.sum_append, ← List.map_append, List.take_append_drop]
def topS (st : List (Nat × Nat)) : Nat := (st.getD (st.length - 1) (0, 0)).2
theorem top_at {st : List (Nat × Nat)} (h : 1 ≤ st.length) : ∃ p0 : Nat × Nat, st[st.length - 1]? = some p0 ∧ p0.2 = topS st := by
  refine ⟨st[st.length - 1]'(by omega), List.getElem?_eq_getElem _, ?_⟩
  unfold topS
  rw [List.getD_eq_getElem?_getD, List.getElem?_eq_getElem (by omega)]
  rfl
theorem topS_snoc {st : List (Nat × Nat)} {p : Nat × Nat} : topS (st ++ [p]) = p.2 := by
  unfold topS
  rw [List.getD_eq_getElem?_getD, List.length_append, show [p].length = 1 from rfl, Nat.add_sub_cancel, List.getElem?_append_right (Nat.le_refl _), Nat.sub_self]
  rfl
theorem wSum_le {m : Nat} {st : List (Nat × Nat)} (hP : StP st) (ok : StOk m st) : ∀ (k : Nat) (p : Nat × Nat), st[k]? = some p → wSum (st.take (k + 1)) ≤ btS p.2
  | 0, p, hp => by
    rw [List.take_add_one, List.take_zero, hp]
    show wSum ([] ++ [p]) ≤ _
    rw [wSum_snoc, hP.1 p hp]
    decide
  | k + 1, p, hp => by
    have hl := (List.getElem?_eq_some_iff.mp hp).1
    have hq : st[k]? = some (st[k]'(by omega)) := List.getElem?_eq_getElem (by omega)
    have ih := wSum_le hP ok k _ hq
    obtain ⟨y, hy, e, e0⟩ := hP.2 k _ p hq hp
    rw [List.take_add_one, hp]
    show wSum (st.take (k + 1) ++ [p]) ≤ _
    rw [wSum_snoc]
    have := bt_fin _ (ok k _ hq).1 y hy (by rw [e]; exact e0)
    rw [e] at this
    omega
theorem wSum_le2 {m : Nat} {st : List (Nat × Nat)} (hP : StP st) (ok : StOk m st) (h1 : 1 ≤ st.length) : wSum st ≤ 2 := by
  obtain ⟨p0, h0, -⟩ := top_at h1
  have := wSum_le hP ok _ p0 h0
  rw [List.take_of_length_le (by omega)] at this
  have := bt_le p0.2 (ok _ p0 h0).1
  omega
/-- what a RULE takes from the stack has the symbols of its right side -/
theorem st_rhs {m s r : Nat} {st : List (Nat × Nat)} {p0 : Nat × Nat} (hP : StP st) (ok : StOk m st) (h1 : 1 ≤ st.length) (htop : st[st.length - 1]? = some p0) (hs : p0.2 = s) (hr : rlN s = some r) : (st.drop (st.length - lnN r)).map (fun p => acS p.2) = rhS r := by
  have hs21 : s < 21 := hs ▸ (ok _ p0 htop).1
  have hr11 := rlN_lt hs21 hr
  obtain ⟨hlt, -⟩ := st_fits hP ok h1 htop hs hr
  have hln := (rh_fin r hr11).1
  refine List.ext_getElem? (fun i => ?_)
  rw [List.getElem?_map, List.getElem?_drop]
  by_cases hi : i < lnN r
  · have hp : st[st.length - lnN r + i]? = some (st[st.length - lnN r + i]'(by omega)) := List.getElem?_eq_getElem (by omega)
    have hm := bk_mem hP ok htop (lnN r - 1 - i) _ (by omega) (by rw [show st.length - 1 - (lnN r - 1 - i) = st.length - lnN r + i by omega]; exact hp)
    rw [hs] at hm
    have := (ru_fin2 hs21 hr).1 (lnN r - 1 - i) (by omega) _ hm
    rw [show lnN r - 1 - (lnN r - 1 - i) = i by omega] at this
    rw [hp, this]
    rfl
  · rw [List.getElem?_eq_none (by omega), List.getElem?_eq_none (by omega)]
    rfl
/-- a step: where, how many nodes, the nodes, the stack, how many taken -/
abbrev Gs : Type := Nat × Nat × (Nat → Nd) × List (Nat × Nat) × Nat
def gNx (F : List Fl) (A B n n' : Nat) (g : Nat → Nat) (e i m : Nat) (N : Nat → Nd) (st : List (Nat × Nat)) (tk : Nat) : Option Gs :=
  match bestOf F N A B n n' i (topS st) (g i) with
  | some b => some (i + ndT (N b), m, N, st ++ [(b, ldN (topS st) (ndM (N b)))], tk + 1)
  | none => if ldN (topS st) (ndM (N (g i))) = 0 then (match rlN (topS st) with
      | some r => some (i, m + 1, upN N m (byN N st r e), byT m st r, tk)
      | none => none)
    else some (i + 1, m, upN N (g i) (stNd (N (g i)) (topS st)), st ++ [(g i, ldN (topS st) (ndM (N (g i))))], tk)
/-- d steps at most, k done -/
def gRun (F : List Fl) (A B n n' : Nat) (g : Nat → Nat) (e : Nat) : Nat → Nat → Gs → Nat × Gs
  | 0, k, x => (k, x)
  | d + 1, k, x => match gNx F A B n n' g e x.1 x.2.1 x.2.2.1 x.2.2.2.1 x.2.2.2.2 with
    | none => (k, x)
    | some y => gRun F A B n n' g e d (k + 1) y
/-! ===== what nodes are; what holds as a tree grows ===== -/
def NdO (N : Nat → Nd) (k : Nat) : Prop :=
  (ndR (N k) = -2 ∧ ndC (N k) = [] ∧ ndK (N k) < 12 ∧ ndT (N k) = 1 ∧ (ndS (N k) = -2 ∨ ∃ s : Nat, s < 21 ∧ ndS (N k) = s)) ∨
  (∃ r s : Nat, r < 11 ∧ s < 21 ∧ ndR (N k) = r ∧ ndS (N k) = s ∧ ldN s (syN r) ≠ 0 ∧ (ndC (N k)).map (fun c => ndM (N c)) = rhS r ∧ (∀ c ∈ ndC (N k), c < k) ∧ ndT (N k) = tkS N (ndC (N k)))
def NdOk (m : Nat) (N : Nat → Nd) : Prop := ∀ k, k < m → NdO N k
theorem NdOk.ch {m : Nat} {N : Nat → Nd} (h : NdOk m N) : ∀ k, k < m → (ndC (N k)).length ≤ 4 := fun k hk => by
  rcases h k hk with ⟨-, e, -⟩ | ⟨r, s, hr, -, -, -, -, e, -⟩
  · rw [e]
    exact Nat.zero_le 4
  · have h1 := congrArg List.length e
    rw [List.length_map, (rh_fin r hr).1] at h1
    have := (ln_fin r hr).2
    change lnN r ≤ 4 at this
    omega
theorem NdOk.sta {m : Nat} {N : Nat → Nd} (h : NdOk m N) : ∀ k, k < m → ndS (N k) = -2 ∨ ∃ s : Nat, s < 21 ∧ ndS (N k) = s := fun k hk => by
  rcases h k hk with ⟨-, -, -, -, e⟩ | ⟨r, s, -, hs, -, e, -⟩
  · exact e
  · exact Or.inr ⟨s, hs, e⟩
theorem NdOk.sym {m : Nat} {N : Nat → Nd} (h : NdOk m N) : ∀ k, k < m → ndM (N k) < 17 := fun k hk => by
  unfold ndM
  rcases h k hk with ⟨e, -, e2, -⟩ | ⟨r, s, hr, -, e, -⟩
  · rw [e, if_pos (by decide)]
    omega
  · rw [e, if_neg (by omega)]
    have := (sy_fin r hr).2
    change syN r < 5 at this
    show syN r < 17
    omega
/-- alike but for STATES -/
def NdE (x y : Nd) : Prop := ndR y = ndR x ∧ ndK y = ndK x ∧ ndT y = ndT x ∧ ndB y = ndB x ∧ ndC y = ndC x ∧ ndY y = ndY x
theorem stNd_E {x : Nd} {s : Nat} : NdE x (stNd x s) := by
  unfold stNd
  by_cases h : 0 ≤ ndS x
  · rw [if_pos h]
    exact ⟨rfl, rfl, rfl, rfl, rfl, rfl⟩
  · rw [if_neg h]
    exact ⟨rfl, rfl, rfl, rfl, rfl, rfl⟩
theorem NdE.M {x y : Nd} (h : NdE x y) : ndM y = ndM x := by
  unfold ndM
  rw [h.1, h.2.1]
theorem tkS_cg {N N' : Nat → Nd} {l : List Nat} (h : ∀ c ∈ l, ndT (N' c) = ndT (N c)) : tkS N' l = tkS N l := by
  unfold tkS
  rw [List.map_congr_left h]
/-- nodes of a TREE alike but for STATES; STATES, if any, stay -/
theorem NdO.cg {k : Nat} {N N' : Nat → Nd} (h : NdO N k) (e : ∀ c, c ≤ k → NdE (N c) (N' c)) (hs : ndS (N' k) = ndS (N k) ∨ (ndS (N k) < 0 ∧ ∃ s : Nat, s < 21 ∧ ndS (N' k) = s)) : NdO N' k := by
  obtain ⟨e1, e2, e3, e4, e5, e6⟩ := e k (Nat.le_refl k)
  unfold NdO
  rw [e1, e2, e3, e5]
  rcases h with ⟨q1, q2, q3, q4, q5⟩ | ⟨r, s, q1, q2, q3, q4, q5, q6, q7, q8⟩
  · refine Or.inl ⟨q1, q2, q3, q4, ?_⟩
    rcases hs with u | ⟨-, u⟩
    · rw [u]
      exact q5
    · exact Or.inr u
  · refine Or.inr ⟨r, s, q1, q2, q3, ?_, q5, ?_, q7, ?_⟩
    · rcases hs with u | ⟨u, -⟩
      · rw [u]
        exact q4
      · omega
    · rw [← q6]
      exact List.map_congr_left (fun c hc => (e c (by have := q7 c hc; omega)).M)
    · rw [q8]
      exact (tkS_cg (fun c hc => (e c (by have := q7 c hc; omega)).2.2.1)).symm
theorem upN_stE {N : Nat → Nd} {c s : Nat} (k : Nat) : NdE (N k) (upN N c (stNd (N c) s) k) := by
  by_cases u : k = c
  · subst u
    rw [upN_self]
    exact stNd_E
  · rw [upN_o u]
    exact ⟨rfl, rfl, rfl, rfl, rfl, rfl⟩
theorem upN_stS {N : Nat → Nd} {c s : Nat} (k : Nat) : ndS (upN N c (stNd (N c) s) k) = ndS (N k) ∨ (ndS (N k) < 0 ∧ ndS (upN N c (stNd (N c) s) k) = (s : Int)) := by
  by_cases u : k = c
  · subst u
    rw [upN_self]
    unfold stNd
    by_cases h : 0 ≤ ndS (N k)
    · rw [if_pos h]
      exact Or.inl rfl
    · rw [if_neg h]
      exact Or.inr ⟨by omega, rfl⟩
  · rw [upN_o u]
    exact Or.inl rfl
theorem NdOk.st {m c s : Nat} {N : Nat → Nd} (h : NdOk m N) (hs : s < 21) : NdOk m (upN N c (stNd (N c) s)) := fun k hk =>
  (h k hk).cg (fun c _ => upN_stE c) ((upN_stS k).imp id (fun q => ⟨q.1, s, hs, q.2⟩))
/-- what is on the stack has the symbols by which its STATES are come to -/
def StA (N : Nat → Nd) (st : List (Nat × Nat)) : Prop := ∀ (j : Nat) (p : Nat × Nat), 1 ≤ j → st[j]? = some p → ndM (N p.1) = acS p.2
theorem StA.cg {m : Nat} {N N' : Nat → Nd} {st : List (Nat × Nat)} (h : StA N st) (ok : StOk m st) (e : ∀ c, c < m → ndM (N' c) = ndM (N c)) : StA N' st := fun j p hj hp => by
  rw [e p.1 ((ok j p hp).2 hj)]
  exact h j p hj hp
theorem StA.take {N : Nat → Nd} {st : List (Nat × Nat)} {n : Nat} (h : StA N st) : StA N (st.take n) := fun j p hj hp => by
  by_cases u : j < n
  · rw [List.getElem?_take, if_pos u] at hp
    exact h j p hj hp
  · rw [List.getElem?_take, if_neg u] at hp
    cases hp
theorem StA.snoc {N : Nat → Nd} {st : List (Nat × Nat)} {c s : Nat} (h : StA N st) (e : ndM (N c) = acS s) : StA N (st ++ [(c, s)]) := fun j p hj hp => by
  by_cases u : j < st.length
  · rw [List.getElem?_append_left u] at hp
    exact h j p hj hp
  · have hq2 := (List.getElem?_eq_some_iff.mp hp).1
    rw [List.length_append] at hq2
    have hj : j = st.length := by
      have : [(c, s)].length = 1 := rfl
      omega
    rw [hj, List.getElem?_append_right (Nat.le_refl _), Nat.sub_self] at hp
    cases hp
    exact e
theorem FlG.cg {m m' n' : Nat} {F : List Fl} {N N' : Nat → Nd} (h : FlG m F N n') (hm : m ≤ m') (e : ∀ c, c < m → NdE (N c) (N' c)) (e2 : ∀ c, c < m → 0 ≤ ndS (N c) → ndS (N' c) = ndS (N c)) : FlG m' F N' n' := by
  obtain ⟨h1, h2, h3⟩ := h
  refine ⟨⟨h1.1, fun p x hp => ⟨Nat.lt_of_lt_of_le (h1.2 p x hp).1 hm, (h1.2 p x hp).2⟩⟩, h2, fun p x hp => ?_⟩
  obtain ⟨a1, ⟨k, k1, k2⟩, a3⟩ := h3 p x hp
  have hx := (h1.2 p x hp).1
  rw [(e _ hx).2.2.1]
  refine ⟨a1, ⟨k, k1, ?_⟩, fun q => ?_⟩
  · rw [e2 _ hx (by omega)]
    exact k2
  · obtain ⟨y, r, y1, y2, y3, y4⟩ := a3 q
    refine ⟨y, r, y1, y2, ?_, y4⟩
    rw [(e _ (h1.2 _ y y1).1).1]
    exact y3
/-- the new tokens and the flat TREE: what does not change as it grows -/
def GE (F : List Fl) (A B n n' : Nat) (g kd : Nat → Nat) : Prop :=
  n ≤ 100 ∧ n' ≤ 100 ∧ A + B ≤ n ∧ A + B ≤ n' ∧ 1 ≤ B ∧ (∀ i, i < n → kd i < 12 ∧ (kd i = 10 ↔ i + 1 = n)) ∧
  ∀ i, i < n → ∀ j, wasN A B n n' i = some j → (j + 1 = n' → ∀ (p : Nat) (x : Fl), F[p]? = some x → x.1 ≠ g i) ∧ (j + 1 < n' → ∃ (p : Nat) (x : Fl), F[p]? = some x ∧ x.1 = g i ∧ 1 ≤ p ∧ x.2.2.1 = (j : Int))
/-- k steps done, m1 nodes ahead of the first -/
def GI (F : List Fl) (n n' : Nat) (g kd : Nat → Nat) (m1 i m : Nat) (N : Nat → Nd) (st : List (Nat × Nat)) (k : Nat) : Prop :=
  i < n ∧ (1 ≤ st.length ∧ StP st ∧ StOk m st ∧ StA N st) ∧ 8 * st.length + rkS (topS st) + 18 * (n - 1 - i) + k ≤ 1900 ∧ (m1 ≤ m ∧ (2 : Int) * ((m : Int) - m1) ≤ 3 * i + wSum st) ∧ NdOk m N ∧ FlG m F N n' ∧ ∀ i, i < n → g i < m ∧ ndR (N (g i)) = -2 ∧ ndK (N (g i)) = kd i
theorem wasN_lt {A B n n' i j : Nat} (hi : i < n) (hA : A ≤ n') (hB : B ≤ n') (hBn : B ≤ n) (hw : wasN A B n n' i = some j) : j < n' := by
  unfold wasN at hw
  by_cases c1 : i < A
  · rw [if_pos c1] at hw
    cases hw
    omega
  · rw [if_neg c1] at hw
    by_cases c2 : n - B ≤ i
    · rw [if_pos c2] at hw
      cases hw
      omega
    · rw [if_neg c2] at hw
      cases hw
/-- a sound node's tokens lie ahead of END -/
theorem snd_in {A B n n' i j f : Nat} (hAn : A + B ≤ n) (hAn' : A + B ≤ n') (hB : 1 ≤ B) (hw : wasN A B n n' i = some j) (hs : sndP A B n' n j f) (hf : j + f < n') (hf1 : 1 ≤ f) : i + f < n := by
  unfold wasN at hw
  have a0 : sndP A B n' n j f = (j + f < A ∨ n' - B ≤ j ∨ (A + B = n' ∧ n' = n)) := rfl
  rw [a0] at hs
  by_cases c1 : i < A
  · rw [if_pos c1] at hw
    cases hw
    omega
  · rw [if_neg c1] at hw
    by_cases c2 : n - B ≤ i
    · rw [if_pos c2] at hw
      cases hw
      omega
    · rw [if_neg c2] at hw
      cases hw
theorem GE.cw {F : List Fl} {A B n n' m i : Nat} {g kd : Nat → Nat} {N : Nat → Nd} (ge : GE F A B n n' g kd) (hF : FlG m F N n') (hi : i < n) : ∀ j, wasN A B n n' i = some j → ∀ (p : Nat) (x : Fl), F[p]? = some x → x.1 = g i → 1 ≤ p ∧ 0 ≤ x.2.2.1 := by
  intro j hw p x hp hx
  obtain ⟨g1, g2, g3, g4, g5, g6, g7⟩ := ge
  have hj := wasN_lt hi (by omega) (by omega) (by omega) hw
  obtain ⟨w1, w2⟩ := g7 i hi j hw
  by_cases c : j + 1 = n'
  · exact absurd hx (w1 c p x hp)
  · obtain ⟨p', x', a1, a2, a3, a4⟩ := w2 (by omega)
    have : p = p' := hF.2.1 p p' x x' hp a1 (hx.trans a2.symm)
    subst this
    rw [hp] at a1
    cases a1
    exact ⟨a3, by omega⟩
/-- what is taken is a node by a RULE, begun in the STATE, with TOKENS that lie ahead of END -/
theorem GI.taken {F : List Fl} {A B n n' m1 i m k b : Nat} {g kd : Nat → Nat} {N : Nat → Nd} {st : List (Nat × Nat)} (ge : GE F A B n n' g kd) (h : GI F n n' g kd m1 i m N st k) (hb : bestOf F N A B n n' i (topS st) (g i) = some b) : b < m ∧ ∃ r : Nat, r < 11 ∧ ndR (N b) = (r : Int) ∧ ndM (N b) = syN r ∧ ldN (topS st) (syN r) ≠ 0 ∧ 1 ≤ ndT (N b) ∧ i + ndT (N b) < n := by
  obtain ⟨hi, ⟨s1, s2, s3, s4⟩, hf, ⟨hm1, hmk⟩, hN, hF, hg⟩ := h
  obtain ⟨j, hj, p, x, r, b1, b2, b3, b4, b5, b6, b7⟩ := bestOf_ok hF (ge.cw hF hi) hb
  obtain ⟨g1, g2, g3, g4, g5, g6, g7⟩ := ge
  have hbm : b < m := b2 ▸ (hF.1.2 p x b1).1
  have hsy : ndM (N b) = syN r := by
    unfold ndM
    rw [b5, if_neg (by omega)]
    rfl
  have hjn := wasN_lt hi (by omega) (by omega) (by omega) hj
  rcases (hF.2.2 p x b1).1 with hf | ⟨f, hf, hf1, hf2⟩
  · omega
  rw [b2] at hf1 hf2
  have hfj : f = j := by omega
  subst hfj
  refine ⟨hbm, r, b4, b5, hsy, ?_, hf1, snd_in (by omega) (by omega) (by omega) hj b7 hf2 hf1⟩
  rcases hN b hbm with ⟨q1, -⟩ | ⟨r', s', q1, q2, q3, q4, q5, -⟩
  · omega
  · have e1 : r' = r := by omega
    have e2 : s' = topS st := by omega
    rw [← e1, ← e2]
    exact q5
theorem GI.nx {F : List Fl} {A B n n' e m1 i m k tk : Nat} {g kd : Nat → Nat} {N : Nat → Nd} {st : List (Nat × Nat)} {y : Gs} (ge : GE F A B n n' g kd) (h : GI F n n' g kd m1 i m N st k) (e1 : gNx F A B n n' g e i m N st tk = some y) : GI F n n' g kd m1 y.1 y.2.1 y.2.2.1 y.2.2.2.1 (k + 1) := by
  have hT := fun b hb => GI.taken (b := b) ge h hb
  obtain ⟨g1, g2, g3, g4, g5, g6, g7⟩ := ge
  obtain ⟨hi, ⟨s1, s2, s3, s4⟩, hf, ⟨hm1, hmk⟩, hN, hF, hg⟩ := h
  obtain ⟨p0, t1, t2⟩ := top_at s1
  have hs21 : topS st < 21 := t2 ▸ (s3 _ p0 t1).1
  have hrk := rk_le _ hs21
  unfold gNx at e1
  cases hb : bestOf F N A B n n' i (topS st) (g i) with
  | some b =>
    rw [hb] at e1
    cases e1
    obtain ⟨hbm, r, b4, b5, hsy, hld, hf1, hin⟩ := hT b hb
    have hsy5 := (sy_fin r b4).2
    change syN r < 5 at hsy5
    rw [hsy]
    have hac := ac_fin _ hs21 (syN r) (by omega) hld
    have hcs : -2 ≤ cS (syN r) := by
      unfold cS
      repeat' split
      all_goals omega
    have hrk2 := rk_le _ (ldN_lt (s := topS st) (y := syN r) hs21 (by omega))
    have hlen : (st ++ [(b, ldN (topS st) (syN r))]).length = st.length + 1 := List.length_append
    dsimp only
    refine ⟨hin, ⟨by rw [hlen]; omega, s2.snoc t1 s1 (y := syN r) (by omega) (by rw [t2]) hld, s3.snoc hbm (ldN_lt hs21 (by omega)), s4.snoc (by rw [hsy, hac])⟩, ?_, ⟨hm1, ?_⟩, hN, hF, hg⟩
    · skip
      rw [hlen, topS_snoc]
      dsimp only
      omega
    · skip
      rw [wSum_snoc]
      dsimp only
      rw [hac]
      omega
  | none =>
    rw [hb] at e1
    obtain ⟨hgm, hgR, hgK⟩ := hg i hi
    by_cases hz : ldN (topS st) (ndM (N (g i))) = 0
    · rw [if_pos hz] at e1
      cases hr : rlN (topS st) with
      | none =>
        rw [hr] at e1
        cases e1
      | some r =>
        rw [hr] at e1
        cases e1
        have hr11 := rlN_lt hs21 hr
        obtain ⟨f1, f2⟩ := st_fits s2 s3 s1 t1 t2 hr
        obtain ⟨o1, o2⟩ := byT_ok s2 s3 s1 t1 t2 hr
        have hrh := st_rhs s2 s3 s1 t1 t2 hr
        obtain ⟨rh1, rh2⟩ := rh_fin r hr11
        have hsy5 := (sy_fin r hr11).2
        change syN r < 5 at hsy5
        have hbs : byS st r ∈ bkT (lnN r) (topS st) := by
          have := bk_mem s2 s3 t1 (lnN r) (st.getD (st.length - lnN r - 1) (0, 0)) (by omega) (by
            rw [show st.length - 1 - lnN r = st.length - lnN r - 1 by omega, List.getD_eq_getElem?_getD, List.getElem?_eq_getElem (by omega)]
            rfl)
          rw [t2] at this
          exact this
        have hb21 : byS st r < 21 := (s3 (st.length - lnN r - 1) (st.getD (st.length - lnN r - 1) (0, 0)) (by
            rw [List.getD_eq_getElem?_getD, List.getElem?_eq_getElem (by omega)]
            rfl)).1
        have hrk3 := (ru_fin2 hs21 hr).2 _ hbs
        have hac := ac_fin _ hb21 (syN r) (by omega) f2
        have hM : ndM (byN N st r e) = syN r := ndM_rl
        have hlen : (byT m st r).length = st.length - lnN r + 1 := by
          unfold byT
          rw [List.length_append, List.length_take, Nat.min_eq_left (by omega)]
          rfl
        have hE : ∀ c, c < m → NdE (N c) (upN N m (byN N st r e) c) := fun c hc => by
          rw [upN_o (by omega)]
          exact ⟨rfl, rfl, rfl, rfl, rfl, rfl⟩
        have hCm : ∀ c ∈ byC st r, c < m := fun c hc => by
          unfold byC at hc
          obtain ⟨p, hp, rfl⟩ := List.mem_map.mp hc
          obtain ⟨j, hj⟩ := List.mem_iff_getElem?.mp hp
          rw [List.getElem?_drop] at hj
          exact (s3 _ p hj).2 (by omega)
        dsimp only
        refine ⟨hi, ⟨by rw [hlen]; omega, o1, o2, ?_⟩, ?_, ⟨by omega, ?_⟩, fun k hk => ?_, hF.cg (Nat.le_succ m) hE (fun c hc _ => by rw [upN_o (by omega)]), fun i' hi' => ?_⟩
        · unfold byT
          exact ((s4.cg s3 (fun c hc => (hE c hc).M)).take).snoc (by rw [upN_self, hM, hac])
        · skip
          rw [hlen]
          unfold byT
          rw [topS_snoc]
          dsimp only
          omega
        · skip
          have hsp := wSum_split (st := st) (st.length - lnN r)
          have hdr : wSum (st.drop (st.length - lnN r)) = ((rhS r).map cS).sum := by
            unfold wSum
            rw [← hrh, List.map_map]
            rfl
          unfold byT
          rw [wSum_snoc]
          dsimp only
          rw [hac]
          omega
        · by_cases u : k = m
          · subst u
            refine Or.inr ⟨r, byS st r, hr11, hb21, ?_, ?_, f2, ?_, ?_, ?_⟩
            · rw [upN_self]
              rfl
            · rw [upN_self]
              rfl
            · rw [upN_self]
              show (byC st r).map _ = _
              rw [← hrh]
              unfold byC
              rw [List.map_map]
              refine List.map_congr_left (fun p hp => ?_)
              obtain ⟨j, hj⟩ := List.mem_iff_getElem?.mp hp
              rw [List.getElem?_drop] at hj
              show ndM (upN N k (byN N st r e) p.1) = acS p.2
              rw [upN_o (by have := (s3 _ p hj).2 (by omega); omega)]
              exact s4 _ p (by omega) hj
            · rw [upN_self]
              exact hCm
            · rw [upN_self]
              exact (tkS_cg (fun c hc => by rw [upN_o (by have := hCm c hc; omega)])).symm
          · refine (hN k (by omega)).cg (fun c hc => hE c (by omega)) (Or.inl ?_)
            rw [upN_o u]
        · obtain ⟨w1, w2, w3⟩ := hg i' hi'
          rw [upN_o (by omega)]
          exact ⟨by omega, w2, w3⟩
    · rw [if_neg hz] at e1
      cases e1
      have hM : ndM (N (g i)) = 5 + kd i := by
        unfold ndM
        rw [hgR, if_pos (by decide), hgK]
      obtain ⟨k1, k2⟩ := g6 i hi
      rw [hM] at hz ⊢
      have hac := ac_fin _ hs21 (5 + kd i) (by omega) hz
      have hin : i + 1 < n := by
        refine Nat.lt_of_le_of_ne (by omega) (fun u => ?_)
        have := k2.mpr u
        rw [this] at hz
        exact hz (end_fin _ hs21)
      have hrk2 := rk_le _ (ldN_lt (s := topS st) (y := 5 + kd i) hs21 (by omega))
      have hlen : (st ++ [(g i, ldN (topS st) (5 + kd i))]).length = st.length + 1 := List.length_append
      have hcs : cS (5 + kd i) = -3 := by
        unfold cS
        rw [if_neg (by omega), if_neg (by omega), if_neg (by omega), if_neg (by omega), if_neg (by omega), if_neg (by omega)]
      dsimp only
      refine ⟨hin, ⟨by rw [hlen]; omega, s2.snoc t1 s1 (y := 5 + kd i) (by omega) (by rw [t2]) hz, s3.snoc hgm (ldN_lt hs21 (by omega)), (s4.cg s3 (fun c _ => (upN_stE c).M)).snoc (by rw [(upN_stE (g i)).M, hM, hac])⟩, ?_, ⟨hm1, ?_⟩, hN.st hs21, hF.cg (Nat.le_refl m) (fun c _ => upN_stE c) (fun c _ hc => ?_), fun i' hi' => ?_⟩
      · skip
        rw [hlen, topS_snoc]
        dsimp only
        omega
      · skip
        rw [wSum_snoc]
        dsimp only
        rw [hac, hcs]
        omega
      · rcases upN_stS (N := N) (c := g i) (s := topS st) c with u | ⟨u, -⟩
        · exact u
        · omega
      · obtain ⟨w1, w2, w3⟩ := hg i' hi'
        obtain ⟨v1, v2, -⟩ := upN_stE (N := N) (c := g i) (s := topS st) (g i')
        exact ⟨w1, by rw [v1]; exact w2, by rw [v2]; exact w3⟩
/-! ===== growing: the class ===== -/
theorem GI.bd {F : List Fl} {n n' m1 i m k : Nat} {g kd : Nat → Nat} {N : Nat → Nd} {st : List (Nat × Nat)} (hn : n ≤ 100) (h : GI F n n' g kd m1 i m N st k) : st.length < 300 ∧ m1 ≤ m ∧ m ≤ m1 + 149 ∧ k ≤ 1892 := by
  obtain ⟨hi, ⟨s1, s2, s3, s4⟩, hf, ⟨hm1, hmk⟩, hN, hF, hg⟩ := h
  have := wSum_le2 s2 s3 s1
  refine ⟨by omega, hm1, by omega, by omega⟩
theorem gRun_end {F : List Fl} {A B n n' e m1 : Nat} {g kd : Nat → Nat} (ge : GE F A B n n' g kd) : ∀ (d k : Nat) (x : Gs), GI F n n' g kd m1 x.1 x.2.1 x.2.2.1 x.2.2.2.1 k → 1900 < d + k → ∃ (k' : Nat) (y : Gs), gRun F A B n n' g e d k x = (k', y) ∧ GI F n n' g kd m1 y.1 y.2.1 y.2.2.1 y.2.2.2.1 k' ∧ gNx F A B n n' g e y.1 y.2.1 y.2.2.1 y.2.2.2.1 y.2.2.2.2 = none
  | 0, k, x, h, hk => by
    have := (h.bd ge.1).2.2.2
    omega
  | d + 1, k, x, h, hk => by
    show ∃ (k' : Nat) (y : Gs), (match gNx F A B n n' g e x.1 x.2.1 x.2.2.1 x.2.2.2.1 x.2.2.2.2 with
      | none => (k, x)
      | some y => gRun F A B n n' g e d (k + 1) y) = (k', y) ∧ _
    cases e1 : gNx F A B n n' g e x.1 x.2.1 x.2.2.1 x.2.2.2.1 x.2.2.2.2 with
    | none => exact ⟨k, x, rfl, h, e1⟩
    | some y => exact gRun_end ge d (k + 1) y (h.nx ge e1) (by omega)
theorem gRun_at {F : List Fl} {A B n n' e d k : Nat} {g : Nat → Nat} {x : Gs} : gRun F A B n n' g e (d + 1) k x = match gNx F A B n n' g e x.1 x.2.1 x.2.2.1 x.2.2.2.1 x.2.2.2.2 with
      | none => (k, x)
      | some y => gRun F A B n n' g e d (k + 1) y := rfl
theorem RepNX.kp {I J : zI} {m : Nat} {N : Nat → Nd} (rep : RepNX I m N) (hc : ∀ k, k < m → (ndC (N k)).length ≤ 4) (e : ∀ a j, 24 ≤ a → a ≤ 42 → (a = 24 → j = 9) → J.1 a j = I.1 a j) : RepNX J m N :=
  ⟨by rw [e 24 9 (by decide) (by decide) (fun _ => rfl)]; exact rep.1, fun k hk => (rep.2 k hk).kept (hc k hk) (fun a h1 h2 => e a k (by omega) (by omega) (by omega)) (fun i hi => e 42 _ (by decide) (by decide) (by omega))⟩
theorem StX.kp {I J : zI} {st : List (Nat × Nat)} (h : StX I st) (e1 : J.1 64 4 = I.1 64 4) (e2 : ∀ j, J.1 66 j = I.1 66 j) (e3 : ∀ j, J.1 68 j = I.1 68 j) : StX J st :=
  ⟨h.1, e1.trans h.2.1, fun j p hp => by rw [e2, e3]; exact h.2.2 j p hp⟩
def Qgx (m1 a j : Nat) : Prop := Qnx m1 a j ∨ a = 30 ∨ (a = 64 ∧ (j = 4 ∨ (10 ≤ j ∧ j ≤ 13))) ∨ a = 66 ∨ a = 68
def GX (I0 I : zI) (m1 k : Nat) (x : Gs) : Prop :=
  eqQ (Qgx m1) I0 I ∧ RepNX I x.2.1 x.2.2.1 ∧ StX I x.2.2.2.1 ∧ I.1 64 10 = zi (x.2.1 - m1) ∧ I.1 64 11 = zi x.2.2.2.2 ∧ I.1 64 12 = zi k
theorem FlX.kp {I J : zI} {F : List Fl} (h : FlX I F) (e : ∀ a j, 43 ≤ a → a ≤ 51 → J.1 a j = I.1 a j) : FlX J F :=
  ⟨by rw [e _ _ (by decide) (by decide)]; exact h.1, fun p x hp => by
    obtain ⟨h1, h2, h3, h4⟩ := h.2 p x hp
    rw [e 45 _ (by decide) (by decide), e 47 _ (by decide) (by decide), e 49 _ (by decide) (by decide), e 51 _ (by decide) (by decide)]
    exact ⟨h1, h2, h3, h4⟩⟩
theorem s_growAll {a1 A B n n' e m1 R : Nat} {g kd : Nat → Nat} {F : List Fl} {N : Nat → Nd} {I : zI} {K : Int32 → zI → Prop} (ha1 : a1 + 15 < 24 ∨ 113 ≤ a1) (ge : GE F A B n n' g kd) (hi : GI F n n' g kd m1 0 m1 N [(0, 0)] 0) (hm1 : m1 ≤ 3200) (rep : RepNX I m1 N) (hF : FlX I F) (hR : I.1 43 13 = zi R) (hR0 : ∃ x : Fl, F[0]? = some x ∧ x.1 = R) (hpl : ∀ c, c < 3400 → ∃ p, p < 400 ∧ I.1 47 c = zi p)
    (h5 : I.1 64 5 = zi n') (h6 : I.1 64 6 = zi n) (h7 : I.1 64 7 = zi A) (h8 : I.1 64 8 = zi B) (hg : ∀ i, i < n → I.1 (a1 + 15) i = zi (g i))
    (hK : ∀ J k y, gRun F A B n n' g e 2000 0 (0, m1, N, [(0, 0)], 0) = (k, y) → GI F n n' g kd m1 y.1 y.2.1 y.2.2.1 y.2.2.2.1 k → GX (I := J) I m1 k y → J.1 64 13 = (if y.1 + 1 = n ∧ topS y.2.2.2.1 = 1 then -2 else zi y.1) → K (if y.1 + 1 = n ∧ topS y.2.2.2.1 = 1 then 1 else 0) J) : w_Grower_growAll a1 (zi e) I K := by
  unfold w_Grower_growAll
  intro I1 e1 I2 e2 I3 e3 I4 e4 I5 e5
  refine (w_set (by decide)).mpr ?_
  rw [show rs I5 (65 + 1) 300 0 0 = zu I5 66 0 (zi 0) from rs_in (i := 0) (by decide) (by decide)]
  generalize e6 : zu I5 66 0 (zi 0) = I6
  have q6 : eqQ (Qgx m1) I I6 := by
    rw [← e6, e5, e4, e3, e2, e1]
    exact ((((((eqQ.rf.zu (Or.inr (Or.inr (Or.inl (by omega))))).zu (Or.inr (Or.inr (Or.inl (by omega))))).zu (Or.inr (Or.inr (Or.inl (by omega))))).zu (Or.inr (Or.inr (Or.inl (by omega))))).zu (Or.inr (Or.inr (Or.inl (by omega))))).zu (Or.inr (Or.inr (Or.inr (Or.inl rfl)))))
  have o6 : ∀ a j, a ≠ 64 → a ≠ 66 → I6.1 a j = I.1 a j := fun a j u v => by rw [← e6, zu_oo v, e5, zu_oo u, e4, zu_oo u, e3, zu_oo u, e2, zu_oo u, e1, zu_oo u]
  have X0 : GX I I6 m1 0 (0, m1, N, [(0, 0)], 0) := by
    refine ⟨q6, rep.kp hi.2.2.2.2.1.ch (fun a j h1 h2 _ => o6 a j (by omega) (by omega)), ⟨Nat.le_refl 1, ?_, fun j p hp => ?_⟩, ?_, ?_, ?_⟩
    · rw [← e6, zu_oo (by decide), e5, zu_self]
      rfl
    · have hj := (List.getElem?_eq_some_iff.mp hp).1
      have hj0 : j = 0 := by
        change j < 1 at hj
        omega
      subst hj0
      cases hp
      refine ⟨by rw [← e6, zu_self], fun u => by omega⟩
    · rw [← e6, zu_oo (by decide), e5, zu_at, if_neg (by decide), e4, zu_at, if_neg (by decide), e3, zu_at, if_neg (by decide), e2, zu_at, if_neg (by decide), e1, zu_self, Nat.sub_self]
      rfl
    · rw [← e6, zu_oo (by decide), e5, zu_at, if_neg (by decide), e4, zu_at, if_neg (by decide), e3, zu_at, if_neg (by decide), e2, zu_self]
      rfl
    · rw [← e6, zu_oo (by decide), e5, zu_at, if_neg (by decide), e4, zu_at, if_neg (by decide), e3, zu_self]
      rfl
  intro P40 h40
  have main : ∀ (d k : Nat) (x : Gs) (J : zI), GI F n n' g kd m1 x.1 x.2.1 x.2.2.1 x.2.2.2.1 k → 1900 < d + k → GX I J m1 k x → gRun F A B n n' g e 2000 0 (0, m1, N, [(0, 0)], 0) = gRun F A B n n' g e d k x → P40 (zi x.1) (zi k) J := by
    intro d
    induction d with
    | zero =>
      intro k x J hx hk
      have := (hx.bd ge.1).2.2.2
      omega
    | succ d ih =>
      intro k x J hx hk hX hrun
      obtain ⟨i, m, M, st, tk⟩ := x
      dsimp only at hx ⊢
      obtain ⟨b1, b2, b3, b4⟩ := hx.bd ge.1
      refine h40 _ _ _ ?_
      rw [if_neg (show ¬ (10000 : Int32) ≤ zi k from fun u => by have := (zi_le (a := 10000) (by decide) (by omega)).mp u; omega)]
      obtain ⟨x1, x2, x3, x4, x5, x6⟩ := id hX
      dsimp only at x2 x3 x4 x5
      obtain ⟨v1, ⟨s1, s2, s3, s4⟩, v3, v4, v5, v6, v7⟩ := id hx
      obtain ⟨g1, g2, g3, g4, g5, g6, g7⟩ := id ge
      obtain ⟨p0, t1, t2⟩ := top_at s1
      have hs21 : topS st < 21 := t2 ▸ (s3 _ p0 t1).1
      rw [gRun_at (d := d)] at hrun
      dsimp only at hrun
      have ch := v5.ch
      have cst : ∀ a j, ¬ Qgx m1 a j → J.1 a j = I.1 a j := fun a j u => x1.1 a j u
      obtain ⟨w1, w2, w3⟩ := v7 i v1
      -- what follows a step
      have nxt : ∀ (y : Gs) (I' : zI), gNx F A B n n' g e i m M st tk = some y → GX I I' m1 k y → ∀ I18, I18 = zu I' 64 12 (I'.1 64 12 + 1) → ∀ v4_19, v4_19 = zi k + 1 → P40 (zi y.1) v4_19 I18 := by
        intro y I' hy hX' I18 e18 v ev
        rw [ev, zi_succ]
        have hy2 := hx.nx ge hy
        obtain ⟨y1, y2, y3, y4, y5, y6⟩ := hX'
        have o : ∀ a j, ¬ (a = 64 ∧ j = 12) → I18.1 a j = I'.1 a j := fun a j u => by rw [e18, zu_at, if_neg u]
        refine ih (k + 1) y I18 hy2 (by omega) ⟨?_, y2.kp hy2.2.2.2.2.1.ch (fun a j h1 h2 _ => o a j (by omega)), y3.kp (o _ _ (by omega)) (fun j => o _ _ (by omega)) (fun j => o _ _ (by omega)), by rw [o _ _ (by omega)]; exact y4, by rw [o _ _ (by omega)]; exact y5, ?_⟩ ?_
        · rw [e18]
          exact y1.zu (Or.inr (Or.inr (Or.inl (by omega))))
        · rw [e18, zu_self, y6, zi_succ]
        · rw [hrun, hy]
      refine (w_get (by decide)).mpr ?_
      rw [rg_in (by decide) (show i < 100 by omega), show J.1 (a1 + 14 + 1) i = zi (g i) by rw [cst _ _ (by unfold Qgx Qnx; omega)]; exact hg i v1]
      refine s_putSound x2 (by omega) w1 (hF.kp (fun a j h1 h2 => cst a j (by unfold Qgx Qnx; omega))) v6 (by rw [cst _ _ (by unfold Qgx Qnx; omega)]; exact hR) hR0 (by obtain ⟨p, p1, p2⟩ := hpl (g i) (by omega); exact ⟨p, p1, by rw [cst _ _ (by unfold Qgx Qnx; omega)]; exact p2⟩) x3 s3 b1 t1 t2 (by rw [cst _ _ (by unfold Qgx Qnx; omega)]; exact h5) (by rw [cst _ _ (by unfold Qgx Qnx; omega)]; exact h6) (by rw [cst _ _ (by unfold Qgx Qnx; omega)]; exact h7) (by rw [cst _ _ (by unfold Qgx Qnx; omega)]; exact h8) (by omega) (by omega) (by omega) (by omega) g1 g2 v1 (ge.cw v6 v1) ?_ ?_
      · intro hb P80 h80
        rw [if_pos rfl]
        refine s_putToken x2 ch (by omega) w1 x3 s3 b1 t1 t2 (v5.sym _ w1) (v5.sta _ w1) ?_ ?_
        · intro hz
          refine h80 _ _ ?_
          intro v ev P148 h148
          rw [if_pos rfl]
          have ev2 : v = zi i := by rw [ev]; exact Int32.add_zero _
          subst ev2
          refine s_makeByRule x2 ch (by omega) x3 s3 b1 t1 t2 (fun r hr => (st_fits s2 s3 s1 t1 t2 hr).1) ?_ ?_
          · intro hr
            rw [if_pos rfl]
            have hy : gNx F A B n n' g e i m M st tk = none := by
              unfold gNx
              rw [hb]
              dsimp only
              rw [if_pos hz, hr]
            rw [hy] at hrun
            have hK2 := fun J' => hK J' k (i, m, M, st, tk) hrun hx
            dsimp only at hK2
            have exit : ∀ (t : Int32), t = (if i + 1 = n ∧ topS st = 1 then 1 else 0) → ∀ (P142 : Int32 → Prop), (∀ (t_23 : Int32), (∀ I_24, I_24 = (zu J 64 13 t_23) → zb t ∧ K t I_24) → P142 t_23) → (if t = 0 then P142 (zi i) else (P142 (-2))) := by
              intro t ht P142 h142
              have hfin : ∀ w : Int32, w = (if i + 1 = n ∧ topS st = 1 then -2 else zi i) → P142 w := by
                intro w hw
                refine h142 w (fun I24 e24 => ⟨?_, ?_⟩)
                · rw [ht]
                  by_cases c : i + 1 = n ∧ topS st = 1
                  · rw [if_pos c]; exact Or.inr rfl
                  · rw [if_neg c]; exact Or.inl rfl
                · have o : ∀ a j, ¬ (a = 64 ∧ j = 13) → I24.1 a j = J.1 a j := fun a j u => by rw [e24, zu_at, if_neg u]
                  rw [ht]
                  refine hK2 I24 ⟨?_, x2.kp ch (fun a j h1 h2 _ => o a j (by omega)), x3.kp (o _ _ (by omega)) (fun j => o _ _ (by omega)) (fun j => o _ _ (by omega)), by rw [o _ _ (by omega)]; exact x4, by rw [o _ _ (by omega)]; exact x5, by rw [o _ _ (by omega)]; exact x6⟩ (by rw [e24, zu_self, hw])
                  rw [e24]
                  exact x1.zu (Or.inr (Or.inr (Or.inl (by omega))))
              by_cases c : i + 1 = n ∧ topS st = 1
              · rw [if_pos c] at ht
                rw [ht, if_neg (by decide)]
                exact hfin _ (by rw [if_pos c])
              · rw [if_neg c] at ht
                rw [ht, if_pos rfl]
                exact hfin _ (by rw [if_neg c])
            intro P128 h128 P127 h127
            rw [show J.1 64 6 = zi n by rw [cst _ _ (by unfold Qgx Qnx; omega)]; exact h6, show zi n - 1 = zi (n - 1) from zi_sub (b := 1) (by omega)]
            by_cases c1 : i + 1 = n
            · rw [if_pos (show zi i = zi (n - 1) by rw [← c1]; rfl), x3.2.1]
              refine (w_get (by decide)).mpr ?_
              rw [rg_in (by decide) (show st.length - 1 < 300 by omega), show J.1 (65 + 1) (st.length - 1) = zi (topS st) from t2 ▸ (x3.2.2 _ p0 t1).1]
              by_cases c2 : topS st = 1
              · rw [if_pos (show zi (topS st) = 1 by rw [c2]; rfl)]
                exact h128 _ (exit 1 (by rw [if_pos ⟨c1, c2⟩]))
              · rw [if_neg (show ¬ zi (topS st) = 1 from fun u => c2 ((zi_eq (b := 1) (by omega) (by decide)).mp u))]
                exact h127 (h128 _ (exit 0 (by rw [if_neg (fun u => c2 u.2)])))
            · rw [if_neg (fun u => c1 (by have := (zi_eq (by omega) (by omega)).mp u; omega))]
              exact h127 (h128 _ (exit 0 (by rw [if_neg (fun u => c1 u.1)])))
          · intro r J2 hr q2 rp2 sx2 c10
            rw [if_neg (by decide)]
            refine h148 _ ?_
            have hy : gNx F A B n n' g e i m M st tk = some (i, m + 1, upN M m (byN M st r e), byT m st r, tk) := by
              unfold gNx
              rw [hb]
              dsimp only
              rw [if_pos hz, hr]
            refine nxt _ J2 hy ⟨x1.tr (q2.mono (fun a j h => by unfold Qby Qnx at h; unfold Qgx Qnx; omega)), rp2, sx2, ?_, ?_, ?_⟩
            · rw [c10, x4, zi_succ]
              dsimp only
              rw [show m - m1 + 1 = m + 1 - m1 by omega]
            · rw [q2.1 _ _ (by unfold Qby Qnx; omega)]
              exact x5
            · rw [q2.1 _ _ (by unfold Qby Qnx; omega)]
              exact x6
        · intro J2 hz q2 rp2 sx2
          refine h80 _ _ ?_
          intro v ev P148 h148
          rw [if_neg (by decide)]
          refine h148 _ ?_
          have ev2 : v = zi (i + 1) := by rw [ev]; exact zi_succ i
          subst ev2
          have hy : gNx F A B n n' g e i m M st tk = some (i + 1, m, upN M (g i) (stNd (M (g i)) (topS st)), st ++ [(g i, ldN (topS st) (ndM (M (g i))))], tk) := by
            unfold gNx
            rw [hb]
            dsimp only
            rw [if_neg hz]
          refine nxt _ J2 hy ⟨x1.tr (q2.mono (fun a j h => by unfold Qpt at h; unfold Qgx; omega)), rp2, sx2, ?_, ?_, ?_⟩
          · rw [q2.1 _ _ (by unfold Qpt; omega)]
            exact x4
          · rw [q2.1 _ _ (by unfold Qpt; omega)]
            exact x5
          · rw [q2.1 _ _ (by unfold Qpt; omega)]
            exact x6
      · intro b J2 hb q2 sx2 c11 P80 h80
        obtain ⟨hbm, r, b4', b5, hsy, hld, hf1, hin⟩ := hx.taken ge hb
        have hne : ¬ zi (ndT (M b)) = 0 := fun u => by
          have := (zi_eq (b := 0) (by omega) (by decide)).mp u
          omega
        rw [if_neg hne]
        refine h80 _ _ ?_
        intro v ev P148 h148
        rw [if_neg hne]
        refine h148 _ ?_
        have ev2 : v = zi (i + ndT (M b)) := by rw [ev]; exact zi_add _ _
        subst ev2
        have hy : gNx F A B n n' g e i m M st tk = some (i + ndT (M b), m, M, st ++ [(b, ldN (topS st) (ndM (M b)))], tk + 1) := by
          unfold gNx
          rw [hb]
        refine nxt _ J2 hy ⟨x1.tr (q2.mono (fun a j h => by unfold Qps at h; unfold Qgx; omega)), x2.kp ch (fun a j h1 h2 _ => q2.1 a j (by unfold Qps; omega)), sx2, ?_, ?_, ?_⟩
        · rw [q2.1 _ _ (by unfold Qps; omega)]
          exact x4
        · rw [c11, x5, zi_succ]
        · rw [q2.1 _ _ (by unfold Qps; omega)]
          exact x6
  exact main 2000 0 (0, m1, N, [(0, 0)], 0) I6 hi (by omega) X0 rfl
/-! ===== growing: the model ===== -/
theorem RepNM.kp {I J : zI} {m : Nat} {N : Nat → Nd} (rep : RepNM I m N) (hc : ∀ k, k < m → (ndC (N k)).length ≤ 4) (e1 : J.1 491 25 = I.1 491 25) (e : ∀ a j, 509 ≤ a → a ≤ 517 → J.1 a j = I.1 a j) (e2 : ∀ j, J.2 511 j = I.2 511 j) : RepNM J m N :=
  ⟨e1.trans rep.1, fun k hk => (rep.2 k hk).kept (hc k hk) (fun a h1 h2 _ => e a k h1 h2) (fun i hi => e 513 _ (by decide) (by decide)) (e2 k)⟩
theorem StM.kp {I J : zI} {st : List (Nat × Nat)} (h : StM I st) (e1 : J.1 491 71 = I.1 491 71) (e2 : ∀ j, J.1 539 j = I.1 539 j) (e3 : ∀ j, J.1 540 j = I.1 540 j) : StM J st :=
  ⟨h.1, e1.trans h.2.1, fun j p hp => by rw [e2, e3]; exact h.2.2 j p hp⟩
def Qgm (m1 a j : Nat) : Prop := Qnm m1 a j ∨ a = 514 ∨ (a = 491 ∧ 71 ≤ j ∧ j ≤ 73) ∨ a = 539 ∨ a = 540
def GM (I0 I : zI) (m1 k : Nat) (x : Gs) : Prop :=
  eqQ (Qgm m1) I0 I ∧ RepNM I x.2.1 x.2.2.1 ∧ StM I x.2.2.2.1 ∧ I.1 491 73 = zi x.2.2.2.2 ∧ I.1 491 72 = zi k
theorem FlM.kp {I J : zI} {F : List Fl} (h : FlM I F) (e : ∀ a j, 524 ≤ a → a ≤ 526 → J.1 a j = I.1 a j) : FlM J F := fun p x hp => by
  obtain ⟨h1, h2, h3⟩ := h p x hp
  rw [e 524 _ (by decide) (by decide), e 526 _ (by decide) (by decide)]
  exact ⟨h1, h2, h3⟩
theorem s_grows {A B n n' e m1 : Nat} {g kd : Nat → Nat} {F : List Fl} {N : Nat → Nd} {I : zI} {K : Int32 → zI → Prop} (ge : GE F A B n n' g kd) (hi : GI F n n' g kd m1 0 m1 N [(0, 0)] 0) (hm1 : m1 ≤ 3200) (rep : RepNM I m1 N) (hF : FlM I F) (he : I.1 491 36 = zi e)
    (h9 : I.1 491 9 = zi n) (h19 : I.1 491 19 = zi n') (h66 : I.1 491 66 = zi A) (h67 : I.1 491 67 = zi B) (hkd : ∀ i, i < n → I.1 496 i = zi (kd i)) (hg : ∀ i, i < n → I.1 500 i = zi (g i)) (hgo : ∀ i, i < n → ∀ j, wasN A B n n' i = some j → I.1 508 j = zi (g i))
    (hK : ∀ J k y, gRun F A B n n' g e 2000 0 (0, m1, N, [(0, 0)], 0) = (k, y) → GI F n n' g kd m1 y.1 y.2.1 y.2.2.1 y.2.2.2.1 k → GM I J m1 k y → K (if y.1 + 1 = n ∧ topS y.2.2.2.1 = 1 then -1 else zi y.1) J) : w_M_grows I K := by
  unfold w_M_grows
  intro I1 e1 I2 e2 I3 e3
  have g3 : I3.1 491 71 = zi 0 := by
    rw [e3, zu_at, if_neg (by decide), e2, zu_at, if_neg (by decide), e1, zu_self]
    rfl
  refine ⟨by rw [g3]; exact (zin_iff (by decide)).mpr (by decide), fun I4 e4 => ?_⟩
  rw [g3, zi_tn (by decide)] at e4
  have g4 : I4.1 491 71 = zi 0 := by rw [e4, zu_oo (by decide)]; exact g3
  refine ⟨by rw [g4]; exact (zin_iff (by decide)).mpr (by decide), fun I5 e5 I6 e6 I7 e7 I8 e8 => ?_⟩
  rw [g4, zi_tn (by decide)] at e5
  have g5 : I5.1 491 71 = zi 0 := by rw [e5, zu_oo (by decide)]; exact g4
  rw [g5, zi_succ] at e6
  have q8 : eqQ (Qgm m1) I I8 := by
    have hq : ∀ j, 71 ≤ j → j ≤ 73 → Qgm m1 491 j := fun j h1 h2 => Or.inr (Or.inr (Or.inl ⟨rfl, h1, h2⟩))
    rw [e8, e7, e6, e5, e4, e3, e2, e1]
    exact (((((((eqQ.rf.zu (hq _ (by decide) (by decide))).zu (hq _ (by decide) (by decide))).zu (hq _ (by decide) (by decide))).zu (Or.inr (Or.inr (Or.inr (Or.inr rfl))))).zu (Or.inr (Or.inr (Or.inr (Or.inl rfl))))).zu (hq _ (by decide) (by decide))).zu (hq _ (by decide) (by decide))).zu (hq _ (by decide) (by decide))
  have o8 : ∀ a j, ¬ (a = 491 ∧ 71 ≤ j ∧ j ≤ 73) → a ≠ 539 → a ≠ 540 → I8.1 a j = I.1 a j := fun a j u v w => by
    rw [e8, zu_at, if_neg (by omega), e7, zu_at, if_neg (by omega), e6, zu_at, if_neg (by omega), e5, zu_oo v, e4, zu_oo w, e3, zu_at, if_neg (by omega), e2, zu_at, if_neg (by omega), e1, zu_at, if_neg (by omega)]
  have o82 : I8.2 = I.2 := by rw [e8, zu_2, e7, zu_2, e6, zu_2, e5, zu_2, e4, zu_2, e3, zu_2, e2, zu_2, e1, zu_2]
  have X0 : GM I I8 m1 0 (0, m1, N, [(0, 0)], 0) := by
    refine ⟨q8, rep.kp hi.2.2.2.2.1.ch (o8 _ _ (by omega) (by decide) (by decide)) (fun a j h1 h2 => o8 a j (by omega) (by omega) (by omega)) (fun j => by rw [o82]), ⟨Nat.le_refl 1, ?_, fun j p hp => ?_⟩, ?_, ?_⟩
    · rw [e8, zu_at, if_neg (by decide), e7, zu_at, if_neg (by decide), e6, zu_self]
      rfl
    · have hj := (List.getElem?_eq_some_iff.mp hp).1
      have hj0 : j = 0 := by
        change j < 1 at hj
        omega
      subst hj0
      cases hp
      refine ⟨?_, fun u => by omega⟩
      rw [e8, zu_oo (by decide), e7, zu_oo (by decide), e6, zu_oo (by decide), e5, zu_self]
      rfl
    · rw [e8, zu_at, if_neg (by decide), e7, zu_at, if_neg (by decide), e6, zu_at, if_neg (by decide), e5, zu_oo (by decide), e4, zu_oo (by decide), e3, zu_self]
      rfl
    · rw [e8, zu_self]
      rfl
  intro P28 h28
  have main : ∀ (d k : Nat) (x : Gs) (J : zI), GI F n n' g kd m1 x.1 x.2.1 x.2.2.1 x.2.2.2.1 k → 1900 < d + k → GM I J m1 k x → gRun F A B n n' g e 2000 0 (0, m1, N, [(0, 0)], 0) = gRun F A B n n' g e d k x → P28 (zi x.1) J := by
    intro d
    induction d with
    | zero =>
      intro k x J hx hk
      have := (hx.bd ge.1).2.2.2
      omega
    | succ d ih =>
      intro k x J hx hk hX hrun
      obtain ⟨i, m, M, st, tk⟩ := x
      dsimp only at hx ⊢
      obtain ⟨b1, b2, b3, b4⟩ := hx.bd ge.1
      refine h28 _ _ ?_
      obtain ⟨x1, x2, x3, x4, x5⟩ := id hX
      dsimp only at x2 x3 x4 x5
      obtain ⟨v1, ⟨s1, s2, s3, s4⟩, v3, v4, v5, v6, v7⟩ := id hx
      obtain ⟨g1, g2, g3, g4, g5, g6, g7⟩ := id ge
      obtain ⟨p0, t1, t2⟩ := top_at s1
      have hs21 : topS st < 21 := t2 ▸ (s3 _ p0 t1).1
      rw [gRun_at (d := d)] at hrun
      dsimp only at hrun
      have ch := v5.ch
      have cst : ∀ a j, ¬ Qgm m1 a j → J.1 a j = I.1 a j := fun a j u => x1.1 a j u
      obtain ⟨w1, w2, w3⟩ := v7 i v1
      obtain ⟨k1, k2⟩ := g6 i v1
      have hM : ndM (M (g i)) = 5 + kd i := by
        unfold ndM
        rw [w2, if_pos (by decide), w3]
      have nxt : ∀ (y : Gs) (I' : zI), gNx F A B n n' g e i m M st tk = some y → GM I I' m1 (k + 1) y → P28 (zi y.1) I' := by
        intro y I' hy hX'
        exact ih (k + 1) y I' (hx.nx ge hy) (by omega) hX' (by rw [hrun, hy])
      have gp : J.1 491 71 - 1 = zi (st.length - 1) := by
        rw [x3.2.1]
        exact zi_sub (b := 1) (by omega)
      rw [gp, zi_tn (show st.length - 1 < 2147483648 by omega)]
      refine ⟨(zin_iff (by omega)).mpr (by omega), fun v2 ev2 => ?_⟩
      rw [show J.1 539 (st.length - 1) = zi (topS st) from t2 ▸ (x3.2.2 _ p0 t1).1] at ev2
      subst ev2
      refine s_Mbest (n := n) (A := A) (B := B) (c := g i) x2 (by omega) (hF.kp (fun a j h1 h2 => cst a j (by unfold Qgm Qnm; omega))) v6 hs21 (by rw [cst _ _ (by unfold Qgm Qnm; omega)]; exact h9) (by rw [cst _ _ (by unfold Qgm Qnm; omega)]; exact h19) (by rw [cst _ _ (by unfold Qgm Qnm; omega)]; exact h66) (by rw [cst _ _ (by unfold Qgm Qnm; omega)]; exact h67) (by omega) (by omega) (by omega) (by omega) g1 g2 v1 ?_ ?_
      · intro j hj
        obtain ⟨a1, a2⟩ := g7 i v1 j hj
        refine ⟨by rw [cst _ _ (by unfold Qgm Qnm; omega)]; exact hgo i v1 j hj, a1, fun u => ?_⟩
        obtain ⟨p, x, r1, r2, r3, r4⟩ := a2 u
        exact ⟨p, x, r1, r2, r3, by omega⟩
      · refine ⟨(zin_iff (by omega)).mpr (by omega), ?_⟩
        rw [zi_tn (show i < 2147483648 by omega), show J.1 496 i = zi (kd i) by rw [cst _ _ (by unfold Qgm Qnm; omega)]; exact hkd i v1]
        refine s_shifts hs21 k1 ?_
        refine s_ruleOf hs21 ?_
        cases hb : bestOf F M A B n n' i (topS st) (g i) with
        | none =>
          rw [if_pos (show oI (-1) none < 0 by show (-1 : Int32) < 0; decide)]
          unfold shI
          by_cases hz : ldN (topS st) (5 + kd i) = 0
          · rw [if_pos hz, if_pos (show (-1 : Int32) < 0 by decide)]
            unfold rlI
            cases hr : rlN (topS st) with
            | none =>
              rw [if_pos (show (-1 : Int32) < 0 by decide)]
              refine ⟨(zin_iff (by omega)).mpr (by omega), ?_⟩
              have hy : gNx F A B n n' g e i m M st tk = none := by
                unfold gNx
                rw [hb]
                dsimp only
                rw [hM, if_pos hz, hr]
              rw [hy] at hrun
              have hK2 := hK J k (i, m, M, st, tk) hrun hx hX
              dsimp only at hK2
              by_cases c1 : i + 1 = n
              · rw [if_pos (show zi (kd i) = 10 by rw [k2.mpr c1]; rfl)]
                by_cases c2 : topS st = 1
                · rw [if_pos (show zi (topS st) = 1 by rw [c2]; rfl)]
                  rw [if_pos ⟨c1, c2⟩] at hK2
                  exact hK2
                · rw [if_neg (show ¬ zi (topS st) = 1 from fun u => c2 ((zi_eq (b := 1) (by omega) (by decide)).mp u))]
                  rw [if_neg (fun u => c2 u.2)] at hK2
                  exact hK2
              · rw [if_neg (show ¬ zi (kd i) = 10 from fun u => c1 (k2.mp ((zi_eq (b := 10) (by omega) (by decide)).mp u)))]
                rw [if_neg (fun u => c1 u.1)] at hK2
                exact hK2
            | some r =>
              have hr11 := rlN_lt hs21 hr
              obtain ⟨f1, f2⟩ := st_fits s2 s3 s1 t1 t2 hr
              dsimp only
              rw [if_neg (zi_pos (by omega))]
              have hy : gNx F A B n n' g e i m M st tk = some (i, m + 1, upN M m (byN M st r e), byT m st r, tk) := by
                unfold gNx
                rw [hb]
                dsimp only
                rw [hM, if_pos hz, hr]
              refine s_makesBy x2 ch (by omega) (by rw [cst _ _ (by unfold Qgm Qnm; omega)]; exact he) x3 s3 (by omega) hr11 f1 f2 (fun J2 q2 rp2 sx2 c72 => ?_)
              refine nxt _ J2 hy ⟨x1.tr (q2.mono (fun a j h => by unfold Qbm Qnm at h; unfold Qgm Qnm; omega)), rp2, sx2, ?_, ?_⟩
              · rw [q2.1 _ _ (by unfold Qbm Qnm; omega)]
                exact x4
              · rw [c72, x5, zi_succ]
          · rw [if_neg hz, if_neg (zi_pos (by have := ldN_lt (s := topS st) (y := 5 + kd i) hs21 (by omega); omega))]
            refine ⟨(zin_iff (by omega)).mpr (by omega), fun v7' ev7 => ?_⟩
            rw [show J.1 500 i = zi (g i) by rw [cst _ _ (by unfold Qgm Qnm; omega)]; exact hg i v1] at ev7
            subst ev7
            have hy : gNx F A B n n' g e i m M st tk = some (i + 1, m, upN M (g i) (stNd (M (g i)) (topS st)), st ++ [(g i, ldN (topS st) (5 + kd i))], tk) := by
              unfold gNx
              rw [hb]
              dsimp only
              rw [hM, if_neg hz]
            refine s_Mshift x2 ch (by omega) w1 x3 (by omega) (v5.sta _ w1) (fun J2 q2 rp2 sx2 c72 => ?_)
            intro v ev
            rw [ev, zi_succ]
            refine nxt _ J2 hy ⟨x1.tr (q2.mono (fun a j h => by unfold Qmt at h; unfold Qgm Qnm; omega)), rp2, sx2, ?_, ?_⟩
            · rw [q2.1 _ _ (by unfold Qmt; omega)]
              exact x4
            · rw [c72, x5, zi_succ]
        | some b =>
          obtain ⟨hbm, r, b4', b5, hsy, hld, hf1, hin⟩ := hx.taken ge hb
          rw [if_neg (show ¬ oI (-1) (some b) < 0 from zi_pos (by omega))]
          intro I24 e24
          have o24 : ∀ a j, ¬ (a = 491 ∧ j = 73) → I24.1 a j = J.1 a j := fun a j u => by rw [e24, zu_at, if_neg u]
          have nd := x2.2 b hbm
          have hsy5 : syN r < 5 := (sy_fin r b4').2
          refine ⟨(zin_iff (by omega)).mpr (by omega), ?_⟩
          show w_M_symbolOf (I24.1 509 (Int32.toNatClampNeg (zi b))) I24 _
          rw [zi_tn (show b < 2147483648 by omega), o24 _ _ (by omega), show J.1 509 b = Int32.ofInt (ndR (M b)) from nd.1, b5, zi_int r]
          refine s_MsymbolOf b4' ?_
          refine s_leads hs21 hsy5 hld ?_
          have hy : gNx F A B n n' g e i m M st tk = some (i + ndT (M b), m, M, st ++ [(b, ldN (topS st) (ndM (M b)))], tk + 1) := by
            unfold gNx
            rw [hb]
          rw [hsy] at hy
          refine s_laysOn (c := b) (x3.kp (o24 _ _ (by omega)) (fun j => o24 _ _ (by omega)) (fun j => o24 _ _ (by omega))) (by omega) (fun J2 q2 sx2 c72 => ?_)
          refine ⟨(zin_iff (by omega)).mpr (by omega), fun v ev => ?_⟩
          have o2 : ∀ a j, ¬ Qlo st.length a j → J2.1 a j = I24.1 a j := fun a j u => q2.1 a j u
          change v = zi i + J2.1 515 (Int32.toNatClampNeg (zi b)) at ev
          rw [zi_tn (show b < 2147483648 by omega), o2 _ _ (by unfold Qlo; omega), o24 _ _ (by omega), show J.1 515 b = zi (ndT (M b)) from nd.2.2.1, zi_add] at ev
          subst ev
          refine nxt _ J2 hy ⟨?_, ?_, sx2, ?_, ?_⟩
          · refine eqQ.tr ?_ (q2.mono (fun a j h => by unfold Qlo at h; unfold Qgm Qnm; omega))
            rw [e24]
            exact x1.zu (Or.inr (Or.inr (Or.inl (by omega))))
          · refine x2.kp ch ?_ (fun a j h1 h2 => ?_) (fun j => ?_)
            · rw [o2 _ _ (by unfold Qlo; omega), o24 _ _ (by omega)]
            · rw [o2 _ _ (by unfold Qlo; omega), o24 _ _ (by omega)]
            · rw [q2.2 511 j (by unfold Qlo; omega), e24, zu_2]
          · rw [o2 _ _ (by unfold Qlo; omega), e24, zu_self, x4, zi_succ]
          · rw [c72, o24 _ _ (by omega), x5, zi_succ]
  exact main 2000 0 (0, m1, N, [(0, 0)], 0) I8 hi (by omega) X0 rfl
/-! ===== trees: the tokens below a node, the nodes in their order, the tree laid flat ===== -/
theorem flatMap_cg {α β : Type} {f g : α → List β} : ∀ {l : List α}, (∀ x ∈ l, f x = g x) → l.flatMap f = l.flatMap g
  | [], _ => rfl
  | a :: l, h => by
    rw [List.flatMap_cons, List.flatMap_cons, h a (List.mem_cons_self ..), flatMap_cg (fun x hx => h x (List.mem_cons_of_mem _ hx))]
theorem NdOk.lt {m k c : Nat} {N : Nat → Nd} (h : NdOk m N) (hk : k < m) (hc : c ∈ ndC (N k)) : c < k := by
  rcases h k hk with ⟨-, e, -⟩ | ⟨r, s, -, -, -, -, -, -, e, -⟩
  · rw [e] at hc
    cases hc
  · exact e c hc
def ylF (N : Nat → Nd) : Nat → Nat → List Nat
  | 0, _ => []
  | d + 1, c => if ndR (N c) < 0 then [c] else (ndC (N c)).flatMap (ylF N d)
/-- the tokens' nodes below a node, from the left -/
def yl (N : Nat → Nd) (c : Nat) : List Nat := ylF N (c + 1) c
theorem ylF_cg {m : Nat} {N N' : Nat → Nd} (h : NdOk m N) (e : ∀ c, c < m → NdE (N c) (N' c)) : ∀ (d d' c : Nat), c < m → c < d → c < d' → ylF N' d' c = ylF N d c
  | 0, _, c, _, h1, _ => by omega
  | _ + 1, 0, c, _, _, h2 => by omega
  | d + 1, d' + 1, c, hc, h1, h2 => by
    show (if ndR (N' c) < 0 then [c] else (ndC (N' c)).flatMap (ylF N' d')) = (if ndR (N c) < 0 then [c] else (ndC (N c)).flatMap (ylF N d))
    obtain ⟨e1, -, -, -, e5, -⟩ := e c hc
    rw [e1, e5, flatMap_cg (fun x hx => ylF_cg h e d d' x (by have := h.lt hc hx; omega) (by have := h.lt hc hx; omega) (by have := h.lt hc hx; omega))]
theorem NdE.rf {x : Nd} : NdE x x := ⟨rfl, rfl, rfl, rfl, rfl, rfl⟩
theorem yl_cg {m c : Nat} {N N' : Nat → Nd} (h : NdOk m N) (e : ∀ c, c < m → NdE (N c) (N' c)) (hc : c < m) : yl N' c = yl N c := ylF_cg h e _ _ c hc (Nat.lt_succ_self c) (Nat.lt_succ_self c)
theorem yl_eq {m c : Nat} {N : Nat → Nd} (h : NdOk m N) (hc : c < m) : yl N c = if ndR (N c) < 0 then [c] else (ndC (N c)).flatMap (yl N) := by
  show (if ndR (N c) < 0 then [c] else (ndC (N c)).flatMap (ylF N c)) = _
  rw [flatMap_cg (fun x hx => (ylF_cg h (fun _ _ => NdE.rf) (x + 1) c x (by have := h.lt hc hx; omega) (Nat.lt_succ_self x) (h.lt hc hx)).trans rfl)]
  rfl
theorem yl_len {m : Nat} {N : Nat → Nd} (h : NdOk m N) (c : Nat) : c < m → (yl N c).length = ndT (N c) := by
  induction c using Nat.strongRecOn with
  | ind c ih =>
    intro hc
    rw [yl_eq h hc]
    rcases h c hc with ⟨e1, -, -, e4, -⟩ | ⟨r, s, -, -, e3, -, -, -, e7, e8⟩
    · rw [if_pos (by omega), e4]
      rfl
    · rw [if_neg (by omega), List.length_flatMap, e8]
      unfold tkS
      rw [List.map_congr_left (fun x hx => ih x (e7 x hx) (by have := e7 x hx; omega))]
theorem yl_mem {m : Nat} {N : Nat → Nd} (h : NdOk m N) (c : Nat) : c < m → ∀ z ∈ yl N c, z ≤ c ∧ ndR (N z) = -2 := by
  induction c using Nat.strongRecOn with
  | ind c ih =>
    intro hc z hz
    rw [yl_eq h hc] at hz
    rcases h c hc with ⟨e1, -, -, e4, -⟩ | ⟨r, s, -, -, e3, -, -, -, e7, e8⟩
    · rw [if_pos (by omega)] at hz
      cases List.mem_singleton.mp hz
      exact ⟨Nat.le_refl _, e1⟩
    · rw [if_neg (by omega)] at hz
      obtain ⟨x, hx, hzx⟩ := List.mem_flatMap.mp hz
      have hlt := e7 x hx
      obtain ⟨a, b⟩ := ih x hlt (by omega) z hzx
      exact ⟨by omega, b⟩
def poF (N : Nat → Nd) : Nat → Nat → List Nat
  | 0, _ => []
  | d + 1, c => c :: (ndC (N c)).flatMap (poF N d)
/-- the nodes below a node and itself -/
def po (N : Nat → Nd) (c : Nat) : List Nat := poF N (c + 1) c
theorem poF_cg {m : Nat} {N N' : Nat → Nd} (h : NdOk m N) (e : ∀ c, c < m → NdE (N c) (N' c)) : ∀ (d d' c : Nat), c < m → c < d → c < d' → poF N' d' c = poF N d c
  | 0, _, c, _, h1, _ => by omega
  | _ + 1, 0, c, _, _, h2 => by omega
  | d + 1, d' + 1, c, hc, h1, h2 => by
    show c :: (ndC (N' c)).flatMap (poF N' d') = c :: (ndC (N c)).flatMap (poF N d)
    obtain ⟨e1, -, -, -, e5, -⟩ := e c hc
    rw [e5, flatMap_cg (fun x hx => poF_cg h e d d' x (by have := h.lt hc hx; omega) (by have := h.lt hc hx; omega) (by have := h.lt hc hx; omega))]
theorem po_cg {m c : Nat} {N N' : Nat → Nd} (h : NdOk m N) (e : ∀ c, c < m → NdE (N c) (N' c)) (hc : c < m) : po N' c = po N c := poF_cg h e _ _ c hc (Nat.lt_succ_self c) (Nat.lt_succ_self c)
theorem po_eq {m c : Nat} {N : Nat → Nd} (h : NdOk m N) (hc : c < m) : po N c = c :: (ndC (N c)).flatMap (po N) := by
  show c :: (ndC (N c)).flatMap (poF N c) = _
  rw [flatMap_cg (fun x hx => (poF_cg h (fun _ _ => NdE.rf) (x + 1) c x (by have := h.lt hc hx; omega) (Nat.lt_succ_self x) (h.lt hc hx)).trans rfl)]
  rfl
/-- how many they are -/
def sz (N : Nat → Nd) (c : Nat) : Nat := (po N c).length
def szS (N : Nat → Nd) (l : List Nat) : Nat := (l.map (sz N)).sum
theorem sz_eq {m c : Nat} {N : Nat → Nd} (h : NdOk m N) (hc : c < m) : sz N c = 1 + szS N (ndC (N c)) := by
  unfold sz
  rw [po_eq h hc, List.length_cons, List.length_flatMap, Nat.add_comm]
  rfl
theorem szS_cons {N : Nat → Nd} {c : Nat} {l : List Nat} : szS N (c :: l) = sz N c + szS N l := by
  unfold szS
  rw [List.map_cons, List.sum_cons]
theorem tkS_cons {N : Nat → Nd} {c : Nat} {l : List Nat} : tkS N (c :: l) = ndT (N c) + tkS N l := by
  unfold tkS
  rw [List.map_cons, List.sum_cons]
/-- subtrees laid flat one behind the other: from the place p, the token t -/
def flL (f : Nat → Nat → Nat → List Fl) (N : Nat → Nd) : List Nat → Nat → Nat → List Fl
  | [], _, _ => []
  | c :: cs, p, t => f c p t ++ flL f N cs (p + sz N c) (t + ndT (N c))
def flH (N : Nat → Nd) (c q t dep : Nat) : Fl := (c, q, (if ndT (N c) = 0 then -2 else (t : Int)), dep, sz N c)
def flF (N : Nat → Nd) : Nat → Nat → Nat → Nat → Nat → Nat → List Fl
  | 0, _, _, _, _, _ => []
  | d + 1, c, q, p, t, dep => flH N c q t dep :: flL (fun c' p' t' => flF N d c' p p' t' (dep + 1)) N (ndC (N c)) (p + 1) t
/-- a node c laid flat: its parent's place, its place, its first token, its depth -/
def fl (N : Nat → Nd) (c q p t dep : Nat) : List Fl := flF N (c + 1) c q p t dep
theorem flL_cg {f g : Nat → Nat → Nat → List Fl} {N : Nat → Nd} : ∀ {l : List Nat} {p t : Nat}, (∀ c ∈ l, ∀ p t, f c p t = g c p t) → flL f N l p t = flL g N l p t
  | [], _, _, _ => rfl
  | c :: l, p, t, h => by
    show f c p t ++ _ = g c p t ++ _
    rw [h c (List.mem_cons_self ..), flL_cg (fun x hx => h x (List.mem_cons_of_mem _ hx))]
theorem flF_fu {m : Nat} {N : Nat → Nd} (h : NdOk m N) : ∀ (d d' c q p t dep : Nat), c < m → c < d → c < d' → flF N d' c q p t dep = flF N d c q p t dep
  | 0, _, c, _, _, _, _, _, h1, _ => by omega
  | _ + 1, 0, c, _, _, _, _, _, _, h2 => by omega
  | d + 1, d' + 1, c, q, p, t, dep, hc, h1, h2 => by
    show _ :: _ = _ :: _
    rw [flL_cg (fun x hx p' t' => flF_fu h d d' x p p' t' (dep + 1) (by have := h.lt hc hx; omega) (by have := h.lt hc hx; omega) (by have := h.lt hc hx; omega))]
theorem fl_eq {m c q p t dep : Nat} {N : Nat → Nd} (h : NdOk m N) (hc : c < m) : fl N c q p t dep = flH N c q t dep :: flL (fun c' p' t' => fl N c' p p' t' (dep + 1)) N (ndC (N c)) (p + 1) t := by
  show flH N c q t dep :: flL (fun c' p' t' => flF N c c' p p' t' (dep + 1)) N (ndC (N c)) (p + 1) t = _
  rw [flL_cg (fun x hx p' t' => flF_fu h (x + 1) c x p p' t' (dep + 1) (by have := h.lt hc hx; omega) (Nat.lt_succ_self x) (h.lt hc hx))]
  rfl
theorem flL_len {f : Nat → Nat → Nat → List Fl} {N : Nat → Nd} : ∀ {l : List Nat} {p t : Nat}, (∀ c ∈ l, ∀ p t, (f c p t).length = sz N c) → (flL f N l p t).length = szS N l
  | [], _, _, _ => rfl
  | c :: l, p, t, h => by
    show (f c p t ++ _).length = _
    rw [List.length_append, h c (List.mem_cons_self ..), flL_len (fun x hx => h x (List.mem_cons_of_mem _ hx)), szS_cons]
theorem fl_len {m : Nat} {N : Nat → Nd} (h : NdOk m N) (c : Nat) : c < m → ∀ q p t dep, (fl N c q p t dep).length = sz N c := by
  induction c using Nat.strongRecOn with
  | ind c ih =>
    intro hc q p t dep
    rw [fl_eq h hc, List.length_cons, flL_len (fun x hx p' t' => ih x (h.lt hc hx) (by have := h.lt hc hx; omega) _ _ _ _), sz_eq h hc, Nat.add_comm]
theorem flL_put {f : Nat → Nat → Nat → List Fl} {N : Nat → Nd} : ∀ {l : List Nat} {p t k z i : Nat}, (∀ c ∈ l, ∀ p t, (f c p t).length = sz N c) → l[k]? = some z → i < sz N z → (flL f N l p t)[szS N (l.take k) + i]? = (f z (p + szS N (l.take k)) (t + tkS N (l.take k)))[i]?
  | [], _, _, k, _, _, _, hk, _ => by
    cases hk
  | c :: l, p, t, 0, z, i, h, hk, hi => by
    cases hk
    show (f c p t ++ _)[0 + i]? = (f c (p + 0) (t + 0))[i]?
    rw [Nat.zero_add, Nat.add_zero, Nat.add_zero, List.getElem?_append_left (by rw [h c (List.mem_cons_self ..)]; exact hi)]
  | c :: l, p, t, k + 1, z, i, h, hk, hi => by
    have hl := h c (List.mem_cons_self ..) p t
    show (f c p t ++ flL f N l (p + sz N c) (t + ndT (N c)))[szS N (c :: l.take k) + i]? = (f z (p + szS N (c :: l.take k)) (t + tkS N (c :: l.take k)))[i]?
    rw [szS_cons, tkS_cons, List.getElem?_append_right (by omega), hl, show sz N c + szS N (l.take k) + i - sz N c = szS N (l.take k) + i by omega, flL_put (fun x hx => h x (List.mem_cons_of_mem _ hx)) (by rw [List.getElem?_cons_succ] at hk; exact hk) hi, Nat.add_assoc, Nat.add_assoc]
theorem flL_at {f : Nat → Nat → Nat → List Fl} {N : Nat → Nd} : ∀ {l : List Nat} {p t i : Nat} {x : Fl}, (∀ c ∈ l, ∀ p t, (f c p t).length = sz N c) → (flL f N l p t)[i]? = some x → ∃ k z i', l[k]? = some z ∧ i = szS N (l.take k) + i' ∧ i' < sz N z ∧ (f z (p + szS N (l.take k)) (t + tkS N (l.take k)))[i']? = some x
  | [], _, _, _, _, _, hx => by cases hx
  | c :: l, p, t, i, x, h, hx => by
    have hl := h c (List.mem_cons_self ..) p t
    by_cases hi : i < sz N c
    · refine ⟨0, c, i, rfl, ?_, hi, ?_⟩
      · show i = 0 + i
        omega
      · have hx' : (f c p t ++ flL f N l (p + sz N c) (t + ndT (N c)))[i]? = some x := hx
        rw [List.getElem?_append_left (by omega)] at hx'
        exact hx'
    · have hx' : (f c p t ++ flL f N l (p + sz N c) (t + ndT (N c)))[i]? = some x := hx
      rw [List.getElem?_append_right (by omega), hl] at hx'
      obtain ⟨k, z, i', e1, e2, e3, e4⟩ := flL_at (fun x hx => h x (List.mem_cons_of_mem _ hx)) hx'
      refine ⟨k + 1, z, i', by rw [List.getElem?_cons_succ]; exact e1, ?_, e3, ?_⟩
      · rw [List.take_succ_cons, szS_cons]
        omega
      · rw [List.take_succ_cons, szS_cons, tkS_cons, ← Nat.add_assoc, ← Nat.add_assoc]
        exact e4
/-- where the nodes are: the first is c itself, the others lie in the subtrees of its CHILDREN -/
theorem fl_at {m c q p t dep i : Nat} {N : Nat → Nd} {x : Fl} (h : NdOk m N) (hc : c < m) (hx : (fl N c q p t dep)[i]? = some x) : (i = 0 ∧ x = flH N c q t dep) ∨ ∃ k z i', (ndC (N c))[k]? = some z ∧ i = 1 + szS N ((ndC (N c)).take k) + i' ∧ i' < sz N z ∧ (fl N z p (p + 1 + szS N ((ndC (N c)).take k)) (t + tkS N ((ndC (N c)).take k)) (dep + 1))[i']? = some x := by
  rw [fl_eq h hc] at hx
  cases i with
  | zero =>
    cases hx
    exact Or.inl ⟨rfl, rfl⟩
  | succ i =>
    rw [List.getElem?_cons_succ] at hx
    obtain ⟨k, z, i', e1, e2, e3, e4⟩ := flL_at (fun z hz p' t' => fl_len h z (by have := h.lt hc hz; omega) _ _ _ _) hx
    exact Or.inr ⟨k, z, i', e1, by omega, e3, e4⟩
theorem fl_put {m c q p t dep k z i : Nat} {N : Nat → Nd} (h : NdOk m N) (hc : c < m) (hk : (ndC (N c))[k]? = some z) (hi : i < sz N z) : (fl N c q p t dep)[1 + szS N ((ndC (N c)).take k) + i]? = (fl N z p (p + 1 + szS N ((ndC (N c)).take k)) (t + tkS N ((ndC (N c)).take k)) (dep + 1))[i]? := by
  rw [fl_eq h hc, show 1 + szS N ((ndC (N c)).take k) + i = szS N ((ndC (N c)).take k) + i + 1 by omega, List.getElem?_cons_succ]
  exact flL_put (fun z hz p' t' => fl_len h z (by have := h.lt hc hz; omega) _ _ _ _) hk hi
theorem fl_0 {m c q p t dep : Nat} {N : Nat → Nd} (h : NdOk m N) (hc : c < m) : (fl N c q p t dep)[0]? = some (flH N c q t dep) := by
  rw [fl_eq h hc]
  rfl
theorem sz_pos {m c : Nat} {N : Nat → Nd} (h : NdOk m N) (hc : c < m) : 1 ≤ sz N c := by
  rw [sz_eq h hc]
  omega
theorem szS_take {N : Nat → Nd} : ∀ {l : List Nat} {k z : Nat}, l[k]? = some z → szS N (l.take k) + sz N z ≤ szS N l
  | [], k, _, hk => by cases hk
  | c :: l, 0, z, hk => by
    cases hk
    rw [List.take_zero, szS_cons]
    show 0 + _ ≤ _
    omega
  | c :: l, k + 1, z, hk => by
    rw [List.getElem?_cons_succ] at hk
    rw [List.take_succ_cons, szS_cons, szS_cons]
    have := szS_take (N := N) hk
    omega
theorem tkS_take {N : Nat → Nd} : ∀ {l : List Nat} {k z : Nat}, l[k]? = some z → tkS N (l.take k) + ndT (N z) ≤ tkS N l
  | [], k, _, hk => by cases hk
  | c :: l, 0, z, hk => by
    cases hk
    rw [List.take_zero, tkS_cons]
    show 0 + _ ≤ _
    omega
  | c :: l, k + 1, z, hk => by
    rw [List.getElem?_cons_succ] at hk
    rw [List.take_succ_cons, tkS_cons, tkS_cons]
    have := tkS_take (N := N) hk
    omega
/-! ===== what a flat tree is made of ===== -/
theorem fm_seg {N : Nat → Nd} : ∀ {l : List Nat} {k z : Nat}, (∀ c ∈ l, (yl N c).length = ndT (N c)) → l[k]? = some z → (l.flatMap (yl N)).drop (tkS N (l.take k)) = yl N z ++ (l.drop (k + 1)).flatMap (yl N)
  | [], _, _, _, hk => by cases hk
  | c :: l, 0, z, h, hk => by
    cases hk
    show ((c :: l).flatMap (yl N)).drop 0 = yl N c ++ l.flatMap (yl N)
    rw [List.drop_zero, List.flatMap_cons]
  | c :: l, k + 1, z, h, hk => by
    rw [List.getElem?_cons_succ] at hk
    rw [List.take_succ_cons, tkS_cons, List.flatMap_cons, List.drop_succ_cons]
    have hl := h c (List.mem_cons_self ..)
    rw [List.drop_append, hl, List.drop_of_length_le (by omega), Nat.add_sub_cancel_left, List.nil_append]
    exact fm_seg (fun x hx => h x (List.mem_cons_of_mem _ hx)) hk
theorem yl_ch {m c : Nat} {N : Nat → Nd} (h : NdOk m N) (hc : c < m) {k z : Nat} (hk : (ndC (N c))[k]? = some z) : yl N c = (ndC (N c)).flatMap (yl N) := by
  rw [yl_eq h hc]
  rcases h c hc with ⟨-, e, -⟩ | ⟨r, s, -, -, e3, -⟩
  · rw [e] at hk
    cases hk
  · rw [if_neg (by omega)]
theorem ndT_ch {m c : Nat} {N : Nat → Nd} (h : NdOk m N) (hc : c < m) {k z : Nat} (hk : (ndC (N c))[k]? = some z) : ndT (N c) = tkS N (ndC (N c)) := by
  rcases h c hc with ⟨-, e, -⟩ | ⟨r, s, -, -, e3, -, -, -, -, e8⟩
  · rw [e] at hk
    cases hk
  · exact e8
theorem fl_in {m : Nat} {N : Nat → Nd} (h : NdOk m N) (c : Nat) : c < m → ∀ (q p t dep i : Nat) (x : Fl), (fl N c q p t dep)[i]? = some x → x.1 ≤ c ∧ (1 ≤ i → ∃ (y : Fl) (i' : Nat), i' < i ∧ x.2.1 = p + i' ∧ (fl N c q p t dep)[i']? = some y ∧ x.1 ∈ ndC (N y.1) ∧ x.2.2.2.1 = y.2.2.2.1 + 1) ∧
    ∃ o, o + ndT (N x.1) ≤ ndT (N c) ∧ x = flH N x.1 x.2.1 (t + o) x.2.2.2.1 ∧ yl N x.1 = ((yl N c).drop o).take (ndT (N x.1)) ∧ ∀ j, j < sz N x.1 → (fl N c q p t dep)[i + j]? = (fl N x.1 x.2.1 (p + i) (t + o) x.2.2.2.1)[j]? := by
  induction c using Nat.strongRecOn with
  | ind c ih =>
    intro hc q p t dep i x hx
    rcases fl_at h hc hx with ⟨hi, rfl⟩ | ⟨k, z, i', hk, hi, hz, hx'⟩
    · subst hi
      refine ⟨Nat.le_refl c, fun u => by omega, 0, ?_, rfl, ?_, fun j _ => ?_⟩
      · show 0 + ndT (N c) ≤ _
        omega
      · show yl N c = ((yl N c).drop 0).take (ndT (N c))
        rw [List.drop_zero, List.take_of_length_le (by rw [yl_len h c hc]; exact Nat.le_refl _)]
      · rw [Nat.zero_add]
        rfl
    · have hzc : z ∈ ndC (N c) := List.mem_of_getElem? hk
      have hlt := h.lt hc hzc
      obtain ⟨a1, a2, o, a3, a4, a5, a6⟩ := ih z hlt (by omega) _ _ _ _ _ _ hx'
      have hput : ∀ j, j < sz N z → (fl N c q p t dep)[1 + szS N ((ndC (N c)).take k) + j]? = (fl N z p (p + 1 + szS N ((ndC (N c)).take k)) (t + tkS N ((ndC (N c)).take k)) (dep + 1))[j]? := fun j hj => fl_put h hc hk hj
      have htk := tkS_take (N := N) hk
      refine ⟨by omega, fun _ => ?_, tkS N ((ndC (N c)).take k) + o, ?_, ?_, ?_, fun j hj => ?_⟩
      · by_cases u : i' = 0
        · subst u
          rw [fl_0 h (by omega)] at hx'
          cases hx'
          exact ⟨flH N c q t dep, 0, by omega, rfl, fl_0 h hc, hzc, rfl⟩
        · obtain ⟨y, i2, b1, b2, b3, b4, b5⟩ := a2 (by omega)
          refine ⟨y, 1 + szS N ((ndC (N c)).take k) + i2, by omega, by omega, ?_, b4, b5⟩
          rw [hput i2 (by omega)]
          exact b3
      · rw [ndT_ch h hc hk]
        omega
      · rw [← Nat.add_assoc]
        exact a4
      · rw [a5, yl_ch h hc hk, ← List.drop_drop, fm_seg (fun w hw => yl_len h w (by have := h.lt hc hw; omega)) hk]
        have hl := yl_len h z (by omega)
        rw [List.drop_append_of_le_length (by omega), List.take_append_of_le_length (by rw [List.length_drop]; omega)]
      · have hb := a6 j hj
        have hlen := fl_len h x.1 (by omega) x.2.1 (p + 1 + szS N ((ndC (N c)).take k) + i') (t + tkS N ((ndC (N c)).take k) + o) x.2.2.2.1
        have hin : i' + j < sz N z := by
          have h1 : ((fl N x.1 x.2.1 (p + 1 + szS N ((ndC (N c)).take k) + i') (t + tkS N ((ndC (N c)).take k) + o) x.2.2.2.1)[j]?).isSome := by
            rw [List.getElem?_eq_getElem (by omega)]
            rfl
          rw [← hb, Option.isSome_iff_exists] at h1
          obtain ⟨w, hw⟩ := h1
          have := (List.getElem?_eq_some_iff.mp hw).1
          rw [fl_len h z (by omega)] at this
          exact this
        rw [hi, show 1 + szS N ((ndC (N c)).take k) + i' + j = 1 + szS N ((ndC (N c)).take k) + (i' + j) by omega, hput _ hin, hb, show p + 1 + szS N ((ndC (N c)).take k) + i' = p + (1 + szS N ((ndC (N c)).take k) + i') by omega, Nat.add_assoc t]
theorem fm_at {N : Nat → Nd} : ∀ {l : List Nat} {k z : Nat}, (∀ c ∈ l, (yl N c).length = ndT (N c)) → (l.flatMap (yl N))[k]? = some z → ∃ j w k', l[j]? = some w ∧ k = tkS N (l.take j) + k' ∧ (yl N w)[k']? = some z
  | [], _, _, _, hk => by cases hk
  | c :: l, k, z, h, hk => by
    have hl := h c (List.mem_cons_self ..)
    rw [List.flatMap_cons] at hk
    by_cases u : k < ndT (N c)
    · rw [List.getElem?_append_left (by omega)] at hk
      refine ⟨0, c, k, rfl, ?_, hk⟩
      show k = 0 + k
      omega
    · rw [List.getElem?_append_right (by omega), hl] at hk
      obtain ⟨j, w, k', e1, e2, e3⟩ := fm_at (fun x hx => h x (List.mem_cons_of_mem _ hx)) hk
      refine ⟨j + 1, w, k', by rw [List.getElem?_cons_succ]; exact e1, ?_, e3⟩
      rw [List.take_succ_cons, tkS_cons]
      omega
/-- the k-th token below a node is in its flat tree -/
theorem fl_tok {m : Nat} {N : Nat → Nd} (h : NdOk m N) (c : Nat) : c < m → ∀ (q p t dep k z : Nat), (yl N c)[k]? = some z → ∃ (i : Nat) (x : Fl), (fl N c q p t dep)[i]? = some x ∧ x.1 = z ∧ x.2.2.1 = ((t + k : Nat) : Int) := by
  induction c using Nat.strongRecOn with
  | ind c ih =>
    intro hc q p t dep k z hk
    rw [yl_eq h hc] at hk
    rcases h c hc with ⟨e1, -, -, e4, -⟩ | ⟨r, s, -, -, e3, -, -, -, e7, e8⟩
    · rw [if_pos (by omega)] at hk
      have hk0 : k = 0 := by
        have := (List.getElem?_eq_some_iff.mp hk).1
        have h1 : [c].length = 1 := rfl
        omega
      subst hk0
      cases hk
      refine ⟨0, flH N c q t dep, fl_0 h hc, rfl, ?_⟩
      show (if ndT (N c) = 0 then (-2 : Int) else (t : Int)) = _
      rw [if_neg (by omega)]
      rfl
    · rw [if_neg (by omega)] at hk
      obtain ⟨j, w, k', f1, f2, f3⟩ := fm_at (fun w hw => yl_len h w (by have := e7 w hw; omega)) hk
      have hwc := List.mem_of_getElem? f1
      have hlt := e7 w hwc
      obtain ⟨i, x, g1, g2, g3⟩ := ih w hlt (by omega) p (p + 1 + szS N ((ndC (N c)).take j)) (t + tkS N ((ndC (N c)).take j)) (dep + 1) k' z f3
      have hi := (List.getElem?_eq_some_iff.mp g1).1
      rw [fl_len h w (by omega)] at hi
      refine ⟨1 + szS N ((ndC (N c)).take j) + i, x, ?_, g2, ?_⟩
      · rw [fl_put h hc f1 hi]
        exact g1
      · rw [g3, f2, Nat.add_assoc]
theorem flL_map {f : Nat → Nat → Nat → List Fl} {N : Nat → Nd} : ∀ {l : List Nat} {p t : Nat}, (∀ c ∈ l, ∀ p t, (f c p t).map (fun x => x.1) = po N c) → (flL f N l p t).map (fun x => x.1) = l.flatMap (po N)
  | [], _, _, _ => rfl
  | c :: l, p, t, h => by
    show (f c p t ++ _).map _ = _
    rw [List.map_append, h c (List.mem_cons_self ..), flL_map (fun x hx => h x (List.mem_cons_of_mem _ hx)), List.flatMap_cons]
theorem fl_map {m : Nat} {N : Nat → Nd} (h : NdOk m N) (c : Nat) : c < m → ∀ q p t dep, (fl N c q p t dep).map (fun x => x.1) = po N c := by
  induction c using Nat.strongRecOn with
  | ind c ih =>
    intro hc q p t dep
    rw [fl_eq h hc, List.map_cons, flL_map (fun x hx p' t' => ih x (h.lt hc hx) (by have := h.lt hc hx; omega) _ _ _ _), po_eq h hc]
    rfl
theorem sz_leL {m : Nat} {N : Nat → Nd} : ∀ {l : List Nat}, (∀ c ∈ l, (2 : Int) * sz N c ≤ 5 * ndT (N c) + cS (ndM (N c))) → (2 : Int) * szS N l ≤ 5 * tkS N l + (l.map (fun c => cS (ndM (N c)))).sum
  | [], _ => by
    show (2 : Int) * ((0 : Nat) : Int) ≤ 5 * ((0 : Nat) : Int) + 0
    omega
  | c :: l, h => by
    have h1 := h c (List.mem_cons_self ..)
    have h2 := sz_leL (m := m) (fun x hx => h x (List.mem_cons_of_mem _ hx))
    rw [szS_cons, tkS_cons, List.map_cons, List.sum_cons]
    omega
/-- how many nodes a tree of so many TOKENS has -/
theorem sz_le {m : Nat} {N : Nat → Nd} (h : NdOk m N) (c : Nat) : c < m → (2 : Int) * sz N c ≤ 5 * ndT (N c) + cS (ndM (N c)) := by
  induction c using Nat.strongRecOn with
  | ind c ih =>
    intro hc
    rw [sz_eq h hc]
    rcases h c hc with ⟨e1, e2, e3, e4, -⟩ | ⟨r, s, hr, -, e3, -, -, e6, e7, e8⟩
    · have hM : ndM (N c) = 5 + ndK (N c) := by
        unfold ndM
        rw [if_pos (by omega)]
      have hcs : cS (5 + ndK (N c)) = -3 := by
        unfold cS
        rw [if_neg (by omega), if_neg (by omega), if_neg (by omega), if_neg (by omega), if_neg (by omega), if_neg (by omega)]
      rw [e2, e4, hM, hcs]
      show (2 : Int) * ((1 + 0 : Nat) : Int) ≤ _
      omega
    · have hM : ndM (N c) = syN r := by
        unfold ndM
        rw [e3, if_neg (by omega)]
        rfl
      have hL := sz_leL (m := m) (fun x hx => ih x (e7 x hx) (by have := e7 x hx; omega))
      have hrh := (rh_fin r hr).2
      rw [← e6, List.map_map] at hrh
      rw [hM, e8]
      have he : (List.map (cS ∘ fun c => ndM (N c)) (ndC (N c))) = (ndC (N c)).map (fun c => cS (ndM (N c))) := rfl
      rw [he] at hrh
      omega
/-! ===== the nodes of a tree are unlike ===== -/
theorem rh_tok : ∀ r, r < 11 → 1 ≤ r → (rhS r).any (fun y => y != 0) = true := by decide +kernel
theorem tkS_mem {N : Nat → Nd} {l : List Nat} {c : Nat} (h : c ∈ l) : ndT (N c) ≤ tkS N l := by
  obtain ⟨k, hk⟩ := List.mem_iff_getElem?.mp h
  have := tkS_take (N := N) hk
  omega
/-- a node that is no L, or that has CHILDREN, has a token -/
theorem tok1 {m : Nat} {N : Nat → Nd} (h : NdOk m N) (c : Nat) : c < m → (ndM (N c) ≠ 0 ∨ ndC (N c) ≠ []) → 1 ≤ ndT (N c) := by
  induction c using Nat.strongRecOn with
  | ind c ih =>
    intro hc hs
    rcases h c hc with ⟨e1, e2, e3, e4, -⟩ | ⟨r, s, hr, -, e3, -, -, e6, e7, e8⟩
    · omega
    · have hr1 : 1 ≤ r := by
        refine Nat.pos_of_ne_zero (fun u => ?_)
        subst u
        rcases hs with hs | hs
        · exact hs (by
            unfold ndM
            rw [e3, if_neg (by omega)]
            decide +kernel)
        · exact hs (List.map_eq_nil_iff.mp (e6.trans (by decide +kernel)))
      have := rh_tok r hr hr1
      rw [← e6] at this
      obtain ⟨y, hy, hy0⟩ := List.any_eq_true.mp this
      obtain ⟨z, hz, rfl⟩ := List.mem_map.mp hy
      have h1 := ih z (e7 z hz) (by have := e7 z hz; omega) (Or.inl (bne_iff_ne.mp hy0))
      have h2 := tkS_mem (N := N) hz
      omega
/-- a node of no TOKENS is CHILD of one node alone -/
def UqE (m : Nat) (N : Nat → Nd) : Prop := ∀ p1 p2 i1 i2 z : Nat, p1 < m → p2 < m → (ndC (N p1))[i1]? = some z → (ndC (N p2))[i2]? = some z → ndT (N z) = 0 → p1 = p2 ∧ i1 = i2
theorem po_le {m : Nat} {N : Nat → Nd} (h : NdOk m N) (c : Nat) : c < m → ∀ x ∈ po N c, x ≤ c := by
  induction c using Nat.strongRecOn with
  | ind c ih =>
    intro hc x hx
    rw [po_eq h hc] at hx
    rcases List.mem_cons.mp hx with rfl | hx
    · exact Nat.le_refl _
    · obtain ⟨z, hz, hxz⟩ := List.mem_flatMap.mp hx
      have := h.lt hc hz
      have := ih z this (by omega) x hxz
      omega
theorem po_yl {m : Nat} {N : Nat → Nd} (h : NdOk m N) (c : Nat) : c < m → ∀ x ∈ po N c, ∀ w ∈ yl N x, w ∈ yl N c := by
  induction c using Nat.strongRecOn with
  | ind c ih =>
    intro hc x hx w hw
    rw [po_eq h hc] at hx
    rcases List.mem_cons.mp hx with rfl | hx
    · exact hw
    · obtain ⟨z, hz, hxz⟩ := List.mem_flatMap.mp hx
      have hlt := h.lt hc hz
      have := ih z hlt (by omega) x hxz w hw
      obtain ⟨k, hk⟩ := List.mem_iff_getElem?.mp hz
      rw [yl_ch h hc hk]
      exact List.mem_flatMap.mpr ⟨z, hz, this⟩
theorem po_par {m : Nat} {N : Nat → Nd} (h : NdOk m N) (c : Nat) : c < m → ∀ x ∈ po N c, x = c ∨ ∃ y ∈ po N c, x ∈ ndC (N y) := by
  induction c using Nat.strongRecOn with
  | ind c ih =>
    intro hc x hx
    rw [po_eq h hc] at hx ⊢
    rcases List.mem_cons.mp hx with rfl | hx
    · exact Or.inl rfl
    · obtain ⟨z, hz, hxz⟩ := List.mem_flatMap.mp hx
      have hlt := h.lt hc hz
      rcases ih z hlt (by omega) x hxz with rfl | ⟨y, hy, hxy⟩
      · exact Or.inr ⟨c, List.mem_cons_self .., hz⟩
      · exact Or.inr ⟨y, List.mem_cons_of_mem _ (List.mem_flatMap.mpr ⟨z, hz, hy⟩), hxy⟩
theorem nd_fm {f : Nat → List Nat} : ∀ {l : List Nat}, (∀ c ∈ l, (f c).Nodup) → (∀ i j a b x : Nat, l[i]? = some a → l[j]? = some b → x ∈ f a → x ∈ f b → i = j) → (l.flatMap f).Nodup
  | [], _, _ => List.nodup_nil
  | c :: l, h1, h2 => by
    rw [List.flatMap_cons]
    refine List.nodup_append.mpr ⟨h1 c (List.mem_cons_self ..), nd_fm (fun x hx => h1 x (List.mem_cons_of_mem _ hx)) (fun i j a b x hi hj ha hb => ?_), fun a ha b hb e => ?_⟩
    · have := h2 (i + 1) (j + 1) a b x (by rw [List.getElem?_cons_succ]; exact hi) (by rw [List.getElem?_cons_succ]; exact hj) ha hb
      omega
    · subst e
      obtain ⟨z, hz, haz⟩ := List.mem_flatMap.mp hb
      obtain ⟨k, hk⟩ := List.mem_iff_getElem?.mp hz
      have := h2 0 (k + 1) c z a rfl (by rw [List.getElem?_cons_succ]; exact hk) ha haz
      omega
theorem nd_fm_inv {f : Nat → List Nat} : ∀ {l : List Nat} {i j a b x : Nat}, (l.flatMap f).Nodup → l[i]? = some a → l[j]? = some b → x ∈ f a → x ∈ f b → i = j
  | [], _, _, _, _, _, _, hi, _, _, _ => by cases hi
  | c :: l, i, j, a, b, x, h, hi, hj, ha, hb => by
    rw [List.flatMap_cons] at h
    obtain ⟨n1, n2, n3⟩ := List.nodup_append.mp h
    cases i with
    | zero =>
      cases j with
      | zero => rfl
      | succ j =>
        rw [List.getElem?_cons_succ] at hj
        cases hi
        exact absurd rfl (n3 x ha x (List.mem_flatMap.mpr ⟨b, List.mem_of_getElem? hj, hb⟩))
    | succ i =>
      rw [List.getElem?_cons_succ] at hi
      cases j with
      | zero =>
        cases hj
        exact absurd rfl (n3 x hb x (List.mem_flatMap.mpr ⟨a, List.mem_of_getElem? hi, ha⟩))
      | succ j =>
        rw [List.getElem?_cons_succ] at hj
        have := nd_fm_inv n2 hi hj ha hb
        omega
theorem nd_fm_sub {f : Nat → List Nat} : ∀ {l : List Nat} {c : Nat}, (l.flatMap f).Nodup → c ∈ l → (f c).Nodup
  | [], _, _, hc => by cases hc
  | a :: l, c, h, hc => by
    rw [List.flatMap_cons] at h
    obtain ⟨n1, n2, n3⟩ := List.nodup_append.mp h
    rcases List.mem_cons.mp hc with rfl | hc
    · exact n1
    · exact nd_fm_sub n2 hc
theorem po_nodup {m : Nat} {N : Nat → Nd} (h : NdOk m N) (hu : UqE m N) (c : Nat) : c < m → (yl N c).Nodup → (po N c).Nodup := by
  induction c using Nat.strongRecOn with
  | ind c ih =>
    intro hc hy
    rw [po_eq h hc]
    refine List.nodup_cons.mpr ⟨fun hm => ?_, ?_⟩
    · obtain ⟨z, hz, hcz⟩ := List.mem_flatMap.mp hm
      have hlt := h.lt hc hz
      have := po_le h z (by omega) c hcz
      omega
    · by_cases hnil : ndC (N c) = []
      · rw [hnil]
        exact List.nodup_nil
      have hy2 : ((ndC (N c)).flatMap (yl N)).Nodup := by
        obtain ⟨z, hz⟩ := List.exists_mem_of_ne_nil _ hnil
        obtain ⟨k, hk⟩ := List.mem_iff_getElem?.mp hz
        rw [← yl_ch h hc hk]
        exact hy
      refine nd_fm (fun z hz => ih z (h.lt hc hz) (by have := h.lt hc hz; omega) (nd_fm_sub hy2 hz)) (fun i j a b x hi hj hxa hxb => ?_)
      have ha := h.lt hc (List.mem_of_getElem? hi)
      have hb := h.lt hc (List.mem_of_getElem? hj)
      have big : ∀ y, y ∈ po N a → y ∈ po N b → 1 ≤ ndT (N y) → i = j := by
        intro y hya hyb hy1
        have hym := po_le h a (by omega) y hya
        have hlen := yl_len h y (by omega)
        have hne : yl N y ≠ [] := fun u => by
          rw [u] at hlen
          change 0 = _ at hlen
          omega
        obtain ⟨w, hw⟩ := List.exists_mem_of_ne_nil _ hne
        exact nd_fm_inv hy2 hi hj (po_yl h a (by omega) y hya w hw) (po_yl h b (by omega) y hyb w hw)
      by_cases hx1 : 1 ≤ ndT (N x)
      · exact big x hxa hxb hx1
      · have hx0 : ndT (N x) = 0 := by omega
        rcases po_par h a (by omega) x hxa with rfl | ⟨y1, hy1, hxy1⟩
        · rcases po_par h b (by omega) x hxb with rfl | ⟨y2, hy2', hxy2⟩
          · exact (hu c c i j x hc hc hi hj hx0).2
          · have hy2m := po_le h b (by omega) y2 hy2'
            obtain ⟨k2, hk2⟩ := List.mem_iff_getElem?.mp hxy2
            have := (hu c y2 i k2 x hc (by omega) hi hk2 hx0).1
            omega
        · have hy1m := po_le h a (by omega) y1 hy1
          obtain ⟨k1, hk1⟩ := List.mem_iff_getElem?.mp hxy1
          rcases po_par h b (by omega) x hxb with rfl | ⟨y2, hy2', hxy2⟩
          · have := (hu c y1 j k1 x hc (by omega) hj hk1 hx0).1
            omega
          · have hy2m := po_le h b (by omega) y2 hy2'
            obtain ⟨k2, hk2⟩ := List.mem_iff_getElem?.mp hxy2
            have e := (hu y1 y2 k1 k2 x (by omega) (by omega) hk1 hk2 hx0).1
            subst e
            exact big y1 hy1 hy2' (tok1 h y1 (by omega) (Or.inr (List.ne_nil_of_mem hxy1)))
/-! ===== a TREE over a good TEXT's TOKENS ===== -/
theorem nd_at {l : List Nat} : l.Nodup ↔ ∀ i j a : Nat, i < j → l[i]? = some a → l[j]? = some a → False := by
  unfold List.Nodup
  rw [List.pairwise_iff_getElem]
  constructor
  · intro h i j a hij hi hj
    obtain ⟨h1, e1⟩ := List.getElem?_eq_some_iff.mp hi
    obtain ⟨h2, e2⟩ := List.getElem?_eq_some_iff.mp hj
    exact h i j h1 h2 hij (e1.trans e2.symm)
  · intro h i j h1 h2 hij e
    exact h i j l[i] hij (List.getElem?_eq_getElem h1) (by rw [e]; exact List.getElem?_eq_getElem h2)
/-- its root R; the TOKENS' nodes og 0 .. og (n - 1), END's is the last -/
def TreeI (m : Nat) (N : Nat → Nd) (R n : Nat) (og : Nat → Nat) : Prop :=
  R < m ∧ ndM (N R) = 0 ∧ yl N R = (List.range (n - 1)).map og ∧ (∀ i j, i < n → j < n → og i = og j → i = j) ∧ (∀ i, i < n → og i < m ∧ ndR (N (og i)) = -2) ∧ (∀ z ∈ yl N R, 0 ≤ ndS (N z)) ∧ 1 ≤ n ∧ n ≤ 100
def flR (N : Nat → Nd) (R : Nat) : List Fl := fl N R 0 0 0 1
theorem TreeI.tk {m R n : Nat} {N : Nat → Nd} {og : Nat → Nat} (h : NdOk m N) (t : TreeI m N R n og) : ndT (N R) = n - 1 := by
  rw [← yl_len h R t.1, t.2.2.1, List.length_map, List.length_range]
theorem TreeI.few {m R n : Nat} {N : Nat → Nd} {og : Nat → Nat} (h : NdOk m N) (t : TreeI m N R n og) : sz N R ≤ 248 := by
  have h1 := sz_le h R t.1
  have h2 := t.tk h
  rw [t.2.1, h2] at h1
  have h3 := t.2.2.2.2.2.2.2
  have h4 : cS 0 = 2 := rfl
  omega
theorem yl_tok {m c : Nat} {N : Nat → Nd} (h : NdOk m N) (hc : c < m) (hr : ndR (N c) = -2) : yl N c = [c] := by
  rw [yl_eq h hc, if_pos (by omega)]
theorem TreeI.flG {m R n : Nat} {N : Nat → Nd} {og : Nat → Nat} (h : NdOk m N) (hu : UqE m N) (t : TreeI m N R n og) : FlG m (flR N R) N n := by
  have htk := t.tk h
  have hsz := t.few h
  obtain ⟨t1, t2, t3, t4, t5, t6, t7, t8⟩ := t
  have hlen : (flR N R).length = sz N R := fl_len h R t1 _ _ _ _
  have hmap : (flR N R).map (fun x => x.1) = po N R := fl_map h R t1 _ _ _ _
  have hnd : (yl N R).Nodup := by
    rw [t3]
    refine nd_at.mpr (fun i j a hij hi hj => ?_)
    have h1 := (List.getElem?_eq_some_iff.mp hi).1
    have h2 := (List.getElem?_eq_some_iff.mp hj).1
    rw [List.length_map, List.length_range] at h1 h2
    rw [List.getElem?_map, List.getElem?_range h1] at hi
    rw [List.getElem?_map, List.getElem?_range h2] at hj
    have := t4 i j (by omega) (by omega) (Option.some.inj (hi.trans hj.symm))
    omega
  have hpo := po_nodup h hu R t1 hnd
  refine ⟨⟨by omega, fun p x hp => ?_⟩, fun p q x y hp hq e => ?_, fun p x hp => ?_⟩
  · obtain ⟨a1, a2, -⟩ := fl_in h R t1 _ _ _ _ _ _ hp
    refine ⟨by omega, fun u => ?_⟩
    obtain ⟨y, i', b1, b2, -⟩ := a2 u
    omega
  · have hp2 := (List.getElem?_eq_some_iff.mp hp).1
    have e1 : (po N R)[p]? = some x.1 := by rw [← hmap, List.getElem?_map, hp]; rfl
    have e2 : (po N R)[q]? = some y.1 := by rw [← hmap, List.getElem?_map, hq]; rfl
    rw [← e] at e2
    rcases Nat.lt_trichotomy p q with u | u | u
    · exact absurd e2 (fun w => nd_at.mp hpo p q _ u e1 w)
    · exact u
    · exact absurd e1 (fun w => nd_at.mp hpo q p _ u e2 w)
  · obtain ⟨a1, a2, o, a3, a4, a5, a6⟩ := fl_in h R t1 _ _ _ _ _ _ hp
    have hx : x.1 < m := by omega
    have hf : x.2.2.1 = if ndT (N x.1) = 0 then (-2 : Int) else ((0 + o : Nat) : Int) := by
      rw [a4]
      rfl
    refine ⟨?_, ?_, fun u => ?_⟩
    · by_cases c : ndT (N x.1) = 0
      · rw [if_pos c] at hf
        exact Or.inl hf
      · rw [if_neg c] at hf
        exact Or.inr ⟨0 + o, hf, by omega, by omega⟩
    · rcases h x.1 hx with ⟨e1, -, -, -, e5⟩ | ⟨r, s, -, e2, -, e4, -⟩
      · rcases e5 with e5 | e5
        · have hin : x.1 ∈ po N R := by
            rw [← hmap]
            exact List.mem_map.mpr ⟨x, List.mem_of_getElem? hp, rfl⟩
          have := t6 x.1 (po_yl h R t1 x.1 hin x.1 (by rw [yl_tok h hx e1]; exact List.mem_singleton.mpr rfl))
          omega
        · exact e5
      · exact ⟨s, e2, e4⟩
    · obtain ⟨y, i', b1, b2, b3, b4, b5⟩ := a2 u
      have hy := (fl_in h R t1 _ _ _ _ _ _ b3).1
      have hym : y.1 < m := by omega
      rw [Nat.zero_add] at b2
      rcases h y.1 hym with ⟨-, e2, -⟩ | ⟨r, s, e1, -, e3, -, -, -, -, e8⟩
      · rw [e2] at b4
        cases b4
      · refine ⟨y, r, by rw [b2]; exact b3, e1, e3, fun hx0 => ?_⟩
        have hTx : 1 ≤ ndT (N x.1) := by
          refine Nat.pos_of_ne_zero (fun c => ?_)
          rw [if_pos c] at hf
          omega
        have hTy : ndT (N y.1) ≠ 0 := by
          have := tkS_mem (N := N) b4
          omega
        obtain ⟨-, -, o', -, c4, -⟩ := fl_in h R t1 _ _ _ _ _ _ b3
        have hfy : y.2.2.1 = if ndT (N y.1) = 0 then (-2 : Int) else ((0 + o' : Nat) : Int) := by
          rw [c4]
          rfl
        rw [hfy, if_neg hTy]
        omega
/-- the TOKENS ahead of END are in it, END is not -/
theorem TreeI.tok {m R n j : Nat} {N : Nat → Nd} {og : Nat → Nat} (h : NdOk m N) (t : TreeI m N R n og) (hj : j + 1 < n) : ∃ (p : Nat) (x : Fl), (flR N R)[p]? = some x ∧ x.1 = og j ∧ 1 ≤ p ∧ x.2.2.1 = (j : Int) := by
  obtain ⟨t1, t2, t3, t4, t5, t6, t7, t8⟩ := t
  have hy : (yl N R)[j]? = some (og j) := by
    rw [t3, List.getElem?_map, List.getElem?_range (by omega)]
    rfl
  obtain ⟨i, x, e1, e2, e3⟩ := fl_tok h R t1 0 0 0 1 j (og j) hy
  refine ⟨i, x, e1, e2, Nat.pos_of_ne_zero (fun u => ?_), by rw [e3, Nat.zero_add]⟩
  subst u
  rw [fl_0 h t1] at e1
  cases e1
  have hR : R = og j := e2
  have := (t5 j (by omega)).2
  rw [← hR] at this
  unfold ndM at t2
  rw [this, if_pos (by decide)] at t2
  omega
theorem TreeI.fin {m R n : Nat} {N : Nat → Nd} {og : Nat → Nat} (h : NdOk m N) (t : TreeI m N R n og) : ∀ (p : Nat) (x : Fl), (flR N R)[p]? = some x → x.1 ≠ og (n - 1) := by
  obtain ⟨t1, t2, t3, t4, t5, t6, t7, t8⟩ := t
  intro p x hp e
  have hmap : (flR N R).map (fun x => x.1) = po N R := fl_map h R t1 _ _ _ _
  have hin : x.1 ∈ po N R := by
    rw [← hmap]
    exact List.mem_map.mpr ⟨x, List.mem_of_getElem? hp, rfl⟩
  obtain ⟨h1, h2⟩ := t5 (n - 1) (by omega)
  rw [← e] at h1 h2
  have := po_yl h R t1 x.1 hin x.1 (by rw [yl_tok h h1 h2]; exact List.mem_singleton.mpr rfl)
  rw [t3] at this
  obtain ⟨k, hk, hk2⟩ := List.mem_map.mp this
  have hk3 := List.mem_range.mp hk
  rw [e] at hk2
  have := t4 k (n - 1) (by omega) (by omega) hk2
  omega
/-! ===== growing: what is on the stack are trees over the TOKENS passed ===== -/
def GJ (m0 : Nat) (N0 : Nat → Nd) (g : Nat → Nat) (i m : Nat) (N : Nat → Nd) (st : List (Nat × Nat)) : Prop :=
  (st.drop 1).flatMap (fun p => yl N p.1) = (List.range i).map g ∧ (∀ p ∈ st.drop 1, ∀ z ∈ yl N p.1, 0 ≤ ndS (N z)) ∧ UqE m N ∧
  (∀ (j : Nat) (p : Nat × Nat), 1 ≤ j → st[j]? = some p → ndT (N p.1) = 0 → ∀ y k : Nat, y < m → (ndC (N y))[k]? ≠ some p.1) ∧
  (∀ (j1 j2 : Nat) (p1 p2 : Nat × Nat), 1 ≤ j1 → 1 ≤ j2 → st[j1]? = some p1 → st[j2]? = some p2 → p1.1 = p2.1 → ndT (N p1.1) = 0 → j1 = j2) ∧
  ∀ k, k < m0 → N k = N0 k
/-- a sound node's TOKENS were TOKENS one behind the other -/
theorem snd_was {A B n n' i j f k : Nat} (hAn : A + B ≤ n) (hAn' : A + B ≤ n') (hw : wasN A B n n' i = some j) (hs : sndP A B n' n j f) (hk : k < f) (hin : i + f < n) : wasN A B n n' (i + k) = some (j + k) := by
  unfold wasN at hw ⊢
  have a0 : sndP A B n' n j f = (j + f < A ∨ n' - B ≤ j ∨ (A + B = n' ∧ n' = n)) := rfl
  rw [a0] at hs
  by_cases c1 : i < A
  · rw [if_pos c1] at hw
    cases hw
    by_cases c3 : i + k < A
    · rw [if_pos c3]
    · rw [if_neg c3, if_pos (by omega)]
      congr 1
      omega
  · rw [if_neg c1] at hw
    by_cases c2 : n - B ≤ i
    · rw [if_pos c2] at hw
      cases hw
      rw [if_neg (by omega), if_pos (by omega)]
      congr 1
      omega
    · rw [if_neg c2] at hw
      cases hw
theorem drop1_snoc {α : Type} {l : List α} {a : α} (h : 1 ≤ l.length) : (l ++ [a]).drop 1 = l.drop 1 ++ [a] := List.drop_append_of_le_length h
theorem snoc_at {α : Type} {l : List α} {a x : α} {j : Nat} (h : (l ++ [a])[j]? = some x) : l[j]? = some x ∨ (j = l.length ∧ x = a) := by
  by_cases u : j < l.length
  · rw [List.getElem?_append_left u] at h
    exact Or.inl h
  · have hq := (List.getElem?_eq_some_iff.mp h).1
    rw [List.length_append] at hq
    have hj : j = l.length := by
      have : [a].length = 1 := rfl
      omega
    rw [hj, List.getElem?_append_right (Nat.le_refl _), Nat.sub_self] at h
    cases h
    exact Or.inr ⟨hj, rfl⟩
theorem take_at {α : Type} {l : List α} {x : α} {j n : Nat} (h : (l.take n)[j]? = some x) : j < n ∧ l[j]? = some x := by
  by_cases u : j < n
  · rw [List.getElem?_take, if_pos u] at h
    exact ⟨u, h⟩
  · rw [List.getElem?_take, if_neg u] at h
    cases h
theorem mem_drop1 {α : Type} {l : List α} {x : α} (h : x ∈ l.drop 1) : ∃ j, 1 ≤ j ∧ l[j]? = some x := by
  obtain ⟨k, hk⟩ := List.mem_iff_getElem?.mp h
  rw [List.getElem?_drop] at hk
  exact ⟨1 + k, by omega, hk⟩
theorem GJ.nx {A B n n' e m0 m1 R i m k tk : Nat} {g kd og : Nat → Nat} {N0 N : Nat → Nd} {st : List (Nat × Nat)} {y : Gs} (h0 : NdOk m0 N0) (t0 : TreeI m0 N0 R n' og) (hog : ∀ i, i < n → ∀ j, wasN A B n n' i = some j → g i = og j) (hnew : ∀ i, i < n → wasN A B n n' i = none → m0 ≤ g i) (h01 : m0 ≤ m1) (ge : GE (flR N0 R) A B n n' g kd) (h : GI (flR N0 R) n n' g kd m1 i m N st k) (hj : GJ m0 N0 g i m N st) (e1 : gNx (flR N0 R) A B n n' g e i m N st tk = some y) : GJ m0 N0 g y.1 y.2.1 y.2.2.1 y.2.2.2.1 := by
  have hnx := h.nx ge e1
  have hT := fun b hb => GI.taken (b := b) ge h hb
  have hcw := ge.cw h.2.2.2.2.2.1 h.1
  obtain ⟨g1, g2, g3, g4, g5, g6, g7⟩ := id ge
  obtain ⟨hi, ⟨s1, s2, s3, s4⟩, hf, ⟨hm1, hmk⟩, hN, hF, hg⟩ := id h
  obtain ⟨p0, q1, q2⟩ := top_at s1
  have hs21 : topS st < 21 := q2 ▸ (s3 _ p0 q1).1
  obtain ⟨j1, j2, j3, j4, j5, j6⟩ := hj
  unfold gNx at e1
  cases hb : bestOf (flR N0 R) N A B n n' i (topS st) (g i) with
  | some b =>
    rw [hb] at e1
    cases e1
    obtain ⟨hbm, r, b4, b5, hsy, hld, hf1, hin⟩ := hT b hb
    obtain ⟨j, hjw, p, x, r', c1, c2, c3, c4, c5, c6, c7⟩ := bestOf_ok hF hcw hb
    have ht := t0.tk h0
    obtain ⟨t1, t2, t3, t4, t5, t6, t7, t8⟩ := id t0
    obtain ⟨a1, -, o, a3, a4, a5, -⟩ := fl_in h0 R t1 _ _ _ _ _ _ c1
    rw [c2] at a1 a3 a4 a5
    have hb0 : b < m0 := by omega
    have hbN : N b = N0 b := j6 b hb0
    rw [hbN] at hf1 hin c7
    have hoj : o = j := by
      have : x.2.2.1 = if ndT (N0 b) = 0 then (-2 : Int) else ((0 + o : Nat) : Int) := by rw [a4]; rfl
      rw [if_neg (by omega), c3] at this
      omega
    subst hoj
    have hyl : yl N b = (List.range (ndT (N0 b))).map (fun k => g (i + k)) := by
      have e2 : yl N b = yl N0 b := yl_cg h0 (fun c hc => by rw [j6 c hc]; exact NdE.rf) hb0
      rw [e2, a5, t3]
      refine List.ext_getElem? (fun k => ?_)
      rw [List.getElem?_take, List.getElem?_map]
      by_cases hk : k < ndT (N0 b)
      · rw [if_pos hk, List.getElem?_drop, List.getElem?_map, List.getElem?_range (by omega), List.getElem?_range hk]
        have := hog (i + k) (by omega) (o + k) (snd_was g3 g4 hjw c7 hk hin)
        show some (og (o + k)) = some (g (i + k))
        rw [this]
      · rw [if_neg hk, List.getElem?_eq_none (by rw [List.length_range]; omega)]
        rfl
    have hbT : ndT (N b) ≠ 0 := by
      rw [hbN]
      omega
    refine ⟨?_, fun p hp z hz => ?_, j3, fun j p hj1 hp hz => ?_, fun k1 k2 p1 p2 hk1 hk2 hp1 hp2 he hz => ?_, j6⟩
    · dsimp only
      rw [drop1_snoc s1, List.flatMap_append, j1, hbN, List.range_add, List.map_append, List.map_map, List.flatMap_cons, List.flatMap_nil, List.append_nil, hyl]
      rfl
    · dsimp only at hp hz
      rw [drop1_snoc s1] at hp
      rcases List.mem_append.mp hp with hp | hp
      · exact j2 p hp z hz
      · cases List.mem_singleton.mp hp
        rw [yl_cg h0 (fun c hc => by rw [j6 c hc]; exact NdE.rf) hb0] at hz
        have hz2 : z ∈ yl N0 R := by
          rw [a5] at hz
          exact List.mem_of_mem_drop (List.mem_of_mem_take hz)
        have hz3 := (yl_mem h0 R t1 z hz2).1
        dsimp only
        rw [show N z = N0 z from j6 z (by omega)]
        exact t6 z hz2
    · rcases snoc_at hp with hp | ⟨-, rfl⟩
      · exact j4 j p hj1 hp hz
      · exact absurd hz hbT
    · rcases snoc_at hp1 with hp1 | ⟨u1, rfl⟩
      · rcases snoc_at hp2 with hp2 | ⟨u2, rfl⟩
        · exact j5 k1 k2 p1 p2 hk1 hk2 hp1 hp2 he hz
        · change p1.1 = b at he
          rw [he] at hz
          exact absurd hz hbT
      · exact absurd hz hbT
  | none =>
    rw [hb] at e1
    obtain ⟨hgm, hgR, hgK⟩ := hg i hi
    by_cases hz : ldN (topS st) (ndM (N (g i))) = 0
    · rw [if_pos hz] at e1
      cases hr : rlN (topS st) with
      | none =>
        rw [hr] at e1
        cases e1
      | some r =>
        rw [hr] at e1
        cases e1
        have hr11 := rlN_lt hs21 hr
        obtain ⟨f1, f2⟩ := st_fits s2 s3 s1 q1 q2 hr
        have hN' : NdOk (m + 1) (upN N m (byN N st r e)) := hnx.2.2.2.2.1
        have hE : ∀ c, c < m → NdE (N c) (upN N m (byN N st r e) c) := fun c hc => by
          rw [upN_o (by omega)]
          exact NdE.rf
        have hyc : ∀ c, c < m → yl (upN N m (byN N st r e)) c = yl N c := fun c hc => yl_cg hN hE hc
        have hCat : ∀ (k z : Nat), (byC st r)[k]? = some z → ∃ p : Nat × Nat, st[st.length - lnN r + k]? = some p ∧ p.1 = z := by
          intro k z hk
          unfold byC at hk
          rw [List.getElem?_map, List.getElem?_drop] at hk
          cases hp : st[st.length - lnN r + k]? with
          | none => rw [hp] at hk; cases hk
          | some p =>
            rw [hp] at hk
            cases hk
            exact ⟨p, rfl, rfl⟩
        have hlt : ∀ (c z k : Nat), c < m + 1 → (ndC (upN N m (byN N st r e) c))[k]? = some z → z < c := fun c z k hc hk => hN'.lt hc (List.mem_of_getElem? hk)
        have hCm : ndC (upN N m (byN N st r e) m) = byC st r := by
          rw [upN_self]
          rfl
        have hylm : yl (upN N m (byN N st r e)) m = (byC st r).flatMap (yl N) := by
          rw [yl_eq hN' (Nat.lt_succ_self m), if_neg (by rw [upN_self]; show ¬ ((r : Nat) : Int) < 0; omega), hCm]
          refine flatMap_cg (fun z hz => hyc z ?_)
          obtain ⟨k, hk⟩ := List.mem_iff_getElem?.mp hz
          exact hlt m z k (Nat.lt_succ_self m) (by rw [hCm]; exact hk)
        have hq1 : 1 ≤ st.length - lnN r := by omega
        have hdt : (byT m st r).drop 1 = (st.take (st.length - lnN r)).drop 1 ++ [(m, ldN (byS st r) (syN r))] := by
          unfold byT
          exact drop1_snoc (by rw [List.length_take]; omega)
        have hds : st.drop 1 = (st.take (st.length - lnN r)).drop 1 ++ st.drop (st.length - lnN r) := by
          rw [← List.drop_append_of_le_length (by rw [List.length_take]; omega), List.take_append_drop]
        have hmem : ∀ p ∈ st.drop 1, p.1 < m := fun p hp => by
          obtain ⟨j, hj1, hj2⟩ := mem_drop1 hp
          exact (s3 j p hj2).2 hj1
        refine ⟨?_, fun p hp z hz => ?_, fun p1 p2 i1 i2 z hp1 hp2 hz1 hz2 hz0 => ?_, fun j p hj1 hp hz0 y k hy hk => ?_, fun k1 k2 p1 p2 hk1 hk2 hp1 hp2 he hz0 => ?_, fun k hk => ?_⟩
        · dsimp only
          rw [hdt, List.flatMap_append, ← j1, hds, List.flatMap_append]
          congr 1
          · refine flatMap_cg (fun p hp => hyc p.1 (hmem p ?_))
            rw [hds]
            exact List.mem_append_left _ hp
          · rw [List.flatMap_cons, List.flatMap_nil, List.append_nil]
            show yl (upN N m (byN N st r e)) m = _
            rw [hylm]
            unfold byC
            rw [List.flatMap_map]
        · dsimp only at hp hz
          have key : ∀ p ∈ st.drop 1, ∀ z ∈ yl N p.1, 0 ≤ ndS (upN N m (byN N st r e) z) := fun p hp z hz => by
            have h1 := (yl_mem hN p.1 (hmem p hp) z hz).1
            have h2 := hmem p hp
            rw [upN_o (by omega)]
            exact j2 p hp z hz
          rw [hdt] at hp
          rcases List.mem_append.mp hp with hp | hp
          · have hp' : p ∈ st.drop 1 := by
              rw [hds]
              exact List.mem_append_left _ hp
            rw [hyc p.1 (hmem p hp')] at hz
            exact key p hp' z hz
          · cases List.mem_singleton.mp hp
            change z ∈ yl (upN N m (byN N st r e)) m at hz
            rw [hylm] at hz
            obtain ⟨c, hc, hzc⟩ := List.mem_flatMap.mp hz
            unfold byC at hc
            obtain ⟨p, hp, rfl⟩ := List.mem_map.mp hc
            exact key p (by rw [hds]; exact List.mem_append_right _ hp) z hzc
        · dsimp only at hp1 hp2 hz1 hz2 hz0
          have hzm : z < m := by
            have := hlt p1 z i1 hp1 hz1
            omega
          rw [upN_o (by omega)] at hz0
          by_cases u1 : p1 = m
          · subst u1
            rw [hCm] at hz1
            obtain ⟨w1, v1, v2⟩ := hCat i1 z hz1
            by_cases u2 : p2 = p1
            · subst u2
              rw [hCm] at hz2
              obtain ⟨w2, v3, v4⟩ := hCat i2 z hz2
              have := j5 _ _ w1 w2 (by omega) (by omega) v1 v3 (v2.trans v4.symm) (by rw [v2]; exact hz0)
              exact ⟨rfl, by omega⟩
            · rw [upN_o u2] at hz2
              exact absurd (by rw [v2]; exact hz2) (j4 _ w1 (by omega) v1 (by rw [v2]; exact hz0) p2 i2 (by omega))
          · rw [upN_o u1] at hz1
            by_cases u2 : p2 = m
            · subst u2
              rw [hCm] at hz2
              obtain ⟨w2, v3, v4⟩ := hCat i2 z hz2
              exact absurd (by rw [v4]; exact hz1) (j4 _ w2 (by omega) v3 (by rw [v4]; exact hz0) p1 i1 (by omega))
            · rw [upN_o u2] at hz2
              exact j3 p1 p2 i1 i2 z (by omega) (by omega) hz1 hz2 hz0
        · dsimp only at hp hz0 hy hk
          have hlt2 := hlt y p.1 k hy hk
          unfold byT at hp
          rcases snoc_at hp with hp | ⟨-, rfl⟩
          · obtain ⟨u, hp9⟩ := take_at hp
            have hpm := (s3 j p hp9).2 hj1
            rw [upN_o (by omega)] at hz0
            by_cases u1 : y = m
            · subst u1
              rw [hCm] at hk
              obtain ⟨w1, v1, v2⟩ := hCat k p.1 hk
              have := j5 _ _ p w1 hj1 (by omega) hp9 v1 v2.symm hz0
              omega
            · rw [upN_o u1] at hk
              exact j4 j p hj1 hp9 hz0 y k (by omega) hk
          · change m < y at hlt2
            omega
        · dsimp only at hp1 hp2 hz0
          unfold byT at hp1 hp2
          rcases snoc_at hp1 with hp1 | ⟨w1, rfl⟩
          · obtain ⟨u, hp1⟩ := take_at hp1
            have hpm := (s3 k1 p1 hp1).2 hk1
            rcases snoc_at hp2 with hp2 | ⟨w2, rfl⟩
            · obtain ⟨u2, hp2⟩ := take_at hp2
              rw [upN_o (by omega)] at hz0
              exact j5 k1 k2 p1 p2 hk1 hk2 hp1 hp2 he hz0
            · change p1.1 = m at he
              omega
          · rcases snoc_at hp2 with hp2 | ⟨w2, rfl⟩
            · obtain ⟨u2, hp2⟩ := take_at hp2
              have hpm := (s3 k2 p2 hp2).2 hk2
              change m = p2.1 at he
              omega
            · omega
        · dsimp only
          rw [upN_o (by omega)]
          exact j6 k hk
    · rw [if_neg hz] at e1
      cases e1
      have hN' : NdOk m (upN N (g i) (stNd (N (g i)) (topS st))) := hnx.2.2.2.2.1
      have hin : i + 1 < n := hnx.1
      have hE : ∀ c, c < m → NdE (N c) (upN N (g i) (stNd (N (g i)) (topS st)) c) := fun c _ => upN_stE c
      have hyc : ∀ c, c < m → yl (upN N (g i) (stNd (N (g i)) (topS st))) c = yl N c := fun c hc => yl_cg hN hE hc
      have hCe : ∀ c, ndC (upN N (g i) (stNd (N (g i)) (topS st)) c) = ndC (N c) := fun c => (upN_stE c).2.2.2.2.1
      have hTe : ∀ c, ndT (upN N (g i) (stNd (N (g i)) (topS st)) c) = ndT (N c) := fun c => (upN_stE c).2.2.1
      have hmem : ∀ p ∈ st.drop 1, p.1 < m := fun p hp => by
        obtain ⟨j, hj1, hj2⟩ := mem_drop1 hp
        exact (s3 j p hj2).2 hj1
      have hgT : ndT (N (g i)) = 1 := by
        rcases hN (g i) hgm with ⟨-, -, -, u, -⟩ | ⟨r, s, -, -, u, -⟩
        · exact u
        · omega
      have hgy : yl N (g i) = [g i] := yl_tok hN hgm hgR
      refine ⟨?_, fun p hp z hz => ?_, fun p1 p2 i1 i2 z hp1 hp2 hz1 hz2 hz0 => ?_, fun j p hj1 hp hz0 y k hy hk => ?_, fun k1 k2 p1 p2 hk1 hk2 hp1 hp2 he hz0 => ?_, fun k hk => ?_⟩
      · dsimp only
        rw [drop1_snoc s1, List.flatMap_append, flatMap_cg (fun p hp => hyc p.1 (hmem p hp)), j1, List.range_succ, List.map_append, List.flatMap_cons, List.flatMap_nil, List.append_nil]
        congr 1
        show yl (upN N (g i) (stNd (N (g i)) (topS st))) (g i) = _
        rw [hyc _ hgm, hgy]
        rfl
      · dsimp only at hp hz ⊢
        rw [drop1_snoc s1] at hp
        rcases List.mem_append.mp hp with hp | hp
        · rw [hyc p.1 (hmem p hp)] at hz
          have := j2 p hp z hz
          rcases upN_stS (N := N) (c := g i) (s := topS st) z with u | ⟨u, -⟩
          · rw [u]
            exact this
          · omega
        · cases List.mem_singleton.mp hp
          change z ∈ yl (upN N (g i) (stNd (N (g i)) (topS st))) (g i) at hz
          rw [hyc _ hgm, hgy] at hz
          cases List.mem_singleton.mp hz
          rw [upN_self]
          unfold stNd
          by_cases u : 0 ≤ ndS (N (g i))
          · rw [if_pos u]
            exact u
          · rw [if_neg u]
            show (0 : Int) ≤ ((topS st : Nat) : Int)
            omega
      · rw [hCe] at hz1 hz2
        rw [hTe] at hz0
        exact j3 p1 p2 i1 i2 z hp1 hp2 hz1 hz2 hz0
      · dsimp only at hz0 hk
        rw [hCe] at hk
        rw [hTe] at hz0
        rcases snoc_at hp with hp | ⟨-, rfl⟩
        · exact j4 j p hj1 hp hz0 y k hy hk
        · change ndT (N (g i)) = 0 at hz0
          omega
      · dsimp only at hz0
        rw [hTe] at hz0
        rcases snoc_at hp1 with hp1 | ⟨u1, rfl⟩
        · rcases snoc_at hp2 with hp2 | ⟨u2, rfl⟩
          · exact j5 k1 k2 p1 p2 hk1 hk2 hp1 hp2 he hz0
          · change p1.1 = g i at he
            rw [he] at hz0
            omega
        · change ndT (N (g i)) = 0 at hz0
          omega
      · dsimp only
        by_cases u : k = g i
        · subst u
          have hst : 0 ≤ ndS (N (g i)) := by
            cases hw : wasN A B n n' i with
            | none =>
              have := hnew i hi hw
              omega
            | some j =>
              have hjn := wasN_lt hi (by omega) (by omega) (by omega) hw
              have hj1 : j + 1 < n' := by
                unfold wasN at hw
                by_cases c1 : i < A
                · rw [if_pos c1] at hw
                  cases hw
                  omega
                · rw [if_neg c1] at hw
                  by_cases c2 : n - B ≤ i
                  · rw [if_pos c2] at hw
                    cases hw
                    omega
                  · rw [if_neg c2] at hw
                    cases hw
              rw [j6 _ hk, hog i hi j hw]
              refine t0.2.2.2.2.2.1 _ ?_
              rw [t0.2.2.1]
              exact List.mem_map.mpr ⟨j, List.mem_range.mpr (by omega), rfl⟩
          rw [upN_self]
          unfold stNd
          rw [if_pos hst]
          exact j6 _ hk
        · rw [upN_o u]
          exact j6 k hk
/-! ===== what naming the new tokens gives ===== -/
theorem namF_ok {t : Nat → Int32} {l : List (Nat × Nat × Nat)} {A Bh n' : Nat} {og : Nat → Nat} {e : Nat} : ∀ (d i m : Nat) (g : Nat → Nat) (N : Nat → Nd) (m' : Nat) (g' : Nat → Nat) (N' : Nat → Nd), namF t l A Bh n' og e d i m g N = (m', g', N') →
    m ≤ m' ∧ m' ≤ m + d ∧ (∀ k, k < m → N' k = N k) ∧ (∀ k, k < i → g' k = g k) ∧
    (∀ k, i ≤ k → k < i + d → (∀ j, wasN A Bh l.length n' k = some j → g' k = og j) ∧ (wasN A Bh l.length n' k = none → m ≤ g' k ∧ g' k < m' ∧ N' (g' k) = tkNd t (l.getD k (10, 0, 0)) e)) ∧
    (∀ k, m ≤ k → k < m' → ∃ i', i ≤ i' ∧ i' < i + d ∧ N' k = tkNd t (l.getD i' (10, 0, 0)) e) ∧
    (∀ k1 k2, i ≤ k1 → k1 < i + d → i ≤ k2 → k2 < i + d → wasN A Bh l.length n' k1 = none → wasN A Bh l.length n' k2 = none → g' k1 = g' k2 → k1 = k2)
  | 0, i, m, g, N, m', g', N', h => by
    cases h
    exact ⟨Nat.le_refl _, by omega, fun _ _ => rfl, fun _ _ => rfl, fun k h1 h2 => by omega, fun k h1 h2 => by omega, fun k1 k2 h1 h2 => by omega⟩
  | d + 1, i, m, g, N, m', g', N', h => by
    cases hw : wasN A Bh l.length n' i with
    | some j =>
      have h' : namF t l A Bh n' og e d (i + 1) m (fun k => if k = i then og j else g k) N = (m', g', N') := by
        rw [← h]
        show _ = (match wasN A Bh l.length n' i with
          | some j => namF t l A Bh n' og e d (i + 1) m (fun k => if k = i then og j else g k) N
          | none => namF t l A Bh n' og e d (i + 1) (m + 1) (fun k => if k = i then m else g k) (upN N m (tkNd t (l.getD i (10, 0, 0)) e)))
        rw [hw]
      obtain ⟨a1, a2, a3, a4, a5, a6, a7⟩ := namF_ok d (i + 1) m _ N m' g' N' h'
      refine ⟨a1, by omega, a3, fun k hk => ?_, fun k h1 h2 => ?_, fun k h1 h2 => ?_, fun k1 k2 h1 h2 h3 h4 w1 w2 he => ?_⟩
      · rw [a4 k (by omega), if_neg (by omega)]
      · by_cases u : k = i
        · subst u
          refine ⟨fun j' hj' => ?_, fun hn => ?_⟩
          · rw [a4 k (by omega), if_pos rfl]
            rw [hw] at hj'
            cases hj'
            rfl
          · rw [hw] at hn
            cases hn
        · exact a5 k (by omega) (by omega)
      · obtain ⟨i', b1, b2, b3⟩ := a6 k h1 h2
        exact ⟨i', by omega, by omega, b3⟩
      · have n1 : k1 ≠ i := fun u => by
          rw [u, hw] at w1
          cases w1
        have n2 : k2 ≠ i := fun u => by
          rw [u, hw] at w2
          cases w2
        exact a7 k1 k2 (by omega) (by omega) (by omega) (by omega) w1 w2 he
    | none =>
      have h' : namF t l A Bh n' og e d (i + 1) (m + 1) (fun k => if k = i then m else g k) (upN N m (tkNd t (l.getD i (10, 0, 0)) e)) = (m', g', N') := by
        rw [← h]
        show _ = (match wasN A Bh l.length n' i with
          | some j => namF t l A Bh n' og e d (i + 1) m (fun k => if k = i then og j else g k) N
          | none => namF t l A Bh n' og e d (i + 1) (m + 1) (fun k => if k = i then m else g k) (upN N m (tkNd t (l.getD i (10, 0, 0)) e)))
        rw [hw]
      obtain ⟨a1, a2, a3, a4, a5, a6, a7⟩ := namF_ok d (i + 1) (m + 1) _ _ m' g' N' h'
      have gi : g' i = m := by rw [a4 i (by omega), if_pos rfl]
      have Ni : N' m = tkNd t (l.getD i (10, 0, 0)) e := by rw [a3 m (by omega), upN_self]
      refine ⟨by omega, by omega, fun k hk => ?_, fun k hk => ?_, fun k h1 h2 => ?_, fun k h1 h2 => ?_, fun k1 k2 h1 h2 h3 h4 w1 w2 he => ?_⟩
      · rw [a3 k (by omega), upN_o (by omega)]
      · rw [a4 k (by omega), if_neg (by omega)]
      · by_cases u : k = i
        · subst u
          refine ⟨fun j' hj' => ?_, fun hn => ?_⟩
          · rw [hw] at hj'
            cases hj'
          · rw [gi]
            exact ⟨Nat.le_refl _, by omega, Ni⟩
        · obtain ⟨b1, b2⟩ := a5 k (by omega) (by omega)
          refine ⟨b1, fun hn => ?_⟩
          obtain ⟨c1, c2, c3⟩ := b2 hn
          exact ⟨by omega, c2, c3⟩
      · by_cases u : k = m
        · subst u
          exact ⟨i, Nat.le_refl _, by omega, Ni⟩
        · obtain ⟨i', b1, b2, b3⟩ := a6 k (by omega) h2
          exact ⟨i', by omega, by omega, b3⟩
      · by_cases u1 : k1 = i
        · by_cases u2 : k2 = i
          · omega
          · have := ((a5 k2 (by omega) (by omega)).2 w2).1
            rw [u1, gi] at he
            omega
        · by_cases u2 : k2 = i
          · have := ((a5 k1 (by omega) (by omega)).2 w1).1
            rw [u2, gi] at he
            omega
          · exact a7 k1 k2 (by omega) (by omega) (by omega) (by omega) w1 w2 he
/-- tokens of a TEXT: END alone is the last -/
def LxO (t : Nat → Int32) (l : List (Nat × Nat × Nat)) : Prop := (∀ x ∈ l, tkOk t x) ∧ 1 ≤ l.length ∧ l.length ≤ 100 ∧ ∀ (i : Nat) (x : Nat × Nat × Nat), l[i]? = some x → (x.1 = 10 ↔ i + 1 = l.length)
/-- the tokens' nodes are like them -/
def TkI (N : Nat → Nd) (t : Nat → Int32) (l : List (Nat × Nat × Nat)) (og : Nat → Nat) : Prop := ∀ (i : Nat) (x : Nat × Nat × Nat), l[i]? = some x → ndK (N (og i)) = x.1 ∧ ndY (N (og i)) = tkBs t x
theorem cntW_all {p : Nat → Bool} : ∀ f i j, j < cntW p f i → p (i + j) = true
  | 0, i, j, h => by
    change j < 0 at h
    omega
  | f + 1, i, j, h => by
    rw [cntW] at h
    by_cases c : p i = true
    · rw [if_pos c] at h
      cases j with
      | zero => exact c
      | succ j =>
        have := cntW_all (p := p) f (i + 1) j (by omega)
        rw [show i + (j + 1) = i + 1 + j by omega]
        exact this
    · rw [if_neg c] at h
      omega
theorem kept_le {t t' : Nat → Int32} {l l' : List (Nat × Nat × Nat)} (h : 1 ≤ l.length) (h' : 1 ≤ l'.length) : kAhead t' l' t l + kBehind t' l' t l ≤ l.length ∧ kAhead t' l' t l + kBehind t' l' t l ≤ l'.length ∧ 1 ≤ kBehind t' l' t l := by
  have h1 : kAhead t' l' t l ≤ min l'.length l.length - 1 := cntW_le _ _ _
  have h2 : kBehind t' l' t l ≤ min l'.length l.length - 1 - kAhead t' l' t l + 1 := Nat.succ_le_succ (cntW_le _ _ _)
  have h3 : 1 ≤ kBehind t' l' t l := Nat.succ_le_succ (Nat.zero_le _)
  omega
theorem tkA_bs {t t' : Nat → Int32} {x y : Nat × Nat × Nat} (h : tkA t' y t x) : y.1 = x.1 ∧ tkBs t' y = tkBs t x := by
  obtain ⟨h1, h2, h3⟩ := h
  refine ⟨h1, ?_⟩
  unfold tkBs
  rw [h2]
  exact List.map_congr_left (fun j hj => h3 j (by have := List.mem_range.mp hj; omega))
/-- a KEPT token is alike -/
theorem was_al {t t' : Nat → Int32} {l l' : List (Nat × Nat × Nat)} (hl : LxO t l) (hl' : LxO t' l') {i j : Nat} {x y : Nat × Nat × Nat} (hw : wasN (kAhead t' l' t l) (kBehind t' l' t l) l.length l'.length i = some j) (hx : l[i]? = some x) (hy : l'[j]? = some y) : y.1 = x.1 ∧ tkBs t' y = tkBs t x := by
  obtain ⟨k1, k2, k3⟩ := kept_le (t := t) (t' := t') hl.2.1 hl'.2.1
  have hi := (List.getElem?_eq_some_iff.mp hx).1
  have al : ∀ a b : Nat, l'[a]? = some y → l[b]? = some x → alA t' l' t l a b = true → y.1 = x.1 ∧ tkBs t' y = tkBs t x := by
    intro a b ha hb h
    unfold alA at h
    rw [ha, hb] at h
    exact tkA_bs (alB_iff.mp h)
  unfold wasN at hw
  by_cases c1 : i < kAhead t' l' t l
  · rw [if_pos c1] at hw
    cases hw
    have := cntW_all _ 0 i c1
    rw [Nat.zero_add] at this
    exact al i i hy hx this
  · rw [if_neg c1] at hw
    by_cases c2 : l.length - kBehind t' l' t l ≤ i
    · rw [if_pos c2] at hw
      cases hw
      by_cases c3 : i + 1 = l.length
      · have e1 := (hl.2.2.2 i x hx).mpr c3
        have e2 := (hl'.2.2.2 _ y hy).mpr (by omega)
        have w1 := (hl.1 x (List.mem_of_getElem? hx)).2.2.2.2.2.1 e1
        have w2 := (hl'.1 y (List.mem_of_getElem? hy)).2.2.2.2.2.1 e2
        refine ⟨by omega, ?_⟩
        unfold tkBs
        rw [w1, w2]
        rfl
      · have hb : l.length - 2 - i < cntW (fun i => alA t' l' t l (l'.length - 2 - i) (l.length - 2 - i)) (min l'.length l.length - 1 - kAhead t' l' t l) 0 := by
          have e : kBehind t' l' t l = cntW (fun i => alA t' l' t l (l'.length - 2 - i) (l.length - 2 - i)) (min l'.length l.length - 1 - kAhead t' l' t l) 0 + 1 := rfl
          omega
        have := cntW_all _ 0 _ hb
        rw [Nat.zero_add] at this
        rw [show l'.length - 2 - (l.length - 2 - i) = i + l'.length - l.length by omega, show l.length - 2 - (l.length - 2 - i) = i by omega] at this
        exact al _ _ hy hx this
    · rw [if_neg c2] at hw
      cases hw
theorem wasN_inj {A B n n' i j k : Nat} (h : A + B ≤ n) (h' : A + B ≤ n') (hi : i < n) (hj : j < n) (h1 : wasN A B n n' i = some k) (h2 : wasN A B n n' j = some k) : i = j := by
  unfold wasN at h1 h2
  by_cases c1 : i < A
  · rw [if_pos c1] at h1
    cases h1
    by_cases c2 : j < A
    · rw [if_pos c2] at h2
      cases h2
      rfl
    · rw [if_neg c2] at h2
      by_cases c3 : n - B ≤ j
      · rw [if_pos c3] at h2
        have := Option.some.inj h2
        omega
      · rw [if_neg c3] at h2
        cases h2
  · rw [if_neg c1] at h1
    by_cases c3 : n - B ≤ i
    · rw [if_pos c3] at h1
      have e1 := Option.some.inj h1
      by_cases c2 : j < A
      · rw [if_pos c2] at h2
        have := Option.some.inj h2
        omega
      · rw [if_neg c2] at h2
        by_cases c4 : n - B ≤ j
        · rw [if_pos c4] at h2
          have := Option.some.inj h2
          omega
        · rw [if_neg c4] at h2
          cases h2
    · rw [if_neg c3] at h1
      cases h1
/-- all that growing needs to begin with -/
theorem naming_ok {t t' : Nat → Int32} {l l' : List (Nat × Nat × Nat)} {og g : Nat → Nat} {e m0 m1 R : Nat} {N0 N1 : Nat → Nd} (h0 : NdOk m0 N0) (hu : UqE m0 N0) (t0 : TreeI m0 N0 R l'.length og) (tk0 : TkI N0 t' l' og) (hl : LxO t l) (hl' : LxO t' l') (hn : namF t l (kAhead t' l' t l) (kBehind t' l' t l) l'.length og e l.length 0 m0 (fun _ => 0) N0 = (m1, g, N1)) :
    GE (flR N0 R) (kAhead t' l' t l) (kBehind t' l' t l) l.length l'.length g (fun i => (l.getD i (10, 0, 0)).1) ∧
    GI (flR N0 R) l.length l'.length g (fun i => (l.getD i (10, 0, 0)).1) m1 0 m1 N1 [(0, 0)] 0 ∧ GJ m0 N0 g 0 m1 N1 [(0, 0)] ∧
    (∀ i, i < l.length → ∀ j, wasN (kAhead t' l' t l) (kBehind t' l' t l) l.length l'.length i = some j → g i = og j) ∧ (∀ i, i < l.length → wasN (kAhead t' l' t l) (kBehind t' l' t l) l.length l'.length i = none → m0 ≤ g i) ∧
    m0 ≤ m1 ∧ m1 ≤ m0 + l.length ∧ TkI N1 t l g ∧ (∀ i j, i < l.length → j < l.length → g i = g j → i = j) := by
  obtain ⟨k1, k2, k3⟩ := kept_le (t := t) (t' := t') hl.2.1 hl'.2.1
  obtain ⟨a1, a2, a3, -, a5, a6, a7⟩ := namF_ok _ _ _ _ _ _ _ _ hn
  have hat : ∀ (i : Nat), i < l.length → l[i]? = some (l.getD i (10, 0, 0)) := fun i hi => by
    rw [List.getD_eq_getElem?_getD, List.getElem?_eq_getElem hi]
    rfl
  have hat' : ∀ (i : Nat), i < l'.length → l'[i]? = some (l'.getD i (10, 0, 0)) := fun i hi => by
    rw [List.getD_eq_getElem?_getD, List.getElem?_eq_getElem hi]
    rfl
  have hog : ∀ i, i < l.length → ∀ j, wasN (kAhead t' l' t l) (kBehind t' l' t l) l.length l'.length i = some j → g i = og j := fun i hi j hj => (a5 i (by omega) (by omega)).1 j hj
  have hnew := fun i (hi : i < l.length) hw => (a5 i (by omega) (by omega)).2 hw
  obtain ⟨t1, t2, t3, t4, t5, t6, t7, t8⟩ := id t0
  have hjn : ∀ i, i < l.length → ∀ j, wasN (kAhead t' l' t l) (kBehind t' l' t l) l.length l'.length i = some j → j < l'.length := fun i hi j hj => wasN_lt hi (by omega) (by omega) (by omega) hj
  have tk1 : TkI N1 t l g := by
    intro i x hx
    have hi := (List.getElem?_eq_some_iff.mp hx).1
    cases hw : wasN (kAhead t' l' t l) (kBehind t' l' t l) l.length l'.length i with
    | some j =>
      have hj := hjn i hi j hw
      rw [hog i hi j hw, a3 _ (t5 j hj).1]
      obtain ⟨b1, b2⟩ := tk0 j _ (hat' j hj)
      obtain ⟨c1, c2⟩ := was_al hl hl' hw hx (hat' j hj)
      exact ⟨by rw [b1, c1], by rw [b2, c2]⟩
    | none =>
      obtain ⟨-, -, b3⟩ := hnew i hi hw
      rw [b3]
      have : l.getD i (10, 0, 0) = x := by
        rw [List.getD_eq_getElem?_getD, hx]
        rfl
      rw [this]
      exact ⟨rfl, rfl⟩
  have hN1 : NdOk m1 N1 := by
    intro k hk
    by_cases u : k < m0
    · refine (h0 k u).cg (fun c hc => ?_) (Or.inl (by rw [a3 k u]))
      rw [a3 c (by omega)]
      exact NdE.rf
    · obtain ⟨i', b1, b2, b3⟩ := a6 k (by omega) hk
      refine Or.inl ?_
      rw [b3]
      exact ⟨rfl, rfl, (hl.1 _ (List.mem_of_getElem? (hat i' (by omega)))).1, rfl, Or.inl rfl⟩
  have hC : ∀ k, m0 ≤ k → k < m1 → ndC (N1 k) = [] := fun k h1 h2 => by
    obtain ⟨i', b1, b2, b3⟩ := a6 k h1 h2
    rw [b3]
    rfl
  have htok : ∀ i, i < l.length → g i < m1 ∧ ndR (N1 (g i)) = -2 ∧ ndK (N1 (g i)) = (l.getD i (10, 0, 0)).1 := by
    intro i hi
    refine ⟨?_, ?_, (tk1 i _ (hat i hi)).1⟩
    · cases hw : wasN (kAhead t' l' t l) (kBehind t' l' t l) l.length l'.length i with
      | some j =>
        rw [hog i hi j hw]
        have := (t5 j (hjn i hi j hw)).1
        omega
      | none => exact (hnew i hi hw).2.1
    · cases hw : wasN (kAhead t' l' t l) (kBehind t' l' t l) l.length l'.length i with
      | some j =>
        obtain ⟨b1, b2⟩ := t5 j (hjn i hi j hw)
        rw [hog i hi j hw, a3 _ b1]
        exact b2
      | none =>
        rw [(hnew i hi hw).2.2]
        rfl
  have hU1 : UqE m1 N1 := by
    intro p1 p2 i1 i2 z hp1 hp2 hz1 hz2 hz0
    have c1 : p1 < m0 := Nat.lt_of_not_le (fun u => by rw [hC p1 u hp1] at hz1; cases hz1)
    have c2 : p2 < m0 := Nat.lt_of_not_le (fun u => by rw [hC p2 u hp2] at hz2; cases hz2)
    rw [a3 p1 c1] at hz1
    rw [a3 p2 c2] at hz2
    have hzm := h0.lt c1 (List.mem_of_getElem? hz1)
    rw [a3 z (by omega)] at hz0
    exact hu p1 p2 i1 i2 z c1 c2 hz1 hz2 hz0
  have hst1 : ∀ (j : Nat) (p : Nat × Nat), [((0 : Nat), (0 : Nat))][j]? = some p → j = 0 ∧ p = (0, 0) := by
    intro j p hp
    have hj := (List.getElem?_eq_some_iff.mp hp).1
    change j < 1 at hj
    have : j = 0 := by omega
    subst this
    cases hp
    exact ⟨rfl, rfl⟩
  have hF1 : FlG m1 (flR N0 R) N1 l'.length := by
    refine (t0.flG h0 hu).cg a1 (fun c hc => ?_) (fun c hc _ => ?_)
    · rw [a3 c hc]
      exact NdE.rf
    · rw [a3 c hc]
  refine ⟨⟨hl.2.2.1, hl'.2.2.1, k1, k2, k3, fun i hi => ⟨(hl.1 _ (List.mem_of_getElem? (hat i hi))).1, hl.2.2.2 i _ (hat i hi)⟩, fun i hi j hj => ⟨fun c p x hp => ?_, fun c => ?_⟩⟩, ⟨by have := hl.2.1; omega, ⟨Nat.le_refl 1, ⟨fun p hp => ?_, fun j p q hp hq => ?_⟩, fun j p hp => ?_, fun j p hj hp => ?_⟩, ?_, ⟨Nat.le_refl _, ?_⟩, hN1, hF1, htok⟩, ⟨rfl, fun p hp => ?_, hU1, fun j p hj hp => ?_, fun j1 j2 p1 p2 hj1 hj2 hp1 => ?_, a3⟩, hog, fun i hi hw => (hnew i hi hw).1, a1, by omega, tk1, fun i j hi hj he => ?_⟩
  · rw [hog i hi j hj, show j = l'.length - 1 by omega]
    exact t0.fin h0 p x hp
  · rw [hog i hi j hj]
    exact t0.tok h0 c
  · exact (congrArg Prod.snd (hst1 0 p hp).2).trans rfl
  · have := (hst1 (j + 1) q hq).1
    omega
  · obtain ⟨rfl, rfl⟩ := hst1 j p hp
    exact ⟨by show 0 < 21; omega, fun u => by omega⟩
  · have := (hst1 j p hp).1
    omega
  · have h1 : rkS (topS [((0 : Nat), (0 : Nat))]) = 9 := rfl
    have h2 : [((0 : Nat), (0 : Nat))].length = 1 := rfl
    have := hl.2.2.1
    omega
  · have h1 : wSum [((0 : Nat), (0 : Nat))] = 0 := rfl
    omega
  · cases hp
  · have := (hst1 j p hp).1
    omega
  · have := (hst1 j1 p1 hp1).1
    omega
  · cases hw1 : wasN (kAhead t' l' t l) (kBehind t' l' t l) l.length l'.length i with
    | some i1 =>
      have b1 := hjn i hi i1 hw1
      cases hw2 : wasN (kAhead t' l' t l) (kBehind t' l' t l) l.length l'.length j with
      | some j1 =>
        have b2 := hjn j hj j1 hw2
        rw [hog i hi i1 hw1, hog j hj j1 hw2] at he
        have e1 := t4 i1 j1 b1 b2 he
        subst e1
        exact wasN_inj (by omega) (by omega) hi hj hw1 hw2
      | none =>
        have b2 := (hnew j hj hw2).1
        have b3 := (t5 i1 b1).1
        rw [hog i hi i1 hw1] at he
        omega
    | none =>
      have b1 := (hnew i hi hw1).1
      cases hw2 : wasN (kAhead t' l' t l) (kBehind t' l' t l) l.length l'.length j with
      | some j1 =>
        have b3 := (t5 j1 (hjn j hj j1 hw2)).1
        rw [hog j hj j1 hw2] at he
        omega
      | none => exact a7 i j (by omega) (by omega) (by omega) (by omega) hw1 hw2 he
/-! ===== a TREE grown ===== -/
theorem NdE.tr {x y z : Nd} (h1 : NdE x y) (h2 : NdE y z) : NdE x z := by
  obtain ⟨a1, a2, a3, a4, a5, a6⟩ := h1
  obtain ⟨b1, b2, b3, b4, b5, b6⟩ := h2
  exact ⟨b1.trans a1, b2.trans a2, b3.trans a3, b4.trans a4, b5.trans a5, b6.trans a6⟩
/-- what holds of each step holds at the end -/
theorem gRun_inv {F : List Fl} {A B n n' e m1 : Nat} {g kd : Nat → Nat} (ge : GE F A B n n' g kd) {P : Gs → Prop} (hP : ∀ (x y : Gs) (k : Nat), GI F n n' g kd m1 x.1 x.2.1 x.2.2.1 x.2.2.2.1 k → P x → gNx F A B n n' g e x.1 x.2.1 x.2.2.1 x.2.2.2.1 x.2.2.2.2 = some y → P y) : ∀ (d k : Nat) (x : Gs), GI F n n' g kd m1 x.1 x.2.1 x.2.2.1 x.2.2.2.1 k → P x → P (gRun F A B n n' g e d k x).2
  | 0, k, x, h, p => p
  | d + 1, k, x, h, p => by
    rw [gRun_at]
    cases e1 : gNx F A B n n' g e x.1 x.2.1 x.2.2.1 x.2.2.2.1 x.2.2.2.2 with
    | none => exact p
    | some y => exact gRun_inv ge hP d (k + 1) y (h.nx ge e1) (hP x y k h p e1)
theorem gNx_E {F : List Fl} {A B n n' e i m tk : Nat} {g : Nat → Nat} {N : Nat → Nd} {st : List (Nat × Nat)} {y : Gs} (e1 : gNx F A B n n' g e i m N st tk = some y) : m ≤ y.2.1 ∧ ∀ c, c < m → NdE (N c) (y.2.2.1 c) := by
  unfold gNx at e1
  cases hb : bestOf F N A B n n' i (topS st) (g i) with
  | some b =>
    rw [hb] at e1
    cases e1
    exact ⟨Nat.le_refl _, fun c _ => NdE.rf⟩
  | none =>
    rw [hb] at e1
    by_cases hz : ldN (topS st) (ndM (N (g i))) = 0
    · rw [if_pos hz] at e1
      cases hr : rlN (topS st) with
      | none =>
        rw [hr] at e1
        cases e1
      | some r =>
        rw [hr] at e1
        cases e1
        exact ⟨Nat.le_succ _, fun c hc => by dsimp only; rw [upN_o (by omega)]; exact NdE.rf⟩
    · rw [if_neg hz] at e1
      cases e1
      exact ⟨Nat.le_refl _, fun c _ => upN_stE c⟩
theorem tb1 : tbP.getD 1 [] = [0] := by decide +kernel
/-- in STATE 1 there is one node on the stack -/
theorem st_one {m : Nat} {st : List (Nat × Nat)} (hP : StP st) (ok : StOk m st) (h1 : 1 ≤ st.length) (ht : topS st = 1) : ∃ p q : Nat × Nat, st = [p, q] ∧ q.2 = 1 := by
  obtain ⟨p0, t1, t2⟩ := top_at h1
  have hl : st.length ≠ 1 := fun u => by
    rw [u] at t1
    have := hP.1 p0 t1
    omega
  have hq : st[st.length - 2]? = some (st[st.length - 2]'(by omega)) := List.getElem?_eq_getElem (by omega)
  obtain ⟨y, hy, e, e0⟩ := hP.2 (st.length - 2) _ p0 hq (by rw [show st.length - 2 + 1 = st.length - 1 by omega]; exact t1)
  have hm := tbP_fin _ (ok _ _ hq).1 y hy (by rw [e]; exact e0)
  rw [e, t2, ht, tb1] at hm
  have h0 := List.mem_singleton.mp hm
  have hl2 : st.length = 2 := by
    refine Nat.le_antisymm (Nat.le_of_not_lt (fun u => ?_)) (by omega)
    have hr : st[st.length - 3]? = some (st[st.length - 3]'(by omega)) := List.getElem?_eq_getElem (by omega)
    obtain ⟨y2, -, -, e2⟩ := hP.2 (st.length - 3) _ _ hr (by rw [show st.length - 3 + 1 = st.length - 2 by omega]; exact hq)
    exact e2 h0
  have hpq : ∃ p q : Nat × Nat, st = [p, q] := by
    match st, hl2 with
    | [p, q], _ => exact ⟨p, q, rfl⟩
  obtain ⟨p, q, hst⟩ := hpq
  refine ⟨p, q, hst, ?_⟩
  rw [hst] at t1
  have e2 : q = p0 := Option.some.inj t1
  rw [e2, t2, ht]
/-- the TREE that is grown, if the text is good -/
theorem grown_ok {t t' : Nat → Int32} {l l' : List (Nat × Nat × Nat)} {og g : Nat → Nat} {e m0 m1 R k : Nat} {N0 N1 : Nat → Nd} {y : Gs} (h0 : NdOk m0 N0) (hu : UqE m0 N0) (t0 : TreeI m0 N0 R l'.length og) (tk0 : TkI N0 t' l' og) (hl : LxO t l) (hl' : LxO t' l') (hn : namF t l (kAhead t' l' t l) (kBehind t' l' t l) l'.length og e l.length 0 m0 (fun _ => 0) N0 = (m1, g, N1))
    (hr : gRun (flR N0 R) (kAhead t' l' t l) (kBehind t' l' t l) l.length l'.length g e 2000 0 (0, m1, N1, [(0, 0)], 0) = (k, y)) :
    (∀ k, k < m0 → y.2.2.1 k = N0 k) ∧ m1 ≤ y.2.1 ∧ y.2.1 ≤ m1 + 149 ∧ NdOk y.2.1 y.2.2.1 ∧ UqE y.2.1 y.2.2.1 ∧ TkI y.2.2.1 t l g ∧ (y.1 + 1 = l.length → topS y.2.2.2.1 = 1 → ∃ (b : Nat × Nat) (R' : Nat), y.2.2.2.1 = [b, (R', 1)] ∧ TreeI y.2.1 y.2.2.1 R' l.length g) := by
  obtain ⟨ge, gi, gj, hog, hnew, hm0, hm1, htk, hinj⟩ := naming_ok (g := g) h0 hu t0 tk0 hl hl' hn
  obtain ⟨k', y', e1, gi', hnone⟩ := gRun_end (e := e) ge 2000 0 (0, m1, N1, [(0, 0)], 0) gi (by omega)
  rw [hr] at e1
  cases e1
  have hJ := gRun_inv (e := e) ge (P := fun x => GJ m0 N0 g x.1 x.2.1 x.2.2.1 x.2.2.2.1) (fun x y k hx hp he => hp.nx h0 t0 hog hnew hm0 ge hx he) 2000 0 (0, m1, N1, [(0, 0)], 0) gi gj
  have hE := gRun_inv (e := e) ge (P := fun x => m1 ≤ x.2.1 ∧ ∀ c, c < m1 → NdE (N1 c) (x.2.2.1 c)) (fun x y k hx hp he => by
    obtain ⟨p1, p2⟩ := hp
    obtain ⟨q1, q2⟩ := gNx_E he
    exact ⟨by omega, fun c hc => (p2 c hc).tr (q2 c (by omega))⟩) 2000 0 (0, m1, N1, [(0, 0)], 0) gi ⟨Nat.le_refl _, fun c _ => NdE.rf⟩
  rw [hr] at hJ hE
  dsimp only at hJ hE
  obtain ⟨b1, b2, b3, b4⟩ := gi'.bd ge.1
  obtain ⟨v1, ⟨s1, s2, s3, s4⟩, v3, v4, v5, v6, v7⟩ := id gi'
  obtain ⟨j1, j2, j3, j4, j5, j6⟩ := hJ
  refine ⟨j6, b2, b3, v5, j3, fun i x hx => ?_, fun hi ht => ?_⟩
  · obtain ⟨c1, c2⟩ := htk i x hx
    have hil := (List.getElem?_eq_some_iff.mp hx).1
    have hgm := (gi.2.2.2.2.2.2 i hil).1
    obtain ⟨-, d2, -, -, -, d6⟩ := hE.2 (g i) hgm
    exact ⟨by rw [d2, c1], by rw [d6, c2]⟩
  · obtain ⟨b, q, hst, hq⟩ := st_one s2 s3 s1 ht
    obtain ⟨R', s⟩ := q
    change s = 1 at hq
    subst hq
    refine ⟨b, R', hst, ?_⟩
    have hin : y.2.2.2.1[1]? = some (R', 1) := by
      rw [hst]
      rfl
    have hd1 : y.2.2.2.1.drop 1 = [(R', 1)] := by
      rw [hst]
      rfl
    rw [hd1] at j1 j2
    rw [List.flatMap_cons, List.flatMap_nil, List.append_nil] at j1
    refine ⟨(s3 1 _ hin).2 (Nat.le_refl 1), ?_, ?_, hinj, fun i hi' => ?_, fun z hz => j2 _ (List.mem_singleton.mpr rfl) z hz, hl.2.1, hl.2.2.1⟩
    · rw [s4 1 _ (Nat.le_refl 1) hin]
      rfl
    · rw [show l.length - 1 = y.1 by omega]
      exact j1
    · obtain ⟨w1, w2, w3⟩ := v7 i hi'
      exact ⟨w1, w2⟩
