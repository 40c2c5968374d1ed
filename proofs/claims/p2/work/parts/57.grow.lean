/-! ===== growing: a step ===== -/
/-- the symbol by which a STATE is come to; a RULE's right side; a symbol's weight -/
def acT : List Nat := [99, 0, 1, 5, 13, 7, 0, 2, 3, 4, 5, 6, 11, 14, 8, 9, 10, 2, 3, 4, 12]
def acS (s : Nat) : Nat := acT.getD s 99
def rhT : List (List Nat) := [[], [0, 1], [5, 7, 2, 8], [13, 0, 14], [2, 9, 3], [3], [3, 10, 4], [4], [5], [6], [11, 2, 12]]
def rhS (r : Nat) : List Nat := rhT.getD r []
def cS (y : Nat) : Int := if y = 0 then 2 else if y = 1 then -2 else if y = 2 then 3 else if y = 3 then 1 else if y = 4 then -1 else if y = 99 then 0 else -3
def btT : List Int := [0, 2, 0, -1, -1, -4, 1, -1, -3, -5, -7, -7, -7, -2, -4, -4, -6, -4, -3, -7, -7]
def btS (s : Nat) : Int := btT.getD s 0
def rkT : List Nat := [9, 0, 0, 0, 9, 0, 0, 0, 1, 2, 3, 3, 0, 0, 0, 0, 0, 0, 1, 2, 0]
def rkS (s : Nat) : Nat := rkT.getD s 0
theorem ac_fin : ∀ a, a < 21 → ∀ y, y < 17 → ldN a y ≠ 0 → acS (ldN a y) = y := by decide +kernel
theorem bt_fin : ∀ a, a < 21 → ∀ y, y < 17 → ldN a y ≠ 0 → btS a + cS (acS (ldN a y)) ≤ btS (ldN a y) := by decide +kernel
theorem bt_le : ∀ a, a < 21 → btS a ≤ 2 := by decide +kernel
theorem rk_le : ∀ a, a < 21 → rkS a ≤ 9 := by decide +kernel
theorem rh_fin : ∀ r, r < 11 → (rhS r).length = lnN r ∧ 2 + ((rhS r).map cS).sum ≤ cS (syN r) := by decide +kernel
theorem ru_fin : ((List.range 21).all (fun s => match rlN s with
  | none => true
  | some r => (List.range (lnN r)).all (fun k => (bkT k s).all (fun a => (rhS r)[lnN r - 1 - k]? == some (acS a))) && (bkT (lnN r) s).all (fun a => decide (8 + rkS (ldN a (syN r)) + 1 ≤ 8 * lnN r + rkS s)))) = true := by decide +kernel
theorem ru_fin2 {s r : Nat} (hs : s < 21) (hr : rlN s = some r) : (∀ k, k < lnN r → ∀ a ∈ bkT k s, (rhS r)[lnN r - 1 - k]? = some (acS a)) ∧ ∀ a ∈ bkT (lnN r) s, 8 + rkS (ldN a (syN r)) + 1 ≤ 8 * lnN r + rkS s := by
  have h := List.all_eq_true.mp ru_fin s (List.mem_range.mpr hs)
  rw [hr] at h
  obtain ⟨h1, h2⟩ := Bool.and_eq_true_iff.mp h
  refine ⟨fun k hk a ha => ?_, fun a ha => ?_⟩
  · have := List.all_eq_true.mp (List.all_eq_true.mp h1 k (List.mem_range.mpr hk)) a ha
    exact beq_iff_eq.mp this
  · exact of_decide_eq_true (List.all_eq_true.mp h2 a ha)
theorem end_fin : ∀ s, s < 21 → ldN s (5 + 10) = 0 := by decide +kernel
/-- a stack's weight -/
def wSum (st : List (Nat × Nat)) : Int := (st.map (fun p => cS (acS p.2))).sum
theorem wSum_snoc {st : List (Nat × Nat)} {p : Nat × Nat} : wSum (st ++ [p]) = wSum st + cS (acS p.2) := by
  unfold wSum
  simp
theorem wSum_split {st : List (Nat × Nat)} (k : Nat) : wSum st = wSum (st.take k) + wSum (st.drop k) := by
  unfold wSum
  rw [← List.sum_append, ← List.map_append, List.take_append_drop]
def topS (st : List (Nat × Nat)) : Nat := (st.getD (st.length - 1) (0, 0)).2
theorem top_at {st : List (Nat × Nat)} (h : 1 ≤ st.length) : ∃ p0 : Nat × Nat, st[st.length - 1]? = some p0 ∧ p0.2 = topS st := by
  refine ⟨st[st.length - 1]'(by omega), List.getElem?_eq_getElem _, ?_⟩
  unfold topS
  rw [List.getD_eq_getElem?_getD, List.getElem?_eq_getElem (by omega)]
  rfl
theorem topS_snoc {st : List (Nat × Nat)} {p : Nat × Nat} : topS (st ++ [p]) = p.2 := by
  unfold topS
  rw [List.getD_eq_getElem?_getD, List.length_append, show [p].length = 1 from rfl, Nat.add_sub_cancel, List.getElem?_append_right (Nat.le_refl _), Nat.sub_self]
  rfl
theorem wSum_le {m : Nat} {st : List (Nat × Nat)} (hP : StP st) (ok : StOk m st) : ∀ (k : Nat) (p : Nat × Nat), st[k]? = some p → wSum (st.take (k + 1)) ≤ btS p.2
  | 0, p, hp => by
    rw [List.take_add_one, List.take_zero, hp]
    show wSum ([] ++ [p]) ≤ _
    rw [wSum_snoc, hP.1 p hp]
    decide
  | k + 1, p, hp => by
    have hl := (List.getElem?_eq_some_iff.mp hp).1
    have hq : st[k]? = some (st[k]'(by omega)) := List.getElem?_eq_getElem (by omega)
    have ih := wSum_le hP ok k _ hq
    obtain ⟨y, hy, e, e0⟩ := hP.2 k _ p hq hp
    rw [List.take_add_one, hp]
    show wSum (st.take (k + 1) ++ [p]) ≤ _
    rw [wSum_snoc]
    have := bt_fin _ (ok k _ hq).1 y hy (by rw [e]; exact e0)
    rw [e] at this
    omega
theorem wSum_le2 {m : Nat} {st : List (Nat × Nat)} (hP : StP st) (ok : StOk m st) (h1 : 1 ≤ st.length) : wSum st ≤ 2 := by
  obtain ⟨p0, h0, -⟩ := top_at h1
  have := wSum_le hP ok _ p0 h0
  rw [List.take_of_length_le (by omega)] at this
  have := bt_le p0.2 (ok _ p0 h0).1
  omega
/-- what a RULE takes from the stack has the symbols of its right side -/
theorem st_rhs {m s r : Nat} {st : List (Nat × Nat)} {p0 : Nat × Nat} (hP : StP st) (ok : StOk m st) (h1 : 1 ≤ st.length) (htop : st[st.length - 1]? = some p0) (hs : p0.2 = s) (hr : rlN s = some r) : (st.drop (st.length - lnN r)).map (fun p => acS p.2) = rhS r := by
  have hs21 : s < 21 := hs ▸ (ok _ p0 htop).1
  have hr11 := rlN_lt hs21 hr
  obtain ⟨hlt, -⟩ := st_fits hP ok h1 htop hs hr
  have hln := (rh_fin r hr11).1
  refine List.ext_getElem? (fun i => ?_)
  rw [List.getElem?_map, List.getElem?_drop]
  by_cases hi : i < lnN r
  · have hp : st[st.length - lnN r + i]? = some (st[st.length - lnN r + i]'(by omega)) := List.getElem?_eq_getElem (by omega)
    have hm := bk_mem hP ok htop (lnN r - 1 - i) _ (by omega) (by rw [show st.length - 1 - (lnN r - 1 - i) = st.length - lnN r + i by omega]; exact hp)
    rw [hs] at hm
    have := (ru_fin2 hs21 hr).1 (lnN r - 1 - i) (by omega) _ hm
    rw [show lnN r - 1 - (lnN r - 1 - i) = i by omega] at this
    rw [hp, this]
    rfl
  · rw [List.getElem?_eq_none (by omega), List.getElem?_eq_none (by omega)]
    rfl
/-- a step: where, how many nodes, the nodes, the stack, how many taken -/
abbrev Gs : Type := Nat × Nat × (Nat → Nd) × List (Nat × Nat) × Nat
def gNx (F : List Fl) (A B n n' : Nat) (g : Nat → Nat) (e i m : Nat) (N : Nat → Nd) (st : List (Nat × Nat)) (tk : Nat) : Option Gs :=
  match bestOf F N A B n n' i (topS st) (g i) with
  | some b => some (i + ndT (N b), m, N, st ++ [(b, ldN (topS st) (ndM (N b)))], tk + 1)
  | none => if ldN (topS st) (ndM (N (g i))) = 0 then (match rlN (topS st) with
      | some r => some (i, m + 1, upN N m (byN N st r e), byT m st r, tk)
      | none => none)
    else some (i + 1, m, upN N (g i) (stNd (N (g i)) (topS st)), st ++ [(g i, ldN (topS st) (ndM (N (g i))))], tk)
/-- d steps at most, k done -/
def gRun (F : List Fl) (A B n n' : Nat) (g : Nat → Nat) (e : Nat) : Nat → Nat → Gs → Nat × Gs
  | 0, k, x => (k, x)
  | d + 1, k, x => match gNx F A B n n' g e x.1 x.2.1 x.2.2.1 x.2.2.2.1 x.2.2.2.2 with
    | none => (k, x)
    | some y => gRun F A B n n' g e d (k + 1) y
