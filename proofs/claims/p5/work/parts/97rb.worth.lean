/-! ===== what a node is worth ===== -/
def chN (x : Nd) (k : Nat) : Nat := (ndC x).getD k 0
/-- an INT's number -/
def numY (x : Nd) : Int32 := zi (natV 10 (fun j => dg 48 (bsF (ndY x) j)) (ndY x).length)
/-- en: what each NAME is -/
def evF (N : Nat → Nd) (en : Int64 → Int32) : Nat → Nat → Int32
  | 0, _ => 0
  | d + 1, c => if ndR (N c) = 4 then evF N en d (chN (N c) 0) + evF N en d (chN (N c) 2) else if ndR (N c) = 5 then evF N en d (chN (N c) 0) else if ndR (N c) = 6 then evF N en d (chN (N c) 0) * evF N en d (chN (N c) 2) else if ndR (N c) = 7 then evF N en d (chN (N c) 0) else if ndR (N c) = 8 then en (nmV N (chN (N c) 0)) else if ndR (N c) = 9 then numY (N (chN (N c) 0)) else if ndR (N c) = 10 then evF N en d (chN (N c) 1) else 0
theorem chN_is {m c r k y : Nat} {N : Nat → Nd} (h : NdOk m N) (hc : c < m) (hr : ndR (N c) = (r : Int)) (hk : (rhS r)[k]? = some y) : (ndC (N c))[k]? = some (chN (N c) k) ∧ ndM (N (chN (N c) k)) = y ∧ chN (N c) k < c := by
  obtain ⟨z, z1, z2, z3⟩ := h.child hc hr hk
  have e : chN (N c) k = z := by
    unfold chN
    rw [List.getD_eq_getElem?_getD, z1]
    rfl
  rw [e]
  exact ⟨z1, z2, z3⟩
theorem evF_fu {m : Nat} {N : Nat → Nd} {en : Int64 → Int32} (h : NdOk m N) : ∀ (d d' c : Nat), c < m → c < d → c < d' → evF N en d' c = evF N en d c
  | 0, _, c, _, h1, _ => by omega
  | _ + 1, 0, c, _, _, h2 => by omega
  | d + 1, d' + 1, c, hc, h1, h2 => by
    have cl : ∀ (r k y : Nat), ndR (N c) = (r : Int) → (rhS r)[k]? = some y → evF N en d' (chN (N c) k) = evF N en d (chN (N c) k) := fun r k y hr hk => by
      obtain ⟨-, -, z3⟩ := chN_is h hc hr hk
      exact evF_fu h d d' _ (by omega) (by omega) (by omega)
    show (if ndR (N c) = 4 then evF N en d' (chN (N c) 0) + evF N en d' (chN (N c) 2) else if ndR (N c) = 5 then evF N en d' (chN (N c) 0) else if ndR (N c) = 6 then evF N en d' (chN (N c) 0) * evF N en d' (chN (N c) 2) else if ndR (N c) = 7 then evF N en d' (chN (N c) 0) else if ndR (N c) = 8 then en (nmV N (chN (N c) 0)) else if ndR (N c) = 9 then numY (N (chN (N c) 0)) else if ndR (N c) = 10 then evF N en d' (chN (N c) 1) else 0) = (if ndR (N c) = 4 then evF N en d (chN (N c) 0) + evF N en d (chN (N c) 2) else if ndR (N c) = 5 then evF N en d (chN (N c) 0) else if ndR (N c) = 6 then evF N en d (chN (N c) 0) * evF N en d (chN (N c) 2) else if ndR (N c) = 7 then evF N en d (chN (N c) 0) else if ndR (N c) = 8 then en (nmV N (chN (N c) 0)) else if ndR (N c) = 9 then numY (N (chN (N c) 0)) else if ndR (N c) = 10 then evF N en d (chN (N c) 1) else 0)
    by_cases r4 : ndR (N c) = 4
    · rw [if_pos r4, if_pos r4, cl 4 0 2 r4 rfl, cl 4 2 3 r4 rfl]
    rw [if_neg r4, if_neg r4]
    by_cases r5 : ndR (N c) = 5
    · rw [if_pos r5, if_pos r5, cl 5 0 3 r5 rfl]
    rw [if_neg r5, if_neg r5]
    by_cases r6 : ndR (N c) = 6
    · rw [if_pos r6, if_pos r6, cl 6 0 3 r6 rfl, cl 6 2 4 r6 rfl]
    rw [if_neg r6, if_neg r6]
    by_cases r7 : ndR (N c) = 7
    · rw [if_pos r7, if_pos r7, cl 7 0 4 r7 rfl]
    rw [if_neg r7, if_neg r7]
    by_cases r10 : ndR (N c) = 10
    · rw [cl 10 1 2 r10 rfl]
    · rw [if_neg r10, if_neg r10]
/-- what a node is worth -/
def evN (N : Nat → Nd) (en : Int64 → Int32) (c : Nat) : Int32 := evF N en (c + 1) c
theorem evN_eq {m c : Nat} {N : Nat → Nd} {en : Int64 → Int32} (h : NdOk m N) (hc : c < m) : evN N en c = if ndR (N c) = 4 then evN N en (chN (N c) 0) + evN N en (chN (N c) 2) else if ndR (N c) = 5 then evN N en (chN (N c) 0) else if ndR (N c) = 6 then evN N en (chN (N c) 0) * evN N en (chN (N c) 2) else if ndR (N c) = 7 then evN N en (chN (N c) 0) else if ndR (N c) = 8 then en (nmV N (chN (N c) 0)) else if ndR (N c) = 9 then numY (N (chN (N c) 0)) else if ndR (N c) = 10 then evN N en (chN (N c) 1) else 0 := by
  have cl : ∀ (r k y : Nat), ndR (N c) = (r : Int) → (rhS r)[k]? = some y → evF N en c (chN (N c) k) = evN N en (chN (N c) k) := fun r k y hr hk => by
    obtain ⟨-, -, z3⟩ := chN_is h hc hr hk
    exact evF_fu h _ _ _ (by omega) (Nat.lt_succ_self _) z3
  show (if ndR (N c) = 4 then evF N en c (chN (N c) 0) + evF N en c (chN (N c) 2) else if ndR (N c) = 5 then evF N en c (chN (N c) 0) else if ndR (N c) = 6 then evF N en c (chN (N c) 0) * evF N en c (chN (N c) 2) else if ndR (N c) = 7 then evF N en c (chN (N c) 0) else if ndR (N c) = 8 then en (nmV N (chN (N c) 0)) else if ndR (N c) = 9 then numY (N (chN (N c) 0)) else if ndR (N c) = 10 then evF N en c (chN (N c) 1) else 0) = _
  by_cases r4 : ndR (N c) = 4
  · rw [if_pos r4, if_pos r4, cl 4 0 2 r4 rfl, cl 4 2 3 r4 rfl]
  rw [if_neg r4, if_neg r4]
  by_cases r5 : ndR (N c) = 5
  · rw [if_pos r5, if_pos r5, cl 5 0 3 r5 rfl]
  rw [if_neg r5, if_neg r5]
  by_cases r6 : ndR (N c) = 6
  · rw [if_pos r6, if_pos r6, cl 6 0 3 r6 rfl, cl 6 2 4 r6 rfl]
  rw [if_neg r6, if_neg r6]
  by_cases r7 : ndR (N c) = 7
  · rw [if_pos r7, if_pos r7, cl 7 0 4 r7 rfl]
  rw [if_neg r7, if_neg r7]
  by_cases r10 : ndR (N c) = 10
  · rw [cl 10 1 2 r10 rfl]
  · rw [if_neg r10, if_neg r10]
