/-! ===== the tokens' nodes ===== -/
/-- which token of the last good TEXT the i-th new one was; none: a node is made -/
def wasN (A Bh n n' i : Nat) : Option Nat := if i < A then some i else if n - Bh ≤ i then some (i + n' - n) else none
theorem s_oldPlace {i A Bh n n' : Nat} {I : zI} {K : Int32 → Prop} (h5 : I.1 64 5 = zi n') (h6 : I.1 64 6 = zi n) (h7 : I.1 64 7 = zi A) (h8 : I.1 64 8 = zi Bh) (hA : A ≤ 100) (hB : Bh ≤ n) (hB' : Bh ≤ n') (hn : n ≤ 100) (hn' : n' ≤ 100) (hi : i < n)
    (hK : K (match wasN A Bh n n' i with | some j => zi j | none => -2)) : w_Grower_oldPlace (zi i) I K := by
  unfold w_Grower_oldPlace
  rw [h5, h6, h7, h8, zi_sub hB]
  unfold wasN at hK
  by_cases q : i < A
  · rw [if_pos q] at hK
    rw [if_neg (fun r => by have := (zi_le (by omega) (by omega)).mp r; omega)]
    exact hK
  · rw [if_neg q] at hK
    rw [if_pos ((zi_le (by omega) (by omega)).mpr (by omega))]
    by_cases q2 : n - Bh ≤ i
    · rw [if_pos q2] at hK
      rw [if_neg (fun r => by have := (zi_lt (by omega) (by omega)).mp r; omega)]
      have e : zi i - zi n + zi n' = zi (i + n' - n) := by
        rw [Int32.sub_eq_add_neg, Int32.add_assoc, Int32.add_comm (-zi n), ← Int32.add_assoc, ← Int32.sub_eq_add_neg, zi_add, zi_sub (by omega)]
      rw [e]
      exact hK
    · rw [if_neg q2] at hK
      rw [if_pos ((zi_lt (by omega) (by omega)).mpr (by omega))]
      exact hK
theorem s_wasOf {i A Bh n n' : Nat} {I : zI} {K : Int32 → Prop} (h9 : I.1 491 9 = zi n) (h19 : I.1 491 19 = zi n') (h66 : I.1 491 66 = zi A) (h67 : I.1 491 67 = zi Bh) (hA : A ≤ 100) (hB : Bh ≤ n) (hB' : Bh ≤ n') (hn : n ≤ 100) (hn' : n' ≤ 100) (hi : i < n)
    (hK : K (match wasN A Bh n n' i with | some j => zi j | none => -1)) : w_M_wasOf (zi i) I K := by
  unfold w_M_wasOf
  rw [h9, h19, h66, h67, zi_sub hB]
  unfold wasN at hK
  by_cases q : i < A
  · rw [if_pos q] at hK
    rw [if_neg (fun r => by have := (zi_le (by omega) (by omega)).mp r; omega)]
    exact hK
  · rw [if_neg q] at hK
    rw [if_pos ((zi_le (by omega) (by omega)).mpr (by omega))]
    by_cases q2 : n - Bh ≤ i
    · rw [if_pos q2] at hK
      rw [if_neg (fun r => by have := (zi_lt (by omega) (by omega)).mp r; omega)]
      have e : zi i - zi n + zi n' = zi (i + n' - n) := by
        rw [Int32.sub_eq_add_neg, Int32.add_assoc, Int32.add_comm (-zi n), ← Int32.add_assoc, ← Int32.sub_eq_add_neg, zi_add, zi_sub (by omega)]
      rw [e]
      exact hK
    · rw [if_neg q2] at hK
      rw [if_pos ((zi_lt (by omega) (by omega)).mpr (by omega))]
      exact hK
/-- a token's bytes -/
def tkBs (t : Nat → Int32) (x : Nat × Nat × Nat) : List Int32 := (List.range x.2.2).map (fun j => t (x.2.1 + j))
theorem tkBs_len {t : Nat → Int32} {x : Nat × Nat × Nat} : (tkBs t x).length = x.2.2 := by
  unfold tkBs
  rw [List.length_map, List.length_range]
theorem tkBs_at {t : Nat → Int32} {x : Nat × Nat × Nat} {j : Nat} (h : j < x.2.2) : bsF (tkBs t x) j = t (x.2.1 + j) := by
  unfold bsF tkBs
  rw [List.getD_eq_getElem?_getD, List.getElem?_map, List.getElem?_range h]
  rfl
theorem pkR_cg {t t' : Nat → Int32} {s s' : Nat} : ∀ m, (∀ j, j < m → t (s + j) = t' (s' + j)) → pkR t s m = pkR t' s' m
  | 0, _ => rfl
  | m + 1, h => by
    show pkR t s m ||| _ = pkR t' s' m ||| _
    rw [pkR_cg m (fun j hj => h j (by omega)), h m (by omega)]
theorem hdT_bs {t : Nat → Int32} {x : Nat × Nat × Nat} : hdT (bsF (tkBs t x)) 0 (tkBs t x).length = hdT t x.2.1 x.2.2 := by
  unfold hdT
  rw [tkBs_len]
  exact pkR_cg _ (fun j hj => by rw [Nat.zero_add]; exact tkBs_at (by omega))
theorem tlT_bs {t : Nat → Int32} {x : Nat × Nat × Nat} : tlT (bsF (tkBs t x)) 0 (tkBs t x).length = tlT t x.2.1 x.2.2 := by
  unfold tlT
  rw [tkBs_len]
  exact pkR_cg _ (fun j hj => by rw [show 0 + 4 + j = 4 + j by omega, show x.2.1 + 4 + j = x.2.1 + (4 + j) by omega]; exact tkBs_at (by omega))
theorem valL_cg {t t' : Nat → Int32} {s s' : Nat} : ∀ m, (∀ j, j < m → t (s + j) = t' (s' + j)) → valL t s m = valL t' s' m
  | 0, _ => rfl
  | m + 1, h => by
    show 27 * valL t s m + _ = 27 * valL t' s' m + _
    rw [valL_cg m (fun j hj => h j (by omega)), h m (by omega)]
theorem valD_cg {t t' : Nat → Int32} {s s' : Nat} : ∀ m, (∀ j, j < m → t (s + j) = t' (s' + j)) → valD t s m = valD t' s' m
  | 0, _ => rfl
  | m + 1, h => by
    show 10 * valD t s m + _ = 10 * valD t' s' m + _
    rw [valD_cg m (fun j hj => h j (by omega)), h m (by omega)]
theorem isV_bs {t : Nat → Int32} {x : Nat × Nat × Nat} (ok : tkOk t x) : isV (bsF (tkBs t x)) (x.1, 0, (tkBs t x).length) = isV t x := by
  unfold isV
  dsimp only
  rw [tkBs_len]
  by_cases k0 : x.1 = 0
  · rw [if_pos k0, if_pos k0]
    exact valL_cg _ (fun j hj => by rw [Nat.zero_add]; exact tkBs_at hj)
  rw [if_neg k0, if_neg k0]
  by_cases k1 : x.1 = 1
  · rw [if_pos k1, if_pos k1]
    exact valD_cg _ (fun j hj => by rw [Nat.zero_add]; exact tkBs_at hj)
  rw [if_neg k1, if_neg k1]
  by_cases k10 : x.1 = 10
  · rw [if_pos k10, if_pos k10]
  rw [if_neg k10, if_neg k10, tkBs_at (by rw [ok.2.2.2.2.2.2 k0 k1 k10]; decide), Nat.add_zero]
/-- a new token's node -/
def tkNd (t : Nat → Int32) (x : Nat × Nat × Nat) (e : Nat) : Nd := (-2, x.1, -2, 1, e, [], tkBs t x)
/-- the nodes of the new tokens from the i-th on: how many nodes then, which, the table -/
def namF (t : Nat → Int32) (l : List (Nat × Nat × Nat)) (A Bh n' : Nat) (og : Nat → Nat) (e : Nat) : Nat → Nat → Nat → (Nat → Nat) → (Nat → Nd) → Nat × (Nat → Nat) × (Nat → Nd)
  | 0, _, m, g, N => (m, g, N)
  | d + 1, i, m, g, N => match wasN A Bh l.length n' i with
    | some j => namF t l A Bh n' og e d (i + 1) m (fun k => if k = i then og j else g k) N
    | none => namF t l A Bh n' og e d (i + 1) (m + 1) (fun k => if k = i then m else g k) (upN N m (tkNd t (l.getD i (10, 0, 0)) e))
