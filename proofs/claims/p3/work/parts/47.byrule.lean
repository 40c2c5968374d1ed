/-! ===== a RULE on the stack: the class ===== -/
/-- the stack: (node, STATE), the bottom first -/
def StX (I : zI) (st : List (Nat × Nat)) : Prop := 1 ≤ st.length ∧ I.1 64 4 = zi (st.length - 1) ∧ ∀ j p, st[j]? = some p → I.1 66 j = zi p.2 ∧ (1 ≤ j → I.1 68 j = zi p.1)
/-- what is on it: STATES, nodes made before -/
def StOk (m : Nat) (st : List (Nat × Nat)) : Prop := ∀ j p, st[j]? = some p → p.2 < 21 ∧ (1 ≤ j → p.1 < m)
theorem s_put {c s : Nat} {st : List (Nat × Nat)} {I : zI} {K : zI → Prop} (hS : StX I st) (hl : st.length < 300)
    (hK : ∀ J, eqQ (fun a j => (a = 64 ∧ j = 4) ∨ (a = 66 ∧ j = st.length) ∨ (a = 68 ∧ j = st.length)) I J → StX J (st ++ [(c, s)]) → K J) : w_Grower_put (zi c) (zi s) I K := by
  intro I1 e1
  obtain ⟨h0, h1, h2⟩ := hS
  rw [h1, zi_succ, show st.length - 1 + 1 = st.length by omega] at e1
  have g1 : I1.1 64 4 = zi st.length := by rw [e1, zu_self]
  refine (w_set (by decide)).mpr ?_
  rw [g1, rs_in (by decide) hl]
  generalize e2 : zu I1 (67 + 1) st.length (zi c) = I2
  have g2 : I2.1 64 4 = zi st.length := by rw [← e2, zu_oo (by decide)]; exact g1
  refine (w_set (by decide)).mpr ?_
  rw [g2, rs_in (by decide) hl]
  generalize e3 : zu I2 (65 + 1) st.length (zi s) = I3
  have f1 : eqQ (fun a j => (a = 64 ∧ j = 4) ∨ (a = 66 ∧ j = st.length) ∨ (a = 68 ∧ j = st.length)) I I1 := by rw [e1]; exact eqQ.rf.zu (Or.inl ⟨rfl, rfl⟩)
  have f2 : eqQ (fun a j => (a = 64 ∧ j = 4) ∨ (a = 66 ∧ j = st.length) ∨ (a = 68 ∧ j = st.length)) I I2 := by rw [← e2]; exact f1.zu (Or.inr (Or.inr ⟨rfl, rfl⟩))
  have f3 : eqQ (fun a j => (a = 64 ∧ j = 4) ∨ (a = 66 ∧ j = st.length) ∨ (a = 68 ∧ j = st.length)) I I3 := by rw [← e3]; exact f2.zu (Or.inr (Or.inl ⟨rfl, rfl⟩))
  refine hK I3 f3 ⟨by rw [List.length_append]; exact Nat.le_add_right_of_le h0, ?_, fun j p hj => ?_⟩
  · rw [← e3, zu_oo (by decide), g2, List.length_append]
    rfl
  · by_cases q : j < st.length
    · rw [List.getElem?_append_left q] at hj
      rw [f3.1 66 j (by omega), f3.1 68 j (by omega)]
      exact h2 j p hj
    · have hj2 := (List.getElem?_eq_some_iff.mp hj).1
      rw [List.length_append] at hj2
      have hil : j = st.length := by
        have : [(c, s)].length = 1 := rfl
        omega
      rw [hil, List.getElem?_append_right (Nat.le_refl _), Nat.sub_self] at hj
      cases hj
      rw [hil]
      exact ⟨by rw [← e3, zu_self], fun _ => by rw [← e3, zu_oo (by decide), ← e2, zu_self]⟩
/-- how many TOKENS these nodes have -/
def tkS (N : Nat → Nd) (l : List Nat) : Nat := (l.map (fun c => ndT (N c))).sum
theorem tkS_snoc {N : Nat → Nd} {l : List Nat} {c : Nat} : tkS N (l ++ [c]) = tkS N l + ndT (N c) := by
  unfold tkS
  simp
/-- the node that a RULE makes of what is on the stack; the stack then -/
def byS (st : List (Nat × Nat)) (r : Nat) : Nat := (st.getD (st.length - lnN r - 1) (0, 0)).2
def byC (st : List (Nat × Nat)) (r : Nat) : List Nat := (st.drop (st.length - lnN r)).map (·.1)
def byN (N : Nat → Nd) (st : List (Nat × Nat)) (r e : Nat) : Nd := rlNd r (byS st r) (tkS N (byC st r)) e (byC st r)
def byT (m : Nat) (st : List (Nat × Nat)) (r : Nat) : List (Nat × Nat) := st.take (st.length - lnN r) ++ [(m, ldN (byS st r) (syN r))]
