/-! ===== a RULE on the stack: the class ===== -/
/-- the stack: (node, STATE), the bottom first -/
def StX (I : zI) (st : List (Nat × Nat)) : Prop := 1 ≤ st.length ∧ I.1 64 4 = zi (st.length - 1) ∧ ∀ j p, st[j]? = some p → I.1 66 j = zi p.2 ∧ (1 ≤ j → I.1 68 j = zi p.1)
/-- what is on it: STATES, nodes made before -/
def StOk (m : Nat) (st : List (Nat × Nat)) : Prop := ∀ j p, st[j]? = some p → p.2 < 21 ∧ (1 ≤ j → p.1 < m)
theorem s_put {c s : Nat} {st : List (Nat × Nat)} {I : zI} {K : zI → Prop} (hS : StX I st) (hl : st.length < 300)
    (hK : ∀ J, eqQ (fun a j => (a = 64 ∧ j = 4) ∨ (a = 66 ∧ j = st.length) ∨ (a = 68 ∧ j = st.length)) I J → StX J (st ++ [(c, s)]) → K J) : w_Grower_put (zi c) (zi s) I K := by
  intro I1 e1
  obtain ⟨h0, h1, h2⟩ := hS
  rw [h1, zi_succ, show st.length - 1 + 1 = st.length by omega] at e1
  have g1 : I1.1 64 4 = zi st.length := by rw [e1, zu_self]
  refine (w_set (by decide)).mpr ?_
  rw [g1, rs_in (by decide) hl]
  generalize e2 : zu I1 (67 + 1) st.length (zi c) = I2
  have g2 : I2.1 64 4 = zi st.length := by rw [← e2, zu_oo (by decide)]; exact g1
  refine (w_set (by decide)).mpr ?_
  rw [g2, rs_in (by decide) hl]
  generalize e3 : zu I2 (65 + 1) st.length (zi s) = I3
  have f1 : eqQ (fun a j => (a = 64 ∧ j = 4) ∨ (a = 66 ∧ j = st.length) ∨ (a = 68 ∧ j = st.length)) I I1 := by rw [e1]; exact eqQ.rf.zu (Or.inl ⟨rfl, rfl⟩)
  have f2 : eqQ (fun a j => (a = 64 ∧ j = 4) ∨ (a = 66 ∧ j = st.length) ∨ (a = 68 ∧ j = st.length)) I I2 := by rw [← e2]; exact f1.zu (Or.inr (Or.inr ⟨rfl, rfl⟩))
  have f3 : eqQ (fun a j => (a = 64 ∧ j = 4) ∨ (a = 66 ∧ j = st.length) ∨ (a = 68 ∧ j = st.length)) I I3 := by rw [← e3]; exact f2.zu (Or.inr (Or.inl ⟨rfl, rfl⟩))
  refine hK I3 f3 ⟨by rw [List.length_append]; exact Nat.le_add_right_of_le h0, ?_, fun j p hj => ?_⟩
  · rw [← e3, zu_oo (by decide), g2, List.length_append]
    rfl
  · by_cases q : j < st.length
    · rw [List.getElem?_append_left q] at hj
      rw [f3.1 66 j (by omega), f3.1 68 j (by omega)]
      exact h2 j p hj
    · have hj2 := (List.getElem?_eq_some_iff.mp hj).1
      rw [List.length_append] at hj2
      have hil : j = st.length := by
        have : [(c, s)].length = 1 := rfl
        omega
      rw [hil, List.getElem?_append_right (Nat.le_refl _), Nat.sub_self] at hj
      cases hj
      rw [hil]
      exact ⟨by rw [← e3, zu_self], fun _ => by rw [← e3, zu_oo (by decide), ← e2, zu_self]⟩
/-- how many TOKENS these nodes have -/
def tkS (N : Nat → Nd) (l : List Nat) : Nat := (l.map (fun c => ndT (N c))).sum
theorem tkS_snoc {N : Nat → Nd} {l : List Nat} {c : Nat} : tkS N (l ++ [c]) = tkS N l + ndT (N c) := by
  unfold tkS
  simp
/-- the node that a RULE makes of what is on the stack; the stack then -/
def byS (st : List (Nat × Nat)) (r : Nat) : Nat := (st.getD (st.length - lnN r - 1) (0, 0)).2
def byC (st : List (Nat × Nat)) (r : Nat) : List Nat := (st.drop (st.length - lnN r)).map (·.1)
def byN (N : Nat → Nd) (st : List (Nat × Nat)) (r e : Nat) : Nd := rlNd r (byS st r) (tkS N (byC st r)) e (byC st r)
def byT (m : Nat) (st : List (Nat × Nat)) (r : Nat) : List (Nat × Nat) := st.take (st.length - lnN r) ++ [(m, ldN (byS st r) (syN r))]
def Qby (m a j : Nat) : Prop := Qnx m a j ∨ (a = 64 ∧ (j = 4 ∨ j = 10)) ∨ ((a = 66 ∨ a = 68) ∧ j < 300)
theorem byC_len {st : List (Nat × Nat)} {r : Nat} (h : lnN r ≤ st.length) : (byC st r).length = lnN r := by
  unfold byC
  rw [List.length_map, List.length_drop]
  omega
theorem s_makeByRule {m s e : Nat} {p0 : Nat × Nat} {st : List (Nat × Nat)} {N : Nat → Nd} {I : zI} {K : Int32 → zI → Prop} (rep : RepNX I m N) (hc : ∀ k, k < m → (ndC (N k)).length ≤ 4) (hm : m < 3400) (hS : StX I st) (ok : StOk m st) (hl : st.length < 300) (htop : st[st.length - 1]? = some p0) (hs : p0.2 = s)
    (hfit : ∀ r, rlN s = some r → lnN r < st.length)
    (hK0 : rlN s = none → K 0 I)
    (hK : ∀ r J, rlN s = some r → eqQ (Qby m) I J → RepNX J (m + 1) (upN N m (byN N st r e)) → StX J (byT m st r) → J.1 64 10 = I.1 64 10 + 1 → K 1 J) : w_Grower_makeByRule (zi e) I K := by
  unfold w_Grower_makeByRule
  obtain ⟨h0, h1, h2⟩ := id hS
  have hs21 : s < 21 := hs ▸ (ok _ p0 htop).1
  rw [h1]
  refine (w_get (by decide)).mpr ?_
  rw [rg_in (by decide) (show st.length - 1 < 300 by omega), show I.1 (65 + 1) (st.length - 1) = zi s from hs ▸ (h2 _ p0 htop).1]
  refine s_ruleAt hs21 ?_
  cases hr : rlN s with
  | none =>
    have e0 : rlI s = -1 := by unfold rlI; rw [hr]
    rw [e0]
    refine s_lengthOf_neg (by decide) ?_
    rw [if_pos (show (-1 : Int32) < 0 by decide)]
    exact hK0 hr
  | some r =>
    have e0 : rlI s = zi r := by unfold rlI; rw [hr]
    have hr11 := rlN_lt hs21 hr
    have hf := hfit r hr
    have ln4 := (ln_fin r hr11).2
    change lnN r ≤ 4 at ln4
    rw [e0]
    refine s_lengthOf hr11 ?_
    rw [if_neg (zi_pos (by omega)), if_pos ((zi_le (by omega) (by omega)).mpr (by omega))]
    intro I4 e4
    rw [zi_sub (by omega)] at e4
    have g4 : I4.1 64 4 = zi (st.length - lnN r - 1) := by rw [e4, zu_self, show st.length - 1 - lnN r = st.length - lnN r - 1 by omega]
    have q4 : eqQ (Qby m) I I4 := by rw [e4]; exact eqQ.rf.zu (Or.inr (Or.inl ⟨rfl, Or.inl rfl⟩))
    have o4 : ∀ a j, a ≠ 64 → I4.1 a j = I.1 a j := fun a j u => by rw [e4, zu_oo u]
    refine (w_get (by decide)).mpr ?_
    have hb : st[st.length - lnN r - 1]? = some (st.getD (st.length - lnN r - 1) (0, 0)) := by
      rw [List.getD_eq_getElem?_getD, List.getElem?_eq_getElem (by omega)]
      rfl
    have hs' : byS st r < 21 := (ok _ _ hb).1
    rw [g4, rg_in (by decide) (show st.length - lnN r - 1 < 300 by omega), show I4.1 (65 + 1) (st.length - lnN r - 1) = zi (byS st r) by rw [o4 _ _ (by decide)]; exact (h2 _ _ hb).1]
    have rep4 : RepNX I4 m N := ⟨by rw [o4 _ _ (by decide)]; exact rep.1, fun k hk => (rep.2 k hk).kept (hc k hk) (fun a u1 u2 => o4 a k (by omega)) (fun i hi => o4 _ _ (by decide))⟩
    refine s_makeRuled rep4 hc hm hr11 (fun J5 q5 rep5 => ?_)
    have hCl : (byC st r).length = lnN r := byC_len (by omega)
    have hCi : ∀ i, i < lnN r → ∃ c, (byC st r)[i]? = some c ∧ c < m ∧ I.1 68 (st.length - lnN r + i) = zi c := by
      intro i hi
      have hp : st[st.length - lnN r + i]? = some (st[st.length - lnN r + i]'(by omega)) := List.getElem?_eq_getElem (by omega)
      refine ⟨(st[st.length - lnN r + i]'(by omega)).1, ?_, (ok _ _ hp).2 (by omega), (h2 _ _ hp).2 (by omega)⟩
      unfold byC
      rw [List.getElem?_map, List.getElem?_drop, hp]
      rfl
    intro P hP
    have main : ∀ d i J, i + d = lnN r → eqQ (Qnx m) I4 J → RepNX J (m + 1) (upN N m (rlNd r (byS st r) (tkS N ((byC st r).take i)) e ((byC st r).take i))) → P (zi i) J := by
      intro d
      induction d with
      | zero =>
        intro i J hi q rp
        refine hP _ _ ?_
        rw [if_pos ((zi_le (by omega) (by omega)).mpr (by omega))]
        refine s_symbolOf hr11 ?_
        refine s_leadsTo hs' (by have := (sy_fin r hr11).2; omega) ?_
        have hbS : StX J (st.take (st.length - lnN r)) := by
          have hlen : (st.take (st.length - lnN r)).length = st.length - lnN r := by rw [List.length_take]; omega
          refine ⟨by omega, ?_, fun j p hj => ?_⟩
          · rw [q.1 64 4 (by unfold Qnx; omega), g4, hlen]
          · have hj2 := (List.getElem?_eq_some_iff.mp hj).1
            rw [List.getElem?_take, if_pos (by omega)] at hj
            rw [q.1 66 j (by unfold Qnx; omega), q.1 68 j (by unfold Qnx; omega), o4 _ _ (by decide), o4 _ _ (by decide)]
            exact h2 j p hj
        have hlen : (st.take (st.length - lnN r)).length = st.length - lnN r := by rw [List.length_take]; omega
        refine s_put hbS (by omega) (fun J6 q6 r6 => ?_)
        intro J7 e7
        have o7 : ∀ a j, ¬ (a = 64 ∧ j = 10) → J7.1 a j = J6.1 a j := fun a j u => by rw [e7, zu_at, if_neg u]
        have q7 : eqQ (Qby m) I J7 := by
          rw [e7]
          refine ((q4.tr (q.mono (fun a j h => Or.inl h))).tr (q6.mono (fun a j h => ?_))).zu (Or.inr (Or.inl ⟨rfl, Or.inr rfl⟩))
          rw [hlen] at h
          unfold Qby
          omega
        have ti : (byC st r).take i = byC st r := List.take_of_length_le (by omega)
        rw [ti] at rp
        refine hK r J7 hr q7 ⟨?_, fun k hk => ?_⟩ ⟨r6.1, ?_, fun j p hj => ?_⟩ ?_
        · rw [o7 _ _ (by omega), q6.1 24 9 (by omega)]
          exact rp.1
        · refine (rp.2 k hk).kept ?_ (fun a u1 u2 => by rw [o7 _ _ (by omega), q6.1 a k (by omega)]) (fun j hj => by rw [o7 _ _ (by omega), q6.1 42 _ (by omega)])
          by_cases u : k = m
          · subst u
            rw [upN_self]
            show (byC st r).length ≤ 4
            omega
          · rw [upN_o u]
            exact hc k (by omega)
        · rw [o7 _ _ (by omega)]
          exact r6.2.1
        · rw [o7 _ _ (by omega), o7 _ _ (by omega)]
          exact r6.2.2 j p hj
        · rw [e7, zu_self, q6.1 64 10 (by omega), q.1 64 10 (by unfold Qnx; omega), e4, zu_at, if_neg (by omega)]
      | succ d ih =>
        intro i J hi q rp
        refine hP _ _ ?_
        rw [if_neg (fun u => by have := (zi_le (by omega) (by omega)).mp u; omega)]
        obtain ⟨c, hci, hcm, hcI⟩ := hCi i (by omega)
        rw [q.1 64 4 (by unfold Qnx; omega), g4, zi_succ, zi_add, show st.length - lnN r - 1 + 1 + i = st.length - lnN r + i by omega]
        refine (w_get (by decide)).mpr ?_
        rw [rg_in (by decide) (show st.length - lnN r + i < 300 by omega), show J.1 (67 + 1) (st.length - lnN r + i) = zi c by rw [q.1 _ _ (by unfold Qnx; omega), o4 _ _ (by decide)]; exact hcI]
        have til : ((byC st r).take i).length = i := by rw [List.length_take]; omega
        have h6 := s_giveChild (K := fun I_15 => ∀ v6_16, v6_16 = (zi i + 1) → P v6_16 I_15) rp hc hm (by omega) hcm (fun J6 q6 rp6 => fun v ev => by
          rw [ev, zi_succ]
          refine ih (i + 1) J6 (by omega) (q.tr q6) ?_
          have ts : (byC st r).take (i + 1) = (byC st r).take i ++ [c] := by
            rw [List.take_add_one, hci]
            rfl
          rw [ts, tkS_snoc]
          exact rp6)
        rw [til] at h6
        exact h6
    exact main (lnN r) 0 J5 (by omega) q5 (by rw [List.take_zero]; exact rep5)
