/-! ===== a node by a RULE: the class ===== -/
theorem zi_int (r : Nat) : Int32.ofInt (r : Int) = zi r := Int32.ofInt_eq_ofNat
/-- a node by rule r on the state s with these children so far -/
def rlNd (r s T e : Nat) (cs : List Nat) : Nd := ((r : Int), 0, (s : Int), T, e, cs, [])
theorem ndM_rl {r s T e : Nat} {cs : List Nat} : ndM (rlNd r s T e cs) = syN r := by
  unfold ndM ndR rlNd
  rw [if_neg (by show ¬ (r : Int) < 0; omega)]
  rfl
theorem s_makeRuled {m r s e : Nat} {N : Nat → Nd} {I : zI} {K : Int32 → zI → Prop} (rep : RepNX I m N) (hc : ∀ k, k < m → (ndC (N k)).length ≤ 4) (hm : m < 3400) (hr : r < 11)
    (hK : ∀ J, eqQ (Qnx m) I J → RepNX J (m + 1) (upN N m (rlNd r s 0 e [])) → K (zi m) J) : w_Nodes_makeRuled (zi r) (zi s) (zi e) I K := by
  unfold w_Nodes_makeRuled w_Nodes_make
  refine s_symbolOf hr ?_
  intro v ev
  rw [rep.1] at ev
  subst ev
  refine (w_set (by decide)).mpr ?_
  rw [rs_in (by decide) hm]
  generalize e1 : zu I (25 + 1) m (zi r) = J1
  refine (w_set (by decide)).mpr ?_
  rw [rs_in (by decide) hm]
  generalize e2 : zu J1 (27 + 1) m (zi (syN r)) = J2
  refine (w_set (by decide)).mpr ?_
  rw [rs_in (by decide) hm]
  generalize e3 : zu J2 (29 + 1) m (zi s) = J3
  refine (w_set (by decide)).mpr ?_
  rw [rs_in (by decide) hm]
  generalize e4 : zu J3 (33 + 1) m (zi e) = J4
  intro J5 e5
  have g9 : J4.1 24 9 = zi m := by rw [← e4, zu_oo (by omega), ← e3, zu_oo (by omega), ← e2, zu_oo (by omega), ← e1, zu_oo (by omega)]; exact rep.1
  rw [g9, zi_succ] at e5
  refine (w_set (by decide)).mpr ?_
  rw [rs_in (by decide) hm]
  generalize e6 : zu J5 (31 + 1) m 0 = J6
  have f1 : eqQ (Qnx m) I J1 := by rw [← e1]; exact eqQ.rf.zu (Or.inr (Or.inl (by omega)))
  have f2 : eqQ (Qnx m) I J2 := by rw [← e2]; exact f1.zu (Or.inr (Or.inl (by omega)))
  have f3 : eqQ (Qnx m) I J3 := by rw [← e3]; exact f2.zu (Or.inr (Or.inl (by omega)))
  have f4 : eqQ (Qnx m) I J4 := by rw [← e4]; exact f3.zu (Or.inr (Or.inl (by omega)))
  have f5 : eqQ (Qnx m) I J5 := by rw [e5]; exact f4.zu (Or.inl ⟨rfl, rfl⟩)
  have f6 : eqQ (Qnx m) I J6 := by rw [← e6]; exact f5.zu (Or.inr (Or.inl (by omega)))
  refine hK J6 f6 ⟨?_, fun k hk => ?_⟩
  · rw [← e6, zu_oo (by omega), e5, zu_self]
  · by_cases hkm : k = m
    · subst hkm
      rw [upN_self]
      refine ⟨?_, ?_, ?_, ?_, ?_, (fun i c hi => by cases hi), fun q => absurd q ?_⟩
      · rw [← e6, zu_oo (by omega), e5, zu_oo (by omega), ← e4, zu_oo (by omega), ← e3, zu_oo (by omega), ← e2, zu_oo (by omega), ← e1, zu_self]
        exact (zi_int r).symm
      · rw [← e6, zu_oo (by omega), e5, zu_oo (by omega), ← e4, zu_oo (by omega), ← e3, zu_oo (by omega), ← e2, zu_self, ndM_rl]
      · rw [← e6, zu_oo (by omega), e5, zu_oo (by omega), ← e4, zu_oo (by omega), ← e3, zu_self]
        exact (zi_int s).symm
      · rw [← e6, zu_self]
        rfl
      · rw [← e6, zu_oo (by omega), e5, zu_oo (by omega), ← e4, zu_self]
        rfl
      · show ¬ (r : Int) < 0
        omega
    · rw [upN_o hkm]
      exact (rep.2 k (by omega)).kept (hc k (by omega)) (fun a h1 h2 => f6.1 a k (by unfold Qnx; omega)) (fun i hi => f6.1 42 _ (by unfold Qnx; omega))
theorem s_giveChild {m r s T e c : Nat} {cs : List Nat} {N : Nat → Nd} {I : zI} {K : zI → Prop} (rep : RepNX I (m + 1) (upN N m (rlNd r s T e cs))) (hc : ∀ k, k < m → (ndC (N k)).length ≤ 4) (hm : m < 3400) (hcs : cs.length < 4) (hcm : c < m)
    (hK : ∀ J, eqQ (Qnx m) I J → RepNX J (m + 1) (upN N m (rlNd r s (T + ndT (N c)) e (cs ++ [c]))) → K J) : w_Nodes_giveChild (zi m) (zi cs.length) (zi c) I K := by
  unfold w_Nodes_giveChild
  have e0 : zi m * 4 + zi cs.length = zi (4 * m + cs.length) := by
    rw [show (4 : Int32) = zi 4 from rfl, zi_mul, zi_add, Nat.mul_comm]
  rw [e0]
  refine (w_set (by decide)).mpr ?_
  rw [rs_in (by decide) (show 4 * m + cs.length < 13600 by omega)]
  generalize e1 : zu I (41 + 1) (4 * m + cs.length) (zi c) = J1
  have tc : I.1 32 c = zi (ndT (N c)) := by
    have := (rep.2 c (by omega)).2.2.2.1
    rw [upN_o (by omega)] at this
    exact this
  have tm : I.1 32 m = zi T := by
    have := (rep.2 m (by omega)).2.2.2.1
    rw [upN_self] at this
    exact this
  refine (w_get (by decide)).mpr ?_
  rw [rg_in (by decide) (show c < 3400 by omega)]
  refine (w_add (by decide)).mpr ?_
  rw [rs_in (by decide) hm, rg_in (by decide) hm, ← e1, zu_oo (by decide), zu_oo (by decide), show I.1 (31 + 1) c = zi (ndT (N c)) from tc, show I.1 (31 + 1) m = zi T from tm, zi_add]
  generalize e2 : zu (zu I (41 + 1) (4 * m + cs.length) (zi c)) (31 + 1) m (zi (T + ndT (N c))) = J2
  have f2 : eqQ (Qnx m) I J2 := by rw [← e2]; exact (eqQ.rf.zu (Or.inr (Or.inr (by omega)))).zu (Or.inr (Or.inl (by omega)))
  refine hK J2 f2 ⟨?_, fun k hk => ?_⟩
  · rw [← e2, zu_oo (by decide), zu_oo (by decide)]
    exact rep.1
  · by_cases hkm : k = m
    · subst hkm
      have h0 := rep.2 k (by omega)
      rw [upN_self] at h0 ⊢
      obtain ⟨h1, h2, h3, h4, h5, h6, h7⟩ := h0
      have o : ∀ a, a ≠ 42 → a ≠ 32 → J2.1 a k = I.1 a k := fun a u1 u2 => by rw [← e2, zu_oo (by omega), zu_oo (by omega)]
      refine ⟨?_, ?_, ?_, ?_, ?_, fun i x hi => ?_, fun q => absurd q ?_⟩
      · rw [o _ (by decide) (by decide)]; exact h1
      · rw [o _ (by decide) (by decide), ndM_rl]
        rw [ndM_rl] at h2
        exact h2
      · rw [o _ (by decide) (by decide)]; exact h3
      · rw [← e2, zu_self]
        rfl
      · rw [o _ (by decide) (by decide)]; exact h5
      · rw [← e2, zu_oo (by decide), zu_at]
        have hi' : (cs ++ [c])[i]? = some x := hi
        by_cases hl : i < cs.length
        · rw [List.getElem?_append_left hl] at hi'
          rw [if_neg (by omega)]
          exact h6 i x hi'
        · have hi2 := (List.getElem?_eq_some_iff.mp hi').1
          rw [List.length_append] at hi2
          have hil : i = cs.length := by
            have : [c].length = 1 := rfl
            omega
          rw [hil, List.getElem?_append_right (Nat.le_refl _), Nat.sub_self] at hi'
          cases hi'
          rw [if_pos ⟨rfl, by omega⟩]
      · show ¬ (r : Int) < 0
        omega
    · rw [upN_o hkm]
      have h0 := rep.2 k (by omega)
      rw [upN_o hkm] at h0
      exact h0.kept (hc k (by omega)) (fun a h1 h2 => f2.1 a k (by unfold Qnx; omega)) (fun i hi => f2.1 42 _ (by unfold Qnx; omega))
/-! ===== a RULE on the stack: the class ===== -/
/-- the stack: (node, STATE), the bottom first -/
def StX (I : zI) (st : List (Nat × Nat)) : Prop := 1 ≤ st.length ∧ I.1 64 4 = zi (st.length - 1) ∧ ∀ j p, st[j]? = some p → I.1 66 j = zi p.2 ∧ (1 ≤ j → I.1 68 j = zi p.1)
/-- what is on it: STATES, nodes made before -/
def StOk (m : Nat) (st : List (Nat × Nat)) : Prop := ∀ j p, st[j]? = some p → p.2 < 21 ∧ (1 ≤ j → p.1 < m)
theorem s_put {c s : Nat} {st : List (Nat × Nat)} {I : zI} {K : zI → Prop} (hS : StX I st) (hl : st.length < 300)
    (hK : ∀ J, eqQ (fun a j => (a = 64 ∧ j = 4) ∨ (a = 66 ∧ j = st.length) ∨ (a = 68 ∧ j = st.length)) I J → StX J (st ++ [(c, s)]) → K J) : w_Grower_put (zi c) (zi s) I K := by
  intro I1 e1
  obtain ⟨h0, h1, h2⟩ := hS
  rw [h1, zi_succ, show st.length - 1 + 1 = st.length by omega] at e1
  have g1 : I1.1 64 4 = zi st.length := by rw [e1, zu_self]
  refine (w_set (by decide)).mpr ?_
  rw [g1, rs_in (by decide) hl]
  generalize e2 : zu I1 (67 + 1) st.length (zi c) = I2
  have g2 : I2.1 64 4 = zi st.length := by rw [← e2, zu_oo (by decide)]; exact g1
  refine (w_set (by decide)).mpr ?_
  rw [g2, rs_in (by decide) hl]
  generalize e3 : zu I2 (65 + 1) st.length (zi s) = I3
  have f1 : eqQ (fun a j => (a = 64 ∧ j = 4) ∨ (a = 66 ∧ j = st.length) ∨ (a = 68 ∧ j = st.length)) I I1 := by rw [e1]; exact eqQ.rf.zu (Or.inl ⟨rfl, rfl⟩)
  have f2 : eqQ (fun a j => (a = 64 ∧ j = 4) ∨ (a = 66 ∧ j = st.length) ∨ (a = 68 ∧ j = st.length)) I I2 := by rw [← e2]; exact f1.zu (Or.inr (Or.inr ⟨rfl, rfl⟩))
  have f3 : eqQ (fun a j => (a = 64 ∧ j = 4) ∨ (a = 66 ∧ j = st.length) ∨ (a = 68 ∧ j = st.length)) I I3 := by rw [← e3]; exact f2.zu (Or.inr (Or.inl ⟨rfl, rfl⟩))
  refine hK I3 f3 ⟨by rw [List.length_append]; exact Nat.le_add_right_of_le h0, ?_, fun j p hj => ?_⟩
  · rw [← e3, zu_oo (by decide), g2, List.length_append]
    rfl
  · by_cases q : j < st.length
    · rw [List.getElem?_append_left q] at hj
      rw [f3.1 66 j (by omega), f3.1 68 j (by omega)]
      exact h2 j p hj
    · have hj2 := (List.getElem?_eq_some_iff.mp hj).1
      rw [List.length_append] at hj2
      have hil : j = st.length := by
        have : [(c, s)].length = 1 := rfl
        omega
      rw [hil, List.getElem?_append_right (Nat.le_refl _), Nat.sub_self] at hj
      cases hj
      rw [hil]
      exact ⟨by rw [← e3, zu_self], fun _ => by rw [← e3, zu_oo (by decide), ← e2, zu_self]⟩
/-- how many TOKENS these nodes have -/
def tkS (N : Nat → Nd) (l : List Nat) : Nat := (l.map (fun c => ndT (N c))).sum
theorem tkS_snoc {N : Nat → Nd} {l : List Nat} {c : Nat} : tkS N (l ++ [c]) = tkS N l + ndT (N c) := by
  unfold tkS
  simp
/-- the node that a RULE makes of what is on the stack; the stack then -/
def byS (st : List (Nat × Nat)) (r : Nat) : Nat := (st.getD (st.length - lnN r - 1) (0, 0)).2
def byC (st : List (Nat × Nat)) (r : Nat) : List Nat := (st.drop (st.length - lnN r)).map (·.1)
def byN (N : Nat → Nd) (st : List (Nat × Nat)) (r e : Nat) : Nd := rlNd r (byS st r) (tkS N (byC st r)) e (byC st r)
def byT (m : Nat) (st : List (Nat × Nat)) (r : Nat) : List (Nat × Nat) := st.take (st.length - lnN r) ++ [(m, ldN (byS st r) (syN r))]
def Qby (m a j : Nat) : Prop := Qnx m a j ∨ (a = 64 ∧ (j = 4 ∨ j = 10)) ∨ ((a = 66 ∨ a = 68) ∧ j < 300)
theorem byC_len {st : List (Nat × Nat)} {r : Nat} (h : lnN r ≤ st.length) : (byC st r).length = lnN r := by
  unfold byC
  rw [List.length_map, List.length_drop]
  omega
theorem s_makeByRule {m s e : Nat} {p0 : Nat × Nat} {st : List (Nat × Nat)} {N : Nat → Nd} {I : zI} {K : Int32 → zI → Prop} (rep : RepNX I m N) (hc : ∀ k, k < m → (ndC (N k)).length ≤ 4) (hm : m < 3400) (hS : StX I st) (ok : StOk m st) (hl : st.length < 300) (htop : st[st.length - 1]? = some p0) (hs : p0.2 = s)
    (hfit : ∀ r, rlN s = some r → lnN r < st.length)
    (hK0 : rlN s = none → K 0 I)
    (hK : ∀ r J, rlN s = some r → eqQ (Qby m) I J → RepNX J (m + 1) (upN N m (byN N st r e)) → StX J (byT m st r) → J.1 64 10 = I.1 64 10 + 1 → K 1 J) : w_Grower_makeByRule (zi e) I K := by
  unfold w_Grower_makeByRule
  obtain ⟨h0, h1, h2⟩ := id hS
  have hs21 : s < 21 := hs ▸ (ok _ p0 htop).1
  rw [h1]
  refine (w_get (by decide)).mpr ?_
  rw [rg_in (by decide) (show st.length - 1 < 300 by omega), show I.1 (65 + 1) (st.length - 1) = zi s from hs ▸ (h2 _ p0 htop).1]
  refine s_ruleAt hs21 ?_
  cases hr : rlN s with
  | none =>
    have e0 : rlI s = -1 := by unfold rlI; rw [hr]
    rw [e0]
    refine s_lengthOf_neg (by decide) ?_
    rw [if_pos (show (-1 : Int32) < 0 by decide)]
    exact hK0 hr
  | some r =>
    have e0 : rlI s = zi r := by unfold rlI; rw [hr]
    have hr11 := rlN_lt hs21 hr
    have hf := hfit r hr
    have ln4 := (ln_fin r hr11).2
    change lnN r ≤ 4 at ln4
    rw [e0]
    refine s_lengthOf hr11 ?_
    rw [if_neg (zi_pos (by omega)), if_pos ((zi_le (by omega) (by omega)).mpr (by omega))]
    intro I4 e4
    rw [zi_sub (by omega)] at e4
    have g4 : I4.1 64 4 = zi (st.length - lnN r - 1) := by rw [e4, zu_self, show st.length - 1 - lnN r = st.length - lnN r - 1 by omega]
    have q4 : eqQ (Qby m) I I4 := by rw [e4]; exact eqQ.rf.zu (Or.inr (Or.inl ⟨rfl, Or.inl rfl⟩))
    have o4 : ∀ a j, a ≠ 64 → I4.1 a j = I.1 a j := fun a j u => by rw [e4, zu_oo u]
    refine (w_get (by decide)).mpr ?_
    have hb : st[st.length - lnN r - 1]? = some (st.getD (st.length - lnN r - 1) (0, 0)) := by
      rw [List.getD_eq_getElem?_getD, List.getElem?_eq_getElem (by omega)]
      rfl
    have hs' : byS st r < 21 := (ok _ _ hb).1
    rw [g4, rg_in (by decide) (show st.length - lnN r - 1 < 300 by omega), show I4.1 (65 + 1) (st.length - lnN r - 1) = zi (byS st r) by rw [o4 _ _ (by decide)]; exact (h2 _ _ hb).1]
    have rep4 : RepNX I4 m N := ⟨by rw [o4 _ _ (by decide)]; exact rep.1, fun k hk => (rep.2 k hk).kept (hc k hk) (fun a u1 u2 => o4 a k (by omega)) (fun i hi => o4 _ _ (by decide))⟩
    refine s_makeRuled rep4 hc hm hr11 (fun J5 q5 rep5 => ?_)
    have hCl : (byC st r).length = lnN r := byC_len (by omega)
    have hCi : ∀ i, i < lnN r → ∃ c, (byC st r)[i]? = some c ∧ c < m ∧ I.1 68 (st.length - lnN r + i) = zi c := by
      intro i hi
      have hp : st[st.length - lnN r + i]? = some (st[st.length - lnN r + i]'(by omega)) := List.getElem?_eq_getElem (by omega)
      refine ⟨(st[st.length - lnN r + i]'(by omega)).1, ?_, (ok _ _ hp).2 (by omega), (h2 _ _ hp).2 (by omega)⟩
      unfold byC
      rw [List.getElem?_map, List.getElem?_drop, hp]
      rfl
    intro P hP
    have main : ∀ d i J, i + d = lnN r → eqQ (Qnx m) I4 J → RepNX J (m + 1) (upN N m (rlNd r (byS st r) (tkS N ((byC st r).take i)) e ((byC st r).take i))) → P (zi i) J := by
      intro d
      induction d with
      | zero =>
        intro i J hi q rp
        refine hP _ _ ?_
        rw [if_pos ((zi_le (by omega) (by omega)).mpr (by omega))]
        refine s_symbolOf hr11 ?_
        refine s_leadsTo hs' (by have := (sy_fin r hr11).2; omega) ?_
        have hbS : StX J (st.take (st.length - lnN r)) := by
          have hlen : (st.take (st.length - lnN r)).length = st.length - lnN r := by rw [List.length_take]; omega
          refine ⟨by omega, ?_, fun j p hj => ?_⟩
          · rw [q.1 64 4 (by unfold Qnx; omega), g4, hlen]
          · have hj2 := (List.getElem?_eq_some_iff.mp hj).1
            rw [List.getElem?_take, if_pos (by omega)] at hj
            rw [q.1 66 j (by unfold Qnx; omega), q.1 68 j (by unfold Qnx; omega), o4 _ _ (by decide), o4 _ _ (by decide)]
            exact h2 j p hj
        have hlen : (st.take (st.length - lnN r)).length = st.length - lnN r := by rw [List.length_take]; omega
        refine s_put hbS (by omega) (fun J6 q6 r6 => ?_)
        intro J7 e7
        have o7 : ∀ a j, ¬ (a = 64 ∧ j = 10) → J7.1 a j = J6.1 a j := fun a j u => by rw [e7, zu_at, if_neg u]
        have q7 : eqQ (Qby m) I J7 := by
          rw [e7]
          refine ((q4.tr (q.mono (fun a j h => Or.inl h))).tr (q6.mono (fun a j h => ?_))).zu (Or.inr (Or.inl ⟨rfl, Or.inr rfl⟩))
          rw [hlen] at h
          unfold Qby
          omega
        have ti : (byC st r).take i = byC st r := List.take_of_length_le (by omega)
        rw [ti] at rp
        refine hK r J7 hr q7 ⟨?_, fun k hk => ?_⟩ ⟨r6.1, ?_, fun j p hj => ?_⟩ ?_
        · rw [o7 _ _ (by omega), q6.1 24 9 (by omega)]
          exact rp.1
        · refine (rp.2 k hk).kept ?_ (fun a u1 u2 => by rw [o7 _ _ (by omega), q6.1 a k (by omega)]) (fun j hj => by rw [o7 _ _ (by omega), q6.1 42 _ (by omega)])
          by_cases u : k = m
          · subst u
            rw [upN_self]
            show (byC st r).length ≤ 4
            omega
          · rw [upN_o u]
            exact hc k (by omega)
        · rw [o7 _ _ (by omega)]
          exact r6.2.1
        · rw [o7 _ _ (by omega), o7 _ _ (by omega)]
          exact r6.2.2 j p hj
        · rw [e7, zu_self, q6.1 64 10 (by omega), q.1 64 10 (by unfold Qnx; omega), e4, zu_at, if_neg (by omega)]
      | succ d ih =>
        intro i J hi q rp
        refine hP _ _ ?_
        rw [if_neg (fun u => by have := (zi_le (by omega) (by omega)).mp u; omega)]
        obtain ⟨c, hci, hcm, hcI⟩ := hCi i (by omega)
        rw [q.1 64 4 (by unfold Qnx; omega), g4, zi_succ, zi_add, show st.length - lnN r - 1 + 1 + i = st.length - lnN r + i by omega]
        refine (w_get (by decide)).mpr ?_
        rw [rg_in (by decide) (show st.length - lnN r + i < 300 by omega), show J.1 (67 + 1) (st.length - lnN r + i) = zi c by rw [q.1 _ _ (by unfold Qnx; omega), o4 _ _ (by decide)]; exact hcI]
        have til : ((byC st r).take i).length = i := by rw [List.length_take]; omega
        have h6 := s_giveChild (K := fun I_15 => ∀ v6_16, v6_16 = (zi i + 1) → P v6_16 I_15) rp hc hm (by omega) hcm (fun J6 q6 rp6 => fun v ev => by
          rw [ev, zi_succ]
          refine ih (i + 1) J6 (by omega) (q.tr q6) ?_
          have ts : (byC st r).take (i + 1) = (byC st r).take i ++ [c] := by
            rw [List.take_add_one, hci]
            rfl
          rw [ts, tkS_snoc]
          exact rp6)
        rw [til] at h6
        exact h6
    exact main (lnN r) 0 J5 (by omega) q5 (by rw [List.take_zero]; exact rep5)
/-! ===== a RULE on the stack: the model ===== -/
def StM (I : zI) (st : List (Nat × Nat)) : Prop := 1 ≤ st.length ∧ I.1 491 71 = zi st.length ∧ ∀ j p, st[j]? = some p → I.1 539 j = zi p.2 ∧ (1 ≤ j → I.1 540 j = zi p.1)
def Qlo (n a j : Nat) : Prop := (a = 491 ∧ (j = 71 ∨ j = 72)) ∨ (a = 539 ∧ j = n) ∨ (a = 540 ∧ j = n)
theorem s_laysOn {c s : Nat} {st : List (Nat × Nat)} {I : zI} {K : zI → Prop} (hS : StM I st) (hl : st.length < 400)
    (hK : ∀ J, eqQ (Qlo st.length) I J → StM J (st ++ [(c, s)]) → J.1 491 72 = I.1 491 72 + 1 → K J) : w_M_laysOn (zi c) (zi s) I K := by
  obtain ⟨h0, h1, h2⟩ := hS
  refine ⟨by rw [h1]; exact (zin_iff (by omega)).mpr (by omega), fun I1 e1 => ?_⟩
  rw [h1, zi_tn (by omega)] at e1
  have g1 : I1.1 491 71 = zi st.length := by rw [e1, zu_oo (by decide)]; exact h1
  refine ⟨by rw [g1]; exact (zin_iff (by omega)).mpr (by omega), fun I2 e2 I3 e3 I4 e4 => ?_⟩
  rw [g1, zi_tn (by omega)] at e2
  have g2 : I2.1 491 71 = zi st.length := by rw [e2, zu_oo (by decide)]; exact g1
  rw [g2, zi_succ] at e3
  have f1 : eqQ (Qlo st.length) I I1 := by rw [e1]; exact eqQ.rf.zu (Or.inr (Or.inr ⟨rfl, rfl⟩))
  have f2 : eqQ (Qlo st.length) I I2 := by rw [e2]; exact f1.zu (Or.inr (Or.inl ⟨rfl, rfl⟩))
  have f3 : eqQ (Qlo st.length) I I3 := by rw [e3]; exact f2.zu (Or.inl ⟨rfl, Or.inl rfl⟩)
  have f4 : eqQ (Qlo st.length) I I4 := by rw [e4]; exact f3.zu (Or.inl ⟨rfl, Or.inr rfl⟩)
  refine hK I4 f4 ⟨by rw [List.length_append]; exact Nat.le_add_right_of_le h0, ?_, fun j p hj => ?_⟩ ?_
  · rw [e4, zu_at, if_neg (by omega), e3, zu_self, List.length_append]
    rfl
  · by_cases q : j < st.length
    · rw [List.getElem?_append_left q] at hj
      rw [f4.1 539 j (by unfold Qlo; omega), f4.1 540 j (by unfold Qlo; omega)]
      exact h2 j p hj
    · have hj2 := (List.getElem?_eq_some_iff.mp hj).1
      rw [List.length_append] at hj2
      have hil : j = st.length := by
        have : [(c, s)].length = 1 := rfl
        omega
      rw [hil, List.getElem?_append_right (Nat.le_refl _), Nat.sub_self] at hj
      cases hj
      rw [hil]
      exact ⟨by rw [e4, zu_oo (by decide), e3, zu_oo (by decide), e2, zu_self], fun _ => by rw [e4, zu_oo (by decide), e3, zu_oo (by decide), e2, zu_oo (by decide), e1, zu_self]⟩
  · rw [e4, zu_self, e3, zu_at, if_neg (by omega), e2, zu_oo (by decide), e1, zu_oo (by decide)]
def Qbm (m a j : Nat) : Prop := Qnm m a j ∨ (a = 491 ∧ (j = 71 ∨ j = 72)) ∨ ((a = 539 ∨ a = 540) ∧ j < 400)
theorem s_makesBy {m r e : Nat} {st : List (Nat × Nat)} {N : Nat → Nd} {I : zI} {K : zI → Prop} (rep : RepNM I m N) (hc : ∀ k, k < m → (ndC (N k)).length ≤ 4) (hm : m < 3700) (he : I.1 491 36 = zi e) (hS : StM I st) (ok : StOk m st) (hl : st.length < 400) (hr : r < 11) (hf : lnN r < st.length) (hld : ldN (byS st r) (syN r) ≠ 0)
    (hK : ∀ J, eqQ (Qbm m) I J → RepNM J (m + 1) (upN N m (byN N st r e)) → StM J (byT m st r) → J.1 491 72 = I.1 491 72 + 1 → K J) : w_M_makesBy (zi r) I K := by
  unfold w_M_makesBy
  obtain ⟨h0, h1, h2⟩ := id hS
  have ln4 := (ln_fin r hr).2
  change lnN r ≤ 4 at ln4
  refine s_manyOf hr ?_
  intro I2 e2
  rw [h1, zi_sub (by omega)] at e2
  have q2 : eqQ (Qbm m) I I2 := by rw [e2]; exact eqQ.rf.zu (Or.inr (Or.inl ⟨rfl, Or.inl rfl⟩))
  have o2 : ∀ a j, ¬ (a = 491 ∧ j = 71) → I2.1 a j = I.1 a j := fun a j u => by rw [e2, zu_at, if_neg u]
  have o22 : ∀ a j, I2.2 a j = I.2 a j := fun a j => by rw [e2]; rfl
  have g71 : I2.1 491 71 = zi (st.length - lnN r) := by rw [e2, zu_self]
  have rep2 : RepNM I2 m N := ⟨by rw [o2 _ _ (by omega)]; exact rep.1, fun k hk => (rep.2 k hk).kept (hc k hk) (fun a u1 u2 u3 => o2 a k (by omega)) (fun i hi => o2 _ _ (by omega)) (o22 _ _)⟩
  have hb : st[st.length - lnN r - 1]? = some (st.getD (st.length - lnN r - 1) (0, 0)) := by
    rw [List.getD_eq_getElem?_getD, List.getElem?_eq_getElem (by omega)]
    rfl
  have hs' : byS st r < 21 := (ok _ _ hb).1
  have hCl : (byC st r).length = lnN r := byC_len (by omega)
  have hCi : ∀ i, i < lnN r → ∃ c, (byC st r)[i]? = some c ∧ c < m ∧ I.1 540 (st.length - lnN r + i) = zi c := by
    intro i hi
    have hp : st[st.length - lnN r + i]? = some (st[st.length - lnN r + i]'(by omega)) := List.getElem?_eq_getElem (by omega)
    refine ⟨(st[st.length - lnN r + i]'(by omega)).1, ?_, (ok _ _ hp).2 (by omega), (h2 _ _ hp).2 (by omega)⟩
    unfold byC
    rw [List.getElem?_map, List.getElem?_drop, hp]
    rfl
  rw [← zi_int r]
  refine s_newNode (N := N) (r := (r : Int)) (tk := 0) rep2 hc hm (by rw [o2 _ _ (by omega)]; exact he) (fun J4 q4 m4 k4 n1 n2 n3 n4 n5 => ?_)
  rw [zi_int r] at n1 ⊢
  refine ⟨(zin_iff (by omega)).mpr (by omega), fun J5 e5 => ?_⟩
  rw [zi_tn (show m < 2147483648 by omega)] at e5
  have q5 : eqQ (Qnm m) I2 J5 := by rw [e5]; exact q4.zu (Or.inr (Or.inl (by omega)))
  have o5 : ∀ a j, a ≠ 512 → J5.1 a j = J4.1 a j := fun a j u => by rw [e5, zu_oo u]
  intro P hP
  have main : ∀ d i J, i + d = lnN r → eqQ (fun a j => (a = 513 ∧ 4 * m ≤ j) ∨ (a = 515 ∧ j = m)) J5 J → J.1 515 m = zi (tkS N ((byC st r).take i)) → (∀ j c, j < i → (byC st r)[j]? = some c → J.1 513 (4 * m + j) = zi c) → P (zi i) J := by
    intro d
    induction d with
    | zero =>
      intro i J hi q ht hch
      refine hP _ _ ?_
      rw [if_pos ((zi_le (by omega) (by omega)).mpr (by omega))]
      have gJ : J.1 491 71 = zi (st.length - lnN r) := by rw [q.1 491 71 (by omega), q5.1 491 71 (by unfold Qnm; omega)]; exact g71
      have gp : J.1 491 71 - 1 = zi (st.length - lnN r - 1) := by
        rw [gJ]
        exact zi_sub (b := 1) (by omega)
      rw [gp]
      refine ⟨(zin_iff (by omega)).mpr (by omega), (zin_iff (by omega)).mpr (by omega), fun J8 e8 => ⟨(zin_iff (by omega)).mpr (by omega), ?_⟩⟩
      rw [zi_tn (show m < 2147483648 by omega), zi_tn (show st.length - lnN r - 1 < 2147483648 by omega)] at e8
      have gs : J.1 539 (st.length - lnN r - 1) = zi (byS st r) := by
        rw [q.1 539 _ (by omega), q5.1 539 _ (by unfold Qnm; omega), o2 _ _ (by omega)]
        exact (h2 _ _ hb).1
      rw [gs] at e8
      refine s_MsymbolOf hr ?_
      rw [zi_tn (show m < 2147483648 by omega), show J8.1 514 m = zi (byS st r) by rw [e8, zu_self]]
      refine s_leads hs' (by have := (sy_fin r hr).2; exact this) hld ?_
      have o8 : ∀ a j, a ≠ 514 → J8.1 a j = J.1 a j := fun a j u => by rw [e8, zu_oo u]
      have q8 : eqQ (Qnm m) I2 J8 := by
        rw [e8]
        refine (q5.tr (q.mono (fun a j h => ?_))).zu (Or.inr (Or.inr (Or.inl (by omega))))
        unfold Qnm
        omega
      have hlen : (st.take (st.length - lnN r)).length = st.length - lnN r := by rw [List.length_take]; omega
      have hbS : StM J8 (st.take (st.length - lnN r)) := by
        refine ⟨by omega, ?_, fun j p hj => ?_⟩
        · rw [o8 _ _ (by decide), gJ, hlen]
        · have hj2 := (List.getElem?_eq_some_iff.mp hj).1
          rw [List.getElem?_take, if_pos (by omega)] at hj
          rw [q8.1 539 j (by unfold Qnm; omega), q8.1 540 j (by unfold Qnm; omega), o2 _ _ (by omega), o2 _ _ (by omega)]
          exact h2 j p hj
      refine s_laysOn hbS (by omega) (fun J6 q6 r6 c6 => ?_)
      rw [hlen] at q6
      have ti : (byC st r).take i = byC st r := List.take_of_length_le (by omega)
      rw [ti] at ht
      have qJ6 : eqQ (Qbm m) I J6 := (q2.tr (q8.mono (fun a j h => Or.inl h))).tr (q6.mono (fun a j h => by unfold Qlo at h; unfold Qbm; omega))
      have o6 : ∀ a j, ¬ Qlo (st.length - lnN r) a j → J6.1 a j = J8.1 a j := fun a j u => q6.1 a j u
      refine hK J6 qJ6 ⟨?_, fun k hk => ?_⟩ r6 ?_
      · rw [o6 _ _ (by unfold Qlo; omega), o8 _ _ (by decide), q.1 _ _ (by omega), o5 _ _ (by decide)]
        exact m4
      · by_cases u : k = m
        · subst u
          rw [upN_self]
          refine ⟨?_, ?_, ?_, ?_, ?_, fun j c hj => ?_, fun w => absurd w ?_⟩
          · rw [o6 _ _ (by unfold Qlo; omega), o8 _ _ (by decide), q.1 _ _ (by omega), o5 _ _ (by decide), n1]
            exact (zi_int r).symm
          · rw [o6 _ _ (by unfold Qlo; omega), e8, zu_self]
            exact (zi_int _).symm
          · rw [o6 _ _ (by unfold Qlo; omega), o8 _ _ (by decide), ht]
            rfl
          · rw [o6 _ _ (by unfold Qlo; omega), o8 _ _ (by decide), q.1 _ _ (by omega), o5 _ _ (by decide), n4]
            rfl
          · rw [o6 _ _ (by unfold Qlo; omega), o8 _ _ (by decide), q.1 _ _ (by omega), e5, zu_self]
            unfold ndL ndR byN rlNd
            rw [if_neg (by show ¬ (r : Int) < 0; omega)]
            rfl
          · rw [o6 _ _ (by unfold Qlo; omega), o8 _ _ (by decide)]
            have hj' : (byC st r)[j]? = some c := hj
            have := (List.getElem?_eq_some_iff.mp hj').1
            exact hch j c (by omega) hj'
          · show ¬ (r : Int) < 0
            omega
        · rw [upN_o u]
          have hk' : k < m := by omega
          refine (k4 k hk').kept (hc k hk') (fun a u1 u2 u3 => ?_) (fun j hj => ?_) ?_
          · rw [o6 _ _ (by unfold Qlo; omega)]
            by_cases u4 : a = 514
            · rw [u4, e8, zu_at, if_neg (by omega), q.1 _ _ (by omega), o5 _ _ (by decide)]
            · rw [o8 _ _ u4, q.1 _ _ (by omega)]
              by_cases u5 : a = 512
              · rw [u5, e5, zu_at, if_neg (by omega)]
              · rw [o5 _ _ u5]
          · rw [o6 _ _ (by unfold Qlo; omega), o8 _ _ (by decide), q.1 _ _ (by omega), o5 _ _ (by decide)]
          · rw [q6.2 _ _ (by unfold Qlo; omega), e8]
            show J.2 511 k = _
            rw [q.2 _ _ (by omega), e5]
            rfl
      · rw [c6, q8.1 491 72 (by unfold Qnm; omega), o2 _ _ (by omega)]
    | succ d ih =>
      intro i J hi q ht hch
      refine hP _ _ ?_
      rw [if_neg (fun u => by have := (zi_le (by omega) (by omega)).mp u; omega)]
      obtain ⟨c, hci, hcm, hcI⟩ := hCi i (by omega)
      have gJ : J.1 491 71 = zi (st.length - lnN r) := by rw [q.1 491 71 (by omega), q5.1 491 71 (by unfold Qnm; omega)]; exact g71
      rw [gJ, zi_add]
      refine ⟨(zin_iff (by omega)).mpr (by omega), fun v ev => ?_⟩
      rw [zi_tn (by omega), q.1 540 _ (by omega), q5.1 540 _ (by unfold Qnm; omega), o2 _ _ (by omega), hcI] at ev
      subst ev
      rw [show (4 : Int32) = zi 4 from rfl, zi_mul, zi_add]
      refine ⟨(zin_iff (by omega)).mpr (by omega), fun J3 e3 => ⟨(zin_iff (by omega)).mpr (by omega), (zin_iff (by omega)).mpr (by omega), (zin_iff (by omega)).mpr (by omega), fun J6 e6 v ev => ?_⟩⟩
      rw [zi_tn (by omega)] at e3
      rw [zi_tn (show m < 2147483648 by omega), zi_tn (show c < 2147483648 by omega)] at e6
      have tc : J3.1 515 c = zi (ndT (N c)) := by
        rw [e3, zu_oo (by decide), q.1 515 c (by omega), o5 _ _ (by decide)]
        exact (k4 c hcm).2.2.1
      have tm : J3.1 515 m = zi (tkS N ((byC st r).take i)) := by rw [e3, zu_oo (by decide)]; exact ht
      rw [tc, tm, zi_add] at e6
      rw [ev, zi_succ]
      have ts : (byC st r).take (i + 1) = (byC st r).take i ++ [c] := by
        rw [List.take_add_one, hci]
        rfl
      refine ih (i + 1) J6 (by omega) ?_ ?_ ?_
      · rw [e6, e3]
        exact (q.zu (Or.inl (by omega))).zu (Or.inr ⟨rfl, rfl⟩)
      · rw [e6, zu_self, ts, tkS_snoc]
      · intro j x hj hx
        rw [e6, zu_oo (by decide), e3, zu_at]
        by_cases u : j = i
        · subst u
          rw [hci] at hx
          cases hx
          rw [if_pos (by omega)]
        · rw [if_neg (by omega)]
          exact hch j x (by omega) hx
  exact main (lnN r) 0 J5 (by omega) eqQ.rf (by rw [o5 _ _ (by decide)]; exact n3) (fun j c hj => absurd hj (by omega))
/-! ===== a token put on the stack: the class ===== -/
/-- a node laid on the state s: it gets it, if it had none -/
def stNd (x : Nd) (s : Nat) : Nd := if 0 ≤ ndS x then x else (x.1, x.2.1, (s : Int), x.2.2.2)
theorem stNd_C {x : Nd} {s : Nat} : ndC (stNd x s) = ndC x := by
  unfold stNd
  by_cases h : 0 ≤ ndS x
  · rw [if_pos h]
  · rw [if_neg h]
    rfl
def Qpt (c a j : Nat) : Prop := (a = 30 ∧ j = c) ∨ (a = 64 ∧ j = 4) ∨ ((a = 66 ∨ a = 68) ∧ j < 300)
theorem s_putToken {m s c : Nat} {p0 : Nat × Nat} {st : List (Nat × Nat)} {N : Nat → Nd} {I : zI} {K : Int32 → zI → Prop} (rep : RepNX I m N) (hc : ∀ k, k < m → (ndC (N k)).length ≤ 4) (hm : m ≤ 3400) (hcm : c < m) (hS : StX I st) (ok : StOk m st) (hl : st.length < 300) (htop : st[st.length - 1]? = some p0) (hs : p0.2 = s) (hk : ndM (N c) < 17) (hst : ndS (N c) = -2 ∨ ∃ n : Nat, n < 21 ∧ ndS (N c) = n)
    (hK0 : ldN s (ndM (N c)) = 0 → K 0 I)
    (hK : ∀ J, ldN s (ndM (N c)) ≠ 0 → eqQ (Qpt c) I J → RepNX J m (upN N c (stNd (N c) s)) → StX J (st ++ [(c, ldN s (ndM (N c)))]) → K 1 J) : w_Grower_putToken (zi c) I K := by
  unfold w_Grower_putToken
  obtain ⟨h0, h1, h2⟩ := id hS
  have hs21 : s < 21 := hs ▸ (ok _ p0 htop).1
  have nd := rep.2 c hcm
  rw [h1]
  refine (w_get (by decide)).mpr ?_
  rw [rg_in (by decide) (show st.length - 1 < 300 by omega), show I.1 (65 + 1) (st.length - 1) = zi s from hs ▸ (h2 _ p0 htop).1]
  refine (w_get (by decide)).mpr ?_
  rw [rg_in (by decide) (show c < 3400 by omega), show I.1 (27 + 1) c = zi (ndM (N c)) from nd.2.1]
  refine s_leadsTo hs21 hk ?_
  by_cases hz : ldN s (ndM (N c)) = 0
  · rw [hz, if_pos (show zi 0 = 0 from rfl)]
    exact hK0 hz
  have hy : ldN s (ndM (N c)) < 21 := ldN_lt hs21 hk
  rw [if_neg (show ¬ zi (ldN s (ndM (N c))) = 0 from fun u => hz ((zi_eq (by omega) (by decide)).mp u))]
  refine (w_get (by decide)).mpr ?_
  rw [rg_in (by decide) (show c < 3400 by omega), show I.1 (29 + 1) c = Int32.ofInt (ndS (N c)) from nd.2.2.1]
  intro P hP
  have fin : ∀ I5, eqQ (Qpt c) I I5 → RepNX I5 m (upN N c (stNd (N c) s)) → StX I5 st → P I5 := by
    intro I5 q r S5
    refine hP _ ?_
    refine s_put S5 hl (fun J q6 S6 => ?_)
    refine hK J hz (q.tr (q6.mono (fun a j h => by unfold Qpt; omega))) ⟨?_, fun k hk => ?_⟩ S6
    · rw [q6.1 24 9 (by omega)]
      exact r.1
    · refine (r.2 k hk).kept ?_ (fun a u1 u2 => q6.1 a k (by omega)) (fun j hj => q6.1 42 _ (by omega))
      by_cases u : k = c
      · subst u
        rw [upN_self, stNd_C]
        exact hc k hcm
      · rw [upN_o u]
        exact hc k hk
  rcases hst with hn | ⟨n, hn21, hn⟩
  · rw [hn, if_neg (show ¬ (0 : Int32) ≤ Int32.ofInt (-2) by decide)]
    refine (w_set (by decide)).mpr ?_
    rw [rs_in (by decide) (show c < 3400 by omega)]
    have o : ∀ a j, ¬ (a = 30 ∧ j = c) → (zu I (29 + 1) c (zi s)).1 a j = I.1 a j := fun a j u => by rw [zu_at, if_neg (show ¬ (a = 29 + 1 ∧ j = c) from u)]
    have hd : stNd (N c) s = ((N c).1, (N c).2.1, (s : Int), (N c).2.2.2) := by
      unfold stNd
      rw [hn, if_neg (by decide)]
    refine fin _ (eqQ.rf.zu (Or.inl ⟨rfl, rfl⟩)) ⟨by rw [o _ _ (by omega)]; exact rep.1, fun k hk => ?_⟩ ⟨h0, by rw [o _ _ (by omega)]; exact h1, fun j p hj => by rw [o _ _ (by omega), o _ _ (by omega)]; exact h2 j p hj⟩
    by_cases u : k = c
    · subst u
      rw [upN_self, hd]
      obtain ⟨n1, n2, n3, n4, n5, n6, n7⟩ := nd
      refine ⟨by rw [o _ _ (by omega)]; exact n1, by rw [o _ _ (by omega)]; exact n2, ?_, by rw [o _ _ (by omega)]; exact n4, by rw [o _ _ (by omega)]; exact n5, fun i x hi => by rw [o _ _ (by omega)]; exact n6 i x hi, fun q => ?_⟩
      · rw [zu_self]
        exact (zi_int s).symm
      · obtain ⟨w1, w2, w3⟩ := n7 q
        exact ⟨by rw [o _ _ (by omega)]; exact w1, by rw [o _ _ (by omega)]; exact w2, by rw [o _ _ (by omega)]; exact w3⟩
    · rw [upN_o u]
      exact (rep.2 k hk).kept (hc k hk) (fun a u1 u2 => o a k (by omega)) (fun j hj => o _ _ (by omega))
  · rw [hn, zi_int, if_pos (zi_ge (by omega))]
    have hd : stNd (N c) s = N c := by
      unfold stNd
      rw [hn, if_pos (by omega)]
    have hN : upN N c (stNd (N c) s) = N := by
      funext k
      by_cases u : k = c
      · subst u
        rw [upN_self, hd]
      · rw [upN_o u]
    exact fin I eqQ.rf (by rw [hN]; exact rep) hS
/-! ===== stacks are paths ===== -/
/-- which STATES lead to a STATE -/
def tbP : List (List Nat) := [[], [0], [1, 6], [1, 6], [1, 6], [3], [4], [5], [5, 12], [5, 12, 15], [5, 12, 15, 16], [5, 12, 15, 16], [5, 12, 15, 16], [6], [7], [7, 17], [8, 18], [12], [15], [16], [17]]
theorem tbP_fin : ∀ a, a < 21 → ∀ y, y < 17 → ldN a y ≠ 0 → a ∈ tbP.getD (ldN a y) [] := by decide +kernel
/-- the STATES that may lie k below a STATE -/
def bkT : Nat → Nat → List Nat
  | 0, s => [s]
  | k + 1, s => (bkT k s).flatMap (fun a => tbP.getD a [])
theorem bk_fin : ((List.range 21).all (fun s => match rlN s with
  | none => true
  | some r => (List.range (lnN r)).all (fun k => !(bkT k s).contains 0) && (bkT (lnN r) s).all (fun a => ldN a (syN r) != 0))) = true := by decide +kernel
theorem bk_fin2 {s r : Nat} (hs : s < 21) (hr : rlN s = some r) : (∀ k, k < lnN r → 0 ∉ bkT k s) ∧ ∀ a ∈ bkT (lnN r) s, ldN a (syN r) ≠ 0 := by
  have h := List.all_eq_true.mp bk_fin s (List.mem_range.mpr hs)
  rw [hr] at h
  obtain ⟨h1, h2⟩ := Bool.and_eq_true_iff.mp h
  refine ⟨fun k hk hm => ?_, fun a ha => ?_⟩
  · have := List.all_eq_true.mp h1 k (List.mem_range.mpr hk)
    rw [List.contains_iff_mem.mpr hm] at this
    cases this
  · have := List.all_eq_true.mp h2 a ha
    exact bne_iff_ne.mp this
/-- a stack of the tables: its bottom is STATE 0, each STATE is led to by the one below -/
def StP (st : List (Nat × Nat)) : Prop := (∀ p, st[0]? = some p → p.2 = 0) ∧ ∀ (j : Nat) (p q : Nat × Nat), st[j]? = some p → st[j + 1]? = some q → ∃ y, y < 17 ∧ ldN p.2 y = q.2 ∧ q.2 ≠ 0
theorem bk_mem {m : Nat} {st : List (Nat × Nat)} (hP : StP st) (ok : StOk m st) {q : Nat × Nat} {j : Nat} (hj : st[j]? = some q) : ∀ (k : Nat) (p : Nat × Nat), k ≤ j → st[j - k]? = some p → p.2 ∈ bkT k q.2
  | 0, p, _, hp => by
    rw [Nat.sub_zero, hj] at hp
    cases hp
    exact List.mem_singleton.mpr rfl
  | k + 1, p, hk, hp => by
    have hl := (List.getElem?_eq_some_iff.mp hj).1
    have hx : st[j - k]? = some (st[j - k]'(by omega)) := List.getElem?_eq_getElem (by omega)
    have ih := bk_mem hP ok hj k _ (by omega) hx
    obtain ⟨y, hy, e, e0⟩ := hP.2 (j - (k + 1)) p _ hp (by rw [show j - (k + 1) + 1 = j - k by omega]; exact hx)
    refine List.mem_flatMap.mpr ⟨_, ih, ?_⟩
    rw [← e]
    exact tbP_fin p.2 (ok _ p hp).1 y hy (by rw [e]; exact e0)
/-- a STATE's RULE fits what is on the stack, and what is left leads on -/
theorem st_fits {m s r : Nat} {st : List (Nat × Nat)} {p0 : Nat × Nat} (hP : StP st) (ok : StOk m st) (h1 : 1 ≤ st.length) (htop : st[st.length - 1]? = some p0) (hs : p0.2 = s) (hr : rlN s = some r) : lnN r < st.length ∧ ldN (byS st r) (syN r) ≠ 0 := by
  have hs21 : s < 21 := hs ▸ (ok _ p0 htop).1
  obtain ⟨f1, f2⟩ := bk_fin2 hs21 hr
  have hlt : lnN r < st.length := by
    refine Nat.lt_of_not_le (fun u => ?_)
    have h0 : st[0]? = some (st[0]'(by omega)) := List.getElem?_eq_getElem (by omega)
    have := bk_mem hP ok htop (st.length - 1) _ (Nat.le_refl _) (by rw [Nat.sub_self]; exact h0)
    rw [hP.1 _ h0, hs] at this
    exact f1 _ (by omega) this
  refine ⟨hlt, f2 _ ?_⟩
  have hb : st[st.length - lnN r - 1]? = some (st.getD (st.length - lnN r - 1) (0, 0)) := by
    rw [List.getD_eq_getElem?_getD, List.getElem?_eq_getElem (by omega)]
    rfl
  have := bk_mem hP ok htop (lnN r) _ (by omega) (by rw [show st.length - 1 - lnN r = st.length - lnN r - 1 by omega]; exact hb)
  rw [hs] at this
  exact this
/-! ===== a step keeps a stack a path ===== -/
theorem StP.take {st : List (Nat × Nat)} {n : Nat} (h : StP st) : StP (st.take n) := by
  refine ⟨fun p hp => ?_, fun j p q hp hq => ?_⟩
  · by_cases u : 0 < n
    · rw [List.getElem?_take, if_pos u] at hp
      exact h.1 p hp
    · rw [List.getElem?_take, if_neg u] at hp
      cases hp
  · by_cases u : j + 1 < n
    · rw [List.getElem?_take, if_pos u] at hq
      rw [List.getElem?_take, if_pos (by omega)] at hp
      exact h.2 j p q hp hq
    · rw [List.getElem?_take, if_neg u] at hq
      cases hq
theorem StP.snoc {st : List (Nat × Nat)} {p0 : Nat × Nat} {c s y : Nat} (h : StP st) (htop : st[st.length - 1]? = some p0) (h1 : 1 ≤ st.length) (hy : y < 17) (e : ldN p0.2 y = s) (e0 : s ≠ 0) : StP (st ++ [(c, s)]) := by
  refine ⟨fun p hp => ?_, fun j p q hp hq => ?_⟩
  · rw [List.getElem?_append_left (by omega)] at hp
    exact h.1 p hp
  · by_cases u : j + 1 < st.length
    · rw [List.getElem?_append_left u] at hq
      rw [List.getElem?_append_left (by omega)] at hp
      exact h.2 j p q hp hq
    · have hq2 := (List.getElem?_eq_some_iff.mp hq).1
      rw [List.length_append] at hq2
      have hj : j + 1 = st.length := by
        have : [(c, s)].length = 1 := rfl
        omega
      rw [hj, List.getElem?_append_right (Nat.le_refl _), Nat.sub_self] at hq
      rw [List.getElem?_append_left (by omega), show j = st.length - 1 by omega, htop] at hp
      cases hq
      cases hp
      exact ⟨y, hy, e, e0⟩
theorem StOk.mono {m m' : Nat} {st : List (Nat × Nat)} (h : StOk m st) (hm : m ≤ m') : StOk m' st := fun j p hp => ⟨(h j p hp).1, fun u => Nat.lt_of_lt_of_le ((h j p hp).2 u) hm⟩
theorem StOk.take {m n : Nat} {st : List (Nat × Nat)} (h : StOk m st) : StOk m (st.take n) := by
  intro j p hp
  by_cases u : j < n
  · rw [List.getElem?_take, if_pos u] at hp
    exact h j p hp
  · rw [List.getElem?_take, if_neg u] at hp
    cases hp
theorem StOk.snoc {m c s : Nat} {st : List (Nat × Nat)} (h : StOk m st) (hc : c < m) (hs : s < 21) : StOk m (st ++ [(c, s)]) := by
  intro j p hp
  by_cases u : j < st.length
  · rw [List.getElem?_append_left u] at hp
    exact h j p hp
  · have hq2 := (List.getElem?_eq_some_iff.mp hp).1
    rw [List.length_append] at hq2
    have hj : j = st.length := by
      have : [(c, s)].length = 1 := rfl
      omega
    rw [hj, List.getElem?_append_right (Nat.le_refl _), Nat.sub_self] at hp
    cases hp
    exact ⟨hs, fun _ => hc⟩
/-- what a RULE makes of a stack is one -/
theorem byT_ok {m s r : Nat} {st : List (Nat × Nat)} {p0 : Nat × Nat} (hP : StP st) (ok : StOk m st) (h1 : 1 ≤ st.length) (htop : st[st.length - 1]? = some p0) (hs : p0.2 = s) (hr : rlN s = some r) : StP (byT m st r) ∧ StOk (m + 1) (byT m st r) := by
  obtain ⟨hf, hl⟩ := st_fits hP ok h1 htop hs hr
  have hs21 : s < 21 := hs ▸ (ok _ p0 htop).1
  have hr11 := rlN_lt hs21 hr
  have sy5 := (sy_fin r hr11).2
  change syN r < 5 at sy5
  have hb : st[st.length - lnN r - 1]? = some (st.getD (st.length - lnN r - 1) (0, 0)) := by
    rw [List.getD_eq_getElem?_getD, List.getElem?_eq_getElem (by omega)]
    rfl
  have hb21 : byS st r < 21 := (ok _ _ hb).1
  have hlen : (st.take (st.length - lnN r)).length = st.length - lnN r := by rw [List.length_take]; omega
  have ht : (st.take (st.length - lnN r))[(st.take (st.length - lnN r)).length - 1]? = some (st.getD (st.length - lnN r - 1) (0, 0)) := by
    rw [hlen, List.getElem?_take, if_pos (by omega)]
    exact hb
  unfold byT
  exact ⟨hP.take.snoc ht (by omega) (show syN r < 17 by omega) rfl hl, (ok.take.mono (Nat.le_succ m)).snoc (Nat.lt_succ_self m) (ldN_lt hb21 (by omega))⟩
/-! ===== a token put on the stack: the model (two lines of its grows) ===== -/
def Qmt (c a j : Nat) : Prop := (a = 514 ∧ j = c) ∨ (a = 491 ∧ (j = 71 ∨ j = 72)) ∨ ((a = 539 ∨ a = 540) ∧ j < 400)
theorem s_Mshift {m s c y : Nat} {st : List (Nat × Nat)} {N : Nat → Nd} {I : zI} {K : zI → Prop} (rep : RepNM I m N) (hc : ∀ k, k < m → (ndC (N k)).length ≤ 4) (hm : m ≤ 3700) (hcm : c < m) (hS : StM I st) (hl : st.length < 400) (hst : ndS (N c) = -2 ∨ ∃ n : Nat, n < 21 ∧ ndS (N c) = n)
    (hK : ∀ J, eqQ (Qmt c) I J → RepNM J m (upN N c (stNd (N c) s)) → StM J (st ++ [(c, y)]) → J.1 491 72 = I.1 491 72 + 1 → K J) :
    vp_in (zi c) 3700 ∧ (∀ (P : zI → Prop), (∀ I18, w_M_laysOn (zi c) (zi y) I18 K → P I18) → (if I.1 514 (Int32.toNatClampNeg (zi c)) = (-2) then (vp_in (zi c) 3700 ∧ (∀ I21, I21 = (zu I 514 (Int32.toNatClampNeg (zi c)) (zi s)) → P I21)) else P I)) := by
  obtain ⟨h0, h1, h2⟩ := id hS
  have nd := rep.2 c hcm
  refine ⟨(zin_iff (by omega)).mpr (by omega), fun P hP => ?_⟩
  rw [zi_tn (show c < 2147483648 by omega), show I.1 514 c = Int32.ofInt (ndS (N c)) from nd.2.1]
  have fin : ∀ I5, eqQ (Qmt c) I I5 → RepNM I5 m (upN N c (stNd (N c) s)) → StM I5 st → I5.1 491 72 = I.1 491 72 → P I5 := by
    intro I5 q r S5 g5
    refine hP _ ?_
    refine s_laysOn S5 hl (fun J q6 S6 c6 => ?_)
    refine hK J (q.tr (q6.mono (fun a j h => by unfold Qlo at h; unfold Qmt; omega))) ⟨?_, fun k hk => ?_⟩ S6 (by rw [c6, g5])
    · rw [q6.1 _ _ (by unfold Qlo; omega)]
      exact r.1
    · refine (r.2 k hk).kept ?_ (fun a u1 u2 u3 => q6.1 a k (by unfold Qlo; omega)) (fun j hj => q6.1 513 _ (by unfold Qlo; omega)) (q6.2 511 k (by unfold Qlo; omega))
      by_cases u : k = c
      · subst u
        rw [upN_self, stNd_C]
        exact hc k hcm
      · rw [upN_o u]
        exact hc k hk
  rcases hst with hn | ⟨n, hn21, hn⟩
  · rw [hn, if_pos (show Int32.ofInt (-2) = -2 by decide)]
    refine ⟨(zin_iff (by omega)).mpr (by omega), fun I21 e21 => ?_⟩
    have o : ∀ a j, ¬ (a = 514 ∧ j = c) → I21.1 a j = I.1 a j := fun a j u => by rw [e21, zu_at, if_neg u]
    have o2 : ∀ a j, I21.2 a j = I.2 a j := fun a j => by rw [e21]; rfl
    have hd : stNd (N c) s = ((N c).1, (N c).2.1, (s : Int), (N c).2.2.2) := by
      unfold stNd
      rw [hn, if_neg (by decide)]
    refine fin _ (by rw [e21]; exact eqQ.rf.zu (Or.inl ⟨rfl, rfl⟩)) ⟨by rw [o _ _ (by omega)]; exact rep.1, fun k hk => ?_⟩ ⟨h0, by rw [o _ _ (by omega)]; exact h1, fun j p hj => by rw [o _ _ (by omega), o _ _ (by omega)]; exact h2 j p hj⟩ (o _ _ (by omega))
    by_cases u : k = c
    · subst u
      rw [upN_self, hd]
      obtain ⟨n1, n2, n3, n4, n5, n6, n7⟩ := nd
      refine ⟨by rw [o _ _ (by omega)]; exact n1, ?_, by rw [o _ _ (by omega)]; exact n3, by rw [o _ _ (by omega)]; exact n4, by rw [o _ _ (by omega)]; exact n5, fun i x hi => by rw [o _ _ (by omega)]; exact n6 i x hi, fun q => ?_⟩
      · rw [e21, zu_self]
        exact (zi_int s).symm
      · obtain ⟨w1, w2⟩ := n7 q
        exact ⟨by rw [o _ _ (by omega)]; exact w1, by rw [o2]; exact w2⟩
    · rw [upN_o u]
      exact (rep.2 k hk).kept (hc k hk) (fun a u1 u2 u3 => o a k (by omega)) (fun j hj => o _ _ (by omega)) (o2 _ _)
  · rw [hn, zi_int, if_neg (show ¬ zi n = -2 from fun u => by have := zi_pos (show n < 2147483648 by omega); rw [u] at this; exact this (by decide))]
    have hd : stNd (N c) s = N c := by
      unfold stNd
      rw [hn, if_pos (by omega)]
    have hN : upN N c (stNd (N c) s) = N := by
      funext k
      by_cases u : k = c
      · subst u
        rw [upN_self, hd]
      · rw [upN_o u]
    exact fin I eqQ.rf (by rw [hN]; exact rep) hS rfl
/-! ===== the tree laid flat: the class's rows ===== -/
/-- a node laid flat: its number, its parent's place, its first token (none: -2), its depth, its size -/
abbrev Fl : Type := Nat × Nat × Int × Nat × Nat
def FlX (I : zI) (F : List Fl) : Prop :=
  I.1 43 12 = zi F.length ∧ ∀ (p : Nat) (x : Fl), F[p]? = some x → I.1 45 p = zi x.1 ∧ I.1 47 x.1 = zi p ∧ (1 ≤ p → I.1 49 p = zi x.2.1) ∧ I.1 51 p = Int32.ofInt x.2.2.1
/-- numbers of nodes, places of parents -/
def FlOk (m : Nat) (F : List Fl) : Prop := F.length ≤ 400 ∧ ∀ (p : Nat) (x : Fl), F[p]? = some x → x.1 < m ∧ (1 ≤ p → x.2.1 < p)
theorem s_has {m c : Nat} {N : Nat → Nd} {I : zI} {K : Int32 → Prop} (rep : RepNX I m N) (hm : m ≤ 3400) (hc : c < m) (hK : K 1) : w_Nodes_has (zi c) I K := by
  unfold w_Nodes_has
  rw [if_neg (zi_pos (by omega)), rep.1, if_neg (fun u => by have := (zi_le (by omega) (by omega)).mp u; omega)]
  exact hK
theorem s_holds {m p : Nat} {x : Fl} {F : List Fl} {N : Nat → Nd} {I : zI} {K : Int32 → Prop} (rep : RepNX I m N) (hm : m ≤ 3400) (hF : FlX I F) (ok : FlOk m F) (hp : F[p]? = some x) (hK : K 1) : w_TreeView_holds (zi x.1) I K := by
  unfold w_TreeView_holds
  have hpl := (List.getElem?_eq_some_iff.mp hp).1
  have hx := (ok.2 p x hp).1
  have hl := ok.1
  obtain ⟨f1, f2, f3, f4⟩ := hF.2 p x hp
  refine s_has rep hm hx ?_
  rw [if_neg (by decide)]
  refine (w_get (by decide)).mpr ?_
  rw [rg_in (by decide) (show x.1 < 3400 by omega), show I.1 (46 + 1) x.1 = zi p from f2, hF.1, if_neg (fun u => by have := (zi_le (by omega) (by omega)).mp u; omega)]
  refine (w_get (by decide)).mpr ?_
  rw [rg_in (by decide) (show p < 400 by omega), show I.1 (44 + 1) p = zi x.1 from f1, if_pos rfl]
  exact hK
theorem s_firstOf {m p : Nat} {x : Fl} {F : List Fl} {N : Nat → Nd} {I : zI} {K : Int32 → Prop} (rep : RepNX I m N) (hm : m ≤ 3400) (hF : FlX I F) (ok : FlOk m F) (hp : F[p]? = some x) (hK : K (Int32.ofInt x.2.2.1)) : w_TreeView_firstOf (zi x.1) I K := by
  unfold w_TreeView_firstOf
  have hpl := (List.getElem?_eq_some_iff.mp hp).1
  have hx := (ok.2 p x hp).1
  have hl := ok.1
  obtain ⟨f1, f2, f3, f4⟩ := hF.2 p x hp
  refine s_holds rep hm hF ok hp ?_
  rw [if_neg (by decide)]
  refine (w_get (by decide)).mpr ?_
  rw [rg_in (by decide) (show x.1 < 3400 by omega), show I.1 (46 + 1) x.1 = zi p from f2]
  refine (w_get (by decide)).mpr ?_
  rw [rg_in (by decide) (show p < 400 by omega), show I.1 (50 + 1) p = Int32.ofInt x.2.2.1 from f4]
  exact hK
theorem s_parentOf0 {m : Nat} {x : Fl} {F : List Fl} {N : Nat → Nd} {I : zI} {K : Int32 → Prop} (rep : RepNX I m N) (hm : m ≤ 3400) (hF : FlX I F) (ok : FlOk m F) (hp : F[0]? = some x) (hr : I.1 43 13 = zi x.1) (hK : K (-2)) : w_TreeView_parentOf (zi x.1) I K := by
  unfold w_TreeView_parentOf
  refine s_holds rep hm hF ok hp ?_
  rw [if_neg (by decide), if_pos hr.symm]
  exact hK
theorem s_parentOf {m p R : Nat} {x y : Fl} {F : List Fl} {N : Nat → Nd} {I : zI} {K : Int32 → Prop} (rep : RepNX I m N) (hm : m ≤ 3400) (hF : FlX I F) (ok : FlOk m F) (hp : F[p]? = some x) (h1 : 1 ≤ p) (hr : I.1 43 13 = zi R) (hR : R < m) (hne : x.1 ≠ R) (hy : F[x.2.1]? = some y) (hK : K (zi y.1)) : w_TreeView_parentOf (zi x.1) I K := by
  unfold w_TreeView_parentOf
  have hpl := (List.getElem?_eq_some_iff.mp hp).1
  obtain ⟨hx, hq⟩ := ok.2 p x hp
  have hq := hq h1
  have hl := ok.1
  obtain ⟨f1, f2, f3, f4⟩ := hF.2 p x hp
  obtain ⟨g1, g2, g3, g4⟩ := hF.2 _ y hy
  refine s_holds rep hm hF ok hp ?_
  rw [if_neg (by decide), hr, if_neg (fun u => hne ((zi_eq (by omega) (by omega)).mp u))]
  refine (w_get (by decide)).mpr ?_
  rw [rg_in (by decide) (show x.1 < 3400 by omega), show I.1 (46 + 1) x.1 = zi p from f2]
  refine (w_get (by decide)).mpr ?_
  rw [rg_in (by decide) (show p < 400 by omega), show I.1 (48 + 1) p = zi x.2.1 from f3 h1]
  refine (w_get (by decide)).mpr ?_
  rw [rg_in (by decide) (show x.2.1 < 400 by omega), show I.1 (44 + 1) x.2.1 = zi y.1 from g1]
  exact hK
/-! ===== which nodes of the last good TEXT are sound ===== -/
/-- first token f, k TOKENS; A kept ahead, B behind, of n' old ones and n new ones -/
abbrev sndP (A B n' n f k : Nat) : Prop := f + k < A ∨ n' - B ≤ f ∨ (A + B = n' ∧ n' = n)
def sndI (A B n' n f k : Nat) : Int32 := if sndP A B n' n f k then 1 else 0
theorem s_isSound {A B n' n f k : Nat} {I : zI} {K : Int32 → Prop} (h5 : I.1 64 5 = zi n') (h6 : I.1 64 6 = zi n) (h7 : I.1 64 7 = zi A) (h8 : I.1 64 8 = zi B) (hB : B ≤ n') (hA : A ≤ 1000) (hn : n ≤ 1000) (hn' : n' ≤ 1000) (hf : f ≤ 1000) (hk : k ≤ 1000)
    (hK : K (sndI A B n' n f k)) : w_Grower_isSound (zi f) (zi k) I K := by
  unfold w_Grower_isSound
  rw [h5, h6, h7, h8, zi_sub hB, zi_add, zi_add]
  unfold sndI at hK
  intro P hP P1 hP1
  have a0 : sndP A B n' n f k = (f + k < A ∨ n' - B ≤ f ∨ (A + B = n' ∧ n' = n)) := rfl
  have no : ¬ (A + B = n' ∧ n' = n) → P1 := fun u => by
    refine hP1 (hP _ ?_)
    by_cases c1 : f + k < A
    · rw [if_pos ((zi_lt (by omega) (by omega)).mpr c1)]
      rw [if_pos (Or.inl c1)] at hK
      exact hK
    · rw [if_neg (fun v => c1 ((zi_lt (by omega) (by omega)).mp v))]
      by_cases c2 : n' - B ≤ f
      · rw [if_pos ((zi_le (by omega) (by omega)).mpr c2)]
        rw [if_pos (Or.inr (Or.inl c2))] at hK
        exact hK
      · rw [if_neg (fun v => c2 ((zi_le (by omega) (by omega)).mp v)), if_pos rfl]
        rw [if_neg (by rw [a0]; omega)] at hK
        exact hK
  by_cases e1 : A + B = n'
  · rw [if_pos (show zi (A + B) = zi n' by rw [e1])]
    by_cases e2 : n' = n
    · rw [if_pos (show zi n' = zi n by rw [e2])]
      refine hP _ ?_
      rw [if_pos (Or.inr (Or.inr ⟨e1, e2⟩))] at hK
      rw [if_neg (show ¬ (1 : Int32) = 0 by decide)]
      by_cases c1 : zi (f + k) < zi A
      · rw [if_pos c1]; exact hK
      · rw [if_neg c1]
        by_cases c2 : zi (n' - B) ≤ zi f
        · rw [if_pos c2]; exact hK
        · rw [if_neg c2]; exact hK
    · rw [if_neg (fun v => e2 ((zi_eq (by omega) (by omega)).mp v))]
      exact no (by omega)
  · rw [if_neg (fun v => e1 ((zi_eq (by omega) (by omega)).mp v))]
    exact no (by omega)
theorem s_areTogether {A B n' n f k : Nat} {I : zI} {K : Int32 → Prop} (h9 : I.1 491 9 = zi n) (h19 : I.1 491 19 = zi n') (h66 : I.1 491 66 = zi A) (h67 : I.1 491 67 = zi B) (hB : B ≤ n') (hA : A ≤ 1000) (hn : n ≤ 1000) (hn' : n' ≤ 1000) (hf : f ≤ 1000) (hk : k ≤ 1000)
    (hK : K (sndI A B n' n f k)) : w_M_areTogether (zi f) (zi (f + k)) I K := by
  unfold w_M_areTogether
  rw [h9, h19, h66, h67, zi_sub hB]
  unfold sndI at hK
  have a0 : sndP A B n' n f k = (f + k < A ∨ n' - B ≤ f ∨ (A + B = n' ∧ n' = n)) := rfl
  by_cases c1 : f + k < A
  · rw [if_pos ((zi_lt (by omega) (by omega)).mpr c1)]
    rw [if_pos (Or.inl c1)] at hK
    exact hK
  rw [if_neg (fun v => c1 ((zi_lt (by omega) (by omega)).mp v))]
  by_cases c2 : f < n' - B
  · rw [if_pos ((zi_lt (by omega) (by omega)).mpr c2)]
    by_cases c3 : A ≤ f
    · rw [if_pos ((zi_le (by omega) (by omega)).mpr c3)]
      rw [if_neg (by rw [a0]; omega)] at hK
      exact hK
    rw [if_neg (fun v => c3 ((zi_le (by omega) (by omega)).mp v))]
    by_cases c4 : f + k < n' - B
    · rw [if_pos ((zi_lt (by omega) (by omega)).mpr c4)]
      rw [if_neg (by rw [a0]; omega)] at hK
      exact hK
    rw [if_neg (fun v => c4 ((zi_lt (by omega) (by omega)).mp v))]
    by_cases c5 : A = n' - B
    · rw [if_pos (show zi A = zi (n' - B) by rw [← c5])]
      by_cases c6 : n = n'
      · rw [if_pos (show zi n = zi n' by rw [c6])]
        rw [if_pos (by rw [a0]; omega)] at hK
        exact hK
      · rw [if_neg (fun v => c6 ((zi_eq (by omega) (by omega)).mp v))]
        rw [if_neg (by rw [a0]; omega)] at hK
        exact hK
    · rw [if_neg (fun v => c5 ((zi_eq (by omega) (by omega)).mp v))]
      rw [if_neg (by rw [a0]; omega)] at hK
      exact hK
  · rw [if_neg (fun v => c2 ((zi_lt (by omega) (by omega)).mp v))]
    rw [if_pos (by rw [a0]; omega)] at hK
    exact hK
/-! ===== ways up from a token: which sound node is taken ===== -/
/-- a node's parent's place, by the flat list -/
def upP (F : List Fl) (c : Nat) : Option Nat := (F.find? (fun x => x.1 == c)).map (fun x => x.2.1)
/-- what a flat tree is: over m nodes and n' TOKENS (END is one of them) -/
def FlG (m : Nat) (F : List Fl) (N : Nat → Nd) (n' : Nat) : Prop :=
  FlOk m F ∧ (∀ (p q : Nat) (x y : Fl), F[p]? = some x → F[q]? = some y → x.1 = y.1 → p = q) ∧
  ∀ (p : Nat) (x : Fl), F[p]? = some x → (x.2.2.1 = -2 ∨ ∃ f : Nat, x.2.2.1 = f ∧ 1 ≤ ndT (N x.1) ∧ f + ndT (N x.1) < n') ∧ (∃ k : Nat, k < 21 ∧ ndS (N x.1) = k) ∧
    (1 ≤ p → ∃ (y : Fl) (r : Nat), F[x.2.1]? = some y ∧ r < 11 ∧ ndR (N y.1) = r ∧ (0 ≤ x.2.2.1 → 0 ≤ y.2.2.1))
theorem upP_at {F : List Fl} {p : Nat} {x : Fl} (hu : ∀ (p q : Nat) (x y : Fl), F[p]? = some x → F[q]? = some y → x.1 = y.1 → p = q) (hp : F[p]? = some x) : upP F x.1 = some x.2.1 := by
  have h : F.find? (fun y => y.1 == x.1) = some x := by
    obtain ⟨hl, hx⟩ := List.getElem?_eq_some_iff.mp hp
    refine List.find?_eq_some_iff_getElem.mpr ⟨beq_self_eq_true _, p, hl, hx, fun j hj => ?_⟩
    have hj2 : F[j]? = some (F[j]'(by omega)) := List.getElem?_eq_getElem (by omega)
    have ne : (F[j]'(by omega)).1 ≠ x.1 := fun e => by
      have := hu j p _ _ hj2 hp e
      omega
    rw [Bool.not_eq_true', beq_eq_false_iff_ne]
    exact ne
  unfold upP
  rw [h]
  rfl
theorem upP_no {F : List Fl} {c : Nat} (h : ∀ (p : Nat) (x : Fl), F[p]? = some x → x.1 ≠ c) : upP F c = none := by
  unfold upP
  have : F.find? (fun x => x.1 == c) = none := by
    refine List.find?_eq_none.mpr (fun x hx => ?_)
    obtain ⟨p, hp⟩ := List.mem_iff_getElem?.mp hx
    rw [beq_iff_eq]
    exact h p x hp
  rw [this]
  rfl
/-- the way up from the place p, d steps at most, from what was best -/
def bsT (F : List Fl) (N : Nat → Nd) (A B n' n j s : Nat) : Nat → Nat → Option Nat → Option Nat
  | 0, _, b => b
  | d + 1, p, b => match F[p]? with
    | none => b
    | some x => if x.2.2.1 = (j : Int) then
        (if p = 0 then (if ndS (N x.1) = (s : Int) ∧ sndP A B n' n j (ndT (N x.1)) then some x.1 else b)
        else bsT F N A B n' n j s d x.2.1 (if ndS (N x.1) = (s : Int) ∧ sndP A B n' n j (ndT (N x.1)) then some x.1 else b)) else b
theorem bsT_at {F : List Fl} {N : Nat → Nd} {A B n' n j s d p : Nat} {b : Option Nat} {x : Fl} (hp : F[p]? = some x) : bsT F N A B n' n j s (d + 1) p b = if x.2.2.1 = (j : Int) then
        (if p = 0 then (if ndS (N x.1) = (s : Int) ∧ sndP A B n' n j (ndT (N x.1)) then some x.1 else b)
        else bsT F N A B n' n j s d x.2.1 (if ndS (N x.1) = (s : Int) ∧ sndP A B n' n j (ndT (N x.1)) then some x.1 else b)) else b := by
  show (match F[p]? with
    | none => b
    | some x => _) = _
  rw [hp]
/-- which node is taken ahead of the i-th token (whose node is c), in the state s -/
def bestOf (F : List Fl) (N : Nat → Nd) (A B n n' i s c : Nat) : Option Nat := match wasN A B n n' i with
  | none => none
  | some j => match upP F c with
    | none => none
    | some q => bsT F N A B n' n j s 400 q none
/-- a place on a way up -/
def FlR (F : List Fl) (N : Nat → Nd) (p : Nat) : Prop := ∃ (y : Fl) (r : Nat), F[p]? = some y ∧ r < 11 ∧ ndR (N y.1) = r ∧ 0 ≤ y.2.2.1
theorem FlG.up {m n' p : Nat} {F : List Fl} {N : Nat → Nd} {x : Fl} (h : FlG m F N n') (hp : F[p]? = some x) (h1 : 1 ≤ p) (h0 : 0 ≤ x.2.2.1) : FlR F N x.2.1 := by
  obtain ⟨y, r, e1, e2, e3, e4⟩ := (h.2.2 p x hp).2.2 h1
  exact ⟨y, r, e1, e2, e3, e4 h0⟩
/-- what is taken -/
def TkOk (F : List Fl) (N : Nat → Nd) (A B n' n j s b : Nat) : Prop := ∃ (p : Nat) (x : Fl) (r : Nat), F[p]? = some x ∧ x.1 = b ∧ x.2.2.1 = (j : Int) ∧ r < 11 ∧ ndR (N b) = r ∧ ndS (N b) = (s : Int) ∧ sndP A B n' n j (ndT (N b))
theorem bsT_ok {m : Nat} {F : List Fl} {N : Nat → Nd} {A B n' n j s b : Nat} (h : FlG m F N n') : ∀ (d q : Nat) (b0 : Option Nat), FlR F N q → (∀ b1, b0 = some b1 → TkOk F N A B n' n j s b1) → bsT F N A B n' n j s d q b0 = some b → TkOk F N A B n' n j s b
  | 0, q, b0, _, h0, e => h0 b e
  | d + 1, q, b0, hq, h0, e => by
    obtain ⟨y, r, e1, e2, e3, e4⟩ := hq
    rw [bsT_at e1] at e
    by_cases c1 : y.2.2.1 = (j : Int)
    · rw [if_pos c1] at e
      have hb : ∀ b1, (if ndS (N y.1) = (s : Int) ∧ sndP A B n' n j (ndT (N y.1)) then some y.1 else b0) = some b1 → TkOk F N A B n' n j s b1 := by
        intro b1 hb1
        by_cases c2 : ndS (N y.1) = (s : Int) ∧ sndP A B n' n j (ndT (N y.1))
        · rw [if_pos c2] at hb1
          cases hb1
          exact ⟨q, y, r, e1, rfl, c1, e2, e3, c2.1, c2.2⟩
        · rw [if_neg c2] at hb1
          exact h0 b1 hb1
      by_cases c3 : q = 0
      · rw [if_pos c3] at e
        exact hb b e
      · rw [if_neg c3] at e
        exact bsT_ok h d _ _ (h.up e1 (by omega) e4) hb e
    · rw [if_neg c1] at e
      exact h0 b e
theorem bestOf_ok {m : Nat} {F : List Fl} {N : Nat → Nd} {A B n' n i s c b : Nat} (h : FlG m F N n') (hcw : ∀ j, wasN A B n n' i = some j → ∀ (p : Nat) (x : Fl), F[p]? = some x → x.1 = c → 1 ≤ p ∧ 0 ≤ x.2.2.1) (e : bestOf F N A B n n' i s c = some b) : ∃ j, wasN A B n n' i = some j ∧ TkOk F N A B n' n j s b := by
  unfold bestOf at e
  cases hw : wasN A B n n' i with
  | none => rw [hw] at e; cases e
  | some j =>
    rw [hw] at e
    refine ⟨j, rfl, ?_⟩
    cases hq : upP F c with
    | none =>
      rw [hq] at e
      cases e
    | some q =>
      rw [hq] at e
      have hq' := hq
      unfold upP at hq'
      cases hf : F.find? (fun x => x.1 == c) with
      | none => rw [hf] at hq'; cases hq'
      | some x =>
        rw [hf] at hq'
        cases hq'
        have hx1 : x.1 = c := by have := List.find?_some hf; exact beq_iff_eq.mp this
        obtain ⟨p, hp⟩ := List.mem_iff_getElem?.mp (List.mem_of_find?_eq_some hf)
        obtain ⟨u1, u2⟩ := hcw j hw p x hp hx1
        exact bsT_ok h 400 _ none (h.up hp u1 u2) (fun b1 hb1 => by cases hb1) e
/-- a node that is not in the TREE: the class -/
theorem s_parentOfN {m c : Nat} {F : List Fl} {N : Nat → Nd} {I : zI} {K : Int32 → Prop} (rep : RepNX I m N) (hm : m ≤ 3400) (hF : FlX I F) (ok : FlOk m F) (hc : c < m) (hno : ∀ (p : Nat) (x : Fl), F[p]? = some x → x.1 ≠ c) (hpl : ∃ p, p < 400 ∧ I.1 47 c = zi p) (hK : K (-2)) : w_TreeView_parentOf (zi c) I K := by
  unfold w_TreeView_parentOf w_TreeView_holds
  have hl := ok.1
  obtain ⟨p, p1, p2⟩ := hpl
  refine s_has rep hm hc ?_
  rw [if_neg (by decide)]
  refine (w_get (by decide)).mpr ?_
  rw [rg_in (by decide) (show c < 3400 by omega), show I.1 (46 + 1) c = zi p from p2, hF.1]
  by_cases u : zi F.length ≤ zi p
  · rw [if_pos u]
    show if (0 : Int32) = 0 then K (-2) else _
    rw [if_pos rfl]
    exact hK
  · rw [if_neg u]
    have hp : p < F.length := Nat.lt_of_not_le (fun v => u ((zi_le (by omega) (by omega)).mpr v))
    have hx : F[p]? = some F[p] := List.getElem?_eq_getElem hp
    refine (w_get (by decide)).mpr ?_
    rw [rg_in (by decide) (show p < 400 by omega), show I.1 (44 + 1) p = zi F[p].1 from (hF.2 p _ hx).1, if_neg (fun v => hno p _ hx ((zi_eq (by have := (ok.2 p _ hx).1; omega) (by omega)).mp v))]
    show if (0 : Int32) = 0 then K (-2) else _
    rw [if_pos rfl]
    exact hK
def oI (z : Int32) : Option Nat → Int32
  | some b => zi b
  | none => z
def Qps (l a j : Nat) : Prop := (a = 64 ∧ (j = 4 ∨ j = 11)) ∨ ((a = 66 ∨ a = 68) ∧ j = l)
theorem s_putSound {m s n' n A B R i c : Nat} {p0 : Nat × Nat} {st : List (Nat × Nat)} {F : List Fl} {N : Nat → Nd} {I : zI} {K : Int32 → zI → Prop} (rep : RepNX I m N) (hm : m ≤ 3400) (hcm : c < m) (hF : FlX I F) (fg : FlG m F N n') (hR : I.1 43 13 = zi R) (hR0 : ∃ x : Fl, F[0]? = some x ∧ x.1 = R) (hpl : ∃ p, p < 400 ∧ I.1 47 c = zi p)
    (hS : StX I st) (ok : StOk m st) (hl : st.length < 300) (htop : st[st.length - 1]? = some p0) (hs : p0.2 = s)
    (h5 : I.1 64 5 = zi n') (h6 : I.1 64 6 = zi n) (h7 : I.1 64 7 = zi A) (h8 : I.1 64 8 = zi B) (hA : A ≤ 100) (hB : B ≤ n) (hB' : B ≤ n') (hAn : A ≤ n') (hn : n ≤ 100) (hn' : n' ≤ 100) (hi : i < n)
    (hcw : ∀ j, wasN A B n n' i = some j → ∀ (p : Nat) (x : Fl), F[p]? = some x → x.1 = c → 1 ≤ p ∧ 0 ≤ x.2.2.1)
    (hK0 : bestOf F N A B n n' i s c = none → K 0 I)
    (hK : ∀ b J, bestOf F N A B n n' i s c = some b → eqQ (Qps st.length) I J → StX J (st ++ [(b, ldN s (ndM (N b)))]) → J.1 64 11 = I.1 64 11 + 1 → K (zi (ndT (N b))) J) : w_Grower_putSound (zi c) (zi i) I K := by
  unfold w_Grower_putSound
  have hs21 : s < 21 := hs ▸ (ok _ p0 htop).1
  obtain ⟨st0, st1, st2⟩ := id hS
  have gtop : ∀ (H : Int32 → Prop), H (zi s) → w_Row_get 65 300 (I.1 64 4) I H := fun H hH => by
    rw [st1]
    refine (w_get (by decide)).mpr ?_
    rw [rg_in (by decide) (show st.length - 1 < 300 by omega), show I.1 (65 + 1) (st.length - 1) = zi s from hs ▸ (st2 _ p0 htop).1]
    exact hH
  have fin : ∀ b : Option Nat, bestOf F N A B n n' i s c = b → (if 0 ≤ oI (-2) b then (w_Row_get 65 300 (I.1 64 4) I (fun r_6 => w_Row_get 27 3400 (oI (-2) b) I (fun r_7 => w_Desk_leadsTo r_6 r_7 I (fun r_8 => w_Grower_put (oI (-2) b) r_8 I (fun I_9 => ∀ I_10, I_10 = (zu I_9 64 11 ((I_9.1 64 11) + 1)) → w_Row_get 31 3400 (oI (-2) b) I_10 (fun r_11 => K r_11 I_10)))))) else K 0 I) := by
    intro b hb
    cases b with
    | none =>
      rw [if_neg (by show ¬ (0 : Int32) ≤ -2; decide)]
      exact hK0 hb
    | some b =>
      obtain ⟨j, hj, q, x, r, t1, t2, t3, t4, t5, t6, t7⟩ := bestOf_ok fg hcw hb
      have hbm : b < m := t2 ▸ (fg.1.2 q x t1).1
      rw [if_pos (show (0 : Int32) ≤ oI (-2) (some b) from zi_ge (by omega))]
      have nd := rep.2 b hbm
      have hM : ndM (N b) = syN r := by
        unfold ndM
        rw [t5, if_neg (by omega)]
        rfl
      have hM5 : syN r < 5 := (sy_fin r t4).2
      have h17 : ndM (N b) < 17 := by omega
      refine gtop _ ((w_get (by decide)).mpr ?_)
      show w_Desk_leadsTo (zi s) (rg 3400 (I.1 (27 + 1)) (zi b)) I _
      rw [rg_in (by decide) (show b < 3400 by omega), show I.1 (27 + 1) b = zi (ndM (N b)) from nd.2.1]
      refine s_leadsTo hs21 h17 ?_
      refine s_put hS hl (fun J q2 S2 I10 e10 => (w_get (by decide)).mpr ?_)
      have o10 : ∀ a j, ¬ (a = 64 ∧ j = 11) → I10.1 a j = J.1 a j := fun a j u => by rw [e10, zu_at, if_neg u]
      show K (rg 3400 (I10.1 (31 + 1)) (zi b)) I10
      rw [rg_in (by decide) (show b < 3400 by omega), show I10.1 (31 + 1) b = zi (ndT (N b)) by rw [o10 _ _ (by omega), q2.1 _ _ (by omega)]; exact nd.2.2.2.1]
      refine hK b I10 hb ?_ ⟨S2.1, ?_, fun j p hj => ?_⟩ ?_
      · rw [e10]
        exact (q2.mono (fun a j h => by unfold Qps; omega)).zu (Or.inl ⟨rfl, Or.inr rfl⟩)
      · rw [o10 _ _ (by omega)]
        exact S2.2.1
      · rw [o10 _ _ (by omega), o10 _ _ (by omega)]
        exact S2.2.2 j p hj
      · rw [e10, zu_self, q2.1 64 11 (by omega)]
  refine s_oldPlace h5 h6 h7 h8 hA hB hB' hn hn' hi ?_
  have hbest : bestOf F N A B n n' i s c = bestOf F N A B n n' i s c := rfl
  conv at hbest => rhs; unfold bestOf
  cases hw : wasN A B n n' i with
  | none =>
    rw [hw] at hbest
    intro P27 h27
    show if (0 : Int32) ≤ -2 then _ else _
    rw [if_neg (by decide)]
    refine h27 _ ?_
    intro P32 h32
    refine h32 _ _ _ ?_
    intro P125 h125
    rw [if_neg (by decide), if_pos (by decide)]
    exact h125 (fin none hbest)
  | some j =>
    rw [hw] at hbest
    have hjn : j < n' := by
      unfold wasN at hw
      by_cases c1 : i < A
      · rw [if_pos c1] at hw
        cases hw
        omega
      · rw [if_neg c1] at hw
        by_cases c2 : n - B ≤ i
        · rw [if_pos c2] at hw
          cases hw
          omega
        · rw [if_neg c2] at hw
          cases hw
    intro P27 h27
    show if (0 : Int32) ≤ zi j then _ else _
    rw [if_pos (zi_ge (by omega))]
    by_cases hin : ∃ (p : Nat) (x : Fl), F[p]? = some x ∧ x.1 = c
    · obtain ⟨p, x, hp, hx⟩ := hin
      obtain ⟨u1, u2⟩ := hcw j hw p x hp hx
      have hq := upP_at fg.2.1 hp
      rw [hx] at hq
      rw [hq] at hbest
      obtain ⟨z0, hz0, hz1⟩ := hR0
      have hRm : R < m := hz1 ▸ (fg.1.2 0 z0 hz0).1
      have hneR : ∀ (p : Nat) (x : Fl), F[p]? = some x → 1 ≤ p → x.1 ≠ R := fun p x hp h1 e => by
        have := fg.2.1 p 0 x z0 hp hz0 (e.trans hz1.symm)
        omega
      have hF400 := fg.1.1
      rw [← hx]
      obtain ⟨y0, r0, y1, y2, y3, y4⟩ := fg.up hp u1 u2
      refine s_parentOf rep hm hF fg.1 hp u1 hR hRm (hneR p x hp u1) y1 (h27 _ ?_)
      intro P32 h32
      have main : ∀ (d q up : Nat) (b : Option Nat) (y : Fl), up + d = 400 → q < d → F[q]? = some y → FlR F N q → bestOf F N A B n n' i s c = bsT F N A B n' n j s d q b → P32 (oI (-2) b) (zi y.1) (zi up) := by
        intro d
        induction d with
        | zero =>
          intro q up b y h1 h2
          omega
        | succ d ih =>
          intro q up b y h1 h2 hy hr e
          refine h32 _ _ _ ?_
          intro P125 h125
          rw [bsT_at hy] at e
          have hym := (fg.1.2 q y hy).1
          rw [if_neg (show ¬ (400 : Int32) ≤ zi up from fun u => by have := (zi_le (a := 400) (by decide) (by omega)).mp u; omega), if_neg (zi_pos (by omega))]
          refine s_firstOf rep hm hF fg.1 hy ?_
          obtain ⟨y', r, e1, e2, e3, e4⟩ := hr
          rw [hy] at e1
          cases e1
          have nd := rep.2 y.1 hym
          rcases (fg.2.2 q y hy).1 with hf | ⟨f, hf, hf1, hf2⟩
          · omega
          rw [hf] at e ⊢
          rw [zi_int f]
          by_cases c1 : f = j
          · rw [if_pos (show zi f = zi j by rw [c1])]
            rw [if_pos (by rw [c1])] at e
            refine (w_get (by decide)).mpr ?_
            rw [rg_in (by decide) (show y.1 < 3400 by omega), show I.1 (29 + 1) y.1 = Int32.ofInt (ndS (N y.1)) from nd.2.2.1]
            refine gtop _ ?_
            intro P108 h108
            have nxt : ∀ b' : Option Nat, bestOf F N A B n n' i s c = (if q = 0 then b' else bsT F N A B n' n j s d y.2.1 b') → P108 (oI (-2) b') := by
              intro b' e'
              refine h108 _ ?_
              by_cases hq0 : q = 0
              · subst hq0
                rw [if_pos rfl] at e'
                have hyR : y.1 = R := by
                  rw [hz0] at hy
                  cases hy
                  exact hz1
                refine s_parentOf0 rep hm hF fg.1 hy (by rw [hR, hyR]) (fun v ev => ?_)
                refine h32 _ _ _ ?_
                intro P hP
                by_cases hv : (400 : Int32) ≤ v
                · rw [if_pos hv]
                  exact hP (fin b' e')
                · rw [if_neg hv, if_pos (show (-2 : Int32) < 0 by decide)]
                  exact hP (fin b' e')
              · rw [if_neg hq0] at e'
                have hr2 := fg.up hy (by omega) e4
                obtain ⟨w, rw_, w1, w2, w3, w4⟩ := id hr2
                refine s_parentOf rep hm hF fg.1 hy (by omega) hR hRm (hneR q y hy (by omega)) w1 (fun v ev => ?_)
                rw [ev, zi_succ]
                exact ih y.2.1 (up + 1) b' w (by omega) (by have := (fg.1.2 q y hy).2 (by omega); omega) w1 hr2 e'
            obtain ⟨k, k1, k2⟩ := (fg.2.2 q y hy).2.1
            rw [k2] at e ⊢
            rw [zi_int k]
            by_cases c2 : k = s
            · rw [if_pos (show zi k = zi s by rw [c2])]
              refine (w_get (by decide)).mpr ?_
              rw [rg_in (by decide) (show y.1 < 3400 by omega), show I.1 (31 + 1) y.1 = zi (ndT (N y.1)) from nd.2.2.2.1]
              refine s_isSound h5 h6 h7 h8 hB' (by omega) (by omega) (by omega) (by omega) (by omega) ?_
              unfold sndI
              by_cases c3 : sndP A B n' n j (ndT (N y.1))
              · rw [if_pos c3, if_neg (by decide)]
                rw [if_pos (show (k : Int) = (s : Int) ∧ sndP A B n' n j (ndT (N y.1)) from ⟨by rw [c2], c3⟩)] at e
                exact nxt (some y.1) e
              · rw [if_neg c3, if_pos rfl]
                rw [if_neg (show ¬ ((k : Int) = (s : Int) ∧ sndP A B n' n j (ndT (N y.1))) from fun u => c3 u.2)] at e
                exact nxt b e
            · rw [if_neg (fun u => c2 ((zi_eq (by omega) (by omega)).mp u))]
              rw [if_neg (show ¬ ((k : Int) = (s : Int) ∧ sndP A B n' n j (ndT (N y.1))) from fun u => c2 (by have := u.1; omega))] at e
              exact nxt b e
          · rw [if_neg (fun u => c1 ((zi_eq (by omega) (by omega)).mp u))]
            rw [if_neg (fun u => c1 (by omega))] at e
            exact h125 (fin b e)
      have hx2 := (fg.1.2 p x hp).2 u1
      have hpl2 := (List.getElem?_eq_some_iff.mp hp).1
      exact main 400 x.2.1 0 none y0 (by omega) (by omega) y1 ⟨y0, r0, y1, y2, y3, y4⟩ hbest
    · have hno : ∀ (p : Nat) (x : Fl), F[p]? = some x → x.1 ≠ c := fun p x hp e => hin ⟨p, x, hp, e⟩
      rw [upP_no hno] at hbest
      refine s_parentOfN rep hm hF fg.1 hcm hno hpl (h27 _ ?_)
      intro P32 h32
      refine h32 _ _ _ ?_
      intro P125 h125
      rw [if_neg (by decide), if_pos (by decide)]
      exact h125 (fin none hbest)
/-! ===== which sound node is taken: the model ===== -/
/-- parents and first TOKENS in the model's rows -/
def FlM (I : zI) (F : List Fl) : Prop := ∀ (p : Nat) (x : Fl), F[p]? = some x → (p = 0 → I.1 524 x.1 = -2) ∧ (1 ≤ p → ∀ y : Fl, F[x.2.1]? = some y → I.1 524 x.1 = zi y.1) ∧ (0 ≤ x.2.2.1 → I.1 526 x.1 = Int32.ofInt x.2.2.1)
theorem s_takenFor {m s n' n A B c p j : Nat} {x : Fl} {F : List Fl} {N : Nat → Nd} {I : zI} {K : Int32 → Prop} (rep : RepNM I m N) (hm : m ≤ 3700) (hF : FlM I F) (fg : FlG m F N n') (hp : F[p]? = some x) (hx : x.1 = c) (u1 : 1 ≤ p) (u2 : 0 ≤ x.2.2.1) (hg : I.1 508 j = zi c) (hj : j < n') (hs : s < 21)
    (h9 : I.1 491 9 = zi n) (h19 : I.1 491 19 = zi n') (h66 : I.1 491 66 = zi A) (h67 : I.1 491 67 = zi B) (hA : A ≤ 100) (hB' : B ≤ n') (hn : n ≤ 100) (hn' : n' ≤ 100)
    (hK : K (oI (-1) (bsT F N A B n' n j s 400 x.2.1 none))) : w_M_takenFor (zi j) (zi s) I K := by
  unfold w_M_takenFor
  have hcm : c < m := hx ▸ (fg.1.2 p x hp).1
  have hF400 := fg.1.1
  obtain ⟨y0, r0, y1, y2, y3, y4⟩ := fg.up hp u1 u2
  rw [zi_tn (show j < 2147483648 by omega), hg, zi_tn (show c < 2147483648 by omega)]
  refine ⟨(zin_iff (by omega)).mpr (by omega), (zin_iff (by omega)).mpr (by omega), fun v ev => ?_⟩
  rw [← hx, (hF p x hp).2.1 u1 y0 y1] at ev
  subst ev
  intro P15 h15
  have main : ∀ (d q : Nat) (b : Option Nat) (y : Fl), q < d → F[q]? = some y → FlR F N q → bsT F N A B n' n j s 400 x.2.1 none = bsT F N A B n' n j s d q b → P15 (oI (-1) b) (zi y.1) := by
    intro d
    induction d with
    | zero =>
      intro q b y h1
      omega
    | succ d ih =>
      intro q b y h1 hy hr e
      refine h15 _ _ ?_
      rw [bsT_at hy] at e
      have hym := (fg.1.2 q y hy).1
      have hin : vp_in (zi y.1) 3700 := (zin_iff (by omega)).mpr (by omega)
      rw [if_neg (zi_pos (by omega)), zi_tn (show y.1 < 2147483648 by omega)]
      obtain ⟨y', r, e1, e2, e3, e4⟩ := hr
      rw [hy] at e1
      cases e1
      have nd := rep.2 y.1 hym
      rcases (fg.2.2 q y hy).1 with hf | ⟨f, hf, hf1, hf2⟩
      · omega
      refine ⟨hin, ?_⟩
      rw [(hF q y hy).2.2 e4, hf, zi_int f]
      rw [hf] at e
      by_cases c1 : f = j
      · rw [if_pos (show zi f = zi j by rw [c1])]
        rw [if_pos (by rw [c1])] at e
        refine ⟨hin, ?_⟩
        intro P62 h62
        have nxt : ∀ b' : Option Nat, bsT F N A B n' n j s 400 x.2.1 none = (if q = 0 then b' else bsT F N A B n' n j s d y.2.1 b') → P62 (oI (-1) b') := by
          intro b' e'
          refine h62 _ ⟨hin, fun v ev => ?_⟩
          by_cases hq0 : q = 0
          · rw [if_pos hq0] at e'
            rw [(hF q y hy).1 hq0] at ev
            rw [ev]
            refine h15 _ _ ?_
            rw [if_pos (show (-2 : Int32) < 0 by decide), ← e']
            exact hK
          · rw [if_neg hq0] at e'
            have hr2 := fg.up hy (by omega) e4
            obtain ⟨w, rw_, w1, w2, w3, w4⟩ := id hr2
            rw [(hF q y hy).2.1 (by omega) w w1] at ev
            rw [ev]
            exact ih y.2.1 b' w (by have := (fg.1.2 q y hy).2 (by omega); omega) w1 hr2 e'
        obtain ⟨k, k1, k2⟩ := (fg.2.2 q y hy).2.1
        rw [k2] at e
        rw [show I.1 514 y.1 = Int32.ofInt (ndS (N y.1)) from nd.2.1, k2, zi_int k]
        by_cases c2 : k = s
        · rw [if_pos (show zi k = zi s by rw [c2])]
          refine ⟨hin, ?_⟩
          rw [show I.1 515 y.1 = zi (ndT (N y.1)) from nd.2.2.1, zi_add]
          refine s_areTogether h9 h19 h66 h67 hB' (by omega) (by omega) (by omega) (by omega) (by omega) ?_
          unfold sndI
          by_cases c3 : sndP A B n' n j (ndT (N y.1))
          · rw [if_pos c3, if_neg (by decide)]
            rw [if_pos (show (k : Int) = (s : Int) ∧ sndP A B n' n j (ndT (N y.1)) from ⟨by rw [c2], c3⟩)] at e
            exact nxt (some y.1) e
          · rw [if_neg c3, if_pos rfl]
            rw [if_neg (show ¬ ((k : Int) = (s : Int) ∧ sndP A B n' n j (ndT (N y.1))) from fun u => c3 u.2)] at e
            exact nxt b e
        · rw [if_neg (fun u => c2 ((zi_eq (by omega) (by omega)).mp u))]
          rw [if_neg (show ¬ ((k : Int) = (s : Int) ∧ sndP A B n' n j (ndT (N y.1))) from fun u => c2 (by have := u.1; omega))] at e
          exact nxt b e
      · rw [if_neg (fun u => c1 ((zi_eq (by omega) (by omega)).mp u))]
        rw [if_neg (fun u => c1 (by omega))] at e
        rw [← e]
        exact hK
  have hx2 := (fg.1.2 p x hp).2 u1
  have hpl2 := (List.getElem?_eq_some_iff.mp hp).1
  exact main 400 x.2.1 none y0 (by omega) y1 ⟨y0, r0, y1, y2, y3, y4⟩ rfl
/-- what the model takes ahead of the i-th token (whose node is c): two lines of grows -/
theorem s_Mbest {m s n' n A B i c : Nat} {F : List Fl} {N : Nat → Nd} {I : zI} {Y : Int32 → Prop} (rep : RepNM I m N) (hm : m ≤ 3700) (hF : FlM I F) (fg : FlG m F N n') (hs : s < 21)
    (h9 : I.1 491 9 = zi n) (h19 : I.1 491 19 = zi n') (h66 : I.1 491 66 = zi A) (h67 : I.1 491 67 = zi B) (hA : A ≤ 100) (hB : B ≤ n) (hB' : B ≤ n') (hAn : A < n') (hn : n ≤ 100) (hn' : n' ≤ 100) (hi : i < n)
    (hgo : ∀ j, wasN A B n n' i = some j → I.1 508 j = zi c ∧ (j + 1 = n' → ∀ (p : Nat) (x : Fl), F[p]? = some x → x.1 ≠ c) ∧ (j + 1 < n' → ∃ (p : Nat) (x : Fl), F[p]? = some x ∧ x.1 = c ∧ 1 ≤ p ∧ 0 ≤ x.2.2.1))
    (hK : Y (oI (-1) (bestOf F N A B n n' i s c))) :
    w_M_wasOf (zi i) I (fun r_9 => ∀ (P70 : Int32 → Prop), (∀ (t_10 : Int32), Y t_10 → P70 t_10) → ∀ (P69 : Prop), ((P70 (-1)) → P69) → (if r_9 < 0 then P69 else (if ((I.1 491 19) - 1) ≤ r_9 then P69 else (w_M_takenFor r_9 (zi s) I (fun r_30 => P70 r_30))))) := by
  refine s_wasOf h9 h19 h66 h67 hA hB hB' hn hn' hi ?_
  intro P70 h70 P69 h69
  unfold bestOf at hK
  cases hw : wasN A B n n' i with
  | none =>
    rw [hw] at hK
    show if (-1 : Int32) < 0 then _ else _
    rw [if_pos (by decide)]
    exact h69 (h70 _ hK)
  | some j =>
    rw [hw] at hK
    have hjn : j < n' := by
      unfold wasN at hw
      by_cases c1 : i < A
      · rw [if_pos c1] at hw
        cases hw
        omega
      · rw [if_neg c1] at hw
        by_cases c2 : n - B ≤ i
        · rw [if_pos c2] at hw
          cases hw
          omega
        · rw [if_neg c2] at hw
          cases hw
    obtain ⟨g1, g2, g3⟩ := hgo j hw
    show if zi j < 0 then _ else _
    rw [if_neg (zi_pos (by omega)), h19, show zi n' - 1 = zi (n' - 1) from zi_sub (b := 1) (by omega)]
    by_cases c1 : j + 1 = n'
    · rw [if_pos ((zi_le (by omega) (by omega)).mpr (by omega))]
      rw [upP_no (g2 c1)] at hK
      exact h69 (h70 _ hK)
    · rw [if_neg (fun u => by have := (zi_le (by omega) (by omega)).mp u; omega)]
      obtain ⟨p, x, hp, hx, u1, u2⟩ := g3 (by omega)
      have hq := upP_at fg.2.1 hp
      rw [hx] at hq
      rw [hq] at hK
      exact s_takenFor rep hm hF fg hp hx u1 u2 g1 hjn hs h9 h19 h66 h67 hA hB' hn hn' (h70 _ hK)
