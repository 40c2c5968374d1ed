/-! ===== a node by a RULE: the class ===== -/
theorem zi_int (r : Nat) : Int32.ofInt (r : Int) = zi r := Int32.ofInt_eq_ofNat
/-- a node by rule r on the state s with these children so far -/
def rlNd (r s T e : Nat) (cs : List Nat) : Nd := ((r : Int), 0, (s : Int), T, e, cs, [])
theorem ndM_rl {r s T e : Nat} {cs : List Nat} : ndM (rlNd r s T e cs) = syN r := by
  unfold ndM ndR rlNd
  rw [if_neg (by show ¬ (r : Int) < 0; omega)]
  rfl
theorem s_makeRuled {m r s e : Nat} {N : Nat → Nd} {I : zI} {K : Int32 → zI → Prop} (rep : RepNX I m N) (hc : ∀ k, k < m → (ndC (N k)).length ≤ 4) (hm : m < 3400) (hr : r < 11)
    (hK : ∀ J, eqQ (Qnx m) I J → RepNX J (m + 1) (upN N m (rlNd r s 0 e [])) → K (zi m) J) : w_Nodes_makeRuled (zi r) (zi s) (zi e) I K := by
  unfold w_Nodes_makeRuled w_Nodes_make
  refine s_symbolOf hr ?_
  intro v ev
  rw [rep.1] at ev
  subst ev
  refine (w_set (by decide)).mpr ?_
  rw [rs_in (by decide) hm]
  generalize e1 : zu I (25 + 1) m (zi r) = J1
  refine (w_set (by decide)).mpr ?_
  rw [rs_in (by decide) hm]
  generalize e2 : zu J1 (27 + 1) m (zi (syN r)) = J2
  refine (w_set (by decide)).mpr ?_
  rw [rs_in (by decide) hm]
  generalize e3 : zu J2 (29 + 1) m (zi s) = J3
  refine (w_set (by decide)).mpr ?_
  rw [rs_in (by decide) hm]
  generalize e4 : zu J3 (33 + 1) m (zi e) = J4
  intro J5 e5
  have g9 : J4.1 24 9 = zi m := by rw [← e4, zu_oo (by omega), ← e3, zu_oo (by omega), ← e2, zu_oo (by omega), ← e1, zu_oo (by omega)]; exact rep.1
  rw [g9, zi_succ] at e5
  refine (w_set (by decide)).mpr ?_
  rw [rs_in (by decide) hm]
  generalize e6 : zu J5 (31 + 1) m 0 = J6
  have f1 : eqQ (Qnx m) I J1 := by rw [← e1]; exact eqQ.rf.zu (Or.inr (Or.inl (by omega)))
  have f2 : eqQ (Qnx m) I J2 := by rw [← e2]; exact f1.zu (Or.inr (Or.inl (by omega)))
  have f3 : eqQ (Qnx m) I J3 := by rw [← e3]; exact f2.zu (Or.inr (Or.inl (by omega)))
  have f4 : eqQ (Qnx m) I J4 := by rw [← e4]; exact f3.zu (Or.inr (Or.inl (by omega)))
  have f5 : eqQ (Qnx m) I J5 := by rw [e5]; exact f4.zu (Or.inl ⟨rfl, rfl⟩)
  have f6 : eqQ (Qnx m) I J6 := by rw [← e6]; exact f5.zu (Or.inr (Or.inl (by omega)))
  refine hK J6 f6 ⟨?_, fun k hk => ?_⟩
  · rw [← e6, zu_oo (by omega), e5, zu_self]
  · by_cases hkm : k = m
    · subst hkm
      rw [upN_self]
      refine ⟨?_, ?_, ?_, ?_, ?_, (fun i c hi => by cases hi), fun q => absurd q ?_⟩
      · rw [← e6, zu_oo (by omega), e5, zu_oo (by omega), ← e4, zu_oo (by omega), ← e3, zu_oo (by omega), ← e2, zu_oo (by omega), ← e1, zu_self]
        exact (zi_int r).symm
      · rw [← e6, zu_oo (by omega), e5, zu_oo (by omega), ← e4, zu_oo (by omega), ← e3, zu_oo (by omega), ← e2, zu_self, ndM_rl]
      · rw [← e6, zu_oo (by omega), e5, zu_oo (by omega), ← e4, zu_oo (by omega), ← e3, zu_self]
        exact (zi_int s).symm
      · rw [← e6, zu_self]
        rfl
      · rw [← e6, zu_oo (by omega), e5, zu_oo (by omega), ← e4, zu_self]
        rfl
      · show ¬ (r : Int) < 0
        omega
    · rw [upN_o hkm]
      exact (rep.2 k (by omega)).kept (hc k (by omega)) (fun a h1 h2 => f6.1 a k (by unfold Qnx; omega)) (fun i hi => f6.1 42 _ (by unfold Qnx; omega))
theorem s_giveChild {m r s T e c : Nat} {cs : List Nat} {N : Nat → Nd} {I : zI} {K : zI → Prop} (rep : RepNX I (m + 1) (upN N m (rlNd r s T e cs))) (hc : ∀ k, k < m → (ndC (N k)).length ≤ 4) (hm : m < 3400) (hcs : cs.length < 4) (hcm : c < m)
    (hK : ∀ J, eqQ (Qnx m) I J → RepNX J (m + 1) (upN N m (rlNd r s (T + ndT (N c)) e (cs ++ [c]))) → K J) : w_Nodes_giveChild (zi m) (zi cs.length) (zi c) I K := by
  unfold w_Nodes_giveChild
  have e0 : zi m * 4 + zi cs.length = zi (4 * m + cs.length) := by
    rw [show (4 : Int32) = zi 4 from rfl, zi_mul, zi_add, Nat.mul_comm]
  rw [e0]
  refine (w_set (by decide)).mpr ?_
  rw [rs_in (by decide) (show 4 * m + cs.length < 13600 by omega)]
  generalize e1 : zu I (41 + 1) (4 * m + cs.length) (zi c) = J1
  have tc : I.1 32 c = zi (ndT (N c)) := by
    have := (rep.2 c (by omega)).2.2.2.1
    rw [upN_o (by omega)] at this
    exact this
  have tm : I.1 32 m = zi T := by
    have := (rep.2 m (by omega)).2.2.2.1
    rw [upN_self] at this
    exact this
  refine (w_get (by decide)).mpr ?_
  rw [rg_in (by decide) (show c < 3400 by omega)]
  refine (w_add (by decide)).mpr ?_
  rw [rs_in (by decide) hm, rg_in (by decide) hm, ← e1, zu_oo (by decide), zu_oo (by decide), show I.1 (31 + 1) c = zi (ndT (N c)) from tc, show I.1 (31 + 1) m = zi T from tm, zi_add]
  generalize e2 : zu (zu I (41 + 1) (4 * m + cs.length) (zi c)) (31 + 1) m (zi (T + ndT (N c))) = J2
  have f2 : eqQ (Qnx m) I J2 := by rw [← e2]; exact (eqQ.rf.zu (Or.inr (Or.inr (by omega)))).zu (Or.inr (Or.inl (by omega)))
  refine hK J2 f2 ⟨?_, fun k hk => ?_⟩
  · rw [← e2, zu_oo (by decide), zu_oo (by decide)]
    exact rep.1
  · by_cases hkm : k = m
    · subst hkm
      have h0 := rep.2 k (by omega)
      rw [upN_self] at h0 ⊢
      obtain ⟨h1, h2, h3, h4, h5, h6, h7⟩ := h0
      have o : ∀ a, a ≠ 42 → a ≠ 32 → J2.1 a k = I.1 a k := fun a u1 u2 => by rw [← e2, zu_oo (by omega), zu_oo (by omega)]
      refine ⟨?_, ?_, ?_, ?_, ?_, fun i x hi => ?_, fun q => absurd q ?_⟩
      · rw [o _ (by decide) (by decide)]; exact h1
      · rw [o _ (by decide) (by decide), ndM_rl]
        rw [ndM_rl] at h2
        exact h2
      · rw [o _ (by decide) (by decide)]; exact h3
      · rw [← e2, zu_self]
        rfl
      · rw [o _ (by decide) (by decide)]; exact h5
      · rw [← e2, zu_oo (by decide), zu_at]
        have hi' : (cs ++ [c])[i]? = some x := hi
        by_cases hl : i < cs.length
        · rw [List.getElem?_append_left hl] at hi'
          rw [if_neg (by omega)]
          exact h6 i x hi'
        · have hi2 := (List.getElem?_eq_some_iff.mp hi').1
          rw [List.length_append] at hi2
          have hil : i = cs.length := by
            have : [c].length = 1 := rfl
            omega
          rw [hil, List.getElem?_append_right (Nat.le_refl _), Nat.sub_self] at hi'
          cases hi'
          rw [if_pos ⟨rfl, by omega⟩]
      · show ¬ (r : Int) < 0
        omega
    · rw [upN_o hkm]
      have h0 := rep.2 k (by omega)
      rw [upN_o hkm] at h0
      exact h0.kept (hc k (by omega)) (fun a h1 h2 => f2.1 a k (by unfold Qnx; omega)) (fun i hi => f2.1 42 _ (by unfold Qnx; omega))
