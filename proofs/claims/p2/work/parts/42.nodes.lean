/-! ===== nodes ===== -/
/-- a node: RULE (a token: -2), KIND (a token's), STATE, TOKENS, by which EDIT, CHILDREN, bytes (a token's) -/
abbrev Nd : Type := Int × Nat × Int × Nat × Nat × List Nat × List Int32
def ndR (x : Nd) : Int := x.1
def ndK (x : Nd) : Nat := x.2.1
def ndS (x : Nd) : Int := x.2.2.1
def ndT (x : Nd) : Nat := x.2.2.2.1
def ndB (x : Nd) : Nat := x.2.2.2.2.1
def ndC (x : Nd) : List Nat := x.2.2.2.2.2.1
def ndY (x : Nd) : List Int32 := x.2.2.2.2.2.2
/-- its symbol: of a token 5 and its KIND -/
def ndM (x : Nd) : Nat := if ndR x < 0 then 5 + ndK x else syN (ndR x).toNat
/-- how many CHILDREN its RULE has -/
def ndL (x : Nd) : Nat := if ndR x < 0 then 0 else lnN (ndR x).toNat
def bsF (bs : List Int32) : Nat → Int32 := fun j => bs.getD j 0
def upN (N : Nat → Nd) (m : Nat) (x : Nd) : Nat → Nd := fun k => if k = m then x else N k
theorem upN_self {N : Nat → Nd} {m : Nat} {x : Nd} : upN N m x m = x := if_pos rfl
theorem upN_o {N : Nat → Nd} {m k : Nat} {x : Nd} (h : k ≠ m) : upN N m x k = N k := if_neg h
/-- a node in the class's rows -/
def NdX (I : zI) (k : Nat) (x : Nd) : Prop :=
  I.1 26 k = Int32.ofInt (ndR x) ∧ I.1 28 k = zi (ndM x) ∧ I.1 30 k = Int32.ofInt (ndS x) ∧ I.1 32 k = zi (ndT x) ∧ I.1 34 k = zi (ndB x) ∧ (∀ i c, (ndC x)[i]? = some c → I.1 42 (4 * k + i) = zi c) ∧
  (ndR x < 0 → I.1 36 k = zi (ndY x).length ∧ I.1 38 k = hdT (bsF (ndY x)) 0 (ndY x).length ∧ I.1 40 k = tlT (bsF (ndY x)) 0 (ndY x).length)
def RepNX (I : zI) (m : Nat) (N : Nat → Nd) : Prop := I.1 24 9 = zi m ∧ ∀ k, k < m → NdX I k (N k)
/-- and in the model's -/
def NdM (I : zI) (k : Nat) (x : Nd) : Prop :=
  I.1 509 k = Int32.ofInt (ndR x) ∧ I.1 514 k = Int32.ofInt (ndS x) ∧ I.1 515 k = zi (ndT x) ∧ I.1 516 k = zi (ndB x) ∧ I.1 512 k = zi (ndL x) ∧ (∀ i c, (ndC x)[i]? = some c → I.1 513 (4 * k + i) = zi c) ∧
  (ndR x < 0 → I.1 510 k = zi (ndK x) ∧ I.2 511 k = isV (bsF (ndY x)) (ndK x, 0, (ndY x).length))
def RepNM (I : zI) (m : Nat) (N : Nat → Nd) : Prop := I.1 491 25 = zi m ∧ ∀ k, k < m → NdM I k (N k)
/-- the places of the class that a node of number m, or of a greater one, may change -/
def Qnx (m a j : Nat) : Prop := (a = 24 ∧ j = 9) ∨ (25 ≤ a ∧ a ≤ 40 ∧ m ≤ j) ∨ (a = 42 ∧ 4 * m ≤ j)
def Qnm (m a j : Nat) : Prop := (a = 491 ∧ j = 25) ∨ (509 ≤ a ∧ a ≤ 512 ∧ m ≤ j) ∨ (514 ≤ a ∧ a ≤ 517 ∧ m ≤ j) ∨ (a = 513 ∧ 4 * m ≤ j)
theorem NdX.kept {I J : zI} {k : Nat} {x : Nd} (h : NdX I k x) (hc : (ndC x).length ≤ 4) (e : ∀ a, 25 ≤ a → a ≤ 40 → J.1 a k = I.1 a k) (e2 : ∀ i, i < 4 → J.1 42 (4 * k + i) = I.1 42 (4 * k + i)) : NdX J k x := by
  obtain ⟨h1, h2, h3, h4, h5, h6, h7⟩ := h
  refine ⟨by rw [e _ (by omega) (by omega)]; exact h1, by rw [e _ (by omega) (by omega)]; exact h2, by rw [e _ (by omega) (by omega)]; exact h3, by rw [e _ (by omega) (by omega)]; exact h4, by rw [e _ (by omega) (by omega)]; exact h5, fun i c hi => ?_, fun q => ?_⟩
  · have := (List.getElem?_eq_some_iff.mp hi).1
    rw [e2 i (by omega)]
    exact h6 i c hi
  · obtain ⟨a, b, c⟩ := h7 q
    exact ⟨by rw [e _ (by omega) (by omega)]; exact a, by rw [e _ (by omega) (by omega)]; exact b, by rw [e _ (by omega) (by omega)]; exact c⟩
theorem NdM.kept {I J : zI} {k : Nat} {x : Nd} (h : NdM I k x) (hc : (ndC x).length ≤ 4) (e : ∀ a, 509 ≤ a → a ≤ 517 → a ≠ 513 → J.1 a k = I.1 a k) (e2 : ∀ i, i < 4 → J.1 513 (4 * k + i) = I.1 513 (4 * k + i)) (e3 : J.2 511 k = I.2 511 k) : NdM J k x := by
  obtain ⟨h1, h2, h3, h4, h5, h6, h7⟩ := h
  refine ⟨by rw [e _ (by omega) (by omega) (by omega)]; exact h1, by rw [e _ (by omega) (by omega) (by omega)]; exact h2, by rw [e _ (by omega) (by omega) (by omega)]; exact h3, by rw [e _ (by omega) (by omega) (by omega)]; exact h4, by rw [e _ (by omega) (by omega) (by omega)]; exact h5, fun i c hi => ?_, fun q => ?_⟩
  · have := (List.getElem?_eq_some_iff.mp hi).1
    rw [e2 i (by omega)]
    exact h6 i c hi
  · obtain ⟨a, b⟩ := h7 q
    exact ⟨by rw [e _ (by omega) (by omega) (by omega)]; exact a, by rw [e3]; exact b⟩
/-- a token's node made by the class -/
theorem s_makeToken {m kd e : Nat} {bs : List Int32} {N : Nat → Nd} {I : zI} {K : Int32 → zI → Prop} (rep : RepNX I m N) (hc : ∀ k, k < m → (ndC (N k)).length ≤ 4) (hm : m < 3400)
    (hK : ∀ J, eqQ (Qnx m) I J → RepNX J (m + 1) (upN N m (-2, kd, -2, 1, e, [], bs)) → K (zi m) J) : w_Nodes_makeToken (zi kd) (zi bs.length) (hdT (bsF bs) 0 bs.length) (tlT (bsF bs) 0 bs.length) (zi e) I K := by
  unfold w_Nodes_makeToken w_Nodes_make
  intro v ev
  rw [rep.1] at ev
  subst ev
  refine (w_set (by decide)).mpr ?_
  rw [rs_in (by decide) hm]
  generalize e1 : zu I (25 + 1) m (-2) = J1
  refine (w_set (by decide)).mpr ?_
  rw [rs_in (by decide) hm]
  generalize e2 : zu J1 (27 + 1) m (5 + zi kd) = J2
  refine (w_set (by decide)).mpr ?_
  rw [rs_in (by decide) hm]
  generalize e3 : zu J2 (29 + 1) m (-2) = J3
  refine (w_set (by decide)).mpr ?_
  rw [rs_in (by decide) hm]
  generalize e4 : zu J3 (33 + 1) m (zi e) = J4
  intro J5 e5
  have g9 : J4.1 24 9 = zi m := by rw [← e4, zu_oo (by omega), ← e3, zu_oo (by omega), ← e2, zu_oo (by omega), ← e1, zu_oo (by omega)]; exact rep.1
  rw [g9, zi_succ] at e5
  refine (w_set (by decide)).mpr ?_
  rw [rs_in (by decide) hm]
  generalize e6 : zu J5 (31 + 1) m 1 = J6
  refine (w_set (by decide)).mpr ?_
  rw [rs_in (by decide) hm]
  generalize e7 : zu J6 (35 + 1) m (zi bs.length) = J7
  refine (w_set (by decide)).mpr ?_
  rw [rs_in (by decide) hm]
  generalize e8 : zu J7 (37 + 1) m (hdT (bsF bs) 0 bs.length) = J8
  refine (w_set (by decide)).mpr ?_
  rw [rs_in (by decide) hm]
  generalize e9 : zu J8 (39 + 1) m (tlT (bsF bs) 0 bs.length) = J9
  have f1 : eqQ (Qnx m) I J1 := by rw [← e1]; exact eqQ.rf.zu (Or.inr (Or.inl (by omega)))
  have f2 : eqQ (Qnx m) I J2 := by rw [← e2]; exact f1.zu (Or.inr (Or.inl (by omega)))
  have f3 : eqQ (Qnx m) I J3 := by rw [← e3]; exact f2.zu (Or.inr (Or.inl (by omega)))
  have f4 : eqQ (Qnx m) I J4 := by rw [← e4]; exact f3.zu (Or.inr (Or.inl (by omega)))
  have f5 : eqQ (Qnx m) I J5 := by rw [e5]; exact f4.zu (Or.inl ⟨rfl, rfl⟩)
  have f6 : eqQ (Qnx m) I J6 := by rw [← e6]; exact f5.zu (Or.inr (Or.inl (by omega)))
  have f7 : eqQ (Qnx m) I J7 := by rw [← e7]; exact f6.zu (Or.inr (Or.inl (by omega)))
  have f8 : eqQ (Qnx m) I J8 := by rw [← e8]; exact f7.zu (Or.inr (Or.inl (by omega)))
  have f9 : eqQ (Qnx m) I J9 := by rw [← e9]; exact f8.zu (Or.inr (Or.inl (by omega)))
  refine hK J9 f9 ⟨?_, fun k hk => ?_⟩
  · rw [← e9, zu_oo (by omega), ← e8, zu_oo (by omega), ← e7, zu_oo (by omega), ← e6, zu_oo (by omega), e5, zu_self]
  · by_cases hkm : k = m
    · subst hkm
      rw [upN_self]
      refine ⟨?_, ?_, ?_, ?_, ?_, (fun i c hi => by cases hi), fun _ => ⟨?_, ?_, ?_⟩⟩
      · rw [← e9, zu_oo (by omega), ← e8, zu_oo (by omega), ← e7, zu_oo (by omega), ← e6, zu_oo (by omega), e5, zu_oo (by omega), ← e4, zu_oo (by omega), ← e3, zu_oo (by omega), ← e2, zu_oo (by omega), ← e1, zu_self]
        rfl
      · rw [← e9, zu_oo (by omega), ← e8, zu_oo (by omega), ← e7, zu_oo (by omega), ← e6, zu_oo (by omega), e5, zu_oo (by omega), ← e4, zu_oo (by omega), ← e3, zu_oo (by omega), ← e2, zu_self]
        exact zi_add 5 kd
      · rw [← e9, zu_oo (by omega), ← e8, zu_oo (by omega), ← e7, zu_oo (by omega), ← e6, zu_oo (by omega), e5, zu_oo (by omega), ← e4, zu_oo (by omega), ← e3, zu_self]
        rfl
      · rw [← e9, zu_oo (by omega), ← e8, zu_oo (by omega), ← e7, zu_oo (by omega), ← e6, zu_self]
        rfl
      · rw [← e9, zu_oo (by omega), ← e8, zu_oo (by omega), ← e7, zu_oo (by omega), ← e6, zu_oo (by omega), e5, zu_oo (by omega), ← e4, zu_self]
        rfl
      · rw [← e9, zu_oo (by omega), ← e8, zu_oo (by omega), ← e7, zu_self]
        rfl
      · rw [← e9, zu_oo (by omega), ← e8, zu_self]
        rfl
      · rw [← e9, zu_self]
        rfl
    · rw [upN_o hkm]
      exact (rep.2 k (by omega)).kept (hc k (by omega)) (fun a h1 h2 => f9.1 a k (by unfold Qnx; omega)) (fun i hi => f9.1 42 _ (by unfold Qnx; omega))
/-- a node made by the model (its KIND and bytes, a token's, are set behind it) -/
theorem s_newNode {m tk e : Nat} {r : Int} {N : Nat → Nd} {I : zI} {K : Int32 → zI → Prop} (rep : RepNM I m N) (hc : ∀ k, k < m → (ndC (N k)).length ≤ 4) (hm : m < 3700) (he : I.1 491 36 = zi e)
    (hK : ∀ J, eqQ (Qnm m) I J → J.1 491 25 = zi (m + 1) → (∀ k, k < m → NdM J k (N k)) → J.1 509 m = Int32.ofInt r → J.1 514 m = -2 → J.1 515 m = zi tk → J.1 516 m = zi e → J.1 512 m = 0 → K (zi m) J) : w_M_newNode (Int32.ofInt r) (zi tk) I K := by
  intro v ev
  rw [rep.1] at ev
  subst ev
  have hin : vp_in (zi m) 3700 := (zin_iff (by omega)).mpr hm
  refine ⟨hin, fun J1 e1 => ⟨hin, fun J2 e2 => ⟨hin, fun J3 e3 => ⟨hin, fun J4 e4 => ⟨hin, fun J5 e5 => ⟨hin, fun J6 e6 => ⟨hin, fun J7 e7 => ⟨hin, fun J8 e8 J9 e9 => ?_⟩⟩⟩⟩⟩⟩⟩⟩
  rw [zi_tn (by omega)] at e1 e2 e3 e4 e5 e6 e7 e8
  have f1 : eqQ (Qnm m) I J1 := by rw [e1]; exact eqQ.rf.zu (Or.inr (Or.inl (by omega)))
  have f2 : eqQ (Qnm m) I J2 := by rw [e2]; exact f1.zu (Or.inr (Or.inl (by omega)))
  have f3 : eqQ (Qnm m) I J3 := by rw [e3]; exact f2.zul (Or.inr (Or.inl (by omega)))
  have f4 : eqQ (Qnm m) I J4 := by rw [e4]; exact f3.zu (Or.inr (Or.inl (by omega)))
  have f5 : eqQ (Qnm m) I J5 := by rw [e5]; exact f4.zu (Or.inr (Or.inr (Or.inl (by omega))))
  have f6 : eqQ (Qnm m) I J6 := by rw [e6]; exact f5.zu (Or.inr (Or.inr (Or.inl (by omega))))
  have g36 : J6.1 491 36 = zi e := by rw [f6.1 491 36 (by unfold Qnm; omega)]; exact he
  rw [g36] at e7
  have f7 : eqQ (Qnm m) I J7 := by rw [e7]; exact f6.zu (Or.inr (Or.inr (Or.inl (by omega))))
  have f8 : eqQ (Qnm m) I J8 := by rw [e8]; exact f7.zu (Or.inr (Or.inr (Or.inl (by omega))))
  have g25 : J8.1 491 25 = zi m := by
    rw [e8, zu_oo (by omega), e7, zu_oo (by omega), e6, zu_oo (by omega), e5, zu_oo (by omega), e4, zu_oo (by omega), e3, zul_1, e2, zu_oo (by omega), e1, zu_oo (by omega)]
    exact rep.1
  rw [g25, zi_succ] at e9
  have f9 : eqQ (Qnm m) I J9 := by rw [e9]; exact f8.zu (Or.inl ⟨rfl, rfl⟩)
  refine hK J9 f9 (by rw [e9, zu_self]) (fun k hk => (rep.2 k hk).kept (hc k hk) (fun a h1 h2 h3 => f9.1 a k (by unfold Qnm; omega)) (fun i hi => f9.1 513 _ (by unfold Qnm; omega)) (f9.2 511 k (by unfold Qnm; omega))) ?_ ?_ ?_ ?_ ?_
  · rw [e9, zu_oo (by omega), e8, zu_oo (by omega), e7, zu_oo (by omega), e6, zu_oo (by omega), e5, zu_oo (by omega), e4, zu_oo (by omega), e3, zul_1, e2, zu_oo (by omega), e1, zu_self]
  · rw [e9, zu_oo (by omega), e8, zu_oo (by omega), e7, zu_oo (by omega), e6, zu_oo (by omega), e5, zu_self]
  · rw [e9, zu_oo (by omega), e8, zu_oo (by omega), e7, zu_oo (by omega), e6, zu_self]
  · rw [e9, zu_oo (by omega), e8, zu_oo (by omega), e7, zu_self]
  · rw [e9, zu_oo (by omega), e8, zu_oo (by omega), e7, zu_oo (by omega), e6, zu_oo (by omega), e5, zu_oo (by omega), e4, zu_self]
