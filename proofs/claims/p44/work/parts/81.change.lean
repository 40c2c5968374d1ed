/-! ===== moments, the class ===== -/
theorem s_now {s : Nat} {I : zI} {K : Nat → Prop} (hs : s < 21) (h4 : I.1 0 4 = zi s) (hK : K (zmom s)) : w_Desk_now I K := by
  intro P35 h35 P31 h31
  rw [h4, if_neg (zi_pos (by omega)), if_neg (show ¬ (21 : Int32) ≤ zi s from fun u => by have := (zi_le (a := 21) (by decide) (by omega)).mp u; omega), zi_tn (show s < 2147483648 by omega)]
  exact ⟨(zin_iff (by omega)).mpr hs, h35 _ hK⟩
theorem eqX.at {lo hi : Nat} {I J : zI} (h : eqX lo hi I J) {a j : Nat} (ha : a < lo ∨ hi ≤ a) : J.1 a j = I.1 a j := congrFun (h a ha).1 j
theorem s_keepGood {k a c : Nat} {I : zI} {K : zI → Prop} (hka : k + 18 ≤ a ∨ a + 18 ≤ k) (hc : c ≤ 100) (h6 : I.1 a 6 = zi c) (hK : ∀ J, eqX k (k + 18) I J → J.1 k 3 = 0 → J.1 k 7 = I.1 a 7 → J.1 k 8 = I.1 a 8 → J.1 k 6 = zi c → (∀ j, j < c → J.1 (k + 15) j = I.1 (a + 15) j) → (∀ j, j < c → J.1 (k + 17) j = I.1 (a + 17) j) → (∀ b j, (k < b ∧ b < k + 14) ∨ (b = k ∧ j < 3) → J.1 b j = I.1 b j) → K J) : w_Moment_keepGood k a I K := by
  intro I1 e1 I2 e2 I3 e3 I4 e4
  have o4 : ∀ b, b ≠ k → I4.1 b = I.1 b := fun b hb => by rw [e4, zu_o hb, e3, zu_o hb, e2, zu_o hb, e1, zu_o hb]
  have x4 : eqX k (k + 18) I I4 := by
    rw [e4, e3, e2, e1]
    exact (((eqX.rf.zu (Nat.le_refl _) (by omega)).zu (Nat.le_refl _) (by omega)).zu (Nat.le_refl _) (by omega)).zu (Nat.le_refl _) (by omega)
  have hak : a ≠ k := by omega
  have g6 : I4.1 k 6 = zi c := by
    rw [e4, zu_self, e3, zu_o hak, e2, zu_o hak, e1, zu_o hak]
    exact h6
  have g3 : I4.1 k 3 = 0 := by rw [e4, zu_i (by decide), e3, zu_i (by decide), e2, zu_i (by decide), e1, zu_self]
  have g7 : I4.1 k 7 = I.1 a 7 := by rw [e4, zu_i (by decide), e3, zu_i (by decide), e2, zu_self, e1, zu_o hak]
  have g8 : I4.1 k 8 = I.1 a 8 := by rw [e4, zu_i (by decide), e3, zu_self, e2, zu_o hak, e1, zu_o hak]
  have gl : ∀ j, j < 3 → I4.1 k j = I.1 k j := fun j hj => by rw [e4, zu_i (by omega), e3, zu_i (by omega), e2, zu_i (by omega), e1, zu_i (by omega)]
  rw [g6]
  refine s_copy (by decide) (by decide) hc hc (fun J5 q5 v5 => ?_)
  rw [q5.at (by omega), g6]
  refine s_copy (by decide) (by decide) hc hc (fun J6 q6 v6 => ?_)
  refine hK J6 ((x4.tr (q5.mono (by omega) (by omega))).tr (q6.mono (by omega) (by omega))) ?_ ?_ ?_ ?_ (fun j hj => ?_) (fun j hj => ?_) (fun b j hb => ?_)
  · rw [q6.at (by omega), q5.at (by omega)]; exact g3
  · rw [q6.at (by omega), q5.at (by omega)]; exact g7
  · rw [q6.at (by omega), q5.at (by omega)]; exact g8
  · rw [q6.at (by omega), q5.at (by omega)]; exact g6
  · rw [q6.at (by omega), show k + 15 = k + 14 + 1 from rfl, v5, if_pos hj, o4 _ (by omega)]
  · rw [show k + 17 = k + 16 + 1 from rfl, v6, if_pos hj, q5.at (by omega), o4 _ (by omega)]
  · rw [q6.at (by omega), q5.at (by omega)]
    rcases hb with ⟨u1, u2⟩ | ⟨u1, u2⟩
    · rw [o4 _ (by omega)]
    · rw [u1]
      exact gl j u2
theorem s_beGood {R c : Nat} {I : zI} {K : zI → Prop} (hc : c ≤ 100) (h5 : I.1 7 5 = zi c) (hK : ∀ J, eqX 4 22 I J → J.1 4 3 = 1 → J.1 4 7 = zi R → J.1 4 6 = zi c → (∀ j, j < c → J.1 21 j = I.1 11 j) → (∀ b j, (4 < b ∧ b < 20) ∨ (b = 4 ∧ j < 3) → J.1 b j = I.1 b j) → K J) : w_Moment_beGood 4 (zi R) I K := by
  intro I1 e1 I2 e2 I3 e3
  have o3 : ∀ b, b ≠ 4 → I3.1 b = I.1 b := fun b hb => by rw [e3, zu_o hb, e2, zu_o hb, e1, zu_o hb]
  have x3 : eqX 4 22 I I3 := by
    rw [e3, e2, e1]
    exact ((eqX.rf.zu (Nat.le_refl _) (by omega)).zu (Nat.le_refl _) (by omega)).zu (Nat.le_refl _) (by omega)
  have g6 : I3.1 4 6 = zi c := by
    rw [e3, zu_self, e2, zu_o (by decide), e1, zu_o (by decide)]
    exact h5
  rw [g6]
  refine s_copy (by decide) (by decide) hc hc (fun J q v => ?_)
  refine hK J (x3.tr (q.mono (by omega) (by omega))) ?_ ?_ ?_ (fun j hj => ?_) (fun b j hb => ?_)
  · rw [q.at (by omega), e3, zu_i (by decide), e2, zu_i (by decide), e1, zu_self]
  · rw [q.at (by omega), e3, zu_i (by decide), e2, zu_self]
  · rw [q.at (by omega)]; exact g6
  · rw [show (21 : Nat) = 4 + 16 + 1 from rfl, v, if_pos hj, o3 _ (by decide)]
  · rw [q.at (by omega)]
    rcases hb with ⟨u1, u2⟩ | ⟨u1, u2⟩
    · rw [o3 _ (by omega)]
    · rw [u1, e3, zu_i (by omega), e2, zu_i (by omega), e1, zu_i (by omega)]
theorem s_tokCopy {k a c : Nat} {I : zI} {K : zI → Prop} (hka : k + 11 ≤ a ∨ a + 11 ≤ k) (hc : c ≤ 100) (h5 : I.1 a 5 = zi c) (hK : ∀ J, eqX k (k + 11) I J → J.1 k 5 = zi c → (∀ i j, i < 5 → j < c → J.1 (k + 2 + 2 * i) j = I.1 (a + 2 + 2 * i) j) → K J) : w_Tokens_copyFrom k a I K := by
  intro I1 e1
  have hak : a ≠ k := by omega
  have x1 : eqX k (k + 11) I I1 := by
    rw [e1]
    exact eqX.rf.zu (Nat.le_refl _) (by omega)
  have o1 : ∀ b, b ≠ k → I1.1 b = I.1 b := fun b hb => by rw [e1, zu_o hb]
  have g1 : I1.1 k 5 = zi c := by rw [e1, zu_self, h5]
  rw [g1]
  refine s_copy (by decide) (by decide) hc hc (fun J2 q2 v2 => ?_)
  rw [q2.at (a := k) (by omega), g1]
  refine s_copy (by decide) (by decide) hc hc (fun J3 q3 v3 => ?_)
  rw [q3.at (a := k) (by omega), q2.at (a := k) (by omega), g1]
  refine s_copy (by decide) (by decide) hc hc (fun J4 q4 v4 => ?_)
  rw [q4.at (a := k) (by omega), q3.at (a := k) (by omega), q2.at (a := k) (by omega), g1]
  refine s_copy (by decide) (by decide) hc hc (fun J5 q5 v5 => ?_)
  rw [q5.at (a := k) (by omega), q4.at (a := k) (by omega), q3.at (a := k) (by omega), q2.at (a := k) (by omega), g1]
  refine s_copy (by decide) (by decide) hc hc (fun J6 q6 v6 => ?_)
  refine hK J6 (((((x1.tr (q2.mono (by omega) (by omega))).tr (q3.mono (by omega) (by omega))).tr (q4.mono (by omega) (by omega))).tr (q5.mono (by omega) (by omega))).tr (q6.mono (by omega) (by omega))) ?_ (fun i j hi hj => ?_)
  · rw [q6.at (by omega), q5.at (by omega), q4.at (by omega), q3.at (by omega), q2.at (by omega)]; exact g1
  · rcases (show i = 0 ∨ i = 1 ∨ i = 2 ∨ i = 3 ∨ i = 4 by omega) with rfl | rfl | rfl | rfl | rfl
    · rw [q6.at (by omega), q5.at (by omega), q4.at (by omega), q3.at (by omega), show k + 2 + 2 * 0 = k + 1 + 1 from rfl, v2, if_pos hj, o1 _ (by omega)]
    · rw [q6.at (by omega), q5.at (by omega), q4.at (by omega), show k + 2 + 2 * 1 = k + 3 + 1 from rfl, v3, if_pos hj, q2.at (by omega), o1 _ (by omega)]
    · rw [q6.at (by omega), q5.at (by omega), show k + 2 + 2 * 2 = k + 5 + 1 from rfl, v4, if_pos hj, q3.at (by omega), q2.at (by omega), o1 _ (by omega)]
    · rw [q6.at (by omega), show k + 2 + 2 * 3 = k + 7 + 1 from rfl, v5, if_pos hj, q4.at (by omega), q3.at (by omega), q2.at (by omega), o1 _ (by omega)]
    · rw [show k + 2 + 2 * 4 = k + 9 + 1 from rfl, v6, if_pos hj, q5.at (by omega), q4.at (by omega), q3.at (by omega), q2.at (by omega), o1 _ (by omega)]
theorem MoX.kp {I J : zI} {k : Nat} {x : Mo} (h : MoX I k x) (e : ∀ a j, k ≤ a → a < k + 18 → J.1 a j = I.1 a j) : MoX J k x := by
  obtain ⟨h1, h2, ⟨h3, h4⟩, h5, h6, h7, h8, h9, h10⟩ := h
  refine ⟨by rw [e _ _ (by omega) (by omega)]; exact h1, fun j hj => by rw [e _ _ (by omega) (by omega)]; exact h2 j hj, ⟨by rw [e _ _ (by omega) (by omega)]; exact h3, fun j y hy => ?_⟩, by rw [e _ _ (by omega) (by omega)]; exact h5, by rw [e _ _ (by omega) (by omega)]; exact h6, fun j hj => by rw [e _ _ (by omega) (by omega)]; exact h7 j hj, fun j y hy => by rw [e _ _ (by omega) (by omega)]; exact h8 j y hy, by rw [e _ _ (by omega) (by omega)]; exact h9, by rw [e _ _ (by omega) (by omega)]; exact h10⟩
  rw [e _ _ (by omega) (by omega), e _ _ (by omega) (by omega), e _ _ (by omega) (by omega), e _ _ (by omega) (by omega), e _ _ (by omega) (by omega)]
  exact h4 j y hy
/-- a moment copied -/
theorem s_momCopy {k a : Nat} {x : Mo} {I : zI} {K : zI → Prop} (hka : k + 18 ≤ a ∨ a + 18 ≤ k) (hT : txOk (moT x)) (hG : txOk (moG x)) (hX : MoX I a x) (hK : ∀ J, eqX k (k + 18) I J → MoX J k x → K J) : w_Moment_copyFrom k a I K := by
  obtain ⟨h1, h2, ⟨h3, h4⟩, h5, h6, h7, h8, h9, h10⟩ := id hX
  have hak : a ≠ k := by omega
  intro I1 e1
  have o1 : ∀ b, b ≠ k → I1.1 b = I.1 b := fun b hb => by rw [e1, zu_o hb]
  have g1 : I1.1 k 1 = zi (moT x).length := by rw [e1, zu_self, h1]
  have x1 : eqX k (k + 18) I I1 := by
    rw [e1]
    exact eqX.rf.zu (Nat.le_refl _) (by omega)
  rw [g1]
  refine s_copy (by decide) (by decide) hT.1 hT.1 (fun J2 q2 v2 => ?_)
  have y2 : eqX k (k + 18) I J2 := x1.tr (q2.mono (by omega) (by omega))
  refine s_tokCopy (c := (lexL (moT x)).length) (by omega) hT.2.2 (by rw [y2.at (by omega)]; exact h3) (fun J3 q3 g3 v3 => ?_)
  have y3 : eqX k (k + 18) I J3 := y2.tr (q3.mono (by omega) (by omega))
  refine s_keepGood (c := (lexL (moG x)).length) hka hG.2.2 (by rw [y3.at (by omega)]; exact h6) (fun J4 q4 w1 w2 w2r w3 w4 w5 w6 => ?_)
  have y4 : eqX k (k + 18) I J4 := y3.tr q4
  have a3 : J4.1 a 3 = b01 (moB x) := by rw [y4.at (by omega)]; exact h5
  rw [a3]
  refine ⟨?_, fun I5 e5 => ?_⟩
  · cases moB x
    · exact Or.inl rfl
    · exact Or.inr rfl
  have o5 : ∀ b j, ¬ (b = k ∧ j = 3) → I5.1 b j = J4.1 b j := fun b j u => by rw [e5, zu_at, if_neg u]
  refine hK I5 (by rw [e5]; exact y4.zu (Nat.le_refl _) (by omega)) ⟨?_, fun j hj => ?_, ⟨?_, fun j y hy => ?_⟩, ?_, ?_, fun j hj => ?_, fun j y hy => ?_, ?_, ?_⟩
  · rw [o5 _ _ (by omega), w6 _ _ (by omega), q3.at (by omega), q2.at (by omega)]
    exact g1
  · rw [o5 _ _ (by omega), w6 _ _ (by omega), q3.at (by omega), show k + 2 = k + 1 + 1 from rfl, v2, if_pos hj, o1 _ (by omega)]
    exact h2 j hj
  · rw [o5 _ _ (by omega), w6 _ _ (by omega)]
    exact g3
  · have hj := (List.getElem?_eq_some_iff.mp hy).1
    have tk : ∀ i, i < 5 → I5.1 (k + 3 + 2 + 2 * i) j = I.1 (a + 3 + 2 + 2 * i) j := fun i hi => by
      rw [o5 _ _ (by omega), w6 _ _ (by omega), v3 i j hi hj, y2.at (by omega)]
    obtain ⟨z1, z2, z3, z4, z5⟩ := h4 j y hy
    exact ⟨(tk 0 (by decide)).trans z1, (tk 1 (by decide)).trans z2, (tk 2 (by decide)).trans z3, (tk 3 (by decide)).trans z4, (tk 4 (by decide)).trans z5⟩
  · rw [e5, zu_self]
  · rw [o5 _ _ (by omega)]
    exact w3
  · rw [o5 _ _ (by omega), w4 j hj, y3.at (by omega)]
    exact h7 j hj
  · have hj := (List.getElem?_eq_some_iff.mp hy).1
    rw [o5 _ _ (by omega), w5 j hj, y3.at (by omega)]
    exact h8 j y hy
  · rw [o5 _ _ (by omega), w2, y3.at (by omega)]
    exact h9
  · rw [o5 _ _ (by omega), w2r, y3.at (by omega)]
    exact h10
/-- the next moment is the draft -/
theorem s_turn {x : Sg} {c : Mo} {I : zI} {K : zI → Prop} {s : Nat} (hs : s < 21) (h4 : I.1 0 4 = zi s) (h5 : I.1 0 5 = zi (sgA x).length) (hlA : (sgA x).length ≤ 20) (hc : MoX I 4 c) (hcT : txOk (moT c)) (hcG : txOk (moG c)) (hC : MoX I (zmom s) (sgC x)) (hA : ∀ (k : Nat) (y : Mo), (sgA x)[k]? = some y → MoX I (zmom ((s + 20 - k) % 21)) y)
    (hK : ∀ J, eqQ (fun a j => (a = 0 ∧ 4 ≤ j ∧ j ≤ 6) ∨ (113 ≤ a ∧ a < 491)) I J → J.1 0 5 = zi ((sgC x :: sgA x).take 20).length → J.1 0 6 = 0 → (∃ s', s' < 21 ∧ J.1 0 4 = zi s' ∧ MoX J (zmom s') c ∧ ∀ (k : Nat) (y : Mo), ((sgC x :: sgA x).take 20)[k]? = some y → MoX J (zmom ((s' + 20 - k) % 21)) y) → K J) : w_Desk_turnToNext I K := by
  unfold w_Desk_turnToNext w_Desk_nextSlot
  have zm : ∀ i, zmom i = 113 + 18 * i := fun i => rfl
  have rest : ∀ s', s' = (s + 1) % 21 → ∀ I2, I2 = zu I 0 4 (zi s') → w_Desk_now I2 (fun r_3 => w_Moment_copyFrom r_3 4 I2 (fun I_4 => ∀ I_5, I_5 = (zu I_4 0 5 (if ((I_4.1 0 5) + 1) < 20 then ((I_4.1 0 5) + 1) else 20)) → ∀ I_6, I_6 = (zu I_5 0 6 0) → K I_6)) := by
    intro s' es I2 e2
    have hs' : s' < 21 := by omega
    refine s_now hs' (by rw [e2, zu_self]) ?_
    have o2 : ∀ a j, ¬ (a = 0 ∧ j = 4) → I2.1 a j = I.1 a j := fun a j u => by rw [e2, zu_at, if_neg u]
    have z1 := zm s'
    refine s_momCopy (by omega) hcT hcG (hc.kp (fun a j _ _ => o2 a j (by omega))) (fun J qJ mJ I5 e5 I6 e6 => ?_)
    have gJ : J.1 0 5 = zi (sgA x).length := by rw [qJ.at (by omega), o2 _ _ (by omega)]; exact h5
    have hmin : (if (J.1 0 5 + 1) < 20 then (J.1 0 5 + 1) else 20) = zi ((sgC x :: sgA x).take 20).length := by
      rw [gJ, zi_succ, List.length_take, List.length_cons]
      by_cases u : (sgA x).length + 1 < 20
      · rw [if_pos (show zi ((sgA x).length + 1) < 20 from (zi_lt (b := 20) (by omega) (by decide)).mpr u), Nat.min_eq_right (by omega)]
      · rw [if_neg (show ¬ zi ((sgA x).length + 1) < 20 from fun v => u ((zi_lt (b := 20) (by omega) (by decide)).mp v)), Nat.min_eq_left (by omega)]
        rfl
    rw [hmin] at e5
    have o6 : ∀ a j, a ≠ 0 → I6.1 a j = J.1 a j := fun a j u => by rw [e6, zu_oo u, e5, zu_oo u]
    have q6 : eqQ (fun a j => (a = 0 ∧ 4 ≤ j ∧ j ≤ 6) ∨ (113 ≤ a ∧ a < 491)) I I6 := by
      have q2 : eqQ (fun a j => (a = 0 ∧ 4 ≤ j ∧ j ≤ 6) ∨ (113 ≤ a ∧ a < 491)) I I2 := by
        rw [e2]
        exact eqQ.rf.zu (Or.inl ⟨rfl, by decide, by decide⟩)
      have q3 : eqQ (fun a j => (a = 0 ∧ 4 ≤ j ∧ j ≤ 6) ∨ (113 ≤ a ∧ a < 491)) I J := eqX.q q2 qJ (fun a j h1 h2 => Or.inr ⟨by omega, by omega⟩)
      rw [e6, e5]
      exact (q3.zu (Or.inl ⟨rfl, by decide, by decide⟩)).zu (Or.inl ⟨rfl, by decide, by decide⟩)
    refine hK I6 q6 (by rw [e6, zu_i (by decide), e5, zu_self]) (by rw [e6, zu_self]) ⟨s', hs', ?_, mJ.kp (fun a j u1 u2 => o6 a j (by omega)), fun k y hy => ?_⟩
    · rw [e6, zu_i (by decide), e5, zu_i (by decide), qJ.at (by omega), e2, zu_self]
    · have hk := (List.getElem?_eq_some_iff.mp hy).1
      rw [List.length_take] at hk
      have hk20 : k < 20 := by omega
      rw [List.getElem?_take, if_pos hk20] at hy
      have old : ∀ r, r < 21 → r ≠ s' → MoX I (zmom r) y → MoX I6 (zmom r) y := fun r hr hrs hm => hm.kp (fun a j u1 u2 => by
        have z2 := zm r
        rw [o6 a j (by omega), qJ.at (by omega), o2 _ _ (by omega)])
      cases k with
      | zero =>
        cases hy
        rw [show (s' + 20 - 0) % 21 = s by omega]
        exact old s hs (by omega) hC
      | succ k =>
        rw [List.getElem?_cons_succ] at hy
        have := hA k y hy
        rw [show (s + 20 - k) % 21 = (s' + 20 - (k + 1)) % 21 by omega] at this
        exact old _ (by omega) (by omega) this
  rw [h4]
  by_cases u : s < 20
  · rw [if_pos (show zi s < 20 from (zi_lt (b := 20) (by omega) (by decide)).mpr u), zi_succ]
    exact rest (s + 1) (by omega)
  · rw [if_neg (show ¬ zi s < 20 from fun v => u ((zi_lt (b := 20) (by omega) (by decide)).mp v))]
    exact rest 0 (by omega)
/-! ===== a change: the class ===== -/
theorem TapX.kp {I J : zI} {t : List Int32} (h : TapX I t) (e1 : J.1 0 1 = I.1 0 1) (e2 : ∀ j, J.1 2 j = I.1 2 j) : TapX J t := ⟨e1.trans h.1, fun j v hj => by rw [e2]; exact h.2 j v hj⟩
theorem ViX.pr {I J : zI} {N : Nat → Nd} {R : Nat} (h : ViX I N R) (e : ∀ a j, (43 ≤ a ∧ a ≤ 63) ∨ (69 ≤ a ∧ a ≤ 83) → J.1 a j = I.1 a j) (p : PnX J N R) : ViX J N R := by
  obtain ⟨v1, v2, v3, v4, v5, v6, v7, -⟩ := h
  refine ⟨(e 43 13 (by omega)).trans v1, v2.kp (fun a j h1 h2 => e a j (by omega)), fun p x hx => by rw [e 53 p (by omega), e 55 p (by omega)]; exact v3 p x hx, ⟨(e 43 11 (by omega)).trans v4.1, fun i r hi => (e 63 i (by omega)).trans (v4.2 i r hi)⟩, fun c hc => ?_, fun r hr => (e 61 r (by omega)).trans (v6 r hr), v7.kp (fun a j u1 u2 => e a j (by omega)), p⟩
  obtain ⟨p, p1, p2⟩ := v5 c hc
  exact ⟨p, p1, (e 47 c (by omega)).trans p2⟩
theorem ViX.kp {I J : zI} {N : Nat → Nd} {R : Nat} (h : ViX I N R) (e : ∀ a j, (43 ≤ a ∧ a ≤ 63) ∨ (69 ≤ a ∧ a ≤ 83) ∨ a = 110 ∨ (a = 0 ∧ j = 18) → J.1 a j = I.1 a j) : ViX J N R :=
  h.pr (fun a j u => e a j (by omega)) ⟨(e 0 18 (by omega)).trans h.2.2.2.2.2.2.2.1, fun i v hi => (e 110 i (by omega)).trans (h.2.2.2.2.2.2.2.2 i v hi)⟩
theorem PrX.kp {I J : zI} {pl : List (Nat × Nat)} (h : PrX I pl) (e : ∀ a j, 88 ≤ a → a ≤ 96 → (a = 88 → j = 4) → J.1 a j = I.1 a j) : PrX J pl := by
  obtain ⟨h1, h2, h3, h4⟩ := h
  refine ⟨by rw [e 88 4 (by decide) (by decide) (fun _ => rfl)]; exact h1, fun i p hi => ?_, fun v hv => by rw [e 96 _ (by decide) (by decide) (by omega)]; exact h3 v hv, h4⟩
  rw [e 90 _ (by decide) (by decide) (by omega), e 92 _ (by decide) (by decide) (by omega), e 94 _ (by decide) (by decide) (by omega)]
  exact h2 i p hi
theorem RX.pr {I J : zI} {x : Sg} (hv : Iv x) (h : RX I x) (e : ∀ a j, ((a = 0 ∧ (j = 1 ∨ (4 ≤ j ∧ j ≤ 7))) ∨ a = 23 ∨ (69 ≤ a ∧ a ≤ 87) ∨ a = 2 ∨ (a = 24 ∧ j = 9) ∨ (25 ≤ a ∧ a ≤ 63) ∨ (a = 88 ∧ j = 4) ∨ (89 ≤ a ∧ a ≤ 96) ∨ (113 ≤ a ∧ a < 491)) → J.1 a j = I.1 a j) (pn : PnX J (sgN x) (moR (sgC x))) : RX J x := by
  obtain ⟨r1, r2, r3, r4, r5, r6, r7, s, hs, s4, sC, sA, sZ⟩ := h
  have zm : ∀ i, zmom i = 113 + 18 * i := fun i => rfl
  have mk : ∀ i y, i < 21 → MoX I (zmom i) y → MoX J (zmom i) y := fun i y hi hm => hm.kp (fun a j u1 u2 => e a j (by have := zm i; omega))
  exact ⟨r1.kp (e _ _ (by omega)) (fun j => e _ _ (by omega)), r2.kp hv.2.1.ch (fun a j h1 h2 h3 => e a j (by omega)), r3.pr (fun a j h => e a j (by omega)) pn, r4.kp (fun a j h1 h2 h3 => e a j (by omega)), r5.kp (fun a j u => e a j (by omega)), by rw [e _ _ (by omega)]; exact r6, by rw [e _ _ (by omega)]; exact r7, s, hs, by rw [e _ _ (by omega)]; exact s4, mk _ _ hs sC, fun k y hy => mk _ _ (by omega) (sA k y hy), fun k y hy => mk _ _ (by omega) (sZ k y hy)⟩
theorem RX.kp {I J : zI} {x : Sg} (hv : Iv x) (h : RX I x) (e : ∀ a j, ((a = 0 ∧ (j = 1 ∨ (4 ≤ j ∧ j ≤ 7) ∨ j = 18)) ∨ a = 23 ∨ (69 ≤ a ∧ a ≤ 87) ∨ a = 110 ∨ a = 2 ∨ (a = 24 ∧ j = 9) ∨ (25 ≤ a ∧ a ≤ 63) ∨ (a = 88 ∧ j = 4) ∨ (89 ≤ a ∧ a ≤ 96) ∨ (113 ≤ a ∧ a < 491)) → J.1 a j = I.1 a j) : RX J x :=
  RX.pr hv h (fun a j u => e a j (by omega)) ⟨(e 0 18 (by omega)).trans h.2.2.1.2.2.2.2.2.2.2.1, fun i v hi => (e 110 i (by omega)).trans (h.2.2.1.2.2.2.2.2.2.2.2 i v hi)⟩
theorem oldX_of {m k : Nat} {N : Nat → Nd} {c : Mo} {I : zI} (rep : RepNX I m N) (hm : m ≤ 3400) (o : MoOk m N c) (h : MoX I k c) : OldX I k (txF (moG c)) (lexL (moG c)) := by
  obtain ⟨o1, o2, o3, o4, o5⟩ := o
  obtain ⟨h1, h2, h3, h5, h6, h7, h8, h9⟩ := h
  refine ⟨h6, fun j y hy => ?_⟩
  have hj := (List.getElem?_eq_some_iff.mp hy).1
  obtain ⟨t1, t2⟩ := o4.2.2.2.2.1 j hj
  obtain ⟨k1, k2⟩ := o5 j y hy
  obtain ⟨n1, n2, n3, n4, n5, n6, n7⟩ := rep.2 _ t1
  obtain ⟨l1, l2, l3⟩ := n7 (by omega)
  rw [k2] at l1 l2 l3
  refine ⟨moO c j, by omega, h7 j hj, ?_, ?_, ?_, ?_⟩
  · rw [n2]
    unfold ndM
    rw [t2, if_pos (by decide), k1]
  · rw [l1, tkBs_len]
  · rw [l2, hdT_bs]
  · rw [l3, tlT_bs]
/-- what a change of the class may touch -/
def Qcl (a j : Nat) : Prop := a < 491
theorem zi_brk {a b c n : Nat} {v : Int32} (h : a + c = b + n) (hv : v = zi c) : zi a - (zi b - v) = zi n := by
  rw [hv]
  have h1 : zi n + (zi b - zi c) + zi c = zi a + zi c := by
    rw [Int32.add_assoc, Int32.sub_add_cancel, zi_add, zi_add, h, Nat.add_comm]
  have h2 := congrArg (fun z => z - zi c) h1
  rw [Int32.add_sub_cancel, Int32.add_sub_cancel] at h2
  rw [← h2, Int32.add_sub_cancel]
theorem s_change {x : Sg} {d : List Int32} {bt : Bool} {I : zI} {K : Int32 → zI → Prop} (hv : Iv x) (hR : RX I x) (hdb : ∀ j, j < d.length → byt (txF d j)) (hd1 : I.1 4 1 = zi d.length) (hd2 : d.length ≤ 300 → ∀ j, j < d.length → I.1 6 j = txF d j) (hdl : d.length < 100000) (he : sgE x < 512)
    (h0 : refu x d → ∀ J, eqQ Qcl I J → RX J x → K (-1) J)
    (h1 : ¬ refu x d → ∀ J, eqQ Qcl I J → RX J (chg x d (if bt = true then [] else sgT x)) → K (if (regY x d).1 + 1 = (lexL d).length ∧ topS (regY x d).2.2.2.1 = 1 then 0 else 1) J) : w_Desk_change (b01 bt) I K := by
  obtain ⟨r1, r2, r3, r4, r5, r6, r7, s, hs, s4, sC, sA, sZ⟩ := id hR
  obtain ⟨r5, r5r, n0, hn0, rx0⟩ := r5
  obtain ⟨hTp, hN, hu, hm, hTk, ⟨hP1, hP2⟩, ⟨hE, hWr⟩, hC, hA, hZ, hAZ⟩ := id hv
  unfold w_Desk_change
  rw [hd1, r2.1, r4.1]
  by_cases c1 : 300 < d.length
  · rw [if_pos (show (300 : Int32) < zi d.length from (zi_lt (a := 300) (by decide) (by omega)).mpr c1)]
    exact h0 (Or.inl c1) I eqQ.rf hR
  rw [if_neg (show ¬ (300 : Int32) < zi d.length from fun u => c1 ((zi_lt (a := 300) (by decide) (by omega)).mp u))]
  by_cases c2 : 3000 ≤ sgM x
  · rw [if_pos (show (3000 : Int32) ≤ zi (sgM x) from (zi_le (a := 3000) (by decide) (by omega)).mpr c2)]
    exact h0 (Or.inr (Or.inl c2)) I eqQ.rf hR
  rw [if_neg (show ¬ (3000 : Int32) ≤ zi (sgM x) from fun u => c2 ((zi_le (a := 3000) (by decide) (by omega)).mp u))]
  by_cases c3 : 3900 ≤ (sgP x).length
  · rw [if_neg (show ¬ zi (sgP x).length < 3900 from fun u => by have := (zi_lt (b := 3900) (by omega) (by decide)).mp u; omega)]
    exact h0 (Or.inr (Or.inr (Or.inl c3))) I eqQ.rf hR
  rw [if_pos (show zi (sgP x).length < 3900 from (zi_lt (b := 3900) (by omega) (by decide)).mpr (by omega))]
  have hlx : (lexL d).length = (lexF (txF d) d.length d.length 0).length + 1 := by
    show (lexF (txF d) d.length d.length 0 ++ [(10, d.length, 0)]).length = _
    rw [List.length_append]
    rfl
  refine s_readAll (by decide) (by omega) (hd2 (by omega)) (by decide) (fun c4 I2 q2 tk2 => ?_) (fun c4 I2 q2 => ?_)
  rotate_left
  · rw [if_pos rfl]
    refine h0 (Or.inr (Or.inr (Or.inr (by omega)))) I2 (eqX.q eqQ.rf q2 (fun a j u1 u2 => by unfold Qcl; omega)) (hR.kp hv (fun a j u => q2.at (by omega)))
  rw [if_neg (by decide)]
  have hd : txOk d := ⟨by omega, hdb, by omega⟩
  have hnr : ¬ refu x d := by
    unfold refu
    omega
  have h1 := h1 hnr
  obtain ⟨m1, g, N1, k, y, hreg, hn, hrun, ⟨ge, gi, hog, hm0, hm1⟩, g1, g2, g3, g4, g5, g6, g7, g8⟩ := reg_ok hv hd
  have hY : regY x d = y := by
    unfold regY
    rw [hreg]
  have hgN : (reg x d).1.2.1 = g := by rw [hreg]
  have hM1 : (reg x d).1.1 = m1 := by rw [hreg]
  have hK1 : (reg x d).2.1 = k := by rw [hreg]
  obtain ⟨oT, oG, oB, oR, oK⟩ := id hC
  have zm : ∀ i, zmom i = 113 + 18 * i := fun i => rfl
  have zms := zm s
  have lxd := lex_lxo hd
  have lxg := lex_lxo oG
  obtain ⟨kl1, kl2, kl3⟩ := kept_le (t := txF d) (t' := txF (moG (sgC x))) lxd.2.1 lxg.2.1
  intro P83 h83
  -- the tape then
  have tape : ∀ t3 : Int32, t3 = (if bt = true then 0 else zi (sgT x).length) → P83 t3 := by
    intro t3 et3
    refine h83 t3 ?_
    intro I4 e4 I5 e5 v2 ev2
    have o2 : ∀ a j, ¬ (7 ≤ a ∧ a < 18) → I2.1 a j = I.1 a j := fun a j u => q2.at (by omega)
    rw [e4, zu_i (by decide), o2 0 7 (by omega), r5, zi_succ, ← e4] at e5
    have o5 : ∀ a j, ¬ (a = 0 ∧ (j = 1 ∨ j = 7)) → ¬ (7 ≤ a ∧ a < 18) → I5.1 a j = I.1 a j := fun a j u v => by
      rw [e5, zu_at, if_neg (by omega), e4, zu_at, if_neg (by omega), o2 a j v]
    have g07 : I5.1 0 7 = zi (sgE x + 1) := by rw [e5, zu_self]
    have g01 : I5.1 0 1 = t3 := by rw [e5, zu_i (by decide), e4, zu_self]
    rw [o5 24 9 (by omega) (by omega), r2.1] at ev2
    subst ev2
    refine s_ruledSize (N := sgN x) (L := flR (sgN x) (moR (sgC x))) (fun r hr => (o5 61 r (by omega) (by omega)).trans (r3.2.2.2.2.2.1 r hr)) ?_
    refine s_now hs (by rw [o5 0 4 (by omega) (by omega)]; exact s4) ?_
    rw [g07]
    unfold w_Grower_regrow
    intro Ia ea Ib eb
    have oab : ∀ a j, ¬ (a = 64 ∧ (j = 5 ∨ j = 6)) → Ib.1 a j = I5.1 a j := fun a j u => by rw [eb, zu_at, if_neg (by omega), ea, zu_at, if_neg (by omega)]
    have ob : ∀ a j, ¬ (a = 64 ∧ (j = 5 ∨ j = 6)) → ¬ (a = 0 ∧ (j = 1 ∨ j = 7)) → ¬ (7 ≤ a ∧ a < 18) → Ib.1 a j = I.1 a j := fun a j u v w => by rw [oab a j u, o5 a j v w]
    have b5 : Ib.1 64 5 = zi (lexL (moG (sgC x))).length := by
      rw [eb, zu_i (by decide), ea, zu_self, o5 _ _ (by omega) (by omega)]
      exact sC.2.2.2.2.1
    have ot : ∀ a j, 7 ≤ a → a < 18 → I5.1 a j = I2.1 a j := fun a j u v => by rw [e5, zu_oo (by omega), e4, zu_oo (by omega)]
    have b6 : Ib.1 64 6 = zi (lexL d).length := by
      rw [eb, zu_self, ea, zu_oo (by decide), ot 7 5 (by decide) (by decide)]
      exact tk2.1
    have tkb : RepT Ib 7 (txF d) (lexL d) := ⟨by rw [oab _ _ (by omega), ot 7 5 (by decide) (by decide)]; exact tk2.1, fun j y hy => by
      rw [oab _ _ (by omega), oab _ _ (by omega), oab _ _ (by omega), oab _ _ (by omega), oab _ _ (by omega), ot _ _ (by decide) (by decide), ot _ _ (by decide) (by decide), ot _ _ (by decide) (by decide), ot _ _ (by decide) (by decide), ot _ _ (by decide) (by decide)]
      exact tk2.2 j y hy⟩
    have repb : RepNX Ib (sgM x) (sgN x) := r2.kp hN.ch (fun a j u1 u2 u3 => ob a j (by omega) (by omega) (by omega))
    have sCb : MoX Ib (zmom s) (sgC x) := sC.kp (fun a j u1 u2 => ob a j (by omega) (by omega) (by omega))
    refine s_keepAlike (by omega) (Or.inl rfl) tkb (oldX_of repb (by omega) hC sCb) b5 b6 lxd.2.1 lxg.2.1 lxd.2.2.1 lxg.2.2.1 lxd.1 lxg.1 (fun J3 q3 A3 B3 => ?_)
    have rep3 : RepNX J3 (sgM x) (sgN x) := repb.kp hN.ch (fun a j u1 u2 u3 => q3.1 a j (by omega))
    have tk3 : RepT J3 7 (txF d) (lexL d) := ⟨by rw [q3.1 _ _ (by omega)]; exact tkb.1, fun j y hy => by
      rw [q3.1 _ _ (by omega), q3.1 _ _ (by omega), q3.1 _ _ (by omega), q3.1 _ _ (by omega), q3.1 _ _ (by omega)]
      exact tkb.2 j y hy⟩
    refine s_nameTokens (g := fun _ => 0) (by omega) (by omega) (Or.inl (by decide)) rep3 hN.ch tk3 (by rw [q3.1 _ _ (by omega)]; exact b5) (by rw [q3.1 _ _ (by omega)]; exact b6) A3 B3 (by omega) (by omega) (by omega) (by omega) lxd.2.2.1 lxg.2.2.1 (fun j hj => by rw [q3.1 _ _ (by omega)]; exact sCb.2.2.2.2.2.1 j hj) (by omega) (fun m' g' N' J4 hn' q4 rep4 _ _ w49 gn4 => ?_)
    rw [hn] at hn'
    cases hn'
    -- what lies elsewhere stays
    have o4 : ∀ a j, ¬ (a = 64) → ¬ (a = 0 ∧ (j = 1 ∨ j = 7)) → ¬ (7 ≤ a ∧ a < 18) → a ≠ 19 → ¬ Qnx (sgM x) a j → J4.1 a j = I.1 a j := fun a j u1 u2 u3 u4 u5 => by
      rw [q4.1 a j (fun w => by
        rcases w with w | w | w
        · exact u5 w
        · omega
        · omega), q3.1 a j (by omega), ob a j (by omega) u2 u3]
    have n4 : ∀ a j, ¬ (24 ≤ a ∧ a ≤ 42) → a ≠ 64 → ¬ (a = 0 ∧ (j = 1 ∨ j = 7)) → ¬ (7 ≤ a ∧ a < 18) → a ≠ 19 → J4.1 a j = I.1 a j := fun a j u0 u1 u2 u3 u4 => o4 a j u1 u2 u3 u4 (by unfold Qnx; omega)
    have k4 : ∀ j, J4.1 64 j = if j = 9 then J4.1 64 9 else J3.1 64 j := fun j => by
      by_cases w : j = 9
      · rw [if_pos w, w]
      · rw [if_neg w, q4.1 64 j (by unfold Qnt Qnx; omega)]
    obtain ⟨f1, f2, f3, f4, f5⟩ := r3
    refine s_growAll (R := moR (sgC x)) (Or.inl (by decide)) ge gi (by omega) rep4 (f2.kp (fun a j u1 u2 => n4 a j (by omega) (by omega) (by omega) (by omega) (by omega))) (by rw [n4 _ _ (by omega) (by omega) (by omega) (by omega) (by omega)]; exact f1) ⟨_, fl_0 hN oR.1, rfl⟩ (fun c hc => by obtain ⟨p, p1, p2⟩ := f5.1 c hc; exact ⟨p, p1, by rw [n4 47 c (by omega) (by omega) (by omega) (by omega) (by omega)]; exact p2⟩) (by rw [k4, if_neg (by decide), q3.1 _ _ (by omega)]; exact b5) (by rw [k4, if_neg (by decide), q3.1 _ _ (by omega)]; exact b6) (by rw [k4, if_neg (by decide)]; exact A3) (by rw [k4, if_neg (by decide)]; exact B3) gn4 (fun J5 k' y' hrun' gi' gx' w13 => ?_)
    rw [hrun] at hrun'
    cases hrun'
    obtain ⟨x1, x2, x3, x4, x5, x6⟩ := gx'
    have c5 : ∀ a j, ¬ (24 ≤ a ∧ a ≤ 42) → ¬ (64 ≤ a ∧ a ≤ 68) → ¬ (a = 0 ∧ (j = 1 ∨ j = 7)) → ¬ (7 ≤ a ∧ a < 18) → a ≠ 19 → J5.1 a j = I.1 a j := fun a j u0 u1 u2 u3 u4 => by
      rw [x1.1 a j (by unfold Qgx Qnx; omega), n4 a j u0 (by omega) u2 u3 u4]
    have d5 : ∀ a j, (a = 0 ∧ (j = 1 ∨ j = 7)) ∨ (7 ≤ a ∧ a < 18) → J5.1 a j = Ib.1 a j := fun a j u => by
      rw [x1.1 a j (by unfold Qgx Qnx; omega), q4.1 a j (by unfold Qnt Qnx; omega), q3.1 a j (by omega)]
    have tk5 : RepT J5 7 (txF d) (lexL d) := ⟨by rw [d5 _ _ (by omega)]; exact tkb.1, fun j y hy => by
      rw [d5 _ _ (by omega), d5 _ _ (by omega), d5 _ _ (by omega), d5 _ _ (by omega), d5 _ _ (by omega)]
      exact tkb.2 j y hy⟩
    have g501 : J5.1 0 1 = t3 := by rw [d5 _ _ (by omega), oab _ _ (by omega)]; exact g01
    have g507 : J5.1 0 7 = zi (sgE x + 1) := by rw [d5 _ _ (by omega), oab _ _ (by omega)]; exact g07
    have g647 : J5.1 64 7 = zi (kAhead (txF (moG (sgC x))) (lexL (moG (sgC x))) (txF d) (lexL d)) := by
      rw [x1.1 64 7 (by unfold Qgx Qnx; omega), k4, if_neg (by decide)]
      exact A3
    have g648 : J5.1 64 8 = zi (kBehind (txF (moG (sgC x))) (lexL (moG (sgC x))) (txF d) (lexL d)) := by
      rw [x1.1 64 8 (by unfold Qgx Qnx; omega), k4, if_neg (by decide)]
      exact B3
    have g649 : J5.1 64 9 = zi (m1 - sgM x) := by
      rw [x1.1 64 9 (by unfold Qgx Qnx; omega)]
      exact w49
    have gn5 : ∀ j, j < (lexL d).length → J5.1 19 j = zi (g j) := fun j hj => by rw [x1.1 19 j (by unfold Qgx Qnx; omega)]; exact gn4 j hj
    have q5 : eqQ Qcl I J5 := by
      have a2 : eqQ Qcl I I2 := eqX.q eqQ.rf q2 (fun a j u1 u2 => by unfold Qcl; omega)
      have a5 : eqQ Qcl I I5 := by
        rw [e5, e4]
        exact (a2.zu (by unfold Qcl; decide)).zu (by unfold Qcl; decide)
      have ab : eqQ Qcl I Ib := by
        rw [eb, ea]
        exact (a5.zu (by unfold Qcl; decide)).zu (by unfold Qcl; decide)
      exact ((ab.tr (q3.mono (fun a j h => by unfold Qcl; omega))).tr (q4.mono (fun a j h => by unfold Qnt Qnx at h; unfold Qcl; omega))).tr (x1.mono (fun a j h => by unfold Qgx Qnx at h; unfold Qcl; omega))
    -- the rest of it, of what is told of it
    have tapeT : ∀ J : zI, J.1 0 1 = t3 → (∀ j, J.1 2 j = I.1 2 j) → TapX J (if bt = true then [] else sgT x) := by
      intro J u1 u2
      by_cases ub : bt = true
      · rw [if_pos ub]
        rw [if_pos ub] at et3
        exact ⟨by rw [u1, et3]; rfl, fun j v hj => by cases hj⟩
      · rw [if_neg ub]
        rw [if_neg ub] at et3
        exact ⟨by rw [u1, et3], fun j v hj => by rw [u2]; exact r1.2 j v hj⟩
    rw [hY] at h1
    by_cases hg : y.1 + 1 = (lexL d).length ∧ topS y.2.2.2.1 = 1
    · rw [if_pos hg]
      rw [if_pos hg] at h1
      refine ⟨Or.inr rfl, ?_⟩
      obtain ⟨b, hst, tr⟩ := g8 hg.1 hg.2
      intro P174 h174
      rw [if_neg (by decide)]
      unfold w_Grower_onTop
      have hst2 : y.2.2.2.1.length = 2 := by rw [hst]; rfl
      have hstR : J5.1 68 1 = zi (regR x d) := (x3.2.2 1 (regR x d, 1) (by rw [hst]; rfl)).2 (Nat.le_refl 1)
      refine (w_get (by decide)).mpr ?_
      rw [x3.2.1, hst2, rg_in (by decide) (show 2 - 1 < 300 by decide), show J5.1 (67 + 1) (2 - 1) = zi (regR x d) from hstR]
      refine s_beGood (c := (lexL d).length) hd.2.2 tk5.1 (fun I26 q6 z1 z2 z3 z4 z5 => ?_)
      obtain ⟨w8, hw8⟩ : ∃ w8, I26.1 4 8 = w8 := ⟨_, rfl⟩
      have mc : MoX I26 4 (d, d, true, regR x d, (reg x d).1.2.1, w8) := by
        refine ⟨?_, fun j hj => ?_, ⟨?_, fun j w hw => ?_⟩, ?_, ?_, fun j hj => ?_, fun j w hw => ?_, ?_, hw8⟩
        · rw [z5 _ _ (by omega), c5 _ _ (by omega) (by omega) (by omega) (by omega) (by omega)]
          exact hd1
        · rw [z5 _ _ (by omega), c5 _ _ (by omega) (by omega) (by omega) (by omega) (by omega)]
          exact hd2 (by omega) j hj
        · rw [z5 _ _ (by omega)]
          exact tk5.1
        · rw [z5 _ _ (by omega), z5 _ _ (by omega), z5 _ _ (by omega), z5 _ _ (by omega), z5 _ _ (by omega)]
          exact tk5.2 j w hw
        · rw [z1]
          rfl
        · exact z3
        · rw [z5 _ _ (by omega)]
          show J5.1 19 j = zi ((reg x d).1.2.1 j)
          rw [hgN]
          exact gn5 j hj
        · rw [show (4 + 17 : Nat) = 21 from rfl, z4 j (List.getElem?_eq_some_iff.mp hw).1]
          exact (tk5.2 j w hw).2.1
        · rw [z2]
          rfl
      have o6 : ∀ a j, ¬ (4 ≤ a ∧ a < 22) → I26.1 a j = J5.1 a j := fun a j u => q6.at (by omega)
      refine h174 I26 ?_
      intro P193 h193
      rw [if_neg (by decide)]
      refine h193 _ (s_tellGrowth (fun I13 q13 v13 => ?_))
      intro P222 h222
      rw [if_neg (by decide)]
      have p13 : ∀ a j, ¬ (4 ≤ a ∧ a < 22) → a ≠ 23 → I13.1 a j = J5.1 a j := fun a j u1 u2 => by rw [q13.1 a j u2, o6 a j u1]
      have hcm0 : (chg x d []).2.1 = (y.2.1, y.2.2.1) := by
        unfold chg
        rw [hY, if_pos hg]
      have oN2 : MoOk (sgM (chg x d [])) (sgN (chg x d [])) (newC x d) := (chg_ok (tp := []) hv hd hnr ⟨Nat.zero_le _, fun b hb => by cases hb⟩ he).2.2.2.2.2.2.2.1
      rw [show sgM (chg x d []) = y.2.1 from congrArg Prod.fst hcm0, show sgN (chg x d []) = y.2.2.1 from congrArg Prod.snd hcm0] at oN2
      obtain ⟨pl1, pl2⟩ := prt_R g4 oN2
      have wz := tkz_R g4 oN2
      rw [show moR (newC x d) = regR x d by unfold newC; rw [hY, if_pos hg]; rfl] at pl1 pl2 wz
      rw [show moG (newC x d) = d by unfold newC; rw [hY, if_pos hg]; rfl, show moO (newC x d) = g by unfold newC; rw [hY, if_pos hg]; exact hgN] at wz
      obtain ⟨hwB, hwR, hwK⟩ := reg_wr hv hd (by rw [hY]; exact hg)
      rw [hY] at hwB hwR hwK
      rw [hM1] at hwK
      have h49 := smR_49 g4 tr
      rw [show I13.1 0 7 = zi (sgE x + 1) by rw [p13 _ _ (by omega) (by omega)]; exact g507]
      refine s_deskLook (R := regR x d) (ed := sgE x + 1) (rc := (sgLs x).2) (n0 := n0) (rep := x2.kp g4.ch (fun a j u1 u2 u3 => p13 a j (by omega) (by omega))) g4 g5 (by omega) tr (fun c hc => by have := g7 c hc; omega) (fun c hc => by obtain ⟨p, p1, p2⟩ := f5.1 c hc; exact ⟨p, p1, by rw [p13 47 c (by omega) (by omega), c5 47 c (by omega) (by omega) (by omega) (by omega) (by omega)]; exact p2⟩) pl1 pl2 (Or.inl (by decide)) (by rw [q13.1 _ _ (by decide)]; exact z2) ⟨by rw [q13.1 _ _ (by decide)]; exact mc.2.2.2.2.1, fun j hj => by rw [q13.1 (4 + 15) j (show ¬ (4 + 15 : Nat) = 23 by decide)]; rw [← hgN]; exact mc.2.2.2.2.2.1 j hj, wz⟩ (rx0.kp (fun a j u => by rw [p13 a j (by omega) (by omega), c5 a j (by omega) (by omega) (by omega) (by omega) (by omega)])) (by omega) (fun c hc => by
        by_cases u : c < sgM x
        · rw [g1 c u]
          have := hWr.2.1 c u
          omega
        · rw [hwB c (by omega) hc]
          omega) (fun _ => ⟨by omega, fun p z hz h2 => hwR z (List.mem_of_getElem? hz) h2⟩) (fun I17 q17 vi17 rx17 k17 => ?_)
      have p17 : ∀ a j, ¬ (4 ≤ a ∧ a < 22) → a ≠ 23 → ¬ Qla a j → I17.1 a j = J5.1 a j := fun a j u1 u2 u3 => by rw [q17.1 a j u3, p13 a j u1 u2]
      unfold w_Desk_layRow
      intro v1 ev1
      obtain ⟨rr1, rr2⟩ := runs_ok g4 g5 tr
      have pr17 : PrX I17 (sgP x) := r4.kp (fun a j u1 u2 u3 => by rw [p17 a j (by omega) (by omega) (by unfold Qla Qvi Qrr Qpn; omega), c5 a j (by omega) (by omega) (by omega) (by omega) (by omega)])
      rw [vi17.2.2.2.1.1]
      refine s_layAll (fun r hr => by have := rr1 r hr; omega) rr2 (by omega) hP1 pr17 vi17.2.2.2.1.2 (fun I18 q18 pr18 I19 e19 => (w_set (by decide)).mpr (s_tellGood (N := y.2.2.1) (L := flR y.2.2.1 (regR x d)) (fun r hr => ?_) (fun I14 q14 v14 => ?_)))
      · rw [rs_o (by decide), e19, zu_oo (by decide), q18.1 61 r (by unfold Qpr; omega)]
        exact vi17.2.2.2.2.2.1 r hr
      have hle := (layAllR_ok (pl := sgP x) (rs := runsOf y.2.2.1 (regR x d)) (fun r hr => by have := rr1 r hr; omega) hP1).2.1
      have h88 : I19.1 88 4 - v1 = zi ((layAllR (runsOf y.2.2.1 (regR x d)) (sgP x)).length - (sgP x).length) := by
        rw [e19, zu_oo (by decide), pr18.1, ev1, pr17.1, zi_sub hle]
      have aO : ∀ a j, a ≠ 23 → ¬ (a = 4 ∧ j = 8) → ¬ Qpr a j → (rs I19 (22 + 1) 10 9 (I19.1 88 4 - v1)).1 a j = I17.1 a j := fun a j u1 u2 u3 => by
        rw [rs_o (by omega), e19, zu_at, if_neg u2, q18.1 a j u3]
      have a23 : ∀ j, (rs I19 (22 + 1) 10 9 (I19.1 88 4 - v1)).1 23 j = if j = 9 then zi ((layAllR (runsOf y.2.2.1 (regR x d)) (sgP x)).length - (sgP x).length) else I17.1 23 j := fun j => by
        rw [show rs I19 (22 + 1) 10 9 (I19.1 88 4 - v1) = zu I19 23 9 (I19.1 88 4 - v1) from rs_in (i := 9) (by decide) (by decide), zu_at, h88]
        by_cases u : j = 9
        · rw [if_pos ⟨rfl, u⟩, if_pos u]
        · rw [if_neg (fun w => u w.2), if_neg u, e19, zu_oo (by decide), q18.1 23 j (by unfold Qpr; omega)]
      have g64 : ∀ j, I17.1 64 j = J5.1 64 j := fun j => by rw [q17.1 64 j (by unfold Qla Qvi Qrr Qpn; omega), p13 64 j (by omega) (by omega)]
      have h64 : ∀ j, I26.1 64 j = J5.1 64 j := fun j => o6 64 j (by omega)
      have eRc : rcR x d = rcP y.2.2.1 (flR y.2.2.1 (regR x d)) (sgE x + 1) ((sgLs x).2, 0, 0) (flR y.2.2.1 (regR x d)).length := by
        unfold rcR
        rw [hY]
      obtain ⟨eK1, eK2⟩ := rcP_k (N := y.2.2.1) (F := flR y.2.2.1 (regR x d)) (e := sgE x + 1) (k := 0) (n := n0) (n' := 0) (rc := (sgLs x).2) _ (Nat.le_refl _)
      have row14 : ∀ j, j < 10 → I14.1 23 j = laG x d j := by
        have t13 : ∀ i, i ≠ 4 → i ≠ 8 → i ≠ 9 → i < 10 → I14.1 23 i = tgV I26 (I26.1 24 9 - zi (sgM x)) i := fun i u1 u2 u3 u4 => by
          rw [v14 i u4, if_neg u2, if_neg u1, a23 i, if_neg u3, q17.1 23 i (by unfold Qla Qvi Qrr Qpn; omega), v13 i u4]
        intro j hj
        match j, hj with
        | 0, _ =>
          rw [t13 0 (by decide) (by decide) (by decide) (by decide)]
          show I26.1 64 7 = zi (kAhead (txF (moG (sgC x))) (lexL (moG (sgC x))) (txF d) (lexL d))
          rw [h64]
          exact g647
        | 1, _ =>
          rw [t13 1 (by decide) (by decide) (by decide) (by decide)]
          show I26.1 64 8 = zi (kBehind (txF (moG (sgC x))) (lexL (moG (sgC x))) (txF d) (lexL d))
          rw [h64]
          exact g648
        | 2, _ =>
          rw [t13 2 (by decide) (by decide) (by decide) (by decide)]
          show I26.1 64 11 = zi (regY x d).2.2.2.2
          rw [h64, hY]
          exact x5
        | 3, _ =>
          rw [t13 3 (by decide) (by decide) (by decide) (by decide)]
          show I26.1 24 9 - zi (sgM x) = zi ((regY x d).2.1 - sgM x)
          rw [o6 24 9 (by omega), x2.1, hY, zi_sub (by omega)]
        | 4, _ =>
          rw [v14 4 (by decide), if_neg (by decide), if_pos rfl]
          show _ = zi (brkN x d)
          refine zi_brk (c := y.2.1 - m1) ?_ ?_
          · rw [rzN_all g4 (fun z hz => by
              obtain ⟨p, hp⟩ := List.mem_iff_getElem?.mp hz
              exact (fl_szin g4 tr.1 hp).1), rzN_all hN (fun z hz => by
              obtain ⟨p, hp⟩ := List.mem_iff_getElem?.mp hz
              exact (fl_szin hN oR.1 hp).1)]
            exact hwK
          · rw [aO 64 10 (by decide) (by decide) (by unfold Qpr; omega), g64]
            exact x4
        | 5, _ =>
          rw [t13 5 (by decide) (by decide) (by decide) (by decide)]
          show I26.1 64 12 = zi (reg x d).2.1
          rw [h64, hK1]
          exact x6
        | 6, _ =>
          rw [t13 6 (by decide) (by decide) (by decide) (by decide)]
          show I26.1 64 13 = -2
          rw [h64, w13, if_pos hg]
        | 7, _ =>
          rw [t13 7 (by decide) (by decide) (by decide) (by decide)]
          show I26.1 64 9 = zi ((reg x d).1.1 - sgM x)
          rw [h64, hM1]
          exact g649
        | 8, _ =>
          rw [v14 8 (by decide), if_pos rfl, aO 69 14 (by decide) (by decide) (by unfold Qpr; omega), k17]
          show _ = zi (rcR x d).2.1
          rw [eRc, eK2]
        | 9, _ =>
          rw [v14 9 (by decide), if_neg (by decide), if_neg (by decide), a23 9, if_pos rfl]
          show _ = zi ((layAllR (runsOf (regY x d).2.2.1 (regR x d)) (sgP x)).length - (sgP x).length)
          rw [hY]
        | n + 10, h => exact absurd h (by omega)
      have p14 : ∀ a j, a ≠ 23 → ¬ (a = 4 ∧ j = 8) → ¬ Qpr a j → I14.1 a j = I17.1 a j := fun a j u1 u2 u3 => by
        rw [q14.1 a j u1, rs_o (by omega), e19, zu_at, if_neg u2, q18.1 a j u3]
      have pr14 : PrX I14 (layAllR (runsOf y.2.2.1 (regR x d)) (sgP x)) := pr18.kp (fun a j u1 u2 u3 => by rw [q14.1 a j (by omega), rs_o (by omega), e19, zu_at, if_neg (by omega)])
      refine h222 I14 ?_
      have w14 : ∀ a j, ¬ (4 ≤ a ∧ a < 22) → a ≠ 23 → ¬ Qla a j → ¬ Qpr a j → I14.1 a j = J5.1 a j := fun a j u1 u2 u3 u4 => by rw [p14 a j u2 (by omega) u4, p17 a j u1 u2 u3]
      have q14J : eqQ Qcl I I14 := by
        refine (((q5.tr ?_).tr (q13.mono (fun a j h => by unfold Qcl; omega))).tr (q17.mono (fun a j h => by unfold Qla Qvi Qrr Qpn at h; unfold Qcl; omega))).tr ?_
        · exact eqX.q eqQ.rf q6 (fun a j u1 u2 => by unfold Qcl; omega)
        · refine eqQ.tr ?_ (q14.mono (fun a j h => by unfold Qcl; omega))
          refine eqQ.rs ?_ (fun _ => by unfold Qcl; decide)
          rw [e19]
          exact (q18.mono (fun a j h => by unfold Qpr at h; unfold Qcl; omega)).zu (by unfold Qcl; decide)
      refine s_turn (x := x) (c := newC x d) hs (by rw [w14 _ _ (by omega) (by omega) (by unfold Qla Qvi Qrr Qpn; omega) (by unfold Qpr; omega), c5 _ _ (by omega) (by omega) (by omega) (by omega) (by omega)]; exact s4) (by rw [w14 _ _ (by omega) (by omega) (by unfold Qla Qvi Qrr Qpn; omega) (by unfold Qpr; omega), c5 _ _ (by omega) (by omega) (by omega) (by omega) (by omega)]; exact r6) (by omega) ?_ ?_ ?_ (sC.kp (fun a j u1 u2 => by rw [w14 a j (by omega) (by omega) (by unfold Qla Qvi Qrr Qpn; omega) (by unfold Qpr; omega), c5 a j (by omega) (by omega) (by omega) (by omega) (by omega)])) (fun kk yy hy => (sA kk yy hy).kp (fun a j u1 u2 => by
          have := zm ((s + 20 - kk) % 21)
          rw [w14 a j (by omega) (by omega) (by unfold Qla Qvi Qrr Qpn; omega) (by unfold Qpr; omega), c5 a j (by omega) (by omega) (by omega) (by omega) (by omega)])) (fun J qJ t1 t2 t3' => ?_)
      · have mcc : MoX I14 4 (newC x d) := by
          obtain ⟨a1, a2, ⟨a3, a4⟩, a5, a6, a7, a8, a9, -⟩ := mc
          have hnc : newC x d = (d, d, true, regR x d, (reg x d).1.2.1, rowI (runsOf y.2.2.1 (regR x d)) (sgP x)) := by
            unfold newC
            rw [hY, if_pos hg]
          rw [hnc]
          have kk : ∀ a j, 4 ≤ a → a < 22 → ¬ (a = 4 ∧ j = 8) → I14.1 a j = I26.1 a j := fun a j u1 u2 u3 => by
            rw [p14 a j (by omega) u3 (by unfold Qpr; omega), q17.1 a j (by unfold Qla Qvi Qrr Qpn; omega), q13.1 a j (by omega)]
          refine ⟨by rw [kk _ _ (by decide) (by decide) (by decide)]; exact a1, fun j hj => by rw [kk _ _ (by decide) (by decide) (by omega)]; exact a2 j hj, ⟨by rw [kk _ _ (by decide) (by decide) (by decide)]; exact a3, fun j w hw => ?_⟩, by rw [kk _ _ (by decide) (by decide) (by decide)]; exact a5, by rw [kk _ _ (by decide) (by decide) (by decide)]; exact a6, fun j hj => by rw [kk _ _ (by decide) (by decide) (by omega)]; exact a7 j hj, fun j w hw => by rw [kk _ _ (by decide) (by decide) (by omega)]; exact a8 j w hw, by rw [kk _ _ (by decide) (by decide) (by decide)]; exact a9, by rw [q14.1 4 8 (by decide), rs_o (by decide), e19]; exact zu_self⟩
          rw [kk _ _ (by decide) (by decide) (by omega), kk _ _ (by decide) (by decide) (by omega), kk _ _ (by decide) (by decide) (by omega), kk _ _ (by decide) (by decide) (by omega), kk _ _ (by decide) (by decide) (by omega)]
          exact a4 j w hw
        exact mcc
      · unfold newC
        rw [hY, if_pos hg]
        exact hd
      · unfold newC
        rw [hY, if_pos hg]
        exact hd
      · rw [if_neg (by decide)]
        have wJ : ∀ a j, ¬ (a = 0 ∧ 4 ≤ j ∧ j ≤ 6) → ¬ (113 ≤ a ∧ a < 491) → J.1 a j = I14.1 a j := fun a j u1 u2 => qJ.1 a j (by omega)
        refine h1 J (q14J.tr (qJ.mono (fun a j h => by unfold Qcl; omega))) ?_
        obtain ⟨s', hs', b1, b2, b3⟩ := t3'
        have hcm : (chg x d (if bt = true then [] else sgT x)).2.1 = (y.2.1, y.2.2.1) := by
          unfold chg
          rw [hY, if_pos hg]
        have hcN : sgN (chg x d (if bt = true then [] else sgT x)) = y.2.2.1 := congrArg Prod.snd hcm
        have hcM : sgM (chg x d (if bt = true then [] else sgT x)) = y.2.1 := congrArg Prod.fst hcm
        have hcP : sgP (chg x d (if bt = true then [] else sgT x)) = layAllR (runsOf y.2.2.1 (regR x d)) (sgP x) := by
          unfold chg sgP
          rw [hY]
          exact if_pos hg
        have hcR : moR (sgC (chg x d (if bt = true then [] else sgT x))) = regR x d := by
          show moR (newC x d) = _
          unfold newC
          rw [hY, if_pos hg]
          rfl
        refine ⟨tapeT J ?_ (fun j => ?_), ?_, ?_, ?_, ?_, t1, t2, s', hs', b1, b2, b3, fun kk yy hy => (by cases hy)⟩
        · rw [wJ _ _ (by omega) (by omega), w14 _ _ (by omega) (by omega) (by unfold Qla Qvi Qrr Qpn; omega) (by unfold Qpr; omega)]
          exact g501
        · rw [wJ _ _ (by omega) (by omega), w14 _ _ (by omega) (by omega) (by unfold Qla Qvi Qrr Qpn; omega) (by unfold Qpr; omega), c5 _ _ (by omega) (by omega) (by omega) (by omega) (by omega)]
        · rw [hcM, hcN]
          exact x2.kp g4.ch (fun a j u1 u2 u3 => by rw [wJ _ _ (by omega) (by omega), w14 _ _ (by omega) (by omega) (by unfold Qla Qvi Qrr Qpn; omega) (by unfold Qpr; omega)])
        · rw [hcN, hcR]
          exact vi17.kp (fun a j u => by rw [wJ _ _ (by omega) (by omega), p14 a j (by omega) (by omega) (by unfold Qpr; omega)])
        · rw [hcP]
          exact pr14.kp (fun a j u1 u2 u3 => by rw [wJ _ _ (by omega) (by omega)])
        · have hcL : sgLs (chg x d (if bt = true then [] else sgT x)) = (laG x d, (rcR x d).1) := by
            show (if (regY x d).1 + 1 = (lexL d).length ∧ topS (regY x d).2.2.2.1 = 1 then (laG x d, (rcR x d).1) else (laW x d, (sgLs x).2)) = _
            rw [hY, if_pos hg]
          refine ⟨?_, fun j hj => ?_, (rcP y.2.2.1 (flR y.2.2.1 (regR x d)) (sgE x + 1) ((sgLs x).2, 0, n0) (flR y.2.2.1 (regR x d)).length).2.2, ?_, ?_⟩
          · rw [wJ _ _ (by omega) (by omega), w14 _ _ (by omega) (by omega) (by unfold Qla Qvi Qrr Qpn; omega) (by unfold Qpr; omega)]
            exact g507
          · rw [hcL, wJ 23 j (by omega) (by omega)]
            exact row14 j hj
          · have hn := rcP_n (N := y.2.2.1) (F := flR y.2.2.1 (regR x d)) (e := sgE x + 1) (u0 := ((sgLs x).2, 0, n0)) _ (Nat.le_refl _)
            rw [List.take_length] at hn
            change _ ≤ n0 + smR y.2.2.1 (setsOf y.2.2.1 (regR x d)) at hn
            show _ ≤ 49 * (sgE x + 1)
            omega
          · rw [hcL]
            show RcX J _ (rcR x d).1
            rw [eRc, ← eK1]
            exact rx17.kp (fun a j u => by rw [wJ a j (by omega) (by omega), p14 a j (by omega) (by omega) (by unfold Qpr; omega)])
    · rw [if_neg hg]
      rw [if_neg hg] at h1
      refine ⟨Or.inl rfl, ?_⟩
      intro P174 h174
      rw [if_pos rfl]
      intro I22 e22
      have o22 : ∀ a j, ¬ (a = 24 ∧ j = 9) → I22.1 a j = J5.1 a j := fun a j u => by rw [e22, zu_at, if_neg u]
      refine s_now hs (by rw [o22 _ _ (by omega), c5 _ _ (by omega) (by omega) (by omega) (by omega) (by omega)]; exact s4) ?_
      have sC22 : MoX I22 (zmom s) (sgC x) := sC.kp (fun a j u1 u2 => by rw [o22 _ _ (by omega), c5 a j (by omega) (by omega) (by omega) (by omega) (by omega)])
      refine s_keepGood (c := (lexL (moG (sgC x))).length) (by omega) oG.2.2 sC22.2.2.2.2.1 (fun I24 q24 z1 z2 z2r z3 z4 z5 z6 => ?_)
      have o24 : ∀ a j, ¬ (4 ≤ a ∧ a < 22) → I24.1 a j = I22.1 a j := fun a j u => q24.at (by omega)
      have nc : newC x d = (d, moG (sgC x), false, moR (sgC x), moO (sgC x), moW (sgC x)) := by
        unfold newC
        rw [hY, if_neg hg]
      have mc : MoX I24 4 (newC x d) := by
        rw [nc]
        refine ⟨?_, fun j hj => ?_, ⟨?_, fun j w hw => ?_⟩, ?_, ?_, fun j hj => ?_, fun j w hw => ?_, ?_, ?_⟩
        · rw [z6 _ _ (by omega), o22 _ _ (by omega), c5 _ _ (by omega) (by omega) (by omega) (by omega) (by omega)]
          exact hd1
        · rw [z6 _ _ (by omega), o22 _ _ (by omega), c5 _ _ (by omega) (by omega) (by omega) (by omega) (by omega)]
          exact hd2 (by omega) j hj
        · rw [z6 _ _ (by omega), o22 _ _ (by omega)]
          exact tk5.1
        · rw [z6 _ _ (by omega), z6 _ _ (by omega), z6 _ _ (by omega), z6 _ _ (by omega), z6 _ _ (by omega), o22 _ _ (by omega), o22 _ _ (by omega), o22 _ _ (by omega), o22 _ _ (by omega), o22 _ _ (by omega)]
          exact tk5.2 j w hw
        · rw [z1]
          rfl
        · exact z3
        · rw [z4 j hj]
          exact sC22.2.2.2.2.2.1 j hj
        · rw [z5 j (List.getElem?_eq_some_iff.mp hw).1]
          exact sC22.2.2.2.2.2.2.1 j w hw
        · rw [z2]
          exact sC22.2.2.2.2.2.2.2.1
        · rw [z2r]
          exact sC22.2.2.2.2.2.2.2.2
      refine h174 I24 ?_
      intro P193 h193
      rw [if_pos rfl]
      refine h193 _ (s_tellGrowth (fun I13 q13 v13 => ?_))
      intro P222 h222
      rw [if_pos rfl]
      refine h222 I13 ?_
      have w13' : ∀ a j, ¬ (4 ≤ a ∧ a < 22) → a ≠ 23 → ¬ (a = 24 ∧ j = 9) → I13.1 a j = J5.1 a j := fun a j u1 u2 u3 => by rw [q13.1 a j u2, o24 a j u1, o22 a j u3]
      have q13J : eqQ Qcl I I13 := by
        refine eqQ.tr ?_ (q13.mono (fun a j h => by unfold Qcl; omega))
        refine eqX.q ?_ q24 (fun a j u1 u2 => by unfold Qcl; omega)
        rw [e22]
        exact q5.zu (by unfold Qcl; decide)
      refine s_turn (x := x) (c := newC x d) hs (by rw [w13' _ _ (by omega) (by omega) (by omega), c5 _ _ (by omega) (by omega) (by omega) (by omega) (by omega)]; exact s4) (by rw [w13' _ _ (by omega) (by omega) (by omega), c5 _ _ (by omega) (by omega) (by omega) (by omega) (by omega)]; exact r6) (by omega) (mc.kp (fun a j u1 u2 => q13.1 a j (by omega))) (by rw [nc]; exact hd) (by rw [nc]; exact oG) (sC.kp (fun a j u1 u2 => by rw [w13' a j (by omega) (by omega) (by omega), c5 a j (by omega) (by omega) (by omega) (by omega) (by omega)])) (fun kk yy hy => (sA kk yy hy).kp (fun a j u1 u2 => by
          have := zm ((s + 20 - kk) % 21)
          rw [w13' a j (by omega) (by omega) (by omega), c5 a j (by omega) (by omega) (by omega) (by omega) (by omega)])) (fun J qJ t1 t2 t3' => ?_)
      rw [if_pos rfl]
      have wJ : ∀ a j, ¬ (a = 0 ∧ 4 ≤ j ∧ j ≤ 6) → ¬ (113 ≤ a ∧ a < 491) → J.1 a j = I13.1 a j := fun a j u1 u2 => qJ.1 a j (by omega)
      refine h1 J (q13J.tr (qJ.mono (fun a j h => by unfold Qcl; omega))) ?_
      obtain ⟨s', hs', b1, b2, b3⟩ := t3'
      have hcm : (chg x d (if bt = true then [] else sgT x)).2.1 = (sgM x, sgN x) := by
        unfold chg
        rw [hY, if_neg hg]
      have hcN : sgN (chg x d (if bt = true then [] else sgT x)) = sgN x := congrArg Prod.snd hcm
      have hcM : sgM (chg x d (if bt = true then [] else sgT x)) = sgM x := congrArg Prod.fst hcm
      have hcP : sgP (chg x d (if bt = true then [] else sgT x)) = sgP x := by
        unfold chg sgP
        rw [hY]
        exact if_neg hg
      have hcR : moR (sgC (chg x d (if bt = true then [] else sgT x))) = moR (sgC x) := by
        show moR (newC x d) = _
        rw [nc]
        rfl
      refine ⟨tapeT J ?_ (fun j => ?_), ?_, ?_, ?_, ?_, t1, t2, s', hs', b1, b2, b3, fun kk yy hy => (by cases hy)⟩
      · rw [wJ _ _ (by omega) (by omega), w13' _ _ (by omega) (by omega) (by omega)]
        exact g501
      · rw [wJ _ _ (by omega) (by omega), w13' _ _ (by omega) (by omega) (by omega), c5 _ _ (by omega) (by omega) (by omega) (by omega) (by omega)]
      · rw [hcM, hcN]
        refine ⟨?_, fun kk hk => ?_⟩
        · rw [wJ _ _ (by omega) (by omega), q13.1 _ _ (by omega), o24 _ _ (by omega), e22, zu_self]
        · rw [← g1 kk hk]
          exact (x2.2 kk (by omega)).kept (g4.ch kk (by omega)) (fun a u1 u2 => by rw [wJ _ _ (by omega) (by omega), w13' _ _ (by omega) (by omega) (by omega)]) (fun i hi => by rw [wJ _ _ (by omega) (by omega), w13' _ _ (by omega) (by omega) (by omega)])
      · rw [hcN, hcR]
        exact ViX.kp ⟨f1, f2, f3, f4, f5⟩ (fun a j u => by rw [wJ _ _ (by omega) (by omega), w13' _ _ (by omega) (by omega) (by omega)]; exact (c5 a j (by omega) (by omega) (by omega) (by omega) (by omega)))
      · rw [hcP]
        exact r4.kp (fun a j u1 u2 u3 => by rw [wJ _ _ (by omega) (by omega), w13' _ _ (by omega) (by omega) (by omega), c5 a j (by omega) (by omega) (by omega) (by omega) (by omega)])
      · have hcL : sgLs (chg x d (if bt = true then [] else sgT x)) = (laW x d, (sgLs x).2) := by
          show (if (regY x d).1 + 1 = (lexL d).length ∧ topS (regY x d).2.2.2.1 = 1 then (laG x d, (rcR x d).1) else (laW x d, (sgLs x).2)) = _
          rw [hY, if_neg hg]
        have h64 : ∀ j, I24.1 64 j = J5.1 64 j := fun j => by rw [o24 64 j (by omega), o22 64 j (by omega)]
        refine ⟨?_, fun j hj => ?_, n0, ?_, ?_⟩
        · rw [wJ _ _ (by omega) (by omega), w13' _ _ (by omega) (by omega) (by omega)]
          exact g507
        · rw [hcL, wJ 23 j (by omega) (by omega), v13 j hj]
          match j, hj with
          | 0, _ =>
            show I24.1 64 7 = zi (kAhead (txF (moG (sgC x))) (lexL (moG (sgC x))) (txF d) (lexL d))
            rw [h64]
            exact g647
          | 1, _ =>
            show I24.1 64 8 = zi (kBehind (txF (moG (sgC x))) (lexL (moG (sgC x))) (txF d) (lexL d))
            rw [h64]
            exact g648
          | 2, _ =>
            show I24.1 64 11 = zi (regY x d).2.2.2.2
            rw [h64, hY]
            exact x5
          | 3, _ => rfl
          | 4, _ => rfl
          | 5, _ =>
            show I24.1 64 12 = zi (reg x d).2.1
            rw [h64, hK1]
            exact x6
          | 6, _ =>
            show I24.1 64 13 = zi (regY x d).1
            rw [h64, w13, if_neg hg, hY]
          | 7, _ =>
            show I24.1 64 9 = zi ((reg x d).1.1 - sgM x)
            rw [h64, hM1]
            exact g649
          | 8, _ => rfl
          | 9, _ => rfl
          | n + 10, h => exact absurd h (by omega)
        · show n0 ≤ 49 * (sgE x + 1)
          omega
        · rw [hcL]
          exact rx0.kp (fun a j u => by rw [wJ a j (by omega) (by omega), w13' a j (by omega) (by omega) (by omega), c5 a j (by omega) (by omega) (by omega) (by omega) (by omega)])
  by_cases ub : bt = true
  · rw [ub, if_neg (show ¬ b01 true = 0 by decide)]
    exact tape 0 (by rw [if_pos ub])
  · have hbf : bt = false := by
      cases bt
      · rfl
      · exact absurd rfl ub
    rw [hbf, if_pos (show b01 false = 0 by decide)]
    exact tape _ (by rw [if_neg ub, q2.at (by omega)]; exact r1.1)
/-! ===== what the model keeps ===== -/
/-- the TEXT as it is, in the model's rows -/
def NowT (I : zI) (d : List Int32) : Prop :=
  I.1 491 5 = zi d.length ∧ (∀ j, j < d.length → I.1 494 j = txF d j) ∧ I.1 491 15 = zi (lexL d).length ∧ ∀ (j : Nat) (y : Nat × Nat × Nat), (lexL d)[j]? = some y → I.1 501 j = zi y.1 ∧ I.1 502 j = zi y.2.1 ∧ I.1 503 j = zi y.2.2
/-- the last good one -/
def GoodT (I : zI) (d : List Int32) : Prop := I.1 491 7 = zi d.length ∧ (∀ j, j < d.length → I.1 495 j = txF d j) ∧ OldU I (txF d) (lexL d)
/-- the new one -/
def NewT (I : zI) (d : List Int32) : Prop := I.1 491 3 = zi d.length ∧ (∀ j, j < d.length → I.1 493 j = txF d j) ∧ RepU I (txF d) (lexL d)
theorem NewT.kp {I J : zI} {d : List Int32} (h : NewT I d) (e1 : J.1 491 3 = I.1 491 3) (e2 : J.1 491 9 = I.1 491 9) (e : ∀ a j, a = 493 ∨ (496 ≤ a ∧ a ≤ 498) → J.1 a j = I.1 a j) (e3 : ∀ j, J.2 499 j = I.2 499 j) : NewT J d := by
  obtain ⟨h1, h2, h3, h4⟩ := h
  refine ⟨e1.trans h1, fun j hj => by rw [e _ _ (Or.inl rfl)]; exact h2 j hj, e2.trans h3, fun j y hy => ?_⟩
  obtain ⟨z1, z2, z3, z4⟩ := h4 j y hy
  exact ⟨by rw [e _ _ (by omega)]; exact z1, by rw [e _ _ (by omega)]; exact z2, by rw [e _ _ (by omega)]; exact z3, by rw [e3]; exact z4⟩
theorem NowT.kp {I J : zI} {d : List Int32} (h : NowT I d) (e1 : J.1 491 5 = I.1 491 5) (e2 : J.1 491 15 = I.1 491 15) (e : ∀ a j, a = 494 ∨ (501 ≤ a ∧ a ≤ 503) → J.1 a j = I.1 a j) : NowT J d := by
  obtain ⟨h1, h2, h3, h4⟩ := h
  refine ⟨e1.trans h1, fun j hj => by rw [e _ _ (Or.inl rfl)]; exact h2 j hj, e2.trans h3, fun j y hy => ?_⟩
  rw [e 501 _ (by omega), e 502 _ (by omega), e 503 _ (by omega)]
  exact h4 j y hy
theorem GoodT.kp {I J : zI} {d : List Int32} (h : GoodT I d) (e1 : J.1 491 7 = I.1 491 7) (e2 : J.1 491 19 = I.1 491 19) (e : ∀ a j, a = 495 ∨ (504 ≤ a ∧ a ≤ 506) → J.1 a j = I.1 a j) (e3 : ∀ j, J.2 507 j = I.2 507 j) : GoodT J d := by
  obtain ⟨h1, h2, h3, h4⟩ := h
  refine ⟨e1.trans h1, fun j hj => by rw [e _ _ (Or.inl rfl)]; exact h2 j hj, e2.trans h3, fun j y hy => ?_⟩
  obtain ⟨z1, z2, z3, z4⟩ := h4 j y hy
  exact ⟨by rw [e _ _ (by omega)]; exact z1, by rw [e _ _ (by omega)]; exact z2, by rw [e _ _ (by omega)]; exact z3, by rw [e3]; exact z4⟩
theorem RepNM.kp2 {I J : zI} {m : Nat} {N : Nat → Nd} (rep : RepNM I m N) (e1 : J.1 491 25 = I.1 491 25) (e : ∀ a j, 509 ≤ a → a ≤ 516 → J.1 a j = I.1 a j) (e2 : ∀ j, J.2 511 j = I.2 511 j) : RepNM J m N :=
  ⟨e1.trans rep.1, fun k hk => by
    obtain ⟨n1, n2, n3, n4, n5, n6, n7⟩ := rep.2 k hk
    refine ⟨by rw [e _ _ (by decide) (by decide)]; exact n1, by rw [e _ _ (by decide) (by decide)]; exact n2, by rw [e _ _ (by decide) (by decide)]; exact n3, by rw [e _ _ (by decide) (by decide)]; exact n4, by rw [e _ _ (by decide) (by decide)]; exact n5, fun i c hi => by rw [e _ _ (by decide) (by decide)]; exact n6 i c hi, fun q => ?_⟩
    obtain ⟨w1, w2⟩ := n7 q
    exact ⟨by rw [e _ _ (by decide) (by decide)]; exact w1, by rw [e2]; exact w2⟩⟩
def TvM (I : zI) (N : Nat → Nd) (R : Nat) : Prop := ∀ (i : Nat) (x : Fl), (flR N R)[i]? = some x → I.1 521 i = zi x.1 ∧ I.1 523 x.1 = zi i ∧ I.1 522 i = zi (i + x.2.2.2.2)
theorem TvM.kp {I J : zI} {N : Nat → Nd} {R : Nat} (h : TvM I N R) (e : ∀ a j, 521 ≤ a → a ≤ 523 → J.1 a j = I.1 a j) : TvM J N R := fun i x hx => by
  obtain ⟨h1, h2, h3⟩ := h i x hx
  rw [e 521 _ (by decide) (by decide), e 523 _ (by decide) (by decide), e 522 _ (by decide) (by decide)]
  exact ⟨h1, h2, h3⟩
theorem ViM.tv {I : zI} {N : Nat → Nd} {R n : Nat} (h : ViM I N R n) : TvM I N R := fun i x hx => by
  obtain ⟨b1, b2, -⟩ := h.2.1.2.1 i x (List.getElem?_eq_some_iff.mp hx).1 hx
  exact ⟨b1, b2, (h.2.2.1 i x hx).1⟩
theorem NmM.kp {I J : zI} {S : List Int64} (h : NmM I S) (e1 : J.1 491 55 = I.1 491 55) (e2 : ∀ j, J.2 530 j = I.2 530 j) : NmM J S := by
  obtain ⟨nm, n1, n2, n3, n4⟩ := h
  exact ⟨nm, e1.trans n1, fun i v hi => by rw [e2]; exact n2 i v hi, n3, n4⟩
theorem fl_po {m R i : Nat} {N : Nat → Nd} {x : Fl} (h : NdOk m N) (hR : R < m) (hx : (flR N R)[i]? = some x) : x.1 ∈ po N R := by
  rw [← fl_map h R hR 0 0 0 1]
  exact List.mem_map.mpr ⟨x, List.mem_of_getElem? hx, rfl⟩
def Qrk (a j : Nat) : Prop := Qna a j ∨ a = 532
theorem sets_len {m R n : Nat} {og : Nat → Nat} {N : Nat → Nd} (hN : NdOk m N) (t : TreeI m N R n og) : (setsOf N R).length ≤ 99 := by
  have h1 := cn2_le (F := flR N R) hN (flR N R).length 0 0 [(R, 0, 1)] (by omega) (fun y hy => by cases List.mem_singleton.mp hy; exact t.1) (by
    rw [List.drop_zero]
    show fl N R 0 0 0 1 = fl N R 0 0 0 1 ++ []
    rw [List.append_nil])
  rw [List.drop_zero, wtW_cons] at h1
  dsimp only at h1
  have h2 := wt2_le (N := N) (c := R)
  have h3 := t.tk hN
  have h4 := t.2.2.2.2.2.2.2
  have h5 : wtW N [] = 0 := rfl
  unfold setsOf
  rw [st2_len]
  omega
/-- the model's list of NAMES, and what they are -/
def NvM (I : zI) (S : List Int64) (en : Int64 → Int32) : Prop := ∃ nm : List Int64, I.1 491 55 = zi nm.length ∧ (∀ (i : Nat) (v : Int64), nm[i]? = some v → I.2 530 i = v ∧ I.1 531 i = en v) ∧ nm.Nodup ∧ (∀ v ∈ nm, v ∈ S) ∧ ∀ v, v ∉ nm → en v = 0
theorem NvM.kp {I J : zI} {S : List Int64} {en : Int64 → Int32} (h : NvM I S en) (e1 : J.1 491 55 = I.1 491 55) (e2 : ∀ j, J.2 530 j = I.2 530 j) (e3 : ∀ j, J.1 531 j = I.1 531 j) : NvM J S en := by
  obtain ⟨nm, n1, n2, n3, n4, n5⟩ := h
  exact ⟨nm, e1.trans n1, fun i v hi => ⟨(e2 i).trans (n2 i v hi).1, (e3 i).trans (n2 i v hi).2⟩, n3, n4, n5⟩
theorem NvM.nm {I : zI} {S : List Int64} {en : Int64 → Int32} (h : NvM I S en) : NmM I S := by
  obtain ⟨nm, n1, n2, n3, n4, n5⟩ := h
  exact ⟨nm, n1, fun i v hi => (n2 i v hi).1, n3, n4⟩
/-- all RUN: what NAMES are -/
def enL (N : Nat → Nd) : List Nat → (Int64 → Int32) → Int64 → Int32
  | [], en => en
  | s :: l, en => enL N l (up6 en (nmC N s) (evN N en (chN (N s) 2)))
theorem enL_app {N : Nat → Nd} : ∀ {l k : List Nat} {en : Int64 → Int32}, enL N (l ++ k) en = enL N k (enL N l en)
  | [], _, _ => rfl
  | s :: l, k, en => enL_app (l := l)
def lsL (N : Nat → Nd) : List Nat → (Int64 → Int32) → Int64 → Int32
  | [], L => L
  | s :: l, L => lsL N l (up6 L (nmC N s) (zi s))
theorem lsL_app {N : Nat → Nd} : ∀ {l k : List Nat} {L : Int64 → Int32}, lsL N (l ++ k) L = lsL N k (lsL N l L)
  | [], _, _ => rfl
  | s :: l, k, L => lsL_app (l := l)
def tmL (N : Nat → Nd) (v : Int64) : List Nat → Nat
  | [] => 0
  | s :: l => (if nmC N s = v then 1 else 0) + tmL N v l
theorem tmL_app {N : Nat → Nd} {v : Int64} : ∀ {l k : List Nat}, tmL N v (l ++ k) = tmL N v l + tmL N v k
  | [], _ => (Nat.zero_add _).symm
  | s :: l, k => by
    show (if nmC N s = v then 1 else 0) + tmL N v (l ++ k) = (if nmC N s = v then 1 else 0) + tmL N v l + tmL N v k
    rw [tmL_app]
    omega
theorem st2_sn {N : Nat → Nd} {F : List Fl} {p : Nat} {x : Fl} (hx : F[p]? = some x) : st2 N (F.take (p + 1)) = st2 N (F.take p) ++ (if ndR (N x.1) = 2 then [x.1] else []) := by
  rw [List.take_add_one, hx, st2_app]
  rfl
theorem ruAt_l {N : Nat → Nd} {F : List Fl} : ∀ p, p ≤ F.length → ruE (ruAt N F p) = enL N (st2 N (F.take p)) (fun _ => 0) ∧ ruL (ruAt N F p) = lsL N (st2 N (F.take p)) (fun _ => -2) ∧ ∀ v, ruT (ruAt N F p) v = tmL N v (st2 N (F.take p))
  | 0, _ => ⟨rfl, rfl, fun _ => rfl⟩
  | p + 1, hp => by
    obtain ⟨i1, i2, i3⟩ := ruAt_l (N := N) (F := F) p (by omega)
    have hx : F[p]? = some (F[p]'(by omega)) := List.getElem?_eq_getElem (by omega)
    generalize F[p]'(by omega) = x at hx
    rw [ruAt_s hx, st2_sn hx]
    by_cases u : ndR (N x.1) = 2
    · rw [if_pos u, if_pos u, enL_app, lsL_app, ← i1, ← i2]
      refine ⟨rfl, rfl, fun v => ?_⟩
      rw [tmL_app, ← i3 v]
      show up6 (ruT (ruAt N F p)) (nmC N x.1) (ruT (ruAt N F p) (nmC N x.1) + 1) v = _ + ((if nmC N x.1 = v then 1 else 0) + 0)
      by_cases e : v = nmC N x.1
      · rw [e, up6_s, if_pos rfl]
      · rw [up6_o e, if_neg (fun w => e w.symm)]
        rfl
    · rw [if_neg u, if_neg u, List.append_nil]
      exact ⟨i1, i2, i3⟩
theorem ruN_l {N : Nat → Nd} {R : Nat} : ruE (ruN N R) = enL N (setsOf N R) (fun _ => 0) ∧ ruL (ruN N R) = lsL N (setsOf N R) (fun _ => -2) ∧ ∀ v, ruT (ruN N R) v = tmL N v (setsOf N R) := by
  have h := ruAt_l (N := N) (F := flR N R) (flR N R).length (Nat.le_refl _)
  rw [List.take_length] at h
  exact h
theorem MoM.kp {I J : zI} {s : Nat} {x : Mo} (h : MoM I s x) (hT : txOk (moT x)) (hG : txOk (moG x)) (e : ∀ j, 720 * s ≤ j → j < 720 * s + 720 → J.1 542 j = I.1 542 j) : MoM J s x := by
  obtain ⟨h1, h2, h3, h4, h5, h6, h7⟩ := h
  have a1 := hT.1
  have a2 := hG.1
  have a3 := hG.2.2
  exact ⟨fun j hj => by rw [e _ (by omega) (by omega)]; exact h1 j hj, fun j hj => by rw [e _ (by omega) (by omega)]; exact h2 j hj, fun j hj => by rw [e _ (by omega) (by omega)]; exact h3 j hj, by rw [e _ (by omega) (by omega)]; exact h4, by rw [e _ (by omega) (by omega)]; exact h5, by rw [e _ (by omega) (by omega)]; exact h6, by rw [e _ (by omega) (by omega)]; exact h7⟩
theorem MoM.sh {I J : zI} {s : Nat} {x : Mo} (h : MoM I (s + 1) x) (hT : txOk (moT x)) (hG : txOk (moG x)) (e : ∀ j, 720 * s ≤ j → j < 720 * s + 720 → J.1 542 j = I.1 542 (j + 720)) : MoM J s x := by
  obtain ⟨h1, h2, h3, h4, h5, h6, h7⟩ := h
  have a1 := hT.1
  have a2 := hG.1
  have a3 := hG.2.2
  have w : ∀ k : Nat, 720 * s + k + 720 = 720 * (s + 1) + k := fun k => by omega
  refine ⟨fun j hj => ?_, fun j hj => ?_, fun j hj => ?_, ?_, ?_, ?_, ?_⟩
  · rw [e _ (by omega) (by omega), w]; exact h1 j hj
  · rw [e _ (by omega) (by omega), show 720 * s + 300 + j + 720 = 720 * (s + 1) + 300 + j by omega]; exact h2 j hj
  · rw [e _ (by omega) (by omega), show 720 * s + 600 + j + 720 = 720 * (s + 1) + 600 + j by omega]; exact h3 j hj
  · rw [e _ (by omega) (by omega), w]; exact h4
  · rw [e _ (by omega) (by omega), w]; exact h5
  · rw [e _ (by omega) (by omega), w]; exact h6
  · rw [e _ (by omega) (by omega), w]; exact h7
theorem NowM.kp {I J : zI} {x : Mo} (h : NowM I x) (e : ∀ a j, (a = 491 ∧ (j = 5 ∨ j = 15 ∨ j = 7 ∨ j = 19 ∨ j = 8 ∨ j = 37)) ∨ a = 494 ∨ a = 495 ∨ (501 ≤ a ∧ a ≤ 506) ∨ a = 508 → J.1 a j = I.1 a j) (e2 : ∀ j, J.2 507 j = I.2 507 j) : NowM J x := by
  obtain ⟨n1, n2, n3, n4, n5, n6, n7, n8, n9, n10⟩ := h
  obtain ⟨m1, m2, m3, m4⟩ := NowT.kp (J := J) (d := moT x) ⟨n1, n2, n3, n4⟩ (e _ _ (by omega)) (e _ _ (by omega)) (fun a j u => e a j (by omega))
  obtain ⟨m5, m6, m7⟩ := GoodT.kp (J := J) (d := moG x) ⟨n5, n6, n7⟩ (e _ _ (by omega)) (e _ _ (by omega)) (fun a j u => e a j (by omega)) e2
  exact ⟨m1, m2, m3, m4, m5, m6, m7, fun j hj => by rw [e _ _ (by omega)]; exact n8 j hj, by rw [e _ _ (by omega)]; exact n9, by rw [e _ _ (by omega)]; exact n10⟩
theorem RcM.kp {I J : zI} {rc : RcZ} (h : RcM I rc) (e : ∀ a j, a = 517 ∨ a = 518 → J.1 a j = I.1 a j) : RcM J rc := fun s l hs hr => by
  obtain ⟨a1, a2, a3⟩ := h s l hs hr
  exact ⟨a1, (e 517 s (Or.inl rfl)).trans a2, fun k v hk => (e 518 _ (Or.inr rfl)).trans (a3 k v hk)⟩
