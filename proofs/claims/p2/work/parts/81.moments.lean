/-! ===== moments, the class ===== -/
theorem s_now {s : Nat} {I : zI} {K : Nat → Prop} (hs : s < 21) (h4 : I.1 0 4 = zi s) (hK : K (zmom s)) : w_Desk_now I K := by
  intro P35 h35 P31 h31
  rw [h4, if_neg (zi_pos (by omega)), if_neg (show ¬ (21 : Int32) ≤ zi s from fun u => by have := (zi_le (a := 21) (by decide) (by omega)).mp u; omega), zi_tn (show s < 2147483648 by omega)]
  exact ⟨(zin_iff (by omega)).mpr hs, h35 _ hK⟩
theorem r_ruledSize {I : zI} {K : Int32 → Prop} (h : ∀ v, K v) : w_TreeView_ruledSize I K := by
  intro P4 h4
  have loop := up_loop (P := fun v _ => ∀ w, P4 w v) (b := 11) (inv := fun _ => True) (fun v J hv _ ih w => by
    refine h4 _ _ ?_
    rw [if_neg (Int32.not_le.mpr hv)]
    refine (w_get (by decide)).mpr (fun w' ew v' ev => ?_)
    rw [ev]
    exact ih J trivial w') (fun v J hv _ w => by
    refine h4 _ _ ?_
    rw [if_pos hv]
    exact h w)
  exact loop 0 I trivial 0
theorem eqX.at {lo hi : Nat} {I J : zI} (h : eqX lo hi I J) {a j : Nat} (ha : a < lo ∨ hi ≤ a) : J.1 a j = I.1 a j := congrFun (h a ha).1 j
theorem s_keepGood {k a c : Nat} {I : zI} {K : zI → Prop} (hka : k + 18 ≤ a ∨ a + 18 ≤ k) (hc : c ≤ 100) (h6 : I.1 a 6 = zi c) (hK : ∀ J, eqX k (k + 18) I J → J.1 k 3 = 0 → J.1 k 7 = I.1 a 7 → J.1 k 6 = zi c → (∀ j, j < c → J.1 (k + 15) j = I.1 (a + 15) j) → (∀ j, j < c → J.1 (k + 17) j = I.1 (a + 17) j) → (∀ b j, (k < b ∧ b < k + 14) ∨ (b = k ∧ j < 3) → J.1 b j = I.1 b j) → K J) : w_Moment_keepGood k a I K := by
  intro I1 e1 I2 e2 I3 e3 I4 e4
  have o4 : ∀ b, b ≠ k → I4.1 b = I.1 b := fun b hb => by rw [e4, zu_o hb, e3, zu_o hb, e2, zu_o hb, e1, zu_o hb]
  have x4 : eqX k (k + 18) I I4 := by
    rw [e4, e3, e2, e1]
    exact (((eqX.rf.zu (Nat.le_refl _) (by omega)).zu (Nat.le_refl _) (by omega)).zu (Nat.le_refl _) (by omega)).zu (Nat.le_refl _) (by omega)
  have hak : a ≠ k := by omega
  have g6 : I4.1 k 6 = zi c := by
    rw [e4, zu_self, e3, zu_o hak, e2, zu_o hak, e1, zu_o hak]
    exact h6
  have g3 : I4.1 k 3 = 0 := by rw [e4, zu_i (by decide), e3, zu_i (by decide), e2, zu_i (by decide), e1, zu_self]
  have g7 : I4.1 k 7 = I.1 a 7 := by rw [e4, zu_i (by decide), e3, zu_i (by decide), e2, zu_self, e1, zu_o hak]
  have gl : ∀ j, j < 3 → I4.1 k j = I.1 k j := fun j hj => by rw [e4, zu_i (by omega), e3, zu_i (by omega), e2, zu_i (by omega), e1, zu_i (by omega)]
  rw [g6]
  refine s_copy (by decide) (by decide) hc hc (fun J5 q5 v5 => ?_)
  rw [q5.at (by omega), g6]
  refine s_copy (by decide) (by decide) hc hc (fun J6 q6 v6 => ?_)
  refine hK J6 ((x4.tr (q5.mono (by omega) (by omega))).tr (q6.mono (by omega) (by omega))) ?_ ?_ ?_ (fun j hj => ?_) (fun j hj => ?_) (fun b j hb => ?_)
  · rw [q6.at (by omega), q5.at (by omega)]; exact g3
  · rw [q6.at (by omega), q5.at (by omega)]; exact g7
  · rw [q6.at (by omega), q5.at (by omega)]; exact g6
  · rw [q6.at (by omega), show k + 15 = k + 14 + 1 from rfl, v5, if_pos hj, o4 _ (by omega)]
  · rw [show k + 17 = k + 16 + 1 from rfl, v6, if_pos hj, q5.at (by omega), o4 _ (by omega)]
  · rw [q6.at (by omega), q5.at (by omega)]
    rcases hb with ⟨u1, u2⟩ | ⟨u1, u2⟩
    · rw [o4 _ (by omega)]
    · rw [u1]
      exact gl j u2
theorem s_beGood {R c : Nat} {I : zI} {K : zI → Prop} (hc : c ≤ 100) (h5 : I.1 7 5 = zi c) (hK : ∀ J, eqX 4 22 I J → J.1 4 3 = 1 → J.1 4 7 = zi R → J.1 4 6 = zi c → (∀ j, j < c → J.1 21 j = I.1 11 j) → (∀ b j, (4 < b ∧ b < 20) ∨ (b = 4 ∧ j < 3) → J.1 b j = I.1 b j) → K J) : w_Moment_beGood 4 (zi R) I K := by
  intro I1 e1 I2 e2 I3 e3
  have o3 : ∀ b, b ≠ 4 → I3.1 b = I.1 b := fun b hb => by rw [e3, zu_o hb, e2, zu_o hb, e1, zu_o hb]
  have x3 : eqX 4 22 I I3 := by
    rw [e3, e2, e1]
    exact ((eqX.rf.zu (Nat.le_refl _) (by omega)).zu (Nat.le_refl _) (by omega)).zu (Nat.le_refl _) (by omega)
  have g6 : I3.1 4 6 = zi c := by
    rw [e3, zu_self, e2, zu_o (by decide), e1, zu_o (by decide)]
    exact h5
  rw [g6]
  refine s_copy (by decide) (by decide) hc hc (fun J q v => ?_)
  refine hK J (x3.tr (q.mono (by omega) (by omega))) ?_ ?_ ?_ (fun j hj => ?_) (fun b j hb => ?_)
  · rw [q.at (by omega), e3, zu_i (by decide), e2, zu_i (by decide), e1, zu_self]
  · rw [q.at (by omega), e3, zu_i (by decide), e2, zu_self]
  · rw [q.at (by omega)]; exact g6
  · rw [show (21 : Nat) = 4 + 16 + 1 from rfl, v, if_pos hj, o3 _ (by decide)]
  · rw [q.at (by omega)]
    rcases hb with ⟨u1, u2⟩ | ⟨u1, u2⟩
    · rw [o3 _ (by omega)]
    · rw [u1, e3, zu_i (by omega), e2, zu_i (by omega), e1, zu_i (by omega)]
theorem s_tokCopy {k a c : Nat} {I : zI} {K : zI → Prop} (hka : k + 11 ≤ a ∨ a + 11 ≤ k) (hc : c ≤ 100) (h5 : I.1 a 5 = zi c) (hK : ∀ J, eqX k (k + 11) I J → J.1 k 5 = zi c → (∀ i j, i < 5 → j < c → J.1 (k + 2 + 2 * i) j = I.1 (a + 2 + 2 * i) j) → K J) : w_Tokens_copyFrom k a I K := by
  intro I1 e1
  have hak : a ≠ k := by omega
  have x1 : eqX k (k + 11) I I1 := by
    rw [e1]
    exact eqX.rf.zu (Nat.le_refl _) (by omega)
  have o1 : ∀ b, b ≠ k → I1.1 b = I.1 b := fun b hb => by rw [e1, zu_o hb]
  have g1 : I1.1 k 5 = zi c := by rw [e1, zu_self, h5]
  rw [g1]
  refine s_copy (by decide) (by decide) hc hc (fun J2 q2 v2 => ?_)
  rw [q2.at (a := k) (by omega), g1]
  refine s_copy (by decide) (by decide) hc hc (fun J3 q3 v3 => ?_)
  rw [q3.at (a := k) (by omega), q2.at (a := k) (by omega), g1]
  refine s_copy (by decide) (by decide) hc hc (fun J4 q4 v4 => ?_)
  rw [q4.at (a := k) (by omega), q3.at (a := k) (by omega), q2.at (a := k) (by omega), g1]
  refine s_copy (by decide) (by decide) hc hc (fun J5 q5 v5 => ?_)
  rw [q5.at (a := k) (by omega), q4.at (a := k) (by omega), q3.at (a := k) (by omega), q2.at (a := k) (by omega), g1]
  refine s_copy (by decide) (by decide) hc hc (fun J6 q6 v6 => ?_)
  refine hK J6 (((((x1.tr (q2.mono (by omega) (by omega))).tr (q3.mono (by omega) (by omega))).tr (q4.mono (by omega) (by omega))).tr (q5.mono (by omega) (by omega))).tr (q6.mono (by omega) (by omega))) ?_ (fun i j hi hj => ?_)
  · rw [q6.at (by omega), q5.at (by omega), q4.at (by omega), q3.at (by omega), q2.at (by omega)]; exact g1
  · rcases (show i = 0 ∨ i = 1 ∨ i = 2 ∨ i = 3 ∨ i = 4 by omega) with rfl | rfl | rfl | rfl | rfl
    · rw [q6.at (by omega), q5.at (by omega), q4.at (by omega), q3.at (by omega), show k + 2 + 2 * 0 = k + 1 + 1 from rfl, v2, if_pos hj, o1 _ (by omega)]
    · rw [q6.at (by omega), q5.at (by omega), q4.at (by omega), show k + 2 + 2 * 1 = k + 3 + 1 from rfl, v3, if_pos hj, q2.at (by omega), o1 _ (by omega)]
    · rw [q6.at (by omega), q5.at (by omega), show k + 2 + 2 * 2 = k + 5 + 1 from rfl, v4, if_pos hj, q3.at (by omega), q2.at (by omega), o1 _ (by omega)]
    · rw [q6.at (by omega), show k + 2 + 2 * 3 = k + 7 + 1 from rfl, v5, if_pos hj, q4.at (by omega), q3.at (by omega), q2.at (by omega), o1 _ (by omega)]
    · rw [show k + 2 + 2 * 4 = k + 9 + 1 from rfl, v6, if_pos hj, q5.at (by omega), q4.at (by omega), q3.at (by omega), q2.at (by omega), o1 _ (by omega)]
theorem MoX.kp {I J : zI} {k : Nat} {x : Mo} (h : MoX I k x) (e : ∀ a j, k ≤ a → a < k + 18 → J.1 a j = I.1 a j) : MoX J k x := by
  obtain ⟨h1, h2, ⟨h3, h4⟩, h5, h6, h7, h8, h9⟩ := h
  refine ⟨by rw [e _ _ (by omega) (by omega)]; exact h1, fun j hj => by rw [e _ _ (by omega) (by omega)]; exact h2 j hj, ⟨by rw [e _ _ (by omega) (by omega)]; exact h3, fun j y hy => ?_⟩, by rw [e _ _ (by omega) (by omega)]; exact h5, by rw [e _ _ (by omega) (by omega)]; exact h6, fun j hj => by rw [e _ _ (by omega) (by omega)]; exact h7 j hj, fun j y hy => by rw [e _ _ (by omega) (by omega)]; exact h8 j y hy, by rw [e _ _ (by omega) (by omega)]; exact h9⟩
  rw [e _ _ (by omega) (by omega), e _ _ (by omega) (by omega), e _ _ (by omega) (by omega), e _ _ (by omega) (by omega), e _ _ (by omega) (by omega)]
  exact h4 j y hy
/-- a moment copied -/
theorem s_momCopy {k a : Nat} {x : Mo} {I : zI} {K : zI → Prop} (hka : k + 18 ≤ a ∨ a + 18 ≤ k) (hT : txOk (moT x)) (hG : txOk (moG x)) (hX : MoX I a x) (hK : ∀ J, eqX k (k + 18) I J → MoX J k x → K J) : w_Moment_copyFrom k a I K := by
  obtain ⟨h1, h2, ⟨h3, h4⟩, h5, h6, h7, h8, h9⟩ := id hX
  have hak : a ≠ k := by omega
  intro I1 e1
  have o1 : ∀ b, b ≠ k → I1.1 b = I.1 b := fun b hb => by rw [e1, zu_o hb]
  have g1 : I1.1 k 1 = zi (moT x).length := by rw [e1, zu_self, h1]
  have x1 : eqX k (k + 18) I I1 := by
    rw [e1]
    exact eqX.rf.zu (Nat.le_refl _) (by omega)
  rw [g1]
  refine s_copy (by decide) (by decide) hT.1 hT.1 (fun J2 q2 v2 => ?_)
  have y2 : eqX k (k + 18) I J2 := x1.tr (q2.mono (by omega) (by omega))
  refine s_tokCopy (c := (lexL (moT x)).length) (by omega) hT.2.2 (by rw [y2.at (by omega)]; exact h3) (fun J3 q3 g3 v3 => ?_)
  have y3 : eqX k (k + 18) I J3 := y2.tr (q3.mono (by omega) (by omega))
  refine s_keepGood (c := (lexL (moG x)).length) hka hG.2.2 (by rw [y3.at (by omega)]; exact h6) (fun J4 q4 w1 w2 w3 w4 w5 w6 => ?_)
  have y4 : eqX k (k + 18) I J4 := y3.tr q4
  have a3 : J4.1 a 3 = b01 (moB x) := by rw [y4.at (by omega)]; exact h5
  rw [a3]
  refine ⟨?_, fun I5 e5 => ?_⟩
  · cases moB x
    · exact Or.inl rfl
    · exact Or.inr rfl
  have o5 : ∀ b j, ¬ (b = k ∧ j = 3) → I5.1 b j = J4.1 b j := fun b j u => by rw [e5, zu_at, if_neg u]
  refine hK I5 (by rw [e5]; exact y4.zu (Nat.le_refl _) (by omega)) ⟨?_, fun j hj => ?_, ⟨?_, fun j y hy => ?_⟩, ?_, ?_, fun j hj => ?_, fun j y hy => ?_, ?_⟩
  · rw [o5 _ _ (by omega), w6 _ _ (by omega), q3.at (by omega), q2.at (by omega)]
    exact g1
  · rw [o5 _ _ (by omega), w6 _ _ (by omega), q3.at (by omega), show k + 2 = k + 1 + 1 from rfl, v2, if_pos hj, o1 _ (by omega)]
    exact h2 j hj
  · rw [o5 _ _ (by omega), w6 _ _ (by omega)]
    exact g3
  · have hj := (List.getElem?_eq_some_iff.mp hy).1
    have tk : ∀ i, i < 5 → I5.1 (k + 3 + 2 + 2 * i) j = I.1 (a + 3 + 2 + 2 * i) j := fun i hi => by
      rw [o5 _ _ (by omega), w6 _ _ (by omega), v3 i j hi hj, y2.at (by omega)]
    obtain ⟨z1, z2, z3, z4, z5⟩ := h4 j y hy
    exact ⟨(tk 0 (by decide)).trans z1, (tk 1 (by decide)).trans z2, (tk 2 (by decide)).trans z3, (tk 3 (by decide)).trans z4, (tk 4 (by decide)).trans z5⟩
  · rw [e5, zu_self]
  · rw [o5 _ _ (by omega)]
    exact w3
  · rw [o5 _ _ (by omega), w4 j hj, y3.at (by omega)]
    exact h7 j hj
  · have hj := (List.getElem?_eq_some_iff.mp hy).1
    rw [o5 _ _ (by omega), w5 j hj, y3.at (by omega)]
    exact h8 j y hy
  · rw [o5 _ _ (by omega), w2, y3.at (by omega)]
    exact h9
/-- the next moment is the draft -/
theorem s_turn {x : Sg} {c : Mo} {I : zI} {K : zI → Prop} {s : Nat} (hs : s < 21) (h4 : I.1 0 4 = zi s) (h5 : I.1 0 5 = zi (sgA x).length) (hlA : (sgA x).length ≤ 20) (hc : MoX I 4 c) (hcT : txOk (moT c)) (hcG : txOk (moG c)) (hC : MoX I (zmom s) (sgC x)) (hA : ∀ (k : Nat) (y : Mo), (sgA x)[k]? = some y → MoX I (zmom ((s + 20 - k) % 21)) y)
    (hK : ∀ J, eqQ (fun a j => (a = 0 ∧ 4 ≤ j ∧ j ≤ 6) ∨ (113 ≤ a ∧ a < 491)) I J → J.1 0 5 = zi ((sgC x :: sgA x).take 20).length → J.1 0 6 = 0 → (∃ s', s' < 21 ∧ J.1 0 4 = zi s' ∧ MoX J (zmom s') c ∧ ∀ (k : Nat) (y : Mo), ((sgC x :: sgA x).take 20)[k]? = some y → MoX J (zmom ((s' + 20 - k) % 21)) y) → K J) : w_Desk_turnToNext I K := by
  unfold w_Desk_turnToNext w_Desk_nextSlot
  have zm : ∀ i, zmom i = 113 + 18 * i := fun i => rfl
  have rest : ∀ s', s' = (s + 1) % 21 → ∀ I2, I2 = zu I 0 4 (zi s') → w_Desk_now I2 (fun r_3 => w_Moment_copyFrom r_3 4 I2 (fun I_4 => ∀ I_5, I_5 = (zu I_4 0 5 (if ((I_4.1 0 5) + 1) < 20 then ((I_4.1 0 5) + 1) else 20)) → ∀ I_6, I_6 = (zu I_5 0 6 0) → K I_6)) := by
    intro s' es I2 e2
    have hs' : s' < 21 := by omega
    refine s_now hs' (by rw [e2, zu_self]) ?_
    have o2 : ∀ a j, ¬ (a = 0 ∧ j = 4) → I2.1 a j = I.1 a j := fun a j u => by rw [e2, zu_at, if_neg u]
    have z1 := zm s'
    refine s_momCopy (by omega) hcT hcG (hc.kp (fun a j _ _ => o2 a j (by omega))) (fun J qJ mJ I5 e5 I6 e6 => ?_)
    have gJ : J.1 0 5 = zi (sgA x).length := by rw [qJ.at (by omega), o2 _ _ (by omega)]; exact h5
    have hmin : (if (J.1 0 5 + 1) < 20 then (J.1 0 5 + 1) else 20) = zi ((sgC x :: sgA x).take 20).length := by
      rw [gJ, zi_succ, List.length_take, List.length_cons]
      by_cases u : (sgA x).length + 1 < 20
      · rw [if_pos (show zi ((sgA x).length + 1) < 20 from (zi_lt (b := 20) (by omega) (by decide)).mpr u), Nat.min_eq_right (by omega)]
      · rw [if_neg (show ¬ zi ((sgA x).length + 1) < 20 from fun v => u ((zi_lt (b := 20) (by omega) (by decide)).mp v)), Nat.min_eq_left (by omega)]
        rfl
    rw [hmin] at e5
    have o6 : ∀ a j, a ≠ 0 → I6.1 a j = J.1 a j := fun a j u => by rw [e6, zu_oo u, e5, zu_oo u]
    have q6 : eqQ (fun a j => (a = 0 ∧ 4 ≤ j ∧ j ≤ 6) ∨ (113 ≤ a ∧ a < 491)) I I6 := by
      have q2 : eqQ (fun a j => (a = 0 ∧ 4 ≤ j ∧ j ≤ 6) ∨ (113 ≤ a ∧ a < 491)) I I2 := by
        rw [e2]
        exact eqQ.rf.zu (Or.inl ⟨rfl, by decide, by decide⟩)
      have q3 : eqQ (fun a j => (a = 0 ∧ 4 ≤ j ∧ j ≤ 6) ∨ (113 ≤ a ∧ a < 491)) I J := eqX.q q2 qJ (fun a j h1 h2 => Or.inr ⟨by omega, by omega⟩)
      rw [e6, e5]
      exact (q3.zu (Or.inl ⟨rfl, by decide, by decide⟩)).zu (Or.inl ⟨rfl, by decide, by decide⟩)
    refine hK I6 q6 (by rw [e6, zu_i (by decide), e5, zu_self]) (by rw [e6, zu_self]) ⟨s', hs', ?_, mJ.kp (fun a j u1 u2 => o6 a j (by omega)), fun k y hy => ?_⟩
    · rw [e6, zu_i (by decide), e5, zu_i (by decide), qJ.at (by omega), e2, zu_self]
    · have hk := (List.getElem?_eq_some_iff.mp hy).1
      rw [List.length_take] at hk
      have hk20 : k < 20 := by omega
      rw [List.getElem?_take, if_pos hk20] at hy
      have old : ∀ r, r < 21 → r ≠ s' → MoX I (zmom r) y → MoX I6 (zmom r) y := fun r hr hrs hm => hm.kp (fun a j u1 u2 => by
        have z2 := zm r
        rw [o6 a j (by omega), qJ.at (by omega), o2 _ _ (by omega)])
      cases k with
      | zero =>
        cases hy
        rw [show (s' + 20 - 0) % 21 = s by omega]
        exact old s hs (by omega) hC
      | succ k =>
        rw [List.getElem?_cons_succ] at hy
        have := hA k y hy
        rw [show (s + 20 - k) % 21 = (s' + 20 - (k + 1)) % 21 by omega] at this
        exact old _ (by omega) (by omega) this
  rw [h4]
  by_cases u : s < 20
  · rw [if_pos (show zi s < 20 from (zi_lt (b := 20) (by omega) (by decide)).mpr u), zi_succ]
    exact rest (s + 1) (by omega)
  · rw [if_neg (show ¬ zi s < 20 from fun v => u ((zi_lt (b := 20) (by omega) (by decide)).mp v))]
    exact rest 0 (by omega)
