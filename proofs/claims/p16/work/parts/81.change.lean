/-! ===== moments, the class ===== -/
theorem s_now {s : Nat} {I : zI} {K : Nat → Prop} (hs : s < 21) (h4 : I.1 0 4 = zi s) (hK : K (zmom s)) : w_Desk_now I K := by
  intro P35 h35 P31 h31
  rw [h4, if_neg (zi_pos (by omega)), if_neg (show ¬ (21 : Int32) ≤ zi s from fun u => by have := (zi_le (a := 21) (by decide) (by omega)).mp u; omega), zi_tn (show s < 2147483648 by omega)]
  exact ⟨(zin_iff (by omega)).mpr hs, h35 _ hK⟩
theorem r_ruledSize {I : zI} {K : Int32 → Prop} (h : ∀ v, K v) : w_TreeView_ruledSize I K := by
  intro P4 h4
  have loop := up_loop (P := fun v _ => ∀ w, P4 w v) (b := 11) (inv := fun _ => True) (fun v J hv _ ih w => by
    refine h4 _ _ ?_
    rw [if_neg (Int32.not_le.mpr hv)]
    refine (w_get (by decide)).mpr (fun w' ew v' ev => ?_)
    rw [ev]
    exact ih J trivial w') (fun v J hv _ w => by
    refine h4 _ _ ?_
    rw [if_pos hv]
    exact h w)
  exact loop 0 I trivial 0
theorem eqX.at {lo hi : Nat} {I J : zI} (h : eqX lo hi I J) {a j : Nat} (ha : a < lo ∨ hi ≤ a) : J.1 a j = I.1 a j := congrFun (h a ha).1 j
theorem s_keepGood {k a c : Nat} {I : zI} {K : zI → Prop} (hka : k + 18 ≤ a ∨ a + 18 ≤ k) (hc : c ≤ 100) (h6 : I.1 a 6 = zi c) (hK : ∀ J, eqX k (k + 18) I J → J.1 k 3 = 0 → J.1 k 7 = I.1 a 7 → J.1 k 8 = I.1 a 8 → J.1 k 6 = zi c → (∀ j, j < c → J.1 (k + 15) j = I.1 (a + 15) j) → (∀ j, j < c → J.1 (k + 17) j = I.1 (a + 17) j) → (∀ b j, (k < b ∧ b < k + 14) ∨ (b = k ∧ j < 3) → J.1 b j = I.1 b j) → K J) : w_Moment_keepGood k a I K := by
  intro I1 e1 I2 e2 I3 e3 I4 e4
  have o4 : ∀ b, b ≠ k → I4.1 b = I.1 b := fun b hb => by rw [e4, zu_o hb, e3, zu_o hb, e2, zu_o hb, e1, zu_o hb]
  have x4 : eqX k (k + 18) I I4 := by
    rw [e4, e3, e2, e1]
    exact (((eqX.rf.zu (Nat.le_refl _) (by omega)).zu (Nat.le_refl _) (by omega)).zu (Nat.le_refl _) (by omega)).zu (Nat.le_refl _) (by omega)
  have hak : a ≠ k := by omega
  have g6 : I4.1 k 6 = zi c := by
    rw [e4, zu_self, e3, zu_o hak, e2, zu_o hak, e1, zu_o hak]
    exact h6
  have g3 : I4.1 k 3 = 0 := by rw [e4, zu_i (by decide), e3, zu_i (by decide), e2, zu_i (by decide), e1, zu_self]
  have g7 : I4.1 k 7 = I.1 a 7 := by rw [e4, zu_i (by decide), e3, zu_i (by decide), e2, zu_self, e1, zu_o hak]
  have g8 : I4.1 k 8 = I.1 a 8 := by rw [e4, zu_i (by decide), e3, zu_self, e2, zu_o hak, e1, zu_o hak]
  have gl : ∀ j, j < 3 → I4.1 k j = I.1 k j := fun j hj => by rw [e4, zu_i (by omega), e3, zu_i (by omega), e2, zu_i (by omega), e1, zu_i (by omega)]
  rw [g6]
  refine s_copy (by decide) (by decide) hc hc (fun J5 q5 v5 => ?_)
  rw [q5.at (by omega), g6]
  refine s_copy (by decide) (by decide) hc hc (fun J6 q6 v6 => ?_)
  refine hK J6 ((x4.tr (q5.mono (by omega) (by omega))).tr (q6.mono (by omega) (by omega))) ?_ ?_ ?_ ?_ (fun j hj => ?_) (fun j hj => ?_) (fun b j hb => ?_)
  · rw [q6.at (by omega), q5.at (by omega)]; exact g3
  · rw [q6.at (by omega), q5.at (by omega)]; exact g7
  · rw [q6.at (by omega), q5.at (by omega)]; exact g8
  · rw [q6.at (by omega), q5.at (by omega)]; exact g6
  · rw [q6.at (by omega), show k + 15 = k + 14 + 1 from rfl, v5, if_pos hj, o4 _ (by omega)]
  · rw [show k + 17 = k + 16 + 1 from rfl, v6, if_pos hj, q5.at (by omega), o4 _ (by omega)]
  · rw [q6.at (by omega), q5.at (by omega)]
    rcases hb with ⟨u1, u2⟩ | ⟨u1, u2⟩
    · rw [o4 _ (by omega)]
    · rw [u1]
      exact gl j u2
theorem s_beGood {R c : Nat} {I : zI} {K : zI → Prop} (hc : c ≤ 100) (h5 : I.1 7 5 = zi c) (hK : ∀ J, eqX 4 22 I J → J.1 4 3 = 1 → J.1 4 7 = zi R → J.1 4 6 = zi c → (∀ j, j < c → J.1 21 j = I.1 11 j) → (∀ b j, (4 < b ∧ b < 20) ∨ (b = 4 ∧ j < 3) → J.1 b j = I.1 b j) → K J) : w_Moment_beGood 4 (zi R) I K := by
  intro I1 e1 I2 e2 I3 e3
  have o3 : ∀ b, b ≠ 4 → I3.1 b = I.1 b := fun b hb => by rw [e3, zu_o hb, e2, zu_o hb, e1, zu_o hb]
  have x3 : eqX 4 22 I I3 := by
    rw [e3, e2, e1]
    exact ((eqX.rf.zu (Nat.le_refl _) (by omega)).zu (Nat.le_refl _) (by omega)).zu (Nat.le_refl _) (by omega)
  have g6 : I3.1 4 6 = zi c := by
    rw [e3, zu_self, e2, zu_o (by decide), e1, zu_o (by decide)]
    exact h5
  rw [g6]
  refine s_copy (by decide) (by decide) hc hc (fun J q v => ?_)
  refine hK J (x3.tr (q.mono (by omega) (by omega))) ?_ ?_ ?_ (fun j hj => ?_) (fun b j hb => ?_)
  · rw [q.at (by omega), e3, zu_i (by decide), e2, zu_i (by decide), e1, zu_self]
  · rw [q.at (by omega), e3, zu_i (by decide), e2, zu_self]
  · rw [q.at (by omega)]; exact g6
  · rw [show (21 : Nat) = 4 + 16 + 1 from rfl, v, if_pos hj, o3 _ (by decide)]
  · rw [q.at (by omega)]
    rcases hb with ⟨u1, u2⟩ | ⟨u1, u2⟩
    · rw [o3 _ (by omega)]
    · rw [u1, e3, zu_i (by omega), e2, zu_i (by omega), e1, zu_i (by omega)]
theorem s_tokCopy {k a c : Nat} {I : zI} {K : zI → Prop} (hka : k + 11 ≤ a ∨ a + 11 ≤ k) (hc : c ≤ 100) (h5 : I.1 a 5 = zi c) (hK : ∀ J, eqX k (k + 11) I J → J.1 k 5 = zi c → (∀ i j, i < 5 → j < c → J.1 (k + 2 + 2 * i) j = I.1 (a + 2 + 2 * i) j) → K J) : w_Tokens_copyFrom k a I K := by
  intro I1 e1
  have hak : a ≠ k := by omega
  have x1 : eqX k (k + 11) I I1 := by
    rw [e1]
    exact eqX.rf.zu (Nat.le_refl _) (by omega)
  have o1 : ∀ b, b ≠ k → I1.1 b = I.1 b := fun b hb => by rw [e1, zu_o hb]
  have g1 : I1.1 k 5 = zi c := by rw [e1, zu_self, h5]
  rw [g1]
  refine s_copy (by decide) (by decide) hc hc (fun J2 q2 v2 => ?_)
  rw [q2.at (a := k) (by omega), g1]
  refine s_copy (by decide) (by decide) hc hc (fun J3 q3 v3 => ?_)
  rw [q3.at (a := k) (by omega), q2.at (a := k) (by omega), g1]
  refine s_copy (by decide) (by decide) hc hc (fun J4 q4 v4 => ?_)
  rw [q4.at (a := k) (by omega), q3.at (a := k) (by omega), q2.at (a := k) (by omega), g1]
  refine s_copy (by decide) (by decide) hc hc (fun J5 q5 v5 => ?_)
  rw [q5.at (a := k) (by omega), q4.at (a := k) (by omega), q3.at (a := k) (by omega), q2.at (a := k) (by omega), g1]
  refine s_copy (by decide) (by decide) hc hc (fun J6 q6 v6 => ?_)
  refine hK J6 (((((x1.tr (q2.mono (by omega) (by omega))).tr (q3.mono (by omega) (by omega))).tr (q4.mono (by omega) (by omega))).tr (q5.mono (by omega) (by omega))).tr (q6.mono (by omega) (by omega))) ?_ (fun i j hi hj => ?_)
  · rw [q6.at (by omega), q5.at (by omega), q4.at (by omega), q3.at (by omega), q2.at (by omega)]; exact g1
  · rcases (show i = 0 ∨ i = 1 ∨ i = 2 ∨ i = 3 ∨ i = 4 by omega) with rfl | rfl | rfl | rfl | rfl
    · rw [q6.at (by omega), q5.at (by omega), q4.at (by omega), q3.at (by omega), show k + 2 + 2 * 0 = k + 1 + 1 from rfl, v2, if_pos hj, o1 _ (by omega)]
    · rw [q6.at (by omega), q5.at (by omega), q4.at (by omega), show k + 2 + 2 * 1 = k + 3 + 1 from rfl, v3, if_pos hj, q2.at (by omega), o1 _ (by omega)]
    · rw [q6.at (by omega), q5.at (by omega), show k + 2 + 2 * 2 = k + 5 + 1 from rfl, v4, if_pos hj, q3.at (by omega), q2.at (by omega), o1 _ (by omega)]
    · rw [q6.at (by omega), show k + 2 + 2 * 3 = k + 7 + 1 from rfl, v5, if_pos hj, q4.at (by omega), q3.at (by omega), q2.at (by omega), o1 _ (by omega)]
    · rw [show k + 2 + 2 * 4 = k + 9 + 1 from rfl, v6, if_pos hj, q5.at (by omega), q4.at (by omega), q3.at (by omega), q2.at (by omega), o1 _ (by omega)]
theorem MoX.kp {I J : zI} {k : Nat} {x : Mo} (h : MoX I k x) (e : ∀ a j, k ≤ a → a < k + 18 → J.1 a j = I.1 a j) : MoX J k x := by
  obtain ⟨h1, h2, ⟨h3, h4⟩, h5, h6, h7, h8, h9, h10⟩ := h
  refine ⟨by rw [e _ _ (by omega) (by omega)]; exact h1, fun j hj => by rw [e _ _ (by omega) (by omega)]; exact h2 j hj, ⟨by rw [e _ _ (by omega) (by omega)]; exact h3, fun j y hy => ?_⟩, by rw [e _ _ (by omega) (by omega)]; exact h5, by rw [e _ _ (by omega) (by omega)]; exact h6, fun j hj => by rw [e _ _ (by omega) (by omega)]; exact h7 j hj, fun j y hy => by rw [e _ _ (by omega) (by omega)]; exact h8 j y hy, by rw [e _ _ (by omega) (by omega)]; exact h9, by rw [e _ _ (by omega) (by omega)]; exact h10⟩
  rw [e _ _ (by omega) (by omega), e _ _ (by omega) (by omega), e _ _ (by omega) (by omega), e _ _ (by omega) (by omega), e _ _ (by omega) (by omega)]
  exact h4 j y hy
/-- a moment copied -/
theorem s_momCopy {k a : Nat} {x : Mo} {I : zI} {K : zI → Prop} (hka : k + 18 ≤ a ∨ a + 18 ≤ k) (hT : txOk (moT x)) (hG : txOk (moG x)) (hX : MoX I a x) (hK : ∀ J, eqX k (k + 18) I J → MoX J k x → K J) : w_Moment_copyFrom k a I K := by
  obtain ⟨h1, h2, ⟨h3, h4⟩, h5, h6, h7, h8, h9, h10⟩ := id hX
  have hak : a ≠ k := by omega
  intro I1 e1
  have o1 : ∀ b, b ≠ k → I1.1 b = I.1 b := fun b hb => by rw [e1, zu_o hb]
  have g1 : I1.1 k 1 = zi (moT x).length := by rw [e1, zu_self, h1]
  have x1 : eqX k (k + 18) I I1 := by
    rw [e1]
    exact eqX.rf.zu (Nat.le_refl _) (by omega)
  rw [g1]
  refine s_copy (by decide) (by decide) hT.1 hT.1 (fun J2 q2 v2 => ?_)
  have y2 : eqX k (k + 18) I J2 := x1.tr (q2.mono (by omega) (by omega))
  refine s_tokCopy (c := (lexL (moT x)).length) (by omega) hT.2.2 (by rw [y2.at (by omega)]; exact h3) (fun J3 q3 g3 v3 => ?_)
  have y3 : eqX k (k + 18) I J3 := y2.tr (q3.mono (by omega) (by omega))
  refine s_keepGood (c := (lexL (moG x)).length) hka hG.2.2 (by rw [y3.at (by omega)]; exact h6) (fun J4 q4 w1 w2 w2r w3 w4 w5 w6 => ?_)
  have y4 : eqX k (k + 18) I J4 := y3.tr q4
  have a3 : J4.1 a 3 = b01 (moB x) := by rw [y4.at (by omega)]; exact h5
  rw [a3]
  refine ⟨?_, fun I5 e5 => ?_⟩
  · cases moB x
    · exact Or.inl rfl
    · exact Or.inr rfl
  have o5 : ∀ b j, ¬ (b = k ∧ j = 3) → I5.1 b j = J4.1 b j := fun b j u => by rw [e5, zu_at, if_neg u]
  refine hK I5 (by rw [e5]; exact y4.zu (Nat.le_refl _) (by omega)) ⟨?_, fun j hj => ?_, ⟨?_, fun j y hy => ?_⟩, ?_, ?_, fun j hj => ?_, fun j y hy => ?_, ?_, ?_⟩
  · rw [o5 _ _ (by omega), w6 _ _ (by omega), q3.at (by omega), q2.at (by omega)]
    exact g1
  · rw [o5 _ _ (by omega), w6 _ _ (by omega), q3.at (by omega), show k + 2 = k + 1 + 1 from rfl, v2, if_pos hj, o1 _ (by omega)]
    exact h2 j hj
  · rw [o5 _ _ (by omega), w6 _ _ (by omega)]
    exact g3
  · have hj := (List.getElem?_eq_some_iff.mp hy).1
    have tk : ∀ i, i < 5 → I5.1 (k + 3 + 2 + 2 * i) j = I.1 (a + 3 + 2 + 2 * i) j := fun i hi => by
      rw [o5 _ _ (by omega), w6 _ _ (by omega), v3 i j hi hj, y2.at (by omega)]
    obtain ⟨z1, z2, z3, z4, z5⟩ := h4 j y hy
    exact ⟨(tk 0 (by decide)).trans z1, (tk 1 (by decide)).trans z2, (tk 2 (by decide)).trans z3, (tk 3 (by decide)).trans z4, (tk 4 (by decide)).trans z5⟩
  · rw [e5, zu_self]
  · rw [o5 _ _ (by omega)]
    exact w3
  · rw [o5 _ _ (by omega), w4 j hj, y3.at (by omega)]
    exact h7 j hj
  · have hj := (List.getElem?_eq_some_iff.mp hy).1
    rw [o5 _ _ (by omega), w5 j hj, y3.at (by omega)]
    exact h8 j y hy
  · rw [o5 _ _ (by omega), w2, y3.at (by omega)]
    exact h9
  · rw [o5 _ _ (by omega), w2r, y3.at (by omega)]
    exact h10
/-- the next moment is the draft -/
theorem s_turn {x : Sg} {c : Mo} {I : zI} {K : zI → Prop} {s : Nat} (hs : s < 21) (h4 : I.1 0 4 = zi s) (h5 : I.1 0 5 = zi (sgA x).length) (hlA : (sgA x).length ≤ 20) (hc : MoX I 4 c) (hcT : txOk (moT c)) (hcG : txOk (moG c)) (hC : MoX I (zmom s) (sgC x)) (hA : ∀ (k : Nat) (y : Mo), (sgA x)[k]? = some y → MoX I (zmom ((s + 20 - k) % 21)) y)
    (hK : ∀ J, eqQ (fun a j => (a = 0 ∧ 4 ≤ j ∧ j ≤ 6) ∨ (113 ≤ a ∧ a < 491)) I J → J.1 0 5 = zi ((sgC x :: sgA x).take 20).length → J.1 0 6 = 0 → (∃ s', s' < 21 ∧ J.1 0 4 = zi s' ∧ MoX J (zmom s') c ∧ ∀ (k : Nat) (y : Mo), ((sgC x :: sgA x).take 20)[k]? = some y → MoX J (zmom ((s' + 20 - k) % 21)) y) → K J) : w_Desk_turnToNext I K := by
  unfold w_Desk_turnToNext w_Desk_nextSlot
  have zm : ∀ i, zmom i = 113 + 18 * i := fun i => rfl
  have rest : ∀ s', s' = (s + 1) % 21 → ∀ I2, I2 = zu I 0 4 (zi s') → w_Desk_now I2 (fun r_3 => w_Moment_copyFrom r_3 4 I2 (fun I_4 => ∀ I_5, I_5 = (zu I_4 0 5 (if ((I_4.1 0 5) + 1) < 20 then ((I_4.1 0 5) + 1) else 20)) → ∀ I_6, I_6 = (zu I_5 0 6 0) → K I_6)) := by
    intro s' es I2 e2
    have hs' : s' < 21 := by omega
    refine s_now hs' (by rw [e2, zu_self]) ?_
    have o2 : ∀ a j, ¬ (a = 0 ∧ j = 4) → I2.1 a j = I.1 a j := fun a j u => by rw [e2, zu_at, if_neg u]
    have z1 := zm s'
    refine s_momCopy (by omega) hcT hcG (hc.kp (fun a j _ _ => o2 a j (by omega))) (fun J qJ mJ I5 e5 I6 e6 => ?_)
    have gJ : J.1 0 5 = zi (sgA x).length := by rw [qJ.at (by omega), o2 _ _ (by omega)]; exact h5
    have hmin : (if (J.1 0 5 + 1) < 20 then (J.1 0 5 + 1) else 20) = zi ((sgC x :: sgA x).take 20).length := by
      rw [gJ, zi_succ, List.length_take, List.length_cons]
      by_cases u : (sgA x).length + 1 < 20
      · rw [if_pos (show zi ((sgA x).length + 1) < 20 from (zi_lt (b := 20) (by omega) (by decide)).mpr u), Nat.min_eq_right (by omega)]
      · rw [if_neg (show ¬ zi ((sgA x).length + 1) < 20 from fun v => u ((zi_lt (b := 20) (by omega) (by decide)).mp v)), Nat.min_eq_left (by omega)]
        rfl
    rw [hmin] at e5
    have o6 : ∀ a j, a ≠ 0 → I6.1 a j = J.1 a j := fun a j u => by rw [e6, zu_oo u, e5, zu_oo u]
    have q6 : eqQ (fun a j => (a = 0 ∧ 4 ≤ j ∧ j ≤ 6) ∨ (113 ≤ a ∧ a < 491)) I I6 := by
      have q2 : eqQ (fun a j => (a = 0 ∧ 4 ≤ j ∧ j ≤ 6) ∨ (113 ≤ a ∧ a < 491)) I I2 := by
        rw [e2]
        exact eqQ.rf.zu (Or.inl ⟨rfl, by decide, by decide⟩)
      have q3 : eqQ (fun a j => (a = 0 ∧ 4 ≤ j ∧ j ≤ 6) ∨ (113 ≤ a ∧ a < 491)) I J := eqX.q q2 qJ (fun a j h1 h2 => Or.inr ⟨by omega, by omega⟩)
      rw [e6, e5]
      exact (q3.zu (Or.inl ⟨rfl, by decide, by decide⟩)).zu (Or.inl ⟨rfl, by decide, by decide⟩)
    refine hK I6 q6 (by rw [e6, zu_i (by decide), e5, zu_self]) (by rw [e6, zu_self]) ⟨s', hs', ?_, mJ.kp (fun a j u1 u2 => o6 a j (by omega)), fun k y hy => ?_⟩
    · rw [e6, zu_i (by decide), e5, zu_i (by decide), qJ.at (by omega), e2, zu_self]
    · have hk := (List.getElem?_eq_some_iff.mp hy).1
      rw [List.length_take] at hk
      have hk20 : k < 20 := by omega
      rw [List.getElem?_take, if_pos hk20] at hy
      have old : ∀ r, r < 21 → r ≠ s' → MoX I (zmom r) y → MoX I6 (zmom r) y := fun r hr hrs hm => hm.kp (fun a j u1 u2 => by
        have z2 := zm r
        rw [o6 a j (by omega), qJ.at (by omega), o2 _ _ (by omega)])
      cases k with
      | zero =>
        cases hy
        rw [show (s' + 20 - 0) % 21 = s by omega]
        exact old s hs (by omega) hC
      | succ k =>
        rw [List.getElem?_cons_succ] at hy
        have := hA k y hy
        rw [show (s + 20 - k) % 21 = (s' + 20 - (k + 1)) % 21 by omega] at this
        exact old _ (by omega) (by omega) this
  rw [h4]
  by_cases u : s < 20
  · rw [if_pos (show zi s < 20 from (zi_lt (b := 20) (by omega) (by decide)).mpr u), zi_succ]
    exact rest (s + 1) (by omega)
  · rw [if_neg (show ¬ zi s < 20 from fun v => u ((zi_lt (b := 20) (by omega) (by decide)).mp v))]
    exact rest 0 (by omega)
/-! ===== a change: the class ===== -/
theorem TapX.kp {I J : zI} {t : List Int32} (h : TapX I t) (e1 : J.1 0 1 = I.1 0 1) (e2 : ∀ j, J.1 2 j = I.1 2 j) : TapX J t := ⟨e1.trans h.1, fun j v hj => by rw [e2]; exact h.2 j v hj⟩
theorem ViX.pr {I J : zI} {N : Nat → Nd} {R : Nat} (h : ViX I N R) (e : ∀ a j, (43 ≤ a ∧ a ≤ 63) ∨ (69 ≤ a ∧ a ≤ 83) → J.1 a j = I.1 a j) (p : PnX J N R) : ViX J N R := by
  obtain ⟨v1, v2, v3, v4, v5, v6, v7, -⟩ := h
  refine ⟨(e 43 13 (by omega)).trans v1, v2.kp (fun a j h1 h2 => e a j (by omega)), fun p x hx => by rw [e 53 p (by omega), e 55 p (by omega)]; exact v3 p x hx, ⟨(e 43 11 (by omega)).trans v4.1, fun i r hi => (e 63 i (by omega)).trans (v4.2 i r hi)⟩, fun c hc => ?_, fun r hr => (e 61 r (by omega)).trans (v6 r hr), v7.kp (fun a j u1 u2 => e a j (by omega)), p⟩
  obtain ⟨p, p1, p2⟩ := v5 c hc
  exact ⟨p, p1, (e 47 c (by omega)).trans p2⟩
theorem ViX.kp {I J : zI} {N : Nat → Nd} {R : Nat} (h : ViX I N R) (e : ∀ a j, (43 ≤ a ∧ a ≤ 63) ∨ (69 ≤ a ∧ a ≤ 83) ∨ a = 110 ∨ (a = 0 ∧ j = 18) → J.1 a j = I.1 a j) : ViX J N R :=
  h.pr (fun a j u => e a j (by omega)) ⟨(e 0 18 (by omega)).trans h.2.2.2.2.2.2.2.1, fun i v hi => (e 110 i (by omega)).trans (h.2.2.2.2.2.2.2.2 i v hi)⟩
theorem PrX.kp {I J : zI} {pl : List (Nat × Nat)} (h : PrX I pl) (e : ∀ a j, 88 ≤ a → a ≤ 96 → (a = 88 → j = 4) → J.1 a j = I.1 a j) : PrX J pl := by
  obtain ⟨h1, h2, h3, h4⟩ := h
  refine ⟨by rw [e 88 4 (by decide) (by decide) (fun _ => rfl)]; exact h1, fun i p hi => ?_, fun v hv => by rw [e 96 _ (by decide) (by decide) (by omega)]; exact h3 v hv, h4⟩
  rw [e 90 _ (by decide) (by decide) (by omega), e 92 _ (by decide) (by decide) (by omega), e 94 _ (by decide) (by decide) (by omega)]
  exact h2 i p hi
theorem RX.pr {I J : zI} {x : Sg} (hv : Iv x) (h : RX I x) (e : ∀ a j, ((a = 0 ∧ (j = 1 ∨ (4 ≤ j ∧ j ≤ 7))) ∨ a = 23 ∨ (69 ≤ a ∧ a ≤ 87) ∨ a = 2 ∨ (a = 24 ∧ j = 9) ∨ (25 ≤ a ∧ a ≤ 63) ∨ (a = 88 ∧ j = 4) ∨ (89 ≤ a ∧ a ≤ 96) ∨ (113 ≤ a ∧ a < 491)) → J.1 a j = I.1 a j) (pn : PnX J (sgN x) (moR (sgC x))) : RX J x := by
  obtain ⟨r1, r2, r3, r4, r5, r6, r7, s, hs, s4, sC, sA, sZ⟩ := h
  have zm : ∀ i, zmom i = 113 + 18 * i := fun i => rfl
  have mk : ∀ i y, i < 21 → MoX I (zmom i) y → MoX J (zmom i) y := fun i y hi hm => hm.kp (fun a j u1 u2 => e a j (by have := zm i; omega))
  exact ⟨r1.kp (e _ _ (by omega)) (fun j => e _ _ (by omega)), r2.kp hv.2.1.ch (fun a j h1 h2 h3 => e a j (by omega)), r3.pr (fun a j h => e a j (by omega)) pn, r4.kp (fun a j h1 h2 h3 => e a j (by omega)), r5.kp (fun a j u => e a j (by omega)), by rw [e _ _ (by omega)]; exact r6, by rw [e _ _ (by omega)]; exact r7, s, hs, by rw [e _ _ (by omega)]; exact s4, mk _ _ hs sC, fun k y hy => mk _ _ (by omega) (sA k y hy), fun k y hy => mk _ _ (by omega) (sZ k y hy)⟩
theorem RX.kp {I J : zI} {x : Sg} (hv : Iv x) (h : RX I x) (e : ∀ a j, ((a = 0 ∧ (j = 1 ∨ (4 ≤ j ∧ j ≤ 7) ∨ j = 18)) ∨ a = 23 ∨ (69 ≤ a ∧ a ≤ 87) ∨ a = 110 ∨ a = 2 ∨ (a = 24 ∧ j = 9) ∨ (25 ≤ a ∧ a ≤ 63) ∨ (a = 88 ∧ j = 4) ∨ (89 ≤ a ∧ a ≤ 96) ∨ (113 ≤ a ∧ a < 491)) → J.1 a j = I.1 a j) : RX J x :=
  RX.pr hv h (fun a j u => e a j (by omega)) ⟨(e 0 18 (by omega)).trans h.2.2.1.2.2.2.2.2.2.2.1, fun i v hi => (e 110 i (by omega)).trans (h.2.2.1.2.2.2.2.2.2.2.2 i v hi)⟩
theorem oldX_of {m k : Nat} {N : Nat → Nd} {c : Mo} {I : zI} (rep : RepNX I m N) (hm : m ≤ 3400) (o : MoOk m N c) (h : MoX I k c) : OldX I k (txF (moG c)) (lexL (moG c)) := by
  obtain ⟨o1, o2, o3, o4, o5⟩ := o
  obtain ⟨h1, h2, h3, h5, h6, h7, h8, h9⟩ := h
  refine ⟨h6, fun j y hy => ?_⟩
  have hj := (List.getElem?_eq_some_iff.mp hy).1
  obtain ⟨t1, t2⟩ := o4.2.2.2.2.1 j hj
  obtain ⟨k1, k2⟩ := o5 j y hy
  obtain ⟨n1, n2, n3, n4, n5, n6, n7⟩ := rep.2 _ t1
  obtain ⟨l1, l2, l3⟩ := n7 (by omega)
  rw [k2] at l1 l2 l3
  refine ⟨moO c j, by omega, h7 j hj, ?_, ?_, ?_, ?_⟩
  · rw [n2]
    unfold ndM
    rw [t2, if_pos (by decide), k1]
  · rw [l1, tkBs_len]
  · rw [l2, hdT_bs]
  · rw [l3, tlT_bs]
theorem r_tellGrowth {v : Int32} {I : zI} {K : zI → Prop} (hK : ∀ J, eqQ (fun a _ => a = 23) I J → K J) : w_Desk_tellGrowth v I K := by
  unfold w_Desk_tellGrowth
  refine (w_set (by decide)).mpr ((w_set (by decide)).mpr ((w_set (by decide)).mpr ((w_set (by decide)).mpr ((w_set (by decide)).mpr ((w_set (by decide)).mpr ((w_set (by decide)).mpr ((w_set (by decide)).mpr ((w_set (by decide)).mpr ((w_set (by decide)).mpr (hK _ ?_))))))))))
  exact (((((((((eqQ.rf.rs (fun _ => rfl)).rs (fun _ => rfl)).rs (fun _ => rfl)).rs (fun _ => rfl)).rs (fun _ => rfl)).rs (fun _ => rfl)).rs (fun _ => rfl)).rs (fun _ => rfl)).rs (fun _ => rfl)).rs (fun _ => rfl)
theorem r_tellGood {v : Int32} {I : zI} {K : zI → Prop} (hK : ∀ J, eqQ (fun a _ => a = 23) I J → K J) : w_Desk_tellGood v I K := by
  unfold w_Desk_tellGood
  exact r_ruledSize (fun w => (w_set (by decide)).mpr ((w_set (by decide)).mpr (hK _ ((eqQ.rf.rs (fun _ => rfl)).rs (fun _ => rfl)))))
/-- what a change of the class may touch -/
def Qcl (a j : Nat) : Prop := a < 491
theorem zi_brk {a b c n : Nat} {v : Int32} (h : a + c = b + n) (hv : v = zi c) : zi a - (zi b - v) = zi n := by
  rw [hv]
  have h1 : zi n + (zi b - zi c) + zi c = zi a + zi c := by
    rw [Int32.add_assoc, Int32.sub_add_cancel, zi_add, zi_add, h, Nat.add_comm]
  have h2 := congrArg (fun z => z - zi c) h1
  rw [Int32.add_sub_cancel, Int32.add_sub_cancel] at h2
  rw [← h2, Int32.add_sub_cancel]
theorem s_change {x : Sg} {d : List Int32} {bt : Bool} {I : zI} {K : Int32 → zI → Prop} (hv : Iv x) (hR : RX I x) (hdb : ∀ j, j < d.length → byt (txF d j)) (hd1 : I.1 4 1 = zi d.length) (hd2 : d.length ≤ 300 → ∀ j, j < d.length → I.1 6 j = txF d j) (hdl : d.length < 100000) (he : sgE x < 512)
    (h0 : refu x d → ∀ J, eqQ Qcl I J → RX J x → K (-1) J)
    (h1 : ¬ refu x d → ∀ J, eqQ Qcl I J → RX J (chg x d (if bt = true then [] else sgT x)) → K (if (regY x d).1 + 1 = (lexL d).length ∧ topS (regY x d).2.2.2.1 = 1 then 0 else 1) J) : w_Desk_change (b01 bt) I K := by
  obtain ⟨r1, r2, r3, r4, r5, r6, r7, s, hs, s4, sC, sA, sZ⟩ := id hR
  obtain ⟨r5, r5r, n0, hn0, rx0⟩ := r5
  obtain ⟨hTp, hN, hu, hm, hTk, ⟨hP1, hP2⟩, ⟨hE, hWr⟩, hC, hA, hZ, hAZ⟩ := id hv
  unfold w_Desk_change
  rw [hd1, r2.1, r4.1]
  by_cases c1 : 300 < d.length
  · rw [if_pos (show (300 : Int32) < zi d.length from (zi_lt (a := 300) (by decide) (by omega)).mpr c1)]
    exact h0 (Or.inl c1) I eqQ.rf hR
  rw [if_neg (show ¬ (300 : Int32) < zi d.length from fun u => c1 ((zi_lt (a := 300) (by decide) (by omega)).mp u))]
  by_cases c2 : 3000 ≤ sgM x
  · rw [if_pos (show (3000 : Int32) ≤ zi (sgM x) from (zi_le (a := 3000) (by decide) (by omega)).mpr c2)]
    exact h0 (Or.inr (Or.inl c2)) I eqQ.rf hR
  rw [if_neg (show ¬ (3000 : Int32) ≤ zi (sgM x) from fun u => c2 ((zi_le (a := 3000) (by decide) (by omega)).mp u))]
  by_cases c3 : 3900 ≤ (sgP x).length
  · rw [if_neg (show ¬ zi (sgP x).length < 3900 from fun u => by have := (zi_lt (b := 3900) (by omega) (by decide)).mp u; omega)]
    exact h0 (Or.inr (Or.inr (Or.inl c3))) I eqQ.rf hR
  rw [if_pos (show zi (sgP x).length < 3900 from (zi_lt (b := 3900) (by omega) (by decide)).mpr (by omega))]
  have hlx : (lexL d).length = (lexF (txF d) d.length d.length 0).length + 1 := by
    show (lexF (txF d) d.length d.length 0 ++ [(10, d.length, 0)]).length = _
    rw [List.length_append]
    rfl
  refine s_readAll (by decide) (by omega) (hd2 (by omega)) (by decide) (fun c4 I2 q2 tk2 => ?_) (fun c4 I2 q2 => ?_)
  rotate_left
  · rw [if_pos rfl]
    refine h0 (Or.inr (Or.inr (Or.inr (by omega)))) I2 (eqX.q eqQ.rf q2 (fun a j u1 u2 => by unfold Qcl; omega)) (hR.kp hv (fun a j u => q2.at (by omega)))
  rw [if_neg (by decide)]
  have hd : txOk d := ⟨by omega, hdb, by omega⟩
  have hnr : ¬ refu x d := by
    unfold refu
    omega
  have h1 := h1 hnr
  obtain ⟨m1, g, N1, k, y, hreg, hn, hrun, ⟨ge, gi, hog, hm0, hm1⟩, g1, g2, g3, g4, g5, g6, g7, g8⟩ := reg_ok hv hd
  have hY : regY x d = y := by
    unfold regY
    rw [hreg]
  have hgN : (reg x d).1.2.1 = g := by rw [hreg]
  have hM1 : (reg x d).1.1 = m1 := by rw [hreg]
  have hK1 : (reg x d).2.1 = k := by rw [hreg]
  obtain ⟨oT, oG, oB, oR, oK⟩ := id hC
  have zm : ∀ i, zmom i = 113 + 18 * i := fun i => rfl
  have zms := zm s
  have lxd := lex_lxo hd
  have lxg := lex_lxo oG
  obtain ⟨kl1, kl2, kl3⟩ := kept_le (t := txF d) (t' := txF (moG (sgC x))) lxd.2.1 lxg.2.1
  intro P83 h83
  -- the tape then
  have tape : ∀ t3 : Int32, t3 = (if bt = true then 0 else zi (sgT x).length) → P83 t3 := by
    intro t3 et3
    refine h83 t3 ?_
    intro I4 e4 I5 e5 v2 ev2
    have o2 : ∀ a j, ¬ (7 ≤ a ∧ a < 18) → I2.1 a j = I.1 a j := fun a j u => q2.at (by omega)
    rw [e4, zu_i (by decide), o2 0 7 (by omega), r5, zi_succ, ← e4] at e5
    have o5 : ∀ a j, ¬ (a = 0 ∧ (j = 1 ∨ j = 7)) → ¬ (7 ≤ a ∧ a < 18) → I5.1 a j = I.1 a j := fun a j u v => by
      rw [e5, zu_at, if_neg (by omega), e4, zu_at, if_neg (by omega), o2 a j v]
    have g07 : I5.1 0 7 = zi (sgE x + 1) := by rw [e5, zu_self]
    have g01 : I5.1 0 1 = t3 := by rw [e5, zu_i (by decide), e4, zu_self]
    rw [o5 24 9 (by omega) (by omega), r2.1] at ev2
    subst ev2
    refine s_ruledSize (N := sgN x) (L := flR (sgN x) (moR (sgC x))) (fun r hr => (o5 61 r (by omega) (by omega)).trans (r3.2.2.2.2.2.1 r hr)) ?_
    refine s_now hs (by rw [o5 0 4 (by omega) (by omega)]; exact s4) ?_
    rw [g07]
    unfold w_Grower_regrow
    intro Ia ea Ib eb
    have oab : ∀ a j, ¬ (a = 64 ∧ (j = 5 ∨ j = 6)) → Ib.1 a j = I5.1 a j := fun a j u => by rw [eb, zu_at, if_neg (by omega), ea, zu_at, if_neg (by omega)]
    have ob : ∀ a j, ¬ (a = 64 ∧ (j = 5 ∨ j = 6)) → ¬ (a = 0 ∧ (j = 1 ∨ j = 7)) → ¬ (7 ≤ a ∧ a < 18) → Ib.1 a j = I.1 a j := fun a j u v w => by rw [oab a j u, o5 a j v w]
    have b5 : Ib.1 64 5 = zi (lexL (moG (sgC x))).length := by
      rw [eb, zu_i (by decide), ea, zu_self, o5 _ _ (by omega) (by omega)]
      exact sC.2.2.2.2.1
    have ot : ∀ a j, 7 ≤ a → a < 18 → I5.1 a j = I2.1 a j := fun a j u v => by rw [e5, zu_oo (by omega), e4, zu_oo (by omega)]
    have b6 : Ib.1 64 6 = zi (lexL d).length := by
      rw [eb, zu_self, ea, zu_oo (by decide), ot 7 5 (by decide) (by decide)]
      exact tk2.1
    have tkb : RepT Ib 7 (txF d) (lexL d) := ⟨by rw [oab _ _ (by omega), ot 7 5 (by decide) (by decide)]; exact tk2.1, fun j y hy => by
      rw [oab _ _ (by omega), oab _ _ (by omega), oab _ _ (by omega), oab _ _ (by omega), oab _ _ (by omega), ot _ _ (by decide) (by decide), ot _ _ (by decide) (by decide), ot _ _ (by decide) (by decide), ot _ _ (by decide) (by decide), ot _ _ (by decide) (by decide)]
      exact tk2.2 j y hy⟩
    have repb : RepNX Ib (sgM x) (sgN x) := r2.kp hN.ch (fun a j u1 u2 u3 => ob a j (by omega) (by omega) (by omega))
    have sCb : MoX Ib (zmom s) (sgC x) := sC.kp (fun a j u1 u2 => ob a j (by omega) (by omega) (by omega))
    refine s_keepAlike (by omega) (Or.inl rfl) tkb (oldX_of repb (by omega) hC sCb) b5 b6 lxd.2.1 lxg.2.1 lxd.2.2.1 lxg.2.2.1 lxd.1 lxg.1 (fun J3 q3 A3 B3 => ?_)
    have rep3 : RepNX J3 (sgM x) (sgN x) := repb.kp hN.ch (fun a j u1 u2 u3 => q3.1 a j (by omega))
    have tk3 : RepT J3 7 (txF d) (lexL d) := ⟨by rw [q3.1 _ _ (by omega)]; exact tkb.1, fun j y hy => by
      rw [q3.1 _ _ (by omega), q3.1 _ _ (by omega), q3.1 _ _ (by omega), q3.1 _ _ (by omega), q3.1 _ _ (by omega)]
      exact tkb.2 j y hy⟩
    refine s_nameTokens (g := fun _ => 0) (by omega) (by omega) (Or.inl (by decide)) rep3 hN.ch tk3 (by rw [q3.1 _ _ (by omega)]; exact b5) (by rw [q3.1 _ _ (by omega)]; exact b6) A3 B3 (by omega) (by omega) (by omega) (by omega) lxd.2.2.1 lxg.2.2.1 (fun j hj => by rw [q3.1 _ _ (by omega)]; exact sCb.2.2.2.2.2.1 j hj) (by omega) (fun m' g' N' J4 hn' q4 rep4 _ _ w49 gn4 => ?_)
    rw [hn] at hn'
    cases hn'
    -- what lies elsewhere stays
    have o4 : ∀ a j, ¬ (a = 64) → ¬ (a = 0 ∧ (j = 1 ∨ j = 7)) → ¬ (7 ≤ a ∧ a < 18) → a ≠ 19 → ¬ Qnx (sgM x) a j → J4.1 a j = I.1 a j := fun a j u1 u2 u3 u4 u5 => by
      rw [q4.1 a j (fun w => by
        rcases w with w | w | w
        · exact u5 w
        · omega
        · omega), q3.1 a j (by omega), ob a j (by omega) u2 u3]
    have n4 : ∀ a j, ¬ (24 ≤ a ∧ a ≤ 42) → a ≠ 64 → ¬ (a = 0 ∧ (j = 1 ∨ j = 7)) → ¬ (7 ≤ a ∧ a < 18) → a ≠ 19 → J4.1 a j = I.1 a j := fun a j u0 u1 u2 u3 u4 => o4 a j u1 u2 u3 u4 (by unfold Qnx; omega)
    have k4 : ∀ j, J4.1 64 j = if j = 9 then J4.1 64 9 else J3.1 64 j := fun j => by
      by_cases w : j = 9
      · rw [if_pos w, w]
      · rw [if_neg w, q4.1 64 j (by unfold Qnt Qnx; omega)]
    obtain ⟨f1, f2, f3, f4, f5⟩ := r3
    refine s_growAll (R := moR (sgC x)) (Or.inl (by decide)) ge gi (by omega) rep4 (f2.kp (fun a j u1 u2 => n4 a j (by omega) (by omega) (by omega) (by omega) (by omega))) (by rw [n4 _ _ (by omega) (by omega) (by omega) (by omega) (by omega)]; exact f1) ⟨_, fl_0 hN oR.1, rfl⟩ (fun c hc => by obtain ⟨p, p1, p2⟩ := f5.1 c hc; exact ⟨p, p1, by rw [n4 47 c (by omega) (by omega) (by omega) (by omega) (by omega)]; exact p2⟩) (by rw [k4, if_neg (by decide), q3.1 _ _ (by omega)]; exact b5) (by rw [k4, if_neg (by decide), q3.1 _ _ (by omega)]; exact b6) (by rw [k4, if_neg (by decide)]; exact A3) (by rw [k4, if_neg (by decide)]; exact B3) gn4 (fun J5 k' y' hrun' gi' gx' w13 => ?_)
    rw [hrun] at hrun'
    cases hrun'
    obtain ⟨x1, x2, x3, x4, x5, x6⟩ := gx'
    have c5 : ∀ a j, ¬ (24 ≤ a ∧ a ≤ 42) → ¬ (64 ≤ a ∧ a ≤ 68) → ¬ (a = 0 ∧ (j = 1 ∨ j = 7)) → ¬ (7 ≤ a ∧ a < 18) → a ≠ 19 → J5.1 a j = I.1 a j := fun a j u0 u1 u2 u3 u4 => by
      rw [x1.1 a j (by unfold Qgx Qnx; omega), n4 a j u0 (by omega) u2 u3 u4]
    have d5 : ∀ a j, (a = 0 ∧ (j = 1 ∨ j = 7)) ∨ (7 ≤ a ∧ a < 18) → J5.1 a j = Ib.1 a j := fun a j u => by
      rw [x1.1 a j (by unfold Qgx Qnx; omega), q4.1 a j (by unfold Qnt Qnx; omega), q3.1 a j (by omega)]
    have tk5 : RepT J5 7 (txF d) (lexL d) := ⟨by rw [d5 _ _ (by omega)]; exact tkb.1, fun j y hy => by
      rw [d5 _ _ (by omega), d5 _ _ (by omega), d5 _ _ (by omega), d5 _ _ (by omega), d5 _ _ (by omega)]
      exact tkb.2 j y hy⟩
    have g501 : J5.1 0 1 = t3 := by rw [d5 _ _ (by omega), oab _ _ (by omega)]; exact g01
    have g507 : J5.1 0 7 = zi (sgE x + 1) := by rw [d5 _ _ (by omega), oab _ _ (by omega)]; exact g07
    have g647 : J5.1 64 7 = zi (kAhead (txF (moG (sgC x))) (lexL (moG (sgC x))) (txF d) (lexL d)) := by
      rw [x1.1 64 7 (by unfold Qgx Qnx; omega), k4, if_neg (by decide)]
      exact A3
    have g648 : J5.1 64 8 = zi (kBehind (txF (moG (sgC x))) (lexL (moG (sgC x))) (txF d) (lexL d)) := by
      rw [x1.1 64 8 (by unfold Qgx Qnx; omega), k4, if_neg (by decide)]
      exact B3
    have g649 : J5.1 64 9 = zi (m1 - sgM x) := by
      rw [x1.1 64 9 (by unfold Qgx Qnx; omega)]
      exact w49
    have gn5 : ∀ j, j < (lexL d).length → J5.1 19 j = zi (g j) := fun j hj => by rw [x1.1 19 j (by unfold Qgx Qnx; omega)]; exact gn4 j hj
    have q5 : eqQ Qcl I J5 := by
      have a2 : eqQ Qcl I I2 := eqX.q eqQ.rf q2 (fun a j u1 u2 => by unfold Qcl; omega)
      have a5 : eqQ Qcl I I5 := by
        rw [e5, e4]
        exact (a2.zu (by unfold Qcl; decide)).zu (by unfold Qcl; decide)
      have ab : eqQ Qcl I Ib := by
        rw [eb, ea]
        exact (a5.zu (by unfold Qcl; decide)).zu (by unfold Qcl; decide)
      exact ((ab.tr (q3.mono (fun a j h => by unfold Qcl; omega))).tr (q4.mono (fun a j h => by unfold Qnt Qnx at h; unfold Qcl; omega))).tr (x1.mono (fun a j h => by unfold Qgx Qnx at h; unfold Qcl; omega))
    -- the rest of it, of what is told of it
    have tapeT : ∀ J : zI, J.1 0 1 = t3 → (∀ j, J.1 2 j = I.1 2 j) → TapX J (if bt = true then [] else sgT x) := by
      intro J u1 u2
      by_cases ub : bt = true
      · rw [if_pos ub]
        rw [if_pos ub] at et3
        exact ⟨by rw [u1, et3]; rfl, fun j v hj => by cases hj⟩
      · rw [if_neg ub]
        rw [if_neg ub] at et3
        exact ⟨by rw [u1, et3], fun j v hj => by rw [u2]; exact r1.2 j v hj⟩
    rw [hY] at h1
    by_cases hg : y.1 + 1 = (lexL d).length ∧ topS y.2.2.2.1 = 1
    · rw [if_pos hg]
      rw [if_pos hg] at h1
      refine ⟨Or.inr rfl, ?_⟩
      obtain ⟨b, hst, tr⟩ := g8 hg.1 hg.2
      intro P174 h174
      rw [if_neg (by decide)]
      unfold w_Grower_onTop
      have hst2 : y.2.2.2.1.length = 2 := by rw [hst]; rfl
      have hstR : J5.1 68 1 = zi (regR x d) := (x3.2.2 1 (regR x d, 1) (by rw [hst]; rfl)).2 (Nat.le_refl 1)
      refine (w_get (by decide)).mpr ?_
      rw [x3.2.1, hst2, rg_in (by decide) (show 2 - 1 < 300 by decide), show J5.1 (67 + 1) (2 - 1) = zi (regR x d) from hstR]
      refine s_beGood (c := (lexL d).length) hd.2.2 tk5.1 (fun I26 q6 z1 z2 z3 z4 z5 => ?_)
      obtain ⟨w8, hw8⟩ : ∃ w8, I26.1 4 8 = w8 := ⟨_, rfl⟩
      have mc : MoX I26 4 (d, d, true, regR x d, (reg x d).1.2.1, w8) := by
        refine ⟨?_, fun j hj => ?_, ⟨?_, fun j w hw => ?_⟩, ?_, ?_, fun j hj => ?_, fun j w hw => ?_, ?_, hw8⟩
        · rw [z5 _ _ (by omega), c5 _ _ (by omega) (by omega) (by omega) (by omega) (by omega)]
          exact hd1
        · rw [z5 _ _ (by omega), c5 _ _ (by omega) (by omega) (by omega) (by omega) (by omega)]
          exact hd2 (by omega) j hj
        · rw [z5 _ _ (by omega)]
          exact tk5.1
        · rw [z5 _ _ (by omega), z5 _ _ (by omega), z5 _ _ (by omega), z5 _ _ (by omega), z5 _ _ (by omega)]
          exact tk5.2 j w hw
        · rw [z1]
          rfl
        · exact z3
        · rw [z5 _ _ (by omega)]
          show J5.1 19 j = zi ((reg x d).1.2.1 j)
          rw [hgN]
          exact gn5 j hj
        · rw [show (4 + 17 : Nat) = 21 from rfl, z4 j (List.getElem?_eq_some_iff.mp hw).1]
          exact (tk5.2 j w hw).2.1
        · rw [z2]
          rfl
      have o6 : ∀ a j, ¬ (4 ≤ a ∧ a < 22) → I26.1 a j = J5.1 a j := fun a j u => q6.at (by omega)
      refine h174 I26 ?_
      intro P193 h193
      rw [if_neg (by decide)]
      refine h193 _ (s_tellGrowth (fun I13 q13 v13 => ?_))
      intro P222 h222
      rw [if_neg (by decide)]
      have p13 : ∀ a j, ¬ (4 ≤ a ∧ a < 22) → a ≠ 23 → I13.1 a j = J5.1 a j := fun a j u1 u2 => by rw [q13.1 a j u2, o6 a j u1]
      have hcm0 : (chg x d []).2.1 = (y.2.1, y.2.2.1) := by
        unfold chg
        rw [hY, if_pos hg]
      have oN2 : MoOk (sgM (chg x d [])) (sgN (chg x d [])) (newC x d) := (chg_ok (tp := []) hv hd hnr ⟨Nat.zero_le _, fun b hb => by cases hb⟩ he).2.2.2.2.2.2.2.1
      rw [show sgM (chg x d []) = y.2.1 from congrArg Prod.fst hcm0, show sgN (chg x d []) = y.2.2.1 from congrArg Prod.snd hcm0] at oN2
      obtain ⟨pl1, pl2⟩ := prt_R g4 oN2
      have wz := tkz_R g4 oN2
      rw [show moR (newC x d) = regR x d by unfold newC; rw [hY, if_pos hg]; rfl] at pl1 pl2 wz
      rw [show moG (newC x d) = d by unfold newC; rw [hY, if_pos hg]; rfl, show moO (newC x d) = g by unfold newC; rw [hY, if_pos hg]; exact hgN] at wz
      obtain ⟨hwB, hwR, hwK⟩ := reg_wr hv hd (by rw [hY]; exact hg)
      rw [hY] at hwB hwR hwK
      rw [hM1] at hwK
      have h49 := smR_49 g4 tr
      rw [show I13.1 0 7 = zi (sgE x + 1) by rw [p13 _ _ (by omega) (by omega)]; exact g507]
      refine s_deskLook (R := regR x d) (ed := sgE x + 1) (rc := (sgLs x).2) (n0 := n0) (rep := x2.kp g4.ch (fun a j u1 u2 u3 => p13 a j (by omega) (by omega))) g4 g5 (by omega) tr (fun c hc => by have := g7 c hc; omega) (fun c hc => by obtain ⟨p, p1, p2⟩ := f5.1 c hc; exact ⟨p, p1, by rw [p13 47 c (by omega) (by omega), c5 47 c (by omega) (by omega) (by omega) (by omega) (by omega)]; exact p2⟩) pl1 pl2 (Or.inl (by decide)) (by rw [q13.1 _ _ (by decide)]; exact z2) ⟨by rw [q13.1 _ _ (by decide)]; exact mc.2.2.2.2.1, fun j hj => by rw [q13.1 (4 + 15) j (show ¬ (4 + 15 : Nat) = 23 by decide)]; rw [← hgN]; exact mc.2.2.2.2.2.1 j hj, wz⟩ (rx0.kp (fun a j u => by rw [p13 a j (by omega) (by omega), c5 a j (by omega) (by omega) (by omega) (by omega) (by omega)])) (by omega) (fun c hc => by
        by_cases u : c < sgM x
        · rw [g1 c u]
          have := hWr.2.1 c u
          omega
        · rw [hwB c (by omega) hc]
          omega) (fun _ => ⟨by omega, fun p z hz h2 => hwR z (List.mem_of_getElem? hz) h2⟩) (fun I17 q17 vi17 rx17 k17 => ?_)
      have p17 : ∀ a j, ¬ (4 ≤ a ∧ a < 22) → a ≠ 23 → ¬ Qla a j → I17.1 a j = J5.1 a j := fun a j u1 u2 u3 => by rw [q17.1 a j u3, p13 a j u1 u2]
      unfold w_Desk_layRow
      intro v1 ev1
      obtain ⟨rr1, rr2⟩ := runs_ok g4 g5 tr
      have pr17 : PrX I17 (sgP x) := r4.kp (fun a j u1 u2 u3 => by rw [p17 a j (by omega) (by omega) (by unfold Qla Qvi Qrr Qpn; omega), c5 a j (by omega) (by omega) (by omega) (by omega) (by omega)])
      rw [vi17.2.2.2.1.1]
      refine s_layAll (fun r hr => by have := rr1 r hr; omega) rr2 (by omega) hP1 pr17 vi17.2.2.2.1.2 (fun I18 q18 pr18 I19 e19 => (w_set (by decide)).mpr (s_tellGood (N := y.2.2.1) (L := flR y.2.2.1 (regR x d)) (fun r hr => ?_) (fun I14 q14 v14 => ?_)))
      · rw [rs_o (by decide), e19, zu_oo (by decide), q18.1 61 r (by unfold Qpr; omega)]
        exact vi17.2.2.2.2.2.1 r hr
      have hle := (layAllR_ok (pl := sgP x) (rs := runsOf y.2.2.1 (regR x d)) (fun r hr => by have := rr1 r hr; omega) hP1).2.1
      have h88 : I19.1 88 4 - v1 = zi ((layAllR (runsOf y.2.2.1 (regR x d)) (sgP x)).length - (sgP x).length) := by
        rw [e19, zu_oo (by decide), pr18.1, ev1, pr17.1, zi_sub hle]
      have aO : ∀ a j, a ≠ 23 → ¬ (a = 4 ∧ j = 8) → ¬ Qpr a j → (rs I19 (22 + 1) 10 9 (I19.1 88 4 - v1)).1 a j = I17.1 a j := fun a j u1 u2 u3 => by
        rw [rs_o (by omega), e19, zu_at, if_neg u2, q18.1 a j u3]
      have a23 : ∀ j, (rs I19 (22 + 1) 10 9 (I19.1 88 4 - v1)).1 23 j = if j = 9 then zi ((layAllR (runsOf y.2.2.1 (regR x d)) (sgP x)).length - (sgP x).length) else I17.1 23 j := fun j => by
        rw [show rs I19 (22 + 1) 10 9 (I19.1 88 4 - v1) = zu I19 23 9 (I19.1 88 4 - v1) from rs_in (i := 9) (by decide) (by decide), zu_at, h88]
        by_cases u : j = 9
        · rw [if_pos ⟨rfl, u⟩, if_pos u]
        · rw [if_neg (fun w => u w.2), if_neg u, e19, zu_oo (by decide), q18.1 23 j (by unfold Qpr; omega)]
      have g64 : ∀ j, I17.1 64 j = J5.1 64 j := fun j => by rw [q17.1 64 j (by unfold Qla Qvi Qrr Qpn; omega), p13 64 j (by omega) (by omega)]
      have h64 : ∀ j, I26.1 64 j = J5.1 64 j := fun j => o6 64 j (by omega)
      have eRc : rcR x d = rcP y.2.2.1 (flR y.2.2.1 (regR x d)) (sgE x + 1) ((sgLs x).2, 0, 0) (flR y.2.2.1 (regR x d)).length := by
        unfold rcR
        rw [hY]
      obtain ⟨eK1, eK2⟩ := rcP_k (N := y.2.2.1) (F := flR y.2.2.1 (regR x d)) (e := sgE x + 1) (k := 0) (n := n0) (n' := 0) (rc := (sgLs x).2) _ (Nat.le_refl _)
      have row14 : ∀ j, j < 10 → I14.1 23 j = laG x d j := by
        have t13 : ∀ i, i ≠ 4 → i ≠ 8 → i ≠ 9 → i < 10 → I14.1 23 i = tgV I26 (I26.1 24 9 - zi (sgM x)) i := fun i u1 u2 u3 u4 => by
          rw [v14 i u4, if_neg u2, if_neg u1, a23 i, if_neg u3, q17.1 23 i (by unfold Qla Qvi Qrr Qpn; omega), v13 i u4]
        intro j hj
        match j, hj with
        | 0, _ =>
          rw [t13 0 (by decide) (by decide) (by decide) (by decide)]
          show I26.1 64 7 = zi (kAhead (txF (moG (sgC x))) (lexL (moG (sgC x))) (txF d) (lexL d))
          rw [h64]
          exact g647
        | 1, _ =>
          rw [t13 1 (by decide) (by decide) (by decide) (by decide)]
          show I26.1 64 8 = zi (kBehind (txF (moG (sgC x))) (lexL (moG (sgC x))) (txF d) (lexL d))
          rw [h64]
          exact g648
        | 2, _ =>
          rw [t13 2 (by decide) (by decide) (by decide) (by decide)]
          show I26.1 64 11 = zi (regY x d).2.2.2.2
          rw [h64, hY]
          exact x5
        | 3, _ =>
          rw [t13 3 (by decide) (by decide) (by decide) (by decide)]
          show I26.1 24 9 - zi (sgM x) = zi ((regY x d).2.1 - sgM x)
          rw [o6 24 9 (by omega), x2.1, hY, zi_sub (by omega)]
        | 4, _ =>
          rw [v14 4 (by decide), if_neg (by decide), if_pos rfl]
          show _ = zi (brkN x d)
          refine zi_brk (c := y.2.1 - m1) ?_ ?_
          · rw [rzN_all g4 (fun z hz => by
              obtain ⟨p, hp⟩ := List.mem_iff_getElem?.mp hz
              exact (fl_szin g4 tr.1 hp).1), rzN_all hN (fun z hz => by
              obtain ⟨p, hp⟩ := List.mem_iff_getElem?.mp hz
              exact (fl_szin hN oR.1 hp).1)]
            exact hwK
          · rw [aO 64 10 (by decide) (by decide) (by unfold Qpr; omega), g64]
            exact x4
        | 5, _ =>
          rw [t13 5 (by decide) (by decide) (by decide) (by decide)]
          show I26.1 64 12 = zi (reg x d).2.1
          rw [h64, hK1]
          exact x6
        | 6, _ =>
          rw [t13 6 (by decide) (by decide) (by decide) (by decide)]
          show I26.1 64 13 = -2
          rw [h64, w13, if_pos hg]
        | 7, _ =>
          rw [t13 7 (by decide) (by decide) (by decide) (by decide)]
          show I26.1 64 9 = zi ((reg x d).1.1 - sgM x)
          rw [h64, hM1]
          exact g649
        | 8, _ =>
          rw [v14 8 (by decide), if_pos rfl, aO 69 14 (by decide) (by decide) (by unfold Qpr; omega), k17]
          show _ = zi (rcR x d).2.1
          rw [eRc, eK2]
        | 9, _ =>
          rw [v14 9 (by decide), if_neg (by decide), if_neg (by decide), a23 9, if_pos rfl]
          show _ = zi ((layAllR (runsOf (regY x d).2.2.1 (regR x d)) (sgP x)).length - (sgP x).length)
          rw [hY]
        | n + 10, h => exact absurd h (by omega)
      have p14 : ∀ a j, a ≠ 23 → ¬ (a = 4 ∧ j = 8) → ¬ Qpr a j → I14.1 a j = I17.1 a j := fun a j u1 u2 u3 => by
        rw [q14.1 a j u1, rs_o (by omega), e19, zu_at, if_neg u2, q18.1 a j u3]
      have pr14 : PrX I14 (layAllR (runsOf y.2.2.1 (regR x d)) (sgP x)) := pr18.kp (fun a j u1 u2 u3 => by rw [q14.1 a j (by omega), rs_o (by omega), e19, zu_at, if_neg (by omega)])
      refine h222 I14 ?_
      have w14 : ∀ a j, ¬ (4 ≤ a ∧ a < 22) → a ≠ 23 → ¬ Qla a j → ¬ Qpr a j → I14.1 a j = J5.1 a j := fun a j u1 u2 u3 u4 => by rw [p14 a j u2 (by omega) u4, p17 a j u1 u2 u3]
      have q14J : eqQ Qcl I I14 := by
        refine (((q5.tr ?_).tr (q13.mono (fun a j h => by unfold Qcl; omega))).tr (q17.mono (fun a j h => by unfold Qla Qvi Qrr Qpn at h; unfold Qcl; omega))).tr ?_
        · exact eqX.q eqQ.rf q6 (fun a j u1 u2 => by unfold Qcl; omega)
        · refine eqQ.tr ?_ (q14.mono (fun a j h => by unfold Qcl; omega))
          refine eqQ.rs ?_ (fun _ => by unfold Qcl; decide)
          rw [e19]
          exact (q18.mono (fun a j h => by unfold Qpr at h; unfold Qcl; omega)).zu (by unfold Qcl; decide)
      refine s_turn (x := x) (c := newC x d) hs (by rw [w14 _ _ (by omega) (by omega) (by unfold Qla Qvi Qrr Qpn; omega) (by unfold Qpr; omega), c5 _ _ (by omega) (by omega) (by omega) (by omega) (by omega)]; exact s4) (by rw [w14 _ _ (by omega) (by omega) (by unfold Qla Qvi Qrr Qpn; omega) (by unfold Qpr; omega), c5 _ _ (by omega) (by omega) (by omega) (by omega) (by omega)]; exact r6) (by omega) ?_ ?_ ?_ (sC.kp (fun a j u1 u2 => by rw [w14 a j (by omega) (by omega) (by unfold Qla Qvi Qrr Qpn; omega) (by unfold Qpr; omega), c5 a j (by omega) (by omega) (by omega) (by omega) (by omega)])) (fun kk yy hy => (sA kk yy hy).kp (fun a j u1 u2 => by
          have := zm ((s + 20 - kk) % 21)
          rw [w14 a j (by omega) (by omega) (by unfold Qla Qvi Qrr Qpn; omega) (by unfold Qpr; omega), c5 a j (by omega) (by omega) (by omega) (by omega) (by omega)])) (fun J qJ t1 t2 t3' => ?_)
      · have mcc : MoX I14 4 (newC x d) := by
          obtain ⟨a1, a2, ⟨a3, a4⟩, a5, a6, a7, a8, a9, -⟩ := mc
          have hnc : newC x d = (d, d, true, regR x d, (reg x d).1.2.1, rowI (runsOf y.2.2.1 (regR x d)) (sgP x)) := by
            unfold newC
            rw [hY, if_pos hg]
          rw [hnc]
          have kk : ∀ a j, 4 ≤ a → a < 22 → ¬ (a = 4 ∧ j = 8) → I14.1 a j = I26.1 a j := fun a j u1 u2 u3 => by
            rw [p14 a j (by omega) u3 (by unfold Qpr; omega), q17.1 a j (by unfold Qla Qvi Qrr Qpn; omega), q13.1 a j (by omega)]
          refine ⟨by rw [kk _ _ (by decide) (by decide) (by decide)]; exact a1, fun j hj => by rw [kk _ _ (by decide) (by decide) (by omega)]; exact a2 j hj, ⟨by rw [kk _ _ (by decide) (by decide) (by decide)]; exact a3, fun j w hw => ?_⟩, by rw [kk _ _ (by decide) (by decide) (by decide)]; exact a5, by rw [kk _ _ (by decide) (by decide) (by decide)]; exact a6, fun j hj => by rw [kk _ _ (by decide) (by decide) (by omega)]; exact a7 j hj, fun j w hw => by rw [kk _ _ (by decide) (by decide) (by omega)]; exact a8 j w hw, by rw [kk _ _ (by decide) (by decide) (by decide)]; exact a9, by rw [q14.1 4 8 (by decide), rs_o (by decide), e19]; exact zu_self⟩
          rw [kk _ _ (by decide) (by decide) (by omega), kk _ _ (by decide) (by decide) (by omega), kk _ _ (by decide) (by decide) (by omega), kk _ _ (by decide) (by decide) (by omega), kk _ _ (by decide) (by decide) (by omega)]
          exact a4 j w hw
        exact mcc
      · unfold newC
        rw [hY, if_pos hg]
        exact hd
      · unfold newC
        rw [hY, if_pos hg]
        exact hd
      · rw [if_neg (by decide)]
        have wJ : ∀ a j, ¬ (a = 0 ∧ 4 ≤ j ∧ j ≤ 6) → ¬ (113 ≤ a ∧ a < 491) → J.1 a j = I14.1 a j := fun a j u1 u2 => qJ.1 a j (by omega)
        refine h1 J (q14J.tr (qJ.mono (fun a j h => by unfold Qcl; omega))) ?_
        obtain ⟨s', hs', b1, b2, b3⟩ := t3'
        have hcm : (chg x d (if bt = true then [] else sgT x)).2.1 = (y.2.1, y.2.2.1) := by
          unfold chg
          rw [hY, if_pos hg]
        have hcN : sgN (chg x d (if bt = true then [] else sgT x)) = y.2.2.1 := congrArg Prod.snd hcm
        have hcM : sgM (chg x d (if bt = true then [] else sgT x)) = y.2.1 := congrArg Prod.fst hcm
        have hcP : sgP (chg x d (if bt = true then [] else sgT x)) = layAllR (runsOf y.2.2.1 (regR x d)) (sgP x) := by
          unfold chg sgP
          rw [hY]
          exact if_pos hg
        have hcR : moR (sgC (chg x d (if bt = true then [] else sgT x))) = regR x d := by
          show moR (newC x d) = _
          unfold newC
          rw [hY, if_pos hg]
          rfl
        refine ⟨tapeT J ?_ (fun j => ?_), ?_, ?_, ?_, ?_, t1, t2, s', hs', b1, b2, b3, fun kk yy hy => (by cases hy)⟩
        · rw [wJ _ _ (by omega) (by omega), w14 _ _ (by omega) (by omega) (by unfold Qla Qvi Qrr Qpn; omega) (by unfold Qpr; omega)]
          exact g501
        · rw [wJ _ _ (by omega) (by omega), w14 _ _ (by omega) (by omega) (by unfold Qla Qvi Qrr Qpn; omega) (by unfold Qpr; omega), c5 _ _ (by omega) (by omega) (by omega) (by omega) (by omega)]
        · rw [hcM, hcN]
          exact x2.kp g4.ch (fun a j u1 u2 u3 => by rw [wJ _ _ (by omega) (by omega), w14 _ _ (by omega) (by omega) (by unfold Qla Qvi Qrr Qpn; omega) (by unfold Qpr; omega)])
        · rw [hcN, hcR]
          exact vi17.kp (fun a j u => by rw [wJ _ _ (by omega) (by omega), p14 a j (by omega) (by omega) (by unfold Qpr; omega)])
        · rw [hcP]
          exact pr14.kp (fun a j u1 u2 u3 => by rw [wJ _ _ (by omega) (by omega)])
        · have hcL : sgLs (chg x d (if bt = true then [] else sgT x)) = (laG x d, (rcR x d).1) := by
            show (if (regY x d).1 + 1 = (lexL d).length ∧ topS (regY x d).2.2.2.1 = 1 then (laG x d, (rcR x d).1) else (laW x d, (sgLs x).2)) = _
            rw [hY, if_pos hg]
          refine ⟨?_, fun j hj => ?_, (rcP y.2.2.1 (flR y.2.2.1 (regR x d)) (sgE x + 1) ((sgLs x).2, 0, n0) (flR y.2.2.1 (regR x d)).length).2.2, ?_, ?_⟩
          · rw [wJ _ _ (by omega) (by omega), w14 _ _ (by omega) (by omega) (by unfold Qla Qvi Qrr Qpn; omega) (by unfold Qpr; omega)]
            exact g507
          · rw [hcL, wJ 23 j (by omega) (by omega)]
            exact row14 j hj
          · have hn := rcP_n (N := y.2.2.1) (F := flR y.2.2.1 (regR x d)) (e := sgE x + 1) (u0 := ((sgLs x).2, 0, n0)) _ (Nat.le_refl _)
            rw [List.take_length] at hn
            change _ ≤ n0 + smR y.2.2.1 (setsOf y.2.2.1 (regR x d)) at hn
            show _ ≤ 49 * (sgE x + 1)
            omega
          · rw [hcL]
            show RcX J _ (rcR x d).1
            rw [eRc, ← eK1]
            exact rx17.kp (fun a j u => by rw [wJ a j (by omega) (by omega), p14 a j (by omega) (by omega) (by unfold Qpr; omega)])
    · rw [if_neg hg]
      rw [if_neg hg] at h1
      refine ⟨Or.inl rfl, ?_⟩
      intro P174 h174
      rw [if_pos rfl]
      intro I22 e22
      have o22 : ∀ a j, ¬ (a = 24 ∧ j = 9) → I22.1 a j = J5.1 a j := fun a j u => by rw [e22, zu_at, if_neg u]
      refine s_now hs (by rw [o22 _ _ (by omega), c5 _ _ (by omega) (by omega) (by omega) (by omega) (by omega)]; exact s4) ?_
      have sC22 : MoX I22 (zmom s) (sgC x) := sC.kp (fun a j u1 u2 => by rw [o22 _ _ (by omega), c5 a j (by omega) (by omega) (by omega) (by omega) (by omega)])
      refine s_keepGood (c := (lexL (moG (sgC x))).length) (by omega) oG.2.2 sC22.2.2.2.2.1 (fun I24 q24 z1 z2 z2r z3 z4 z5 z6 => ?_)
      have o24 : ∀ a j, ¬ (4 ≤ a ∧ a < 22) → I24.1 a j = I22.1 a j := fun a j u => q24.at (by omega)
      have nc : newC x d = (d, moG (sgC x), false, moR (sgC x), moO (sgC x), moW (sgC x)) := by
        unfold newC
        rw [hY, if_neg hg]
      have mc : MoX I24 4 (newC x d) := by
        rw [nc]
        refine ⟨?_, fun j hj => ?_, ⟨?_, fun j w hw => ?_⟩, ?_, ?_, fun j hj => ?_, fun j w hw => ?_, ?_, ?_⟩
        · rw [z6 _ _ (by omega), o22 _ _ (by omega), c5 _ _ (by omega) (by omega) (by omega) (by omega) (by omega)]
          exact hd1
        · rw [z6 _ _ (by omega), o22 _ _ (by omega), c5 _ _ (by omega) (by omega) (by omega) (by omega) (by omega)]
          exact hd2 (by omega) j hj
        · rw [z6 _ _ (by omega), o22 _ _ (by omega)]
          exact tk5.1
        · rw [z6 _ _ (by omega), z6 _ _ (by omega), z6 _ _ (by omega), z6 _ _ (by omega), z6 _ _ (by omega), o22 _ _ (by omega), o22 _ _ (by omega), o22 _ _ (by omega), o22 _ _ (by omega), o22 _ _ (by omega)]
          exact tk5.2 j w hw
        · rw [z1]
          rfl
        · exact z3
        · rw [z4 j hj]
          exact sC22.2.2.2.2.2.1 j hj
        · rw [z5 j (List.getElem?_eq_some_iff.mp hw).1]
          exact sC22.2.2.2.2.2.2.1 j w hw
        · rw [z2]
          exact sC22.2.2.2.2.2.2.2.1
        · rw [z2r]
          exact sC22.2.2.2.2.2.2.2.2
      refine h174 I24 ?_
      intro P193 h193
      rw [if_pos rfl]
      refine h193 _ (s_tellGrowth (fun I13 q13 v13 => ?_))
      intro P222 h222
      rw [if_pos rfl]
      refine h222 I13 ?_
      have w13' : ∀ a j, ¬ (4 ≤ a ∧ a < 22) → a ≠ 23 → ¬ (a = 24 ∧ j = 9) → I13.1 a j = J5.1 a j := fun a j u1 u2 u3 => by rw [q13.1 a j u2, o24 a j u1, o22 a j u3]
      have q13J : eqQ Qcl I I13 := by
        refine eqQ.tr ?_ (q13.mono (fun a j h => by unfold Qcl; omega))
        refine eqX.q ?_ q24 (fun a j u1 u2 => by unfold Qcl; omega)
        rw [e22]
        exact q5.zu (by unfold Qcl; decide)
      refine s_turn (x := x) (c := newC x d) hs (by rw [w13' _ _ (by omega) (by omega) (by omega), c5 _ _ (by omega) (by omega) (by omega) (by omega) (by omega)]; exact s4) (by rw [w13' _ _ (by omega) (by omega) (by omega), c5 _ _ (by omega) (by omega) (by omega) (by omega) (by omega)]; exact r6) (by omega) (mc.kp (fun a j u1 u2 => q13.1 a j (by omega))) (by rw [nc]; exact hd) (by rw [nc]; exact oG) (sC.kp (fun a j u1 u2 => by rw [w13' a j (by omega) (by omega) (by omega), c5 a j (by omega) (by omega) (by omega) (by omega) (by omega)])) (fun kk yy hy => (sA kk yy hy).kp (fun a j u1 u2 => by
          have := zm ((s + 20 - kk) % 21)
          rw [w13' a j (by omega) (by omega) (by omega), c5 a j (by omega) (by omega) (by omega) (by omega) (by omega)])) (fun J qJ t1 t2 t3' => ?_)
      rw [if_pos rfl]
      have wJ : ∀ a j, ¬ (a = 0 ∧ 4 ≤ j ∧ j ≤ 6) → ¬ (113 ≤ a ∧ a < 491) → J.1 a j = I13.1 a j := fun a j u1 u2 => qJ.1 a j (by omega)
      refine h1 J (q13J.tr (qJ.mono (fun a j h => by unfold Qcl; omega))) ?_
      obtain ⟨s', hs', b1, b2, b3⟩ := t3'
      have hcm : (chg x d (if bt = true then [] else sgT x)).2.1 = (sgM x, sgN x) := by
        unfold chg
        rw [hY, if_neg hg]
      have hcN : sgN (chg x d (if bt = true then [] else sgT x)) = sgN x := congrArg Prod.snd hcm
      have hcM : sgM (chg x d (if bt = true then [] else sgT x)) = sgM x := congrArg Prod.fst hcm
      have hcP : sgP (chg x d (if bt = true then [] else sgT x)) = sgP x := by
        unfold chg sgP
        rw [hY]
        exact if_neg hg
      have hcR : moR (sgC (chg x d (if bt = true then [] else sgT x))) = moR (sgC x) := by
        show moR (newC x d) = _
        rw [nc]
        rfl
      refine ⟨tapeT J ?_ (fun j => ?_), ?_, ?_, ?_, ?_, t1, t2, s', hs', b1, b2, b3, fun kk yy hy => (by cases hy)⟩
      · rw [wJ _ _ (by omega) (by omega), w13' _ _ (by omega) (by omega) (by omega)]
        exact g501
      · rw [wJ _ _ (by omega) (by omega), w13' _ _ (by omega) (by omega) (by omega), c5 _ _ (by omega) (by omega) (by omega) (by omega) (by omega)]
      · rw [hcM, hcN]
        refine ⟨?_, fun kk hk => ?_⟩
        · rw [wJ _ _ (by omega) (by omega), q13.1 _ _ (by omega), o24 _ _ (by omega), e22, zu_self]
        · rw [← g1 kk hk]
          exact (x2.2 kk (by omega)).kept (g4.ch kk (by omega)) (fun a u1 u2 => by rw [wJ _ _ (by omega) (by omega), w13' _ _ (by omega) (by omega) (by omega)]) (fun i hi => by rw [wJ _ _ (by omega) (by omega), w13' _ _ (by omega) (by omega) (by omega)])
      · rw [hcN, hcR]
        exact ViX.kp ⟨f1, f2, f3, f4, f5⟩ (fun a j u => by rw [wJ _ _ (by omega) (by omega), w13' _ _ (by omega) (by omega) (by omega)]; exact (c5 a j (by omega) (by omega) (by omega) (by omega) (by omega)))
      · rw [hcP]
        exact r4.kp (fun a j u1 u2 u3 => by rw [wJ _ _ (by omega) (by omega), w13' _ _ (by omega) (by omega) (by omega), c5 a j (by omega) (by omega) (by omega) (by omega) (by omega)])
      · have hcL : sgLs (chg x d (if bt = true then [] else sgT x)) = (laW x d, (sgLs x).2) := by
          show (if (regY x d).1 + 1 = (lexL d).length ∧ topS (regY x d).2.2.2.1 = 1 then (laG x d, (rcR x d).1) else (laW x d, (sgLs x).2)) = _
          rw [hY, if_neg hg]
        have h64 : ∀ j, I24.1 64 j = J5.1 64 j := fun j => by rw [o24 64 j (by omega), o22 64 j (by omega)]
        refine ⟨?_, fun j hj => ?_, n0, ?_, ?_⟩
        · rw [wJ _ _ (by omega) (by omega), w13' _ _ (by omega) (by omega) (by omega)]
          exact g507
        · rw [hcL, wJ 23 j (by omega) (by omega), v13 j hj]
          match j, hj with
          | 0, _ =>
            show I24.1 64 7 = zi (kAhead (txF (moG (sgC x))) (lexL (moG (sgC x))) (txF d) (lexL d))
            rw [h64]
            exact g647
          | 1, _ =>
            show I24.1 64 8 = zi (kBehind (txF (moG (sgC x))) (lexL (moG (sgC x))) (txF d) (lexL d))
            rw [h64]
            exact g648
          | 2, _ =>
            show I24.1 64 11 = zi (regY x d).2.2.2.2
            rw [h64, hY]
            exact x5
          | 3, _ => rfl
          | 4, _ => rfl
          | 5, _ =>
            show I24.1 64 12 = zi (reg x d).2.1
            rw [h64, hK1]
            exact x6
          | 6, _ =>
            show I24.1 64 13 = zi (regY x d).1
            rw [h64, w13, if_neg hg, hY]
          | 7, _ =>
            show I24.1 64 9 = zi ((reg x d).1.1 - sgM x)
            rw [h64, hM1]
            exact g649
          | 8, _ => rfl
          | 9, _ => rfl
          | n + 10, h => exact absurd h (by omega)
        · show n0 ≤ 49 * (sgE x + 1)
          omega
        · rw [hcL]
          exact rx0.kp (fun a j u => by rw [wJ a j (by omega) (by omega), w13' a j (by omega) (by omega) (by omega), c5 a j (by omega) (by omega) (by omega) (by omega) (by omega)])
  by_cases ub : bt = true
  · rw [ub, if_neg (show ¬ b01 true = 0 by decide)]
    exact tape 0 (by rw [if_pos ub])
  · have hbf : bt = false := by
      cases bt
      · rfl
      · exact absurd rfl ub
    rw [hbf, if_pos (show b01 false = 0 by decide)]
    exact tape _ (by rw [if_neg ub, q2.at (by omega)]; exact r1.1)
/-! ===== what the model keeps ===== -/
/-- the TEXT as it is, in the model's rows -/
def NowT (I : zI) (d : List Int32) : Prop :=
  I.1 491 5 = zi d.length ∧ (∀ j, j < d.length → I.1 494 j = txF d j) ∧ I.1 491 15 = zi (lexL d).length ∧ ∀ (j : Nat) (y : Nat × Nat × Nat), (lexL d)[j]? = some y → I.1 501 j = zi y.1 ∧ I.1 502 j = zi y.2.1 ∧ I.1 503 j = zi y.2.2
/-- the last good one -/
def GoodT (I : zI) (d : List Int32) : Prop := I.1 491 7 = zi d.length ∧ (∀ j, j < d.length → I.1 495 j = txF d j) ∧ OldU I (txF d) (lexL d)
/-- the new one -/
def NewT (I : zI) (d : List Int32) : Prop := I.1 491 3 = zi d.length ∧ (∀ j, j < d.length → I.1 493 j = txF d j) ∧ RepU I (txF d) (lexL d)
theorem NewT.kp {I J : zI} {d : List Int32} (h : NewT I d) (e1 : J.1 491 3 = I.1 491 3) (e2 : J.1 491 9 = I.1 491 9) (e : ∀ a j, a = 493 ∨ (496 ≤ a ∧ a ≤ 498) → J.1 a j = I.1 a j) (e3 : ∀ j, J.2 499 j = I.2 499 j) : NewT J d := by
  obtain ⟨h1, h2, h3, h4⟩ := h
  refine ⟨e1.trans h1, fun j hj => by rw [e _ _ (Or.inl rfl)]; exact h2 j hj, e2.trans h3, fun j y hy => ?_⟩
  obtain ⟨z1, z2, z3, z4⟩ := h4 j y hy
  exact ⟨by rw [e _ _ (by omega)]; exact z1, by rw [e _ _ (by omega)]; exact z2, by rw [e _ _ (by omega)]; exact z3, by rw [e3]; exact z4⟩
theorem NowT.kp {I J : zI} {d : List Int32} (h : NowT I d) (e1 : J.1 491 5 = I.1 491 5) (e2 : J.1 491 15 = I.1 491 15) (e : ∀ a j, a = 494 ∨ (501 ≤ a ∧ a ≤ 503) → J.1 a j = I.1 a j) : NowT J d := by
  obtain ⟨h1, h2, h3, h4⟩ := h
  refine ⟨e1.trans h1, fun j hj => by rw [e _ _ (Or.inl rfl)]; exact h2 j hj, e2.trans h3, fun j y hy => ?_⟩
  rw [e 501 _ (by omega), e 502 _ (by omega), e 503 _ (by omega)]
  exact h4 j y hy
theorem GoodT.kp {I J : zI} {d : List Int32} (h : GoodT I d) (e1 : J.1 491 7 = I.1 491 7) (e2 : J.1 491 19 = I.1 491 19) (e : ∀ a j, a = 495 ∨ (504 ≤ a ∧ a ≤ 506) → J.1 a j = I.1 a j) (e3 : ∀ j, J.2 507 j = I.2 507 j) : GoodT J d := by
  obtain ⟨h1, h2, h3, h4⟩ := h
  refine ⟨e1.trans h1, fun j hj => by rw [e _ _ (Or.inl rfl)]; exact h2 j hj, e2.trans h3, fun j y hy => ?_⟩
  obtain ⟨z1, z2, z3, z4⟩ := h4 j y hy
  exact ⟨by rw [e _ _ (by omega)]; exact z1, by rw [e _ _ (by omega)]; exact z2, by rw [e _ _ (by omega)]; exact z3, by rw [e3]; exact z4⟩
def Qkg (a j : Nat) : Prop := (a = 491 ∧ (j = 7 ∨ j = 19)) ∨ a = 495 ∨ (504 ≤ a ∧ a ≤ 507)
theorem s_keepsGood {d : List Int32} {I : zI} {K : zI → Prop} (hd : txOk d) (hn : NewT I d) (hK : ∀ J, eqQ Qkg I J → GoodT J d → K J) : w_M_keepsGood I K := by
  intro I1 e1 I2 e2
  obtain ⟨n1, n2, n3, n4⟩ := id hn
  have hd1 := hd.1
  have hd3 := hd.2.2
  have q2 : eqQ Qkg I I2 := by
    rw [e2, e1]
    exact (eqQ.rf.zu (Or.inl ⟨rfl, Or.inl rfl⟩)).zu (Or.inl ⟨rfl, Or.inr rfl⟩)
  have g7 : I2.1 491 7 = zi d.length := by rw [e2, zu_i (by decide), e1, zu_self, n1]
  have g19 : I2.1 491 19 = zi (lexL d).length := by rw [e2, zu_self, e1, zu_i (by decide), n3]
  intro P18 h18
  have main : ∀ (f v : Nat) (J : zI), v + f = d.length → eqQ Qkg I J → J.1 491 7 = zi d.length → J.1 491 19 = zi (lexL d).length → (∀ j, j < v → J.1 495 j = txF d j) → P18 (zi v) J := by
    intro f
    induction f with
    | zero =>
      intro v J hv q a7 a19 h
      refine h18 _ _ ?_
      rw [q.1 491 3 (by unfold Qkg; omega), n1, if_pos ((zi_le (by omega) (by omega)).mpr (by omega))]
      intro P46 h46
      have inner : ∀ (f v : Nat) (B : zI), v + f = (lexL d).length → eqQ Qkg I B → B.1 491 7 = zi d.length → B.1 491 19 = zi (lexL d).length → (∀ j, j < d.length → B.1 495 j = txF d j) → (∀ (j : Nat) (y : Nat × Nat × Nat), j < v → (lexL d)[j]? = some y → B.1 504 j = zi y.1 ∧ B.1 505 j = zi y.2.1 ∧ B.1 506 j = zi y.2.2 ∧ B.2 507 j = isV (txF d) y) → P46 (zi v) B := by
        intro f
        induction f with
        | zero =>
          intro v B hv qB b7 b19 h1 h2
          refine h46 _ _ ?_
          rw [qB.1 491 9 (by unfold Qkg; omega), n3, if_pos ((zi_le (by omega) (by omega)).mpr (by omega))]
          exact hK B qB ⟨b7, h1, b19, fun j y hy => h2 j y (by have := (List.getElem?_eq_some_iff.mp hy).1; omega) hy⟩
        | succ f ih =>
          intro v B hv qB b7 b19 h1 h2
          refine h46 _ _ ?_
          rw [qB.1 491 9 (by unfold Qkg; omega), n3, if_neg (fun u => by have := (zi_le (by omega) (by omega)).mp u; omega), zi_tn (show v < 2147483648 by omega)]
          have i1 : vp_in (zi v) 710 := (zin_iff (by omega)).mpr (by omega)
          have i2 : vp_in (zi v) 110 := (zin_iff (by omega)).mpr (by omega)
          refine ⟨i1, i2, fun I7 e7 => ⟨i1, i2, fun I8 e8 => ⟨i1, i2, fun I9 e9 => ⟨i1, i2, fun I10 e10 w ew => ?_⟩⟩⟩⟩
          rw [ew, zi_succ]
          have hx : (lexL d)[v]? = some ((lexL d)[v]'(by omega)) := List.getElem?_eq_getElem (by omega)
          generalize (lexL d)[v]'(by omega) = x at hx
          obtain ⟨z1, z2, z3, z4⟩ := n4 v x hx
          rw [qB.1 496 v (by unfold Qkg; omega), z1] at e7
          rw [show I7.1 497 v = zi x.2.1 by rw [e7, zu_oo (by decide), qB.1 497 v (by unfold Qkg; omega)]; exact z2] at e8
          rw [show I8.1 498 v = zi x.2.2 by rw [e8, zu_oo (by decide), e7, zu_oo (by decide), qB.1 498 v (by unfold Qkg; omega)]; exact z3] at e9
          rw [show I9.2 499 v = isV (txF d) x by rw [e9, zu_2, e8, zu_2, e7, zu_2, qB.2 499 v (by unfold Qkg; omega)]; exact z4] at e10
          have o : ∀ a j, ¬ (504 ≤ a ∧ a ≤ 506 ∧ j = v) → I10.1 a j = B.1 a j := fun a j u => by rw [e10, zul_1, e9, zu_at, if_neg (by omega), e8, zu_at, if_neg (by omega), e7, zu_at, if_neg (by omega)]
          refine ih (v + 1) I10 (by omega) ?_ (by rw [o _ _ (by omega)]; exact b7) (by rw [o _ _ (by omega)]; exact b19) (fun j hj => by rw [o _ _ (by omega)]; exact h1 j hj) (fun j y hj hy => ?_)
          · rw [e10, e9, e8, e7]
            exact (((qB.zu (Or.inr (Or.inr (by omega)))).zu (Or.inr (Or.inr (by omega)))).zu (Or.inr (Or.inr (by omega)))).zul (Or.inr (Or.inr (by omega)))
          · by_cases u : j = v
            · subst u
              rw [hx] at hy
              cases hy
              refine ⟨?_, ?_, ?_, ?_⟩
              · rw [e10, zul_1, e9, zu_oo (by decide), e8, zu_oo (by decide), e7, zu_self]
              · rw [e10, zul_1, e9, zu_oo (by decide), e8, zu_self]
              · rw [e10, zul_1, e9, zu_self]
              · rw [e10, zul_at, if_pos ⟨rfl, rfl⟩]
            · obtain ⟨y1, y2, y3, y4⟩ := h2 j y (by omega) hy
              rw [o 504 j (by omega), o 505 j (by omega), o 506 j (by omega)]
              refine ⟨y1, y2, y3, ?_⟩
              rw [e10, zul_at, if_neg (by omega), e9, zu_2, e8, zu_2, e7, zu_2]
              exact y4
      exact inner (lexL d).length 0 J (by omega) q a7 a19 (fun j hj => h j (by omega)) (fun j y hj => by omega)
    | succ f ih =>
      intro v J hv q a7 a19 h
      refine h18 _ _ ?_
      rw [q.1 491 3 (by unfold Qkg; omega), n1, if_neg (fun u => by have := (zi_le (by omega) (by omega)).mp u; omega), zi_tn (show v < 2147483648 by omega)]
      refine ⟨(zin_iff (by omega)).mpr (by omega), (zin_iff (by omega)).mpr (by omega), fun I13 e13 w ew => ?_⟩
      rw [q.1 493 v (by unfold Qkg; omega), n2 v (by omega)] at e13
      rw [ew, zi_succ]
      refine ih (v + 1) I13 (by omega) (by rw [e13]; exact q.zu (Or.inr (Or.inl rfl))) (by rw [e13, zu_oo (by decide)]; exact a7) (by rw [e13, zu_oo (by decide)]; exact a19) (fun j hj => ?_)
      rw [e13, zu_at]
      by_cases u : j = v
      · rw [if_pos ⟨rfl, u⟩, u]
      · rw [if_neg (fun x => u x.2)]
        exact h j (by omega)
  exact main d.length 0 I2 (by omega) q2 g7 g19 (fun j hj => by omega)
def Qkt (a j : Nat) : Prop := (a = 491 ∧ (j = 5 ∨ j = 15)) ∨ a = 494 ∨ (501 ≤ a ∧ a ≤ 503)
theorem s_keepsTokens {d : List Int32} {gd : Bool} {I : zI} {K : zI → Prop} (hd : txOk d) (hn : NewT I d) (h8 : I.1 491 8 = b01 gd) (hK : ∀ J, eqQ (fun a j => Qkt a j ∨ (gd = true ∧ Qkg a j)) I J → NowT J d → (gd = true → GoodT J d) → K J) : w_M_keepsTokens I K := by
  intro I1 e1 I2 e2
  obtain ⟨n1, n2, n3, n4⟩ := id hn
  have hd1 := hd.1
  have hd3 := hd.2.2
  have q2 : eqQ Qkt I I2 := by
    rw [e2, e1]
    exact (eqQ.rf.zu (Or.inl ⟨rfl, Or.inl rfl⟩)).zu (Or.inl ⟨rfl, Or.inr rfl⟩)
  have g5 : I2.1 491 5 = zi d.length := by rw [e2, zu_i (by decide), e1, zu_self, n1]
  have g15 : I2.1 491 15 = zi (lexL d).length := by rw [e2, zu_self, e1, zu_i (by decide), n3]
  intro P18 h18
  have main : ∀ (f v : Nat) (J : zI), v + f = d.length → eqQ Qkt I J → J.1 491 5 = zi d.length → J.1 491 15 = zi (lexL d).length → (∀ j, j < v → J.1 494 j = txF d j) → P18 (zi v) J := by
    intro f
    induction f with
    | zero =>
      intro v J hv q a5 a15 h
      refine h18 _ _ ?_
      rw [q.1 491 3 (by unfold Qkt; omega), n1, if_pos ((zi_le (by omega) (by omega)).mpr (by omega))]
      intro P46 h46
      have inner : ∀ (f v : Nat) (B : zI), v + f = (lexL d).length → eqQ Qkt I B → B.1 491 5 = zi d.length → B.1 491 15 = zi (lexL d).length → (∀ j, j < d.length → B.1 494 j = txF d j) → (∀ (j : Nat) (y : Nat × Nat × Nat), j < v → (lexL d)[j]? = some y → B.1 501 j = zi y.1 ∧ B.1 502 j = zi y.2.1 ∧ B.1 503 j = zi y.2.2) → P46 (zi v) B := by
        intro f
        induction f with
        | zero =>
          intro v B hv qB b5 b15 h1 h2
          refine h46 _ _ ?_
          rw [qB.1 491 9 (by unfold Qkt; omega), n3, if_pos ((zi_le (by omega) (by omega)).mpr (by omega)), qB.1 491 8 (by unfold Qkt; omega), h8]
          have nt : NowT B d := ⟨b5, h1, b15, fun j y hy => h2 j y (by have := (List.getElem?_eq_some_iff.mp hy).1; omega) hy⟩
          cases gd with
          | false =>
            rw [if_pos (show b01 false = 0 by decide)]
            exact hK B (qB.mono (fun a j h => Or.inl h)) nt (fun u => by cases u)
          | true =>
            rw [if_neg (show ¬ b01 true = 0 by decide)]
            refine s_keepsGood hd (hn.kp (qB.1 _ _ (by unfold Qkt; omega)) (qB.1 _ _ (by unfold Qkt; omega)) (fun a j u => qB.1 a j (by unfold Qkt; omega)) (fun j => qB.2 499 j (by unfold Qkt; omega))) (fun C qC gC => ?_)
            exact hK C ((qB.mono (fun a j h => Or.inl h)).tr (qC.mono (fun a j h => Or.inr ⟨rfl, h⟩))) (nt.kp (qC.1 _ _ (by unfold Qkg; omega)) (qC.1 _ _ (by unfold Qkg; omega)) (fun a j u => qC.1 a j (by unfold Qkg; omega))) (fun _ => gC)
        | succ f ih =>
          intro v B hv qB b5 b15 h1 h2
          refine h46 _ _ ?_
          rw [qB.1 491 9 (by unfold Qkt; omega), n3, if_neg (fun u => by have := (zi_le (by omega) (by omega)).mp u; omega), zi_tn (show v < 2147483648 by omega)]
          have i1 : vp_in (zi v) 710 := (zin_iff (by omega)).mpr (by omega)
          have i2 : vp_in (zi v) 110 := (zin_iff (by omega)).mpr (by omega)
          refine ⟨i1, i2, fun I7 e7 => ⟨i1, i2, fun I8 e8 => ⟨i1, i2, fun I9 e9 w ew => ?_⟩⟩⟩
          rw [ew, zi_succ]
          have hx : (lexL d)[v]? = some ((lexL d)[v]'(by omega)) := List.getElem?_eq_getElem (by omega)
          generalize (lexL d)[v]'(by omega) = x at hx
          obtain ⟨z1, z2, z3, z4⟩ := n4 v x hx
          rw [qB.1 496 v (by unfold Qkt; omega), z1] at e7
          rw [show I7.1 497 v = zi x.2.1 by rw [e7, zu_oo (by decide), qB.1 497 v (by unfold Qkt; omega)]; exact z2] at e8
          rw [show I8.1 498 v = zi x.2.2 by rw [e8, zu_oo (by decide), e7, zu_oo (by decide), qB.1 498 v (by unfold Qkt; omega)]; exact z3] at e9
          have o : ∀ a j, ¬ (501 ≤ a ∧ a ≤ 503 ∧ j = v) → I9.1 a j = B.1 a j := fun a j u => by rw [e9, zu_at, if_neg (by omega), e8, zu_at, if_neg (by omega), e7, zu_at, if_neg (by omega)]
          refine ih (v + 1) I9 (by omega) ?_ (by rw [o _ _ (by omega)]; exact b5) (by rw [o _ _ (by omega)]; exact b15) (fun j hj => by rw [o _ _ (by omega)]; exact h1 j hj) (fun j y hj hy => ?_)
          · rw [e9, e8, e7]
            exact ((qB.zu (Or.inr (Or.inr (by omega)))).zu (Or.inr (Or.inr (by omega)))).zu (Or.inr (Or.inr (by omega)))
          · by_cases u : j = v
            · subst u
              rw [hx] at hy
              cases hy
              refine ⟨?_, ?_, ?_⟩
              · rw [e9, zu_oo (by decide), e8, zu_oo (by decide), e7, zu_self]
              · rw [e9, zu_oo (by decide), e8, zu_self]
              · rw [e9, zu_self]
            · rw [o 501 j (by omega), o 502 j (by omega), o 503 j (by omega)]
              exact h2 j y (by omega) hy
      exact inner (lexL d).length 0 J (by omega) q a5 a15 (fun j hj => h j (by omega)) (fun j y hj => by omega)
    | succ f ih =>
      intro v J hv q a5 a15 h
      refine h18 _ _ ?_
      rw [q.1 491 3 (by unfold Qkt; omega), n1, if_neg (fun u => by have := (zi_le (by omega) (by omega)).mp u; omega), zi_tn (show v < 2147483648 by omega)]
      refine ⟨(zin_iff (by omega)).mpr (by omega), (zin_iff (by omega)).mpr (by omega), fun I13 e13 w ew => ?_⟩
      rw [q.1 493 v (by unfold Qkt; omega), n2 v (by omega)] at e13
      rw [ew, zi_succ]
      refine ih (v + 1) I13 (by omega) (by rw [e13]; exact q.zu (Or.inr (Or.inl rfl))) (by rw [e13, zu_oo (by decide)]; exact a5) (by rw [e13, zu_oo (by decide)]; exact a15) (fun j hj => ?_)
      rw [e13, zu_at]
      by_cases u : j = v
      · rw [if_pos ⟨rfl, u⟩, u]
      · rw [if_neg (fun x => u x.2)]
        exact h j (by omega)
  exact main d.length 0 I2 (by omega) q2 g5 g15 (fun j hj => by omega)
/-- a state kept -/
theorem s_keeps {s : Nat} {x : Mo} {I : zI} {K : zI → Prop} (hs : s ≤ 20) (hT : txOk (moT x)) (hG : txOk (moG x)) (hN : NowM I x) (hK : ∀ J, eqQ (fun a j => a = 542 ∧ 720 * s ≤ j ∧ j < 720 * s + 720) I J → MoM J s x → K J) : w_M_keeps (zi s) I K := by
  obtain ⟨n1, n2, n3, n4, n5, n6, n7, n8, n9, n10⟩ := hN
  intro v2 ev2
  rw [show (720 : Int32) = zi 720 from rfl, zi_mul] at ev2
  subst ev2
  have hT1 := hT.1
  have hG1 := hG.1
  have hG3 := hG.2.2
  intro P8 h8
  have main : ∀ (f v : Nat) (J : zI), v + f = 300 → eqQ (fun a j => a = 542 ∧ 720 * s ≤ j ∧ j < 720 * s + 720) I J → (∀ j, j < v → J.1 542 (720 * s + j) = I.1 494 j ∧ J.1 542 (720 * s + 300 + j) = I.1 495 j) → P8 (zi v) J := by
    intro f
    induction f with
    | zero =>
      intro v J hv q h
      refine h8 _ _ ?_
      rw [if_pos (show (300 : Int32) ≤ zi v from (zi_le (a := 300) (by decide) (by omega)).mpr (by omega))]
      intro P55 h55
      have inner : ∀ (f v : Nat) (B : zI), v + f = 110 → eqQ (fun a j => a = 542 ∧ 720 * s ≤ j ∧ j < 720 * s + 720) I B → (∀ j, j < 300 → B.1 542 (720 * s + j) = I.1 494 j ∧ B.1 542 (720 * s + 300 + j) = I.1 495 j) → (∀ j, j < v → B.1 542 (720 * s + 600 + j) = I.1 508 j) → P55 (zi v) B := by
        intro f
        induction f with
        | zero =>
          intro v B hv qB h1 h2
          refine h55 _ _ ?_
          rw [if_pos (show (110 : Int32) ≤ zi v from (zi_le (a := 110) (by decide) (by omega)).mpr (by omega))]
          have ix : ∀ k : Nat, k < 720 → vp_in (zi (720 * s) + zi k) 15120 ∧ Int32.toNatClampNeg (zi (720 * s) + zi k) = 720 * s + k := fun k hk => by
            rw [zi_add, zi_tn (by omega)]
            exact ⟨(zin_iff (by omega)).mpr (by omega), rfl⟩
          obtain ⟨a1, b1⟩ := ix 710 (by decide)
          obtain ⟨a2, b2⟩ := ix 711 (by decide)
          obtain ⟨a3, b3⟩ := ix 712 (by decide)
          obtain ⟨a4, b4⟩ := ix 713 (by decide)
          rw [show (710 : Int32) = zi 710 from rfl, show (711 : Int32) = zi 711 from rfl, show (712 : Int32) = zi 712 from rfl, show (713 : Int32) = zi 713 from rfl, b1, b2, b3, b4]
          refine ⟨a1, fun I6 e6 => ⟨a2, fun I7 e7 => ?_⟩⟩
          rw [qB.1 491 5 (by omega), n1] at e6
          rw [show I6.1 491 7 = zi (moG x).length by rw [e6, zu_oo (by decide), qB.1 491 7 (by omega)]; exact n5] at e7
          rw [show I7.1 491 8 = b01 (moB x) by rw [e7, zu_oo (by decide), e6, zu_oo (by decide), qB.1 491 8 (by omega)]; exact n9]
          intro P134 h134
          have fin : P134 (b01 (moB x)) := by
            refine h134 _ ⟨a3, fun I9 e9 => ⟨a4, fun I10 e10 => ?_⟩⟩
            rw [show I9.1 491 37 = zi (moR x) by rw [e9, zu_oo (by decide), e7, zu_oo (by decide), e6, zu_oo (by decide), qB.1 491 37 (by omega)]; exact n10] at e10
            have o : ∀ a j, ¬ (a = 542 ∧ 720 * s + 710 ≤ j ∧ j ≤ 720 * s + 713) → I10.1 a j = B.1 a j := fun a j u => by
              rw [e10, zu_at, if_neg (by omega), e9, zu_at, if_neg (by omega), e7, zu_at, if_neg (by omega), e6, zu_at, if_neg (by omega)]
            refine hK I10 ?_ ⟨fun j hj => ?_, fun j hj => ?_, fun j hj => ?_, ?_, ?_, ?_, ?_⟩
            · rw [e10, e9, e7, e6]
              exact (((qB.zu ⟨rfl, by omega, by omega⟩).zu ⟨rfl, by omega, by omega⟩).zu ⟨rfl, by omega, by omega⟩).zu ⟨rfl, by omega, by omega⟩
            · rw [o _ _ (by omega), (h1 j (by omega)).1]
              exact n2 j hj
            · rw [o _ _ (by omega), (h1 j (by omega)).2]
              exact n6 j hj
            · rw [o _ _ (by omega), h2 j (by omega)]
              exact n8 j hj
            · rw [e10, zu_i (by omega), e9, zu_i (by omega), e7, zu_i (by omega), e6, zu_self]
            · rw [e10, zu_i (by omega), e9, zu_i (by omega), e7, zu_self]
            · rw [e10, zu_i (by omega), e9, zu_self]
            · rw [e10, zu_self]
          cases hb : moB x with
          | false =>
            rw [if_pos (show b01 false = 0 by decide)]
            rw [hb] at fin
            exact fin
          | true =>
            rw [if_neg (show ¬ b01 true = 0 by decide)]
            rw [hb] at fin
            exact fin
        | succ f ih =>
          intro v B hv qB h1 h2
          refine h55 _ _ ?_
          rw [if_neg (show ¬ (110 : Int32) ≤ zi v from fun u => by have := (zi_le (a := 110) (by decide) (by omega)).mp u; omega), show (600 : Int32) = zi 600 from rfl, zi_add, zi_add, zi_tn (show v < 2147483648 by omega), zi_tn (show 720 * s + 600 + v < 2147483648 by omega)]
          refine ⟨(zin_iff (by omega)).mpr (by omega), (zin_iff (by omega)).mpr (by omega), fun I12 e12 w ew => ?_⟩
          rw [qB.1 508 v (by omega)] at e12
          rw [ew, zi_succ]
          have o : ∀ a j, ¬ (a = 542 ∧ j = 720 * s + 600 + v) → I12.1 a j = B.1 a j := fun a j u => by rw [e12, zu_at, if_neg u]
          refine ih (v + 1) I12 (by omega) (by rw [e12]; exact qB.zu ⟨rfl, by omega, by omega⟩) (fun j hj => ?_) (fun j hj => ?_)
          · rw [o _ _ (by omega), o _ _ (by omega)]
            exact h1 j hj
          · by_cases u : j = v
            · rw [u, e12, zu_self]
            · rw [o _ _ (by omega)]
              exact h2 j (by omega)
      exact inner 110 0 J (by omega) q (fun j hj => h j (by omega)) (fun j hj => by omega)
    | succ f ih =>
      intro v J hv q h
      refine h8 _ _ ?_
      rw [if_neg (show ¬ (300 : Int32) ≤ zi v from fun u => by have := (zi_le (a := 300) (by decide) (by omega)).mp u; omega), show (300 : Int32) = zi 300 from rfl, zi_add, zi_add, zi_add, zi_tn (show v < 2147483648 by omega), zi_tn (show 720 * s + v < 2147483648 by omega), zi_tn (show 720 * s + 300 + v < 2147483648 by omega)]
      refine ⟨(zin_iff (by omega)).mpr (by omega), (zin_iff (by omega)).mpr (by omega), fun I15 e15 => ⟨(zin_iff (by omega)).mpr (by omega), (zin_iff (by omega)).mpr (by omega), fun I16 e16 w ew => ?_⟩⟩
      rw [q.1 494 v (by omega)] at e15
      rw [show I15.1 495 v = I.1 495 v by rw [e15, zu_oo (by decide), q.1 495 v (by omega)]] at e16
      rw [ew, zi_succ]
      have o : ∀ a j, ¬ (a = 542 ∧ (j = 720 * s + v ∨ j = 720 * s + 300 + v)) → I16.1 a j = J.1 a j := fun a j u => by rw [e16, zu_at, if_neg (by omega), e15, zu_at, if_neg (by omega)]
      refine ih (v + 1) I16 (by omega) (by rw [e16, e15]; exact (q.zu ⟨rfl, by omega, by omega⟩).zu ⟨rfl, by omega, by omega⟩) (fun j hj => ?_)
      by_cases u : j = v
      · rw [u]
        refine ⟨?_, ?_⟩
        · rw [e16, zu_i (by omega), e15, zu_self]
        · rw [e16, zu_self]
      · rw [o _ _ (by omega), o _ _ (by omega)]
        exact h j (by omega)
  exact main 300 0 I (by omega) eqQ.rf (fun j hj => by omega)
/-! ===== all statements RUN, the model: it returns ===== -/
theorem RepNM.kp2 {I J : zI} {m : Nat} {N : Nat → Nd} (rep : RepNM I m N) (e1 : J.1 491 25 = I.1 491 25) (e : ∀ a j, 509 ≤ a → a ≤ 516 → J.1 a j = I.1 a j) (e2 : ∀ j, J.2 511 j = I.2 511 j) : RepNM J m N :=
  ⟨e1.trans rep.1, fun k hk => by
    obtain ⟨n1, n2, n3, n4, n5, n6, n7⟩ := rep.2 k hk
    refine ⟨by rw [e _ _ (by decide) (by decide)]; exact n1, by rw [e _ _ (by decide) (by decide)]; exact n2, by rw [e _ _ (by decide) (by decide)]; exact n3, by rw [e _ _ (by decide) (by decide)]; exact n4, by rw [e _ _ (by decide) (by decide)]; exact n5, fun i c hi => by rw [e _ _ (by decide) (by decide)]; exact n6 i c hi, fun q => ?_⟩
    obtain ⟨w1, w2⟩ := n7 q
    exact ⟨by rw [e _ _ (by decide) (by decide)]; exact w1, by rw [e2]; exact w2⟩⟩
def TvM (I : zI) (N : Nat → Nd) (R : Nat) : Prop := ∀ (i : Nat) (x : Fl), (flR N R)[i]? = some x → I.1 521 i = zi x.1 ∧ I.1 523 x.1 = zi i ∧ I.1 522 i = zi (i + x.2.2.2.2)
theorem TvM.kp {I J : zI} {N : Nat → Nd} {R : Nat} (h : TvM I N R) (e : ∀ a j, 521 ≤ a → a ≤ 523 → J.1 a j = I.1 a j) : TvM J N R := fun i x hx => by
  obtain ⟨h1, h2, h3⟩ := h i x hx
  rw [e 521 _ (by decide) (by decide), e 523 _ (by decide) (by decide), e 522 _ (by decide) (by decide)]
  exact ⟨h1, h2, h3⟩
theorem ViM.tv {I : zI} {N : Nat → Nd} {R n : Nat} (h : ViM I N R n) : TvM I N R := fun i x hx => by
  obtain ⟨b1, b2, -⟩ := h.2.1.2.1 i x (List.getElem?_eq_some_iff.mp hx).1 hx
  exact ⟨b1, b2, (h.2.2.1 i x hx).1⟩
theorem NmM.kp {I J : zI} {S : List Int64} (h : NmM I S) (e1 : J.1 491 55 = I.1 491 55) (e2 : ∀ j, J.2 530 j = I.2 530 j) : NmM J S := by
  obtain ⟨nm, n1, n2, n3, n4⟩ := h
  exact ⟨nm, e1.trans n1, fun i v hi => by rw [e2]; exact n2 i v hi, n3, n4⟩
theorem fl_po {m R i : Nat} {N : Nat → Nd} {x : Fl} (h : NdOk m N) (hR : R < m) (hx : (flR N R)[i]? = some x) : x.1 ∈ po N R := by
  rw [← fl_map h R hR 0 0 0 1]
  exact List.mem_map.mpr ⟨x, List.mem_of_getElem? hx, rfl⟩
def Qrk (a j : Nat) : Prop := Qna a j ∨ a = 532
theorem r_reckons {m R n p : Nat} {og : Nat → Nat} {N : Nat → Nd} {x : Fl} {I : zI} {K : zI → Prop} (rep : RepNM I m N) (hN : NdOk m N) (hm : m ≤ 3700) (t : TreeI m N R n og) (hx : (flR N R)[p]? = some x) (tv : TvM I N R) (nm : NmM I (nmL N R)) (hK : ∀ J, eqQ Qrk I J → NmM J (nmL N R) → K J) : w_M_reckons (zi p) I K := by
  have hR := t.1
  have hlen : (flR N R).length ≤ 248 := by
    have h1 := t.few hN
    have h2 : (flR N R).length = sz N R := fl_len hN R hR _ _ _ _
    omega
  obtain ⟨s1, s2, s3⟩ := sz_inR hN hR hx
  unfold w_M_reckons
  rw [zi_tn (show p < 2147483648 by omega), (tv p x hx).2.2, s1]
  refine ⟨(zin_iff (by omega)).mpr (by omega), fun v2 ev2 => ?_⟩
  subst ev2
  intro P9 h9
  have ch := hN.ch
  have hS := nmL_len hN t
  have main : ∀ (d k : Nat) (J : zI), p + d = k → k ≤ p + sz N x.1 → eqQ Qrk I J → NmM J (nmL N R) → P9 (zi k - 1) J := by
    intro d
    induction d with
    | zero =>
      intro k J hk hk2 q nJ
      refine h9 _ _ ?_
      rw [if_pos (show zi k - 1 < zi p by
        rw [show p = k by omega]
        by_cases u : k = 0
        · rw [u]
          decide
        · rw [show zi k - 1 = zi (k - 1) from zi_sub (b := 1) (by omega)]
          exact (zi_lt (by omega) (by omega)).mpr (by omega))]
      exact hK J q nJ
    | succ d ih =>
      intro k J hk hk2 q nJ
      obtain ⟨q', rfl⟩ : ∃ q', k = q' + 1 := ⟨k - 1, by omega⟩
      refine h9 _ _ ?_
      rw [show zi (q' + 1) - 1 = zi q' from zi_sub (b := 1) (by omega), if_neg (fun u => by have := (zi_lt (by omega) (by omega)).mp u; omega), zi_tn (show q' < 2147483648 by omega)]
      have hy : (flR N R)[q']? = some ((flR N R)[q']'(by omega)) := List.getElem?_eq_getElem (by omega)
      generalize (flR N R)[q']'(by omega) = y at hy
      have hyp := fl_po hN hR hy
      have hym := po_le hN R hR _ hyp
      have hym : y.1 < m := by omega
      have repJ : RepNM J m N := rep.kp ch (q.1 _ _ (by unfold Qrk Qna; omega)) (fun a j u1 u2 => q.1 a j (by unfold Qrk Qna; omega)) (fun j => q.2 511 j (by unfold Qrk Qna; omega))
      refine ⟨(zin_iff (by omega)).mpr (by omega), fun v3 ev3 => ?_⟩
      rw [q.1 521 q' (by unfold Qrk Qna; omega), (tv q' y hy).1] at ev3
      subst ev3
      have hyin : vp_in (zi y.1) 3700 := (zin_iff (by omega)).mpr (by omega)
      rw [zi_tn (show y.1 < 2147483648 by omega)]
      refine ⟨hyin, fun x5 ex5 => ?_⟩
      rw [show J.1 509 y.1 = Int32.ofInt (ndR (N y.1)) from (repJ.2 _ hym).1] at ex5
      intro P222 h222
      have nx : ∀ L, eqQ Qrk I L → NmM L (nmL N R) → P222 L := fun L qL nL => h222 L (fun v ev => by
        have e5 : v = zi q' - 1 := by
          rw [ev, Int32.sub_eq_add_neg]
        rw [e5]
        exact ih q' L (by omega) (by omega) qL nL)
      -- a value put
      have put : ∀ (A : zI) (v : Int32), eqQ Qrk I A → NmM A (nmL N R) → vp_in (zi y.1) 3700 ∧ ∀ I_9, I_9 = zu A 532 y.1 v → P222 I_9 := fun A v qA nA => ⟨hyin, fun I9 e9 => nx I9 (by rw [e9]; exact qA.zu (Or.inr rfl)) (nA.kp (by rw [e9, zu_oo (by decide)]) (fun j => by rw [e9, zu_2]))⟩
      have zin : ∀ z, z < y.1 → vp_in (zi z) 3700 := fun z hz => (zin_iff (by omega)).mpr (by omega)
      -- a CHILD
      have child : ∀ (r k w : Nat) (H : Int32 → Prop), ndR (N y.1) = (r : Int) → (rhS r)[k]? = some w → (∀ z, z < y.1 → z ∈ ndC (N y.1) → ndM (N z) = w → H (zi z)) → w_M_childOf (zi y.1) (zi k) J H := fun r k w H hr hk hH => by
        obtain ⟨z, z1, z2, z3⟩ := hN.child hym hr hk
        exact s_MchildOf repJ hm hym (ch _ hym) z1 (hH z z3 (List.mem_of_getElem? z1) z2)
      intro P132 h132
      have one : ∀ (r w : Nat), ndR (N y.1) = (r : Int) → (rhS r)[0]? = some w → P132 := fun r w hr hk => h132 (child r 0 w _ hr hk (fun z hz _ _ => ⟨zin z hz, put J _ q nJ⟩))
      rcases hN y.1 hym with ⟨e1, -⟩ | ⟨r, s, hr11, -, e3, -⟩
      · rw [e1] at ex5
        subst ex5
        rw [if_neg (by decide), if_neg (by decide), if_neg (by decide), if_neg (by decide), if_neg (by decide), if_neg (by decide), if_neg (by decide)]
        exact nx J q nJ
      · rw [e3, zi_int r] at ex5
        subst ex5
        rcases (show r ≤ 3 ∨ r = 4 ∨ r = 5 ∨ r = 6 ∨ r = 7 ∨ r = 8 ∨ r = 9 ∨ r = 10 by omega) with u | rfl | rfl | rfl | rfl | rfl | rfl | rfl
        · have ne : ∀ b : Nat, 4 ≤ b → b ≤ 10 → ¬ zi r = zi b := fun b u1 u2 w => by
            have := (zi_eq (by omega) (by omega)).mp w
            omega
          rw [if_neg (show ¬ zi r = 4 from ne 4 (by decide) (by decide)), if_neg (show ¬ zi r = 5 from ne 5 (by decide) (by decide)), if_neg (show ¬ zi r = 6 from ne 6 (by decide) (by decide)), if_neg (show ¬ zi r = 7 from ne 7 (by decide) (by decide)), if_neg (show ¬ zi r = 8 from ne 8 (by decide) (by decide)), if_neg (show ¬ zi r = 9 from ne 9 (by decide) (by decide)), if_neg (show ¬ zi r = 10 from ne 10 (by decide) (by decide))]
          exact nx J q nJ
        · rw [if_pos (show zi 4 = 4 from rfl)]
          exact child 4 0 2 _ e3 rfl (fun z hz _ _ => ⟨zin z hz, child 4 2 3 _ e3 rfl (fun z2 hz2 _ _ => ⟨zin z2 hz2, put J _ q nJ⟩)⟩)
        · rw [if_neg (show ¬ zi 5 = 4 by decide), if_pos (show zi 5 = 5 from rfl)]
          exact one 5 3 e3 rfl
        · rw [if_neg (show ¬ zi 6 = 4 by decide), if_neg (show ¬ zi 6 = 5 by decide), if_pos (show zi 6 = 6 from rfl)]
          exact child 6 0 3 _ e3 rfl (fun z hz _ _ => ⟨zin z hz, child 6 2 4 _ e3 rfl (fun z2 hz2 _ _ => ⟨zin z2 hz2, put J _ q nJ⟩)⟩)
        · rw [if_neg (show ¬ zi 7 = 4 by decide), if_neg (show ¬ zi 7 = 5 by decide), if_neg (show ¬ zi 7 = 6 by decide), if_pos (show zi 7 = 7 from rfl)]
          exact one 7 4 e3 rfl
        · rw [if_neg (show ¬ zi 8 = 4 by decide), if_neg (show ¬ zi 8 = 5 by decide), if_neg (show ¬ zi 8 = 6 by decide), if_neg (show ¬ zi 8 = 7 by decide), if_pos (show zi 8 = 8 from rfl)]
          refine child 8 0 5 _ e3 rfl (fun z hz hzc hzM => ⟨zin z hz, ?_⟩)
          obtain ⟨w1, w2⟩ := nm_child hN t hyp hzc hzM
          rw [zi_tn (show z < 2147483648 by omega), show J.2 511 z = nmV N z from ((repJ.2 z (by omega)).2.2.2.2.2.2 (by omega)).2]
          refine s_nameOf hS w1 nJ (fun r A hr qA nA => ⟨(zin_iff (by omega)).mpr (by omega), ?_⟩)
          exact put A _ (q.tr (qA.mono (fun a j h => Or.inl h))) nA
        · rw [if_neg (show ¬ zi 9 = 4 by decide), if_neg (show ¬ zi 9 = 5 by decide), if_neg (show ¬ zi 9 = 6 by decide), if_neg (show ¬ zi 9 = 7 by decide), if_neg (show ¬ zi 9 = 8 by decide), if_pos (show zi 9 = 9 from rfl)]
          exact child 9 0 6 _ e3 rfl (fun z hz _ _ => ⟨zin z hz, put J _ q nJ⟩)
        · rw [if_neg (show ¬ zi 10 = 4 by decide), if_neg (show ¬ zi 10 = 5 by decide), if_neg (show ¬ zi 10 = 6 by decide), if_neg (show ¬ zi 10 = 7 by decide), if_neg (show ¬ zi 10 = 8 by decide), if_neg (show ¬ zi 10 = 9 by decide), if_pos (show zi 10 = 10 from rfl)]
          exact child 10 1 2 _ e3 rfl (fun z hz _ _ => ⟨zin z hz, put J _ q nJ⟩)
  exact main (sz N x.1) (p + sz N x.1) I rfl (Nat.le_refl _) eqQ.rf nm
/-- how many nodes of RULE 8 -/
def cn8 (N : Nat → Nd) (L : List Fl) : Nat := (L.map (fun x => isR8 N x.1)).sum
theorem cn8_R {m R n : Nat} {og : Nat → Nat} {N : Nat → Nd} (hN : NdOk m N) (t : TreeI m N R n og) : cn8 N (flR N R) ≤ 49 := by
  have h1 := (names_le hN t).2
  unfold poW at h1
  rw [← fl_map hN R t.1 0 0 0 1, List.map_map] at h1
  exact h1
theorem cn8_drop {N : Nat → Nd} {L : List Fl} (k : Nat) : cn8 N (L.drop k) ≤ cn8 N L := by
  have : cn8 N L = cn8 N (L.take k) + cn8 N (L.drop k) := by
    unfold cn8
    rw [← List.sum_append, ← List.map_append, List.take_append_drop]
  omega
def Qra (a j : Nat) : Prop := Qrk a j ∨ a = 517 ∨ a = 518
theorem r_reads {m R n s p : Nat} {og : Nat → Nat} {N : Nat → Nd} {x : Fl} {I : zI} {K : Int32 → zI → Prop} (rep : RepNM I m N) (hN : NdOk m N) (hm : m ≤ 3700) (t : TreeI m N R n og) (hx : (flR N R)[p]? = some x) (hs : x.1 = s) (h2 : ndR (N s) = 2) (tv : TvM I N R) (nm : NmM I (nmL N R)) (hK : ∀ v J, eqQ Qra I J → NmM J (nmL N R) → K v J) : w_M_reads (zi s) I K := by
  have hR := t.1
  have hlen : (flR N R).length ≤ 248 := by
    have h1 := t.few hN
    have h2 : (flR N R).length = sz N R := fl_len hN R hR _ _ _ _
    omega
  have ch := hN.ch
  have hS := nmL_len hN t
  have hsp := fl_po hN hR hx
  rw [hs] at hsp
  have hsm : s < m := by
    have := po_le hN R hR _ hsp
    omega
  obtain ⟨e, c1, -, c3⟩ := hN.child (k := 2) (y := 2) hsm (show ndR (N s) = ((2 : Nat) : Int) from h2) rfl
  obtain ⟨i', y, -, y2, y3, -⟩ := fl_ch hN hR hx (by rw [hs]; exact c1)
  have y2' : (flR N R)[i']? = some y := y2
  obtain ⟨t1, t2, t3⟩ := tv i' y y2'
  obtain ⟨z1, z2, z3⟩ := sz_inR hN hR y2'
  refine s_MchildOf (k := 2) rep hm hsm (ch _ hsm) c1 ?_
  have hsin : vp_in (zi s) 3700 := (zin_iff (by omega)).mpr (by omega)
  refine ⟨(zin_iff (by omega)).mpr (by omega), fun v2 ev2 => ?_⟩
  rw [zi_tn (show e < 2147483648 by omega), ← y3, t2] at ev2
  subst ev2
  refine ⟨hsin, ?_⟩
  intro P29 h29
  have rest : ∀ t3' : Int32, P29 t3' := by
    intro t3'
    refine h29 t3' ?_
    intro P34 h34
    have main : ∀ (d q c : Nat) (v4 : Int32) (J : zI), i' ≤ q → q + d = i' + sz N y.1 → c + cn8 N ((flR N R).drop q) ≤ 49 → eqQ Qra I J → NmM J (nmL N R) → P34 (zi c) v4 (zi q) J := by
      intro d
      induction d with
      | zero =>
        intro q c v4 J hq hqd hc qJ nJ
        refine h34 _ _ _ _ ⟨(zin_iff (by omega)).mpr (by omega), ?_⟩
        rw [zi_tn (show i' < 2147483648 by omega), qJ.1 522 i' (by unfold Qra Qrk Qna; omega), t3, z1, if_pos ((zi_le (by omega) (by omega)).mpr (by omega))]
        refine ⟨hsin, fun I8 e8 => hK _ I8 (by rw [e8]; exact qJ.zu (Or.inr (Or.inl rfl))) (nJ.kp (by rw [e8, zu_oo (by decide)]) (fun j => by rw [e8, zu_2]))⟩
      | succ d ih =>
        intro q c v4 J hq hqd hc qJ nJ
        refine h34 _ _ _ _ ⟨(zin_iff (by omega)).mpr (by omega), ?_⟩
        rw [zi_tn (show i' < 2147483648 by omega), qJ.1 522 i' (by unfold Qra Qrk Qna; omega), t3, z1, if_neg (fun u => by have := (zi_le (by omega) (by omega)).mp u; omega)]
        have hw : (flR N R)[q]? = some ((flR N R)[q]'(by omega)) := List.getElem?_eq_getElem (by omega)
        have hdq : (flR N R).drop q = (flR N R)[q]'(by omega) :: (flR N R).drop (q + 1) := List.drop_eq_getElem_cons (by omega)
        generalize (flR N R)[q]'(by omega) = w at hw hdq
        have hwp := fl_po hN hR hw
        have hwm : w.1 < m := by
          have := po_le hN R hR _ hwp
          omega
        have hcn : cn8 N ((flR N R).drop q) = isR8 N w.1 + cn8 N ((flR N R).drop (q + 1)) := by
          rw [hdq]
          unfold cn8
          rw [List.map_cons, List.sum_cons]
        have repJ : RepNM J m N := rep.kp2 (qJ.1 _ _ (by unfold Qra Qrk Qna; omega)) (fun a j u1 u2 => qJ.1 a j (by unfold Qra Qrk Qna; omega)) (fun j => qJ.2 511 j (by unfold Qra Qrk Qna; omega))
        refine ⟨(zin_iff (by omega)).mpr (by omega), fun v6 ev6 => ?_⟩
        rw [zi_tn (show q < 2147483648 by omega), qJ.1 521 q (by unfold Qra Qrk Qna; omega), (tv q w hw).1] at ev6
        subst ev6
        refine ⟨(zin_iff (by omega)).mpr (by omega), ?_⟩
        rw [zi_tn (show w.1 < 2147483648 by omega), show J.1 509 w.1 = Int32.ofInt (ndR (N w.1)) from (repJ.2 _ hwm).1]
        intro P137 h137
        have nx : ∀ (c' : Nat) (v : Int32) (L : zI), c' + cn8 N ((flR N R).drop (q + 1)) ≤ 49 → eqQ Qra I L → NmM L (nmL N R) → P137 (zi c') v L := fun c' v L hc' qL nL => h137 _ _ _ (fun v' ev => by
          rw [ev, zi_succ]
          exact ih (q + 1) c' v L (by omega) (by omega) hc' qL nL)
        by_cases u8 : ndR (N w.1) = 8
        · have hi8 : isR8 N w.1 = 1 := if_pos u8
          rw [if_pos (show Int32.ofInt (ndR (N w.1)) = 8 by rw [u8]; rfl)]
          obtain ⟨z, d1, d2, d3⟩ := hN.child (k := 0) (y := 5) hwm (show ndR (N w.1) = ((8 : Nat) : Int) from u8) rfl
          refine s_MchildOf (k := 0) repJ hm hwm (ch _ hwm) d1 ⟨(zin_iff (by omega)).mpr (by omega), ?_⟩
          obtain ⟨w1, w2⟩ := nm_child hN t hwp (List.mem_of_getElem? d1) d2
          rw [zi_tn (show z < 2147483648 by omega), show J.2 511 z = nmV N z from ((repJ.2 z (by omega)).2.2.2.2.2.2 (by omega)).2]
          refine s_nameOf hS w1 nJ (fun r A hr qA nA => ⟨(zin_iff (by omega)).mpr (by omega), fun v7 ev7 => ⟨hsin, ?_⟩⟩)
          have qA' : eqQ Qra I A := qJ.tr (qA.mono (fun a j h => Or.inl (Or.inl h)))
          have hix : vp_in (50 * zi s + zi c) 185000 := by
            rw [show (50 : Int32) = zi 50 from rfl, zi_mul, zi_add]
            exact (zin_iff (by omega)).mpr (by omega)
          intro P121 h121
          have put : ∀ v : Int32, P121 v := fun v => h121 v ⟨hix, fun I19 e19 v3' ev3' => by
            rw [ev3', zi_succ]
            exact nx (c + 1) v I19 (by omega) (by rw [e19]; exact qA'.zu (Or.inr (Or.inr rfl))) (nA.kp (by rw [e19, zu_oo (by decide)]) (fun j => by rw [e19, zu_2]))⟩
          split
          · exact put _
          · refine ⟨hix, ?_⟩
            split
            · exact put _
            · exact put _
        · rw [if_neg (show ¬ Int32.ofInt (ndR (N w.1)) = 8 from fun v => u8 (by
            rcases hN w.1 hwm with ⟨f1, -⟩ | ⟨r, s', f1, -, f3, -⟩
            · rw [f1] at v
              exact absurd v (by decide)
            · rw [f3, zi_int r] at v
              have := (zi_eq (b := 8) (by omega) (by decide)).mp v
              omega))]
          exact nx c v4 J (by omega) qJ nJ
    exact main (sz N y.1) i' 0 t3' I (Nat.le_refl _) rfl (by have := cn8_R hN t; have := cn8_drop (N := N) (L := flR N R) i'; omega) eqQ.rf nm
  split
  · exact rest 1
  · exact rest 0
/-- all of them -/
theorem r_runsAllN {m R n : Nat} {og : Nat → Nat} {N : Nat → Nd} {e : Bool} {I : zI} {K : Int32 → zI → Prop} (rep : RepNM I m N) (hN : NdOk m N) (hm : m ≤ 3700) (t : TreeI m N R n og) (vi : ViM I N R n) (hK : ∀ v J, eqQ Qra I J → NmM J (nmL N R) → K v J) : w_M_runsAll (b01 e) I K := by
  have hR := t.1
  have ch := hN.ch
  have hS := nmL_len hN t
  have tv := vi.tv
  intro I1 e1
  have q1 : eqQ Qra I I1 := by
    rw [e1]
    exact eqQ.rf.zu (Or.inl (Or.inl (Or.inl ⟨rfl, rfl⟩)))
  have n1 : NmM I1 (nmL N R) := ⟨[], by rw [e1, zu_self]; rfl, fun i v hi => (by cases hi), List.nodup_nil, fun v hv => (by cases hv)⟩
  obtain ⟨-, g53, -, g529⟩ := vi.2.2.2
  have hsl : (setsOf N R).length ≤ 99 := by
    have h1 := cn2_le (F := flR N R) hN 400 0 0 [(R, 0, 1)] (by have := t.few hN; have h2 : (flR N R).length = sz N R := fl_len hN R hR _ _ _ _; omega) (fun y hy => by cases List.mem_singleton.mp hy; exact hR) (by
      rw [List.drop_zero]
      show fl N R 0 0 0 1 = fl N R 0 0 0 1 ++ []
      rw [List.append_nil])
    rw [List.drop_zero, wtW_cons] at h1
    change _ ≤ wt2 N R + 0 at h1
    have h2 : (setsOf N R).length = cn2 N (flR N R) := st2_len
    have h3 := wt2_le (N := N) (c := R)
    have h4 := t.tk hN
    have h5 := t.2.2.2.2.2.2.2
    omega
  intro P9 h9
  have main : ∀ (d k : Nat) (v2 : Int32) (J : zI), k + d = (setsOf N R).length → eqQ Qra I J → NmM J (nmL N R) → P9 v2 (zi k) J := by
    intro d
    induction d with
    | zero =>
      intro k v2 J hk q nJ
      refine h9 _ _ _ ?_
      rw [q.1 491 53 (by unfold Qra Qrk Qna; omega), g53, if_pos ((zi_le (by omega) (by omega)).mpr (by omega))]
      exact hK _ J q nJ
    | succ d ih =>
      intro k v2 J hk q nJ
      refine h9 _ _ _ ?_
      rw [q.1 491 53 (by unfold Qra Qrk Qna; omega), g53, if_neg (fun u => by have := (zi_le (by omega) (by omega)).mp u; omega), zi_tn (show k < 2147483648 by omega)]
      refine ⟨(zin_iff (by omega)).mpr (by omega), fun v4 ev4 => ?_⟩
      have hs : (setsOf N R)[k]? = some ((setsOf N R)[k]'(by omega)) := List.getElem?_eq_getElem (by omega)
      generalize (setsOf N R)[k]'(by omega) = s at hs
      rw [q.1 529 k (by unfold Qra Qrk Qna; omega), g529 k s hs] at ev4
      subst ev4
      obtain ⟨x, x1, x2, x3⟩ := st2_mem (List.mem_of_getElem? hs)
      obtain ⟨p, hp⟩ := List.mem_iff_getElem?.mp x1
      have hsp := fl_po hN hR hp
      rw [x2] at hsp
      have hsm : s < m := by
        have := po_le hN R hR _ hsp
        omega
      have hsin : vp_in (zi s) 3700 := (zin_iff (by omega)).mpr (by omega)
      have rp : ∀ A, eqQ Qra I A → RepNM A m N := fun A qA => rep.kp2 (qA.1 _ _ (by unfold Qra Qrk Qna; omega)) (fun a j u1 u2 => qA.1 a j (by unfold Qra Qrk Qna; omega)) (fun j => qA.2 511 j (by unfold Qra Qrk Qna; omega))
      have tvA : ∀ A, eqQ Qra I A → TvM A N R := fun A qA => tv.kp (fun a j u1 u2 => qA.1 a j (by unfold Qra Qrk Qna; omega))
      obtain ⟨ex, c1, -, c3⟩ := hN.child (k := 2) (y := 2) hsm (show ndR (N s) = ((2 : Nat) : Int) from x3) rfl
      obtain ⟨z, d1, d2, d3⟩ := hN.child (k := 0) (y := 5) hsm (show ndR (N s) = ((2 : Nat) : Int) from x3) rfl
      obtain ⟨w1, w2⟩ := nm_child hN t hsp (List.mem_of_getElem? d1) d2
      obtain ⟨i', y, -, y2, y3, -⟩ := fl_ch hN hR hp (by rw [x2]; exact c1)
      have y2' : (flR N R)[i']? = some y := y2
      intro P39 h39
      have rest : ∀ (t6 : Int32) (A : zI), eqQ Qra I A → NmM A (nmL N R) → P39 t6 A := by
        intro t6 A qA nA
        refine h39 t6 A ?_
        intro P66 h66
        have st : ∀ t8 : Int32, P66 t8 := by
          intro t8
          refine h66 t8 ?_
          intro v2' ev2'
          refine s_MchildOf (k := 2) (rp A qA) hm hsm (ch _ hsm) c1 ⟨(zin_iff (by omega)).mpr (by omega), ?_⟩
          rw [zi_tn (show ex < 2147483648 by omega), ← y3, ((tvA A qA) i' y y2').2.1, y3]
          refine r_reckons (rp A qA) hN hm t y2' (tvA A qA) nA (fun B qB nB => ?_)
          have qB' : eqQ Qra I B := qA.tr (qB.mono (fun a j h => Or.inl h))
          refine s_MchildOf (k := 0) (rp B qB') hm hsm (ch _ hsm) d1 ⟨(zin_iff (by omega)).mpr (by omega), ?_⟩
          rw [zi_tn (show z < 2147483648 by omega), show B.2 511 z = nmV N z from (((rp B qB').2 z (by omega)).2.2.2.2.2.2 (by omega)).2]
          refine s_nameOf hS w1 nB (fun r C hr qC nC => ⟨(zin_iff (by omega)).mpr (by omega), (zin_iff (by omega)).mpr (by omega), fun I15 e15 v3' ev3' => ?_⟩)
          rw [ev3', zi_succ]
          have qC' : eqQ Qra I C := qB'.tr (qC.mono (fun a j h => Or.inl (Or.inl h)))
          exact ih (k + 1) _ I15 (by omega) (by rw [e15]; exact qC'.zu (Or.inl (Or.inl (Or.inr (Or.inr rfl))))) (nC.kp (by rw [e15, zu_oo (by decide)]) (fun j => by rw [e15, zu_2]))
        intro P64 h64
        split
        · exact h64 (st _)
        · refine ⟨hsin, ?_⟩
          split
          · exact st _
          · exact h64 (st _)
      split
      · exact rest _ J q nJ
      · exact r_reads (rp J q) hN hm t hp x2 x3 (tvA J q) nJ (fun v A qA nA => rest v A (q.tr qA) nA)
  exact main (setsOf N R).length 0 0 I1 (by omega) q1 n1
theorem r_runsAll {m R n : Nat} {og : Nat → Nat} {N : Nat → Nd} {e : Bool} {I : zI} {K : Int32 → zI → Prop} (rep : RepNM I m N) (hN : NdOk m N) (hm : m ≤ 3700) (t : TreeI m N R n og) (vi : ViM I N R n) (hK : ∀ v J, eqQ Qra I J → K v J) : w_M_runsAll (b01 e) I K :=
  r_runsAllN rep hN hm t vi (fun v J q _ => hK v J q)
/-! ===== what NAMES are when all was RUN: the model ===== -/
theorem sets_len {m R n : Nat} {og : Nat → Nat} {N : Nat → Nd} (hN : NdOk m N) (t : TreeI m N R n og) : (setsOf N R).length ≤ 99 := by
  have h1 := cn2_le (F := flR N R) hN (flR N R).length 0 0 [(R, 0, 1)] (by omega) (fun y hy => by cases List.mem_singleton.mp hy; exact t.1) (by
    rw [List.drop_zero]
    show fl N R 0 0 0 1 = fl N R 0 0 0 1 ++ []
    rw [List.append_nil])
  rw [List.drop_zero, wtW_cons] at h1
  dsimp only at h1
  have h2 := wt2_le (N := N) (c := R)
  have h3 := t.tk hN
  have h4 := t.2.2.2.2.2.2.2
  have h5 : wtW N [] = 0 := rfl
  unfold setsOf
  rw [st2_len]
  omega
theorem i64_32 {n : Nat} (h : n < 2147483648) : Int64.toInt32 (Int64.ofNat n) = zi n := by
  apply Int32.toInt_inj.mp
  rw [Int64.toInt_toInt32, Int64.toInt_ofNat_of_lt (by omega), zi_toInt h]
  exact Int.bmod_eq_of_le (by omega) (by omega)
theorem num_m {N : Nat → Nd} {z : Nat} (hz : tkZ (N z)) (hk : ndK (N z) = 1) : Int64.toInt32 (nmV N z) = numY (N z) := by
  obtain ⟨b1, b2, b3⟩ := hz.2 hk
  have h' : ∀ j, j < (ndY (N z)).length → isD (bsF (ndY (N z)) (0 + j)) = true := fun j hj => by rw [Nat.zero_add]; exact b3 j hj
  have e : nmV N z = valD (bsF (ndY (N z))) 0 (ndY (N z)).length := by
    unfold nmV isV
    dsimp only
    rw [if_neg (by omega), if_pos hk]
  rw [e, valD_eq _ h']
  have hlt := natV_lt (B := 10) (f := fun j => dg 48 (bsF (ndY (N z)) (0 + j))) (ndY (N z)).length (fun j hj => (dg_D (h' j hj)).1)
  have h4 : 10 ^ (ndY (N z)).length ≤ 10 ^ 4 := Nat.pow_le_pow_right (by decide) b2
  rw [i64_32 (by omega)]
  unfold numY
  exact congrArg zi (natV_cg _ (fun j _ => by
    show dg 48 _ = dg 48 _
    rw [Nat.zero_add]))
/-- the model's list of NAMES, and what they are -/
def NvM (I : zI) (S : List Int64) (en : Int64 → Int32) : Prop := ∃ nm : List Int64, I.1 491 55 = zi nm.length ∧ (∀ (i : Nat) (v : Int64), nm[i]? = some v → I.2 530 i = v ∧ I.1 531 i = en v) ∧ nm.Nodup ∧ (∀ v ∈ nm, v ∈ S) ∧ ∀ v, v ∉ nm → en v = 0
theorem NvM.kp {I J : zI} {S : List Int64} {en : Int64 → Int32} (h : NvM I S en) (e1 : J.1 491 55 = I.1 491 55) (e2 : ∀ j, J.2 530 j = I.2 530 j) (e3 : ∀ j, J.1 531 j = I.1 531 j) : NvM J S en := by
  obtain ⟨nm, n1, n2, n3, n4, n5⟩ := h
  exact ⟨nm, e1.trans n1, fun i v hi => ⟨(e2 i).trans (n2 i v hi).1, (e3 i).trans (n2 i v hi).2⟩, n3, n4, n5⟩
theorem NvM.nm {I : zI} {S : List Int64} {en : Int64 → Int32} (h : NvM I S en) : NmM I S := by
  obtain ⟨nm, n1, n2, n3, n4, n5⟩ := h
  exact ⟨nm, n1, fun i v hi => (n2 i v hi).1, n3, n4⟩
theorem nd_ix {l : List Int64} (h : l.Nodup) {i j : Nat} {v : Int64} (hi : l[i]? = some v) (hj : l[j]? = some v) : i = j := by
  induction l generalizing i j with
  | nil => cases hi
  | cons a l ih =>
    obtain ⟨h1, h2⟩ := List.nodup_cons.mp h
    cases i with
    | zero =>
      cases j with
      | zero => rfl
      | succ j =>
        cases hi
        rw [List.getElem?_cons_succ] at hj
        exact absurd (List.mem_of_getElem? hj) h1
    | succ i =>
      rw [List.getElem?_cons_succ] at hi
      cases j with
      | zero =>
        cases hj
        exact absurd (List.mem_of_getElem? hi) h1
      | succ j =>
        rw [List.getElem?_cons_succ] at hj
        rw [ih h2 hi hj]
theorem u_nameOf {v : Int64} {S : List Int64} {en : Int64 → Int32} {I : zI} {K : Int32 → zI → Prop} (hS : S.length ≤ 49) (hv : v ∈ S) (hN : NvM I S en) (hK : ∀ (r : Nat) (J : zI), r < 60 → eqQ Qna I J → NvM J S en → J.1 531 r = en v → (∀ (w : Int32) (L : zI), L = zu J 531 r w → NvM L S (up6 en v w)) → K (zi r) J) : w_M_nameOf v I K := by
  obtain ⟨nm, n1, n2, n3, n4, n5⟩ := id hN
  have hl := nd_le n3 n4
  -- a NAME found, or put there, and what is set of it
  have fin : ∀ (nm : List Int64) (r : Nat) (J : zI), J.1 491 55 = zi nm.length → (∀ (i : Nat) (v : Int64), nm[i]? = some v → J.2 530 i = v ∧ J.1 531 i = en v) → nm.Nodup → (∀ v ∈ nm, v ∈ S) → (∀ v, v ∉ nm → en v = 0) → nm[r]? = some v → r < 60 → eqQ Qna I J → K (zi r) J := by
    intro nm r J m1 m2 m3 m4 m5 hr hr6 qJ
    refine hK r J hr6 qJ ⟨nm, m1, m2, m3, m4, m5⟩ (m2 r v hr).2 (fun w L eL => ⟨nm, ?_, fun i v' hi => ⟨?_, ?_⟩, m3, m4, fun v' hv' => ?_⟩)
    · rw [eL, zu_oo (by decide)]
      exact m1
    · rw [eL, zu_2]
      exact (m2 i v' hi).1
    · rw [eL, zu_at]
      by_cases u : i = r
      · rw [if_pos ⟨rfl, u⟩]
        rw [u, hr] at hi
        cases hi
        rw [up6_s]
      · rw [if_neg (fun x => u x.2), up6_o (fun e => u (nd_ix m3 hi (by rw [e]; exact hr)))]
        exact (m2 i v' hi).2
    · rw [up6_o (fun e => hv' (by rw [e]; exact List.mem_of_getElem? hr))]
      exact m5 v' hv'
  intro P2 h2
  have main : ∀ (d k : Nat), k + d = nm.length → (∀ i : Nat, i < k → nm[i]? ≠ some v) → P2 (zi k) := by
    intro d
    induction d with
    | zero =>
      intro k hk hno
      refine h2 _ ?_
      have hnv : v ∉ nm := fun hm => by
        obtain ⟨i, hi⟩ := List.mem_iff_getElem?.mp hm
        exact hno i (by have := (List.getElem?_eq_some_iff.mp hi).1; omega) hi
      have hnd : (nm ++ [v]).Nodup := List.nodup_append.mpr ⟨n3, List.nodup_cons.mpr ⟨List.not_mem_nil, List.nodup_nil⟩, fun a ha b hb e => by
        cases List.mem_singleton.mp hb
        exact hnv (e ▸ ha)⟩
      have hsub : ∀ w ∈ nm ++ [v], w ∈ S := fun w hw => by
        rcases List.mem_append.mp hw with hw | hw
        · exact n4 w hw
        · cases List.mem_singleton.mp hw
          exact hv
      have hl2 := nd_le hnd hsub
      rw [List.length_append] at hl2
      change nm.length + 1 ≤ _ at hl2
      rw [n1, if_pos ((zi_le (by omega) (by omega)).mpr (by omega)), zi_tn (show nm.length < 2147483648 by omega)]
      refine ⟨(zin_iff (by omega)).mpr (by omega), fun I2 e2 => ?_⟩
      have g2 : I2.1 491 55 = zi nm.length := by rw [e2, zul_1]; exact n1
      rw [g2, zi_tn (show nm.length < 2147483648 by omega)]
      refine ⟨(zin_iff (by omega)).mpr (by omega), fun I3 e3 I4 e4 => ?_⟩
      rw [show I3.1 491 55 = zi nm.length by rw [e3, zu_oo (by decide)]; exact g2, zi_succ] at e4
      rw [show I4.1 491 55 - 1 = zi nm.length by rw [e4, zu_self]; exact zi_sub (b := 1) (by omega)]
      refine fin (nm ++ [v]) nm.length I4 ?_ (fun i w hi => ?_) hnd hsub (fun w hw => n5 w (fun h => hw (List.mem_append_left _ h))) ?_ (by omega) ?_
      · rw [e4, zu_self, List.length_append]
        rfl
      · rw [e4, zu_2, e3, zu_2, e2, zul_at, zu_oo (by decide), zu_at]
        rcases snoc_at hi with hi | ⟨rfl, rfl⟩
        · have := (List.getElem?_eq_some_iff.mp hi).1
          rw [if_neg (by omega), if_neg (by omega), zul_1]
          exact n2 i w hi
        · rw [if_pos ⟨rfl, rfl⟩, if_pos ⟨rfl, rfl⟩]
          exact ⟨rfl, (n5 _ hnv).symm⟩
      · rw [List.getElem?_append_right (Nat.le_refl _), Nat.sub_self]
        rfl
      · rw [e4, e3, e2]
        exact ((eqQ.rf.zul (Or.inr (Or.inl rfl))).zu (Or.inr (Or.inr rfl))).zu (Or.inl ⟨rfl, rfl⟩)
    | succ d ih =>
      intro k hk hno
      refine h2 _ ?_
      rw [n1, if_neg (fun u => by have := (zi_le (by omega) (by omega)).mp u; omega), zi_tn (show k < 2147483648 by omega)]
      have hk2 : nm[k]? = some (nm[k]'(by omega)) := List.getElem?_eq_getElem (by omega)
      generalize nm[k]'(by omega) = w at hk2
      refine ⟨(zin_iff (by omega)).mpr (by omega), ?_⟩
      rw [(n2 k w hk2).1]
      by_cases u : w = v
      · rw [if_pos (lg_cmp0.mpr u)]
        rw [u] at hk2
        exact fin nm k I n1 n2 n3 n4 n5 hk2 (by omega) eqQ.rf
      · rw [if_neg (fun x => u (lg_cmp0.mp x))]
        intro v' ev
        rw [ev, zi_succ]
        refine ih (k + 1) (by omega) (fun i hi hi2 => ?_)
        by_cases x : i = k
        · rw [x, hk2] at hi2
          exact u (Option.some.inj hi2)
        · exact hno i (by omega) hi2
  exact main nm.length 0 (by omega) (fun i hi => by omega)
def WoM (I : zI) (N : Nat → Nd) (F : List Fl) (en : Int64 → Int32) (lo hi : Nat) : Prop := ∀ (q : Nat) (y : Fl), lo ≤ q → q < hi → F[q]? = some y → 4 ≤ ndR (N y.1) → I.1 532 y.1 = evN N en y.1
theorem u_reckons {m R n p : Nat} {og : Nat → Nat} {N : Nat → Nd} {en : Int64 → Int32} {x : Fl} {I : zI} {K : zI → Prop} (rep : RepNM I m N) (hN : NdOk m N) (hm : m ≤ 3700) (t : TreeI m N R n og) (hu : ∀ (p q : Nat) (x y : Fl), (flR N R)[p]? = some x → (flR N R)[q]? = some y → x.1 = y.1 → p = q) (htz : ∀ z, z ∈ yl N R → tkZ (N z)) (hx : (flR N R)[p]? = some x) (tv : TvM I N R) (nv : NvM I (nmL N R) en) (hK : ∀ J, eqQ Qrk I J → NvM J (nmL N R) en → WoM J N (flR N R) en p (p + sz N x.1) → K J) : w_M_reckons (zi p) I K := by
  have hR := t.1
  have hlen : (flR N R).length ≤ 248 := by
    have h1 := t.few hN
    have h2 : (flR N R).length = sz N R := fl_len hN R hR _ _ _ _
    omega
  obtain ⟨s1, s2, s3⟩ := sz_inR hN hR hx
  unfold w_M_reckons
  rw [zi_tn (show p < 2147483648 by omega), (tv p x hx).2.2, s1]
  refine ⟨(zin_iff (by omega)).mpr (by omega), fun v2 ev2 => ?_⟩
  subst ev2
  intro P9 h9
  have ch := hN.ch
  have hS := nmL_len hN t
  have main : ∀ (d k : Nat) (J : zI), p + d = k → k ≤ p + sz N x.1 → eqQ Qrk I J → NvM J (nmL N R) en → WoM J N (flR N R) en k (p + sz N x.1) → P9 (zi k - 1) J := by
    intro d
    induction d with
    | zero =>
      intro k J hk hk2 q nJ wJ
      refine h9 _ _ ?_
      rw [if_pos (show zi k - 1 < zi p by
        rw [show p = k by omega]
        by_cases u : k = 0
        · rw [u]
          decide
        · rw [show zi k - 1 = zi (k - 1) from zi_sub (b := 1) (by omega)]
          exact (zi_lt (by omega) (by omega)).mpr (by omega))]
      rw [show k = p by omega] at wJ
      exact hK J q nJ wJ
    | succ d ih =>
      intro k J hk hk2 q nJ wJ
      obtain ⟨q', rfl⟩ : ∃ q', k = q' + 1 := ⟨k - 1, by omega⟩
      refine h9 _ _ ?_
      rw [show zi (q' + 1) - 1 = zi q' from zi_sub (b := 1) (by omega), if_neg (fun u => by have := (zi_lt (by omega) (by omega)).mp u; omega), zi_tn (show q' < 2147483648 by omega)]
      have hy : (flR N R)[q']? = some ((flR N R)[q']'(by omega)) := List.getElem?_eq_getElem (by omega)
      generalize (flR N R)[q']'(by omega) = y at hy
      have hyp := fl_po hN hR hy
      have hym := po_le hN R hR _ hyp
      have hym : y.1 < m := by omega
      have hyi := sub_in hN hR hx hy (by omega) (by omega)
      have repJ : RepNM J m N := rep.kp ch (q.1 _ _ (by unfold Qrk Qna; omega)) (fun a j u1 u2 => q.1 a j (by unfold Qrk Qna; omega)) (fun j => q.2 511 j (by unfold Qrk Qna; omega))
      refine ⟨(zin_iff (by omega)).mpr (by omega), fun v3 ev3 => ?_⟩
      rw [q.1 521 q' (by unfold Qrk Qna; omega), (tv q' y hy).1] at ev3
      subst ev3
      have hyin : vp_in (zi y.1) 3700 := (zin_iff (by omega)).mpr (by omega)
      rw [zi_tn (show y.1 < 2147483648 by omega)]
      refine ⟨hyin, fun x5 ex5 => ?_⟩
      rw [show J.1 509 y.1 = Int32.ofInt (ndR (N y.1)) from (repJ.2 _ hym).1] at ex5
      intro P222 h222
      have nx : ∀ L, eqQ Qrk I L → NvM L (nmL N R) en → WoM L N (flR N R) en q' (p + sz N x.1) → P222 L := fun L qL nL wL => h222 L (fun v ev => by
        have e5 : v = zi q' - 1 := by
          rw [ev, Int32.sub_eq_add_neg]
        rw [e5]
        exact ih q' L (by omega) (by omega) qL nL wL)
      -- a value put
      have put : ∀ (A : zI) (v : Int32), eqQ Qrk I A → NvM A (nmL N R) en → (∀ c, A.1 532 c = J.1 532 c) → v = evN N en y.1 → vp_in (zi y.1) 3700 ∧ ∀ I_9, I_9 = zu A 532 y.1 v → P222 I_9 := fun A v qA nA eA hv => ⟨hyin, fun I9 e9 => nx I9 (by rw [e9]; exact qA.zu (Or.inr rfl)) (nA.kp (by rw [e9, zu_oo (by decide)]) (fun j => by rw [e9, zu_2]) (fun j => by rw [e9, zu_oo (by decide)])) (fun r z u1 u2 hz h4 => by
        rw [e9, zu_at]
        by_cases u : z.1 = y.1
        · rw [if_pos ⟨rfl, u⟩, hv, u]
        · rw [if_neg (fun w => u w.2), eA]
          refine wJ r z ?_ u2 hz h4
          refine Nat.lt_of_le_of_ne u1 (fun w => u ?_)
          rw [← w, hy] at hz
          cases hz
          rfl)⟩
      -- a CHILD, and what it is worth
      have child : ∀ (r k yy : Nat) (K2 : Int32 → Prop), ndR (N y.1) = (r : Int) → (rhS r)[k]? = some yy → (chN (N y.1) k < m → chN (N y.1) k ∈ ndC (N y.1) → ndM (N (chN (N y.1) k)) = yy → K2 (zi (chN (N y.1) k))) → w_M_childOf (zi y.1) (zi k) J K2 := fun r k yy K2 hr hk h => by
        obtain ⟨c1, c2, c3⟩ := chN_is hN hym hr hk
        exact s_MchildOf repJ hm hym (ch _ hym) c1 (h (by omega) (List.mem_of_getElem? c1) c2)
      have zin : ∀ z, z < m → vp_in (zi z) 3700 := fun z hz => (zin_iff (by omega)).mpr (by omega)
      have val : ∀ (r k yy : Nat), ndR (N y.1) = (r : Int) → (rhS r)[k]? = some yy → (yy = 2 ∨ yy = 3 ∨ yy = 4) → J.1 532 ((zi (chN (N y.1) k)).toNatClampNeg) = evN N en (chN (N y.1) k) := fun r k yy hr hk h => by
        obtain ⟨c1, c2, c3⟩ := chN_is hN hym hr hk
        obtain ⟨g, g1, g2, g3⟩ := kidP hN hR hy c1
        have hcm : chN (N y.1) k < m := by omega
        have := sz_pos hN hcm
        rw [zi_tn (show chN (N y.1) k < 2147483648 by omega), ← g2]
        exact wJ _ g (by omega) (by omega) g1 (by rw [g2]; exact ru4 hN hcm (by rw [c2]; exact h))
      intro P132 h132
      have ev := evN_eq (en := en) hN hym
      rcases hN y.1 hym with ⟨e1, -⟩ | ⟨r, s, hr11, -, e3, -⟩
      · rw [e1] at ex5
        subst ex5
        rw [if_neg (by decide), if_neg (by decide), if_neg (by decide), if_neg (by decide), if_neg (by decide), if_neg (by decide), if_neg (by decide)]
        refine nx J q nJ (fun r z u1 u2 hz h4 => wJ r z ?_ u2 hz h4)
        refine Nat.lt_of_le_of_ne u1 (fun w => ?_)
        rw [← w, hy] at hz
        cases hz
        omega
      · rw [e3, zi_int r] at ex5
        subst ex5
        have nr : ∀ b : Nat, b < 100 → r ≠ b → ¬ zi r = zi b := fun b hb hne w => hne ((zi_eq (by omega) (by omega)).mp w)
        have ni : ∀ b : Nat, r ≠ b → ¬ ndR (N y.1) = (b : Int) := fun b hne => by omega
        by_cases r4 : r = 4
        · subst r4
          rw [if_pos (show zi 4 = 4 from rfl)]
          rw [if_pos (show ndR (N y.1) = 4 from e3)] at ev
          refine child 4 0 2 _ e3 rfl (fun z1 _ _ => ⟨zin _ z1, child 4 2 3 _ e3 rfl (fun z2 _ _ => ⟨zin _ z2, put J _ q nJ (fun _ => rfl) ?_⟩)⟩)
          rw [val 4 0 2 e3 rfl (Or.inl rfl), val 4 2 3 e3 rfl (Or.inr (Or.inl rfl)), ev]
        rw [if_neg (show ¬ zi r = 4 from nr 4 (by decide) r4)]
        rw [if_neg (show ¬ ndR (N y.1) = 4 from ni 4 r4)] at ev
        by_cases r5 : r = 5
        · subst r5
          rw [if_pos (show zi 5 = 5 from rfl)]
          rw [if_pos (show ndR (N y.1) = 5 from e3)] at ev
          refine h132 (child 5 0 3 _ e3 rfl (fun z1 _ _ => ⟨zin _ z1, put J _ q nJ (fun _ => rfl) ?_⟩))
          rw [val 5 0 3 e3 rfl (Or.inr (Or.inl rfl)), ev]
        rw [if_neg (show ¬ zi r = 5 from nr 5 (by decide) r5)]
        rw [if_neg (show ¬ ndR (N y.1) = 5 from ni 5 r5)] at ev
        by_cases r6 : r = 6
        · subst r6
          rw [if_pos (show zi 6 = 6 from rfl)]
          rw [if_pos (show ndR (N y.1) = 6 from e3)] at ev
          refine child 6 0 3 _ e3 rfl (fun z1 _ _ => ⟨zin _ z1, child 6 2 4 _ e3 rfl (fun z2 _ _ => ⟨zin _ z2, put J _ q nJ (fun _ => rfl) ?_⟩)⟩)
          rw [val 6 0 3 e3 rfl (Or.inr (Or.inl rfl)), val 6 2 4 e3 rfl (Or.inr (Or.inr rfl)), ev]
        rw [if_neg (show ¬ zi r = 6 from nr 6 (by decide) r6)]
        rw [if_neg (show ¬ ndR (N y.1) = 6 from ni 6 r6)] at ev
        by_cases r7 : r = 7
        · subst r7
          rw [if_pos (show zi 7 = 7 from rfl)]
          rw [if_pos (show ndR (N y.1) = 7 from e3)] at ev
          refine h132 (child 7 0 4 _ e3 rfl (fun z1 _ _ => ⟨zin _ z1, put J _ q nJ (fun _ => rfl) ?_⟩))
          rw [val 7 0 4 e3 rfl (Or.inr (Or.inr rfl)), ev]
        rw [if_neg (show ¬ zi r = 7 from nr 7 (by decide) r7)]
        rw [if_neg (show ¬ ndR (N y.1) = 7 from ni 7 r7)] at ev
        by_cases r8 : r = 8
        · subst r8
          rw [if_pos (show zi 8 = 8 from rfl)]
          rw [if_pos (show ndR (N y.1) = 8 from e3)] at ev
          refine child 8 0 5 _ e3 rfl (fun z1 zc zM => ⟨zin _ z1, ?_⟩)
          obtain ⟨w1, w2⟩ := nm_child hN t hyp zc zM
          rw [zi_tn (show chN (N y.1) 0 < 2147483648 by omega), show J.2 511 (chN (N y.1) 0) = nmV N (chN (N y.1) 0) from ((repJ.2 _ z1).2.2.2.2.2.2 (by omega)).2]
          refine u_nameOf hS w1 nJ (fun r A hr qA nA hA _ => ⟨(zin_iff (by omega)).mpr (by omega), ?_⟩)
          rw [zi_tn (show r < 2147483648 by omega)]
          exact put A _ (q.tr (qA.mono (fun a j h => Or.inl h))) nA (fun c => qA.1 532 c (by unfold Qna; omega)) (by rw [hA, ev])
        rw [if_neg (show ¬ zi r = 8 from nr 8 (by decide) r8)]
        rw [if_neg (show ¬ ndR (N y.1) = 8 from ni 8 r8)] at ev
        by_cases r9 : r = 9
        · subst r9
          rw [if_pos (show zi 9 = 9 from rfl)]
          rw [if_pos (show ndR (N y.1) = 9 from e3)] at ev
          refine child 9 0 6 _ e3 rfl (fun z1 zc zM => ⟨zin _ z1, put J _ q nJ (fun _ => rfl) ?_⟩)
          have zr := nd_tk5 hN z1 (by omega)
          obtain ⟨c1, -⟩ := chN_is (k := 0) (y := 6) hN hym e3 rfl
          obtain ⟨tt, -, t2⟩ := fst_tok hN hR hy c1 (by omega)
          rw [zi_tn (show chN (N y.1) 0 < 2147483648 by omega), show J.2 511 (chN (N y.1) 0) = nmV N (chN (N y.1) 0) from ((repJ.2 _ z1).2.2.2.2.2.2 zr.1).2, ev]
          refine num_m (htz _ (List.mem_of_getElem? t2)) ?_
          unfold ndM at zM
          rw [if_pos zr.1] at zM
          omega
        rw [if_neg (show ¬ zi r = 9 from nr 9 (by decide) r9)]
        rw [if_neg (show ¬ ndR (N y.1) = 9 from ni 9 r9)] at ev
        by_cases r10 : r = 10
        · subst r10
          rw [if_pos (show zi 10 = 10 from rfl)]
          rw [if_pos (show ndR (N y.1) = 10 from e3)] at ev
          refine child 10 1 2 _ e3 rfl (fun z1 _ _ => ⟨zin _ z1, put J _ q nJ (fun _ => rfl) ?_⟩)
          rw [val 10 1 2 e3 rfl (Or.inl rfl), ev]
        rw [if_neg (show ¬ zi r = 10 from nr 10 (by decide) r10)]
        refine nx J q nJ (fun r' z u1 u2 hz h4 => wJ r' z ?_ u2 hz h4)
        refine Nat.lt_of_le_of_ne u1 (fun w => ?_)
        rw [← w, hy] at hz
        cases hz
        omega
  exact main (sz N x.1) (p + sz N x.1) I rfl (Nat.le_refl _) eqQ.rf nv (fun q y u1 u2 => by omega)
/-- all RUN: what NAMES are -/
def enL (N : Nat → Nd) : List Nat → (Int64 → Int32) → Int64 → Int32
  | [], en => en
  | s :: l, en => enL N l (up6 en (nmC N s) (evN N en (chN (N s) 2)))
theorem enL_app {N : Nat → Nd} : ∀ {l k : List Nat} {en : Int64 → Int32}, enL N (l ++ k) en = enL N k (enL N l en)
  | [], _, _ => rfl
  | s :: l, k, en => enL_app (l := l)
def lsL (N : Nat → Nd) : List Nat → (Int64 → Int32) → Int64 → Int32
  | [], L => L
  | s :: l, L => lsL N l (up6 L (nmC N s) (zi s))
theorem lsL_app {N : Nat → Nd} : ∀ {l k : List Nat} {L : Int64 → Int32}, lsL N (l ++ k) L = lsL N k (lsL N l L)
  | [], _, _ => rfl
  | s :: l, k, L => lsL_app (l := l)
def tmL (N : Nat → Nd) (v : Int64) : List Nat → Nat
  | [] => 0
  | s :: l => (if nmC N s = v then 1 else 0) + tmL N v l
theorem tmL_app {N : Nat → Nd} {v : Int64} : ∀ {l k : List Nat}, tmL N v (l ++ k) = tmL N v l + tmL N v k
  | [], _ => (Nat.zero_add _).symm
  | s :: l, k => by
    show (if nmC N s = v then 1 else 0) + tmL N v (l ++ k) = (if nmC N s = v then 1 else 0) + tmL N v l + tmL N v k
    rw [tmL_app]
    omega
theorem st2_sn {N : Nat → Nd} {F : List Fl} {p : Nat} {x : Fl} (hx : F[p]? = some x) : st2 N (F.take (p + 1)) = st2 N (F.take p) ++ (if ndR (N x.1) = 2 then [x.1] else []) := by
  rw [List.take_add_one, hx, st2_app]
  rfl
theorem ruAt_l {N : Nat → Nd} {F : List Fl} : ∀ p, p ≤ F.length → ruE (ruAt N F p) = enL N (st2 N (F.take p)) (fun _ => 0) ∧ ruL (ruAt N F p) = lsL N (st2 N (F.take p)) (fun _ => -2) ∧ ∀ v, ruT (ruAt N F p) v = tmL N v (st2 N (F.take p))
  | 0, _ => ⟨rfl, rfl, fun _ => rfl⟩
  | p + 1, hp => by
    obtain ⟨i1, i2, i3⟩ := ruAt_l (N := N) (F := F) p (by omega)
    have hx : F[p]? = some (F[p]'(by omega)) := List.getElem?_eq_getElem (by omega)
    generalize F[p]'(by omega) = x at hx
    rw [ruAt_s hx, st2_sn hx]
    by_cases u : ndR (N x.1) = 2
    · rw [if_pos u, if_pos u, enL_app, lsL_app, ← i1, ← i2]
      refine ⟨rfl, rfl, fun v => ?_⟩
      rw [tmL_app, ← i3 v]
      show up6 (ruT (ruAt N F p)) (nmC N x.1) (ruT (ruAt N F p) (nmC N x.1) + 1) v = _ + ((if nmC N x.1 = v then 1 else 0) + 0)
      by_cases e : v = nmC N x.1
      · rw [e, up6_s, if_pos rfl]
      · rw [up6_o e, if_neg (fun w => e w.symm)]
        rfl
    · rw [if_neg u, if_neg u, List.append_nil]
      exact ⟨i1, i2, i3⟩
theorem ruN_l {N : Nat → Nd} {R : Nat} : ruE (ruN N R) = enL N (setsOf N R) (fun _ => 0) ∧ ruL (ruN N R) = lsL N (setsOf N R) (fun _ => -2) ∧ ∀ v, ruT (ruN N R) v = tmL N v (setsOf N R) := by
  have h := ruAt_l (N := N) (F := flR N R) (flR N R).length (Nat.le_refl _)
  rw [List.take_length] at h
  exact h
theorem u_runsAll {m R n : Nat} {og : Nat → Nat} {N : Nat → Nd} {I : zI} {K : Int32 → zI → Prop} (rep : RepNM I m N) (hN : NdOk m N) (hm : m ≤ 3700) (t : TreeI m N R n og) (hu : ∀ (p q : Nat) (x y : Fl), (flR N R)[p]? = some x → (flR N R)[q]? = some y → x.1 = y.1 → p = q) (htz : ∀ z, z ∈ yl N R → tkZ (N z)) (vi : ViM I N R n) (hK : ∀ v J, eqQ Qrk I J → NvM J (nmL N R) (ruE (ruN N R)) → K v J) : w_M_runsAll 0 I K := by
  have hR := t.1
  have ch := hN.ch
  have hS := nmL_len hN t
  have tv := vi.tv
  intro I1 e1
  have q1 : eqQ Qrk I I1 := by
    rw [e1]
    exact eqQ.rf.zu (Or.inl (Or.inl ⟨rfl, rfl⟩))
  have n1 : NvM I1 (nmL N R) (fun _ => 0) := ⟨[], by rw [e1, zu_self]; rfl, fun i v hi => (by cases hi), List.nodup_nil, fun v hv => (by cases hv), fun _ _ => rfl⟩
  obtain ⟨-, g53, -, g529⟩ := vi.2.2.2
  have hsl := sets_len hN t
  rw [ruN_l.1] at hK
  intro P9 h9
  have main : ∀ (d k : Nat) (v2 : Int32) (en : Int64 → Int32) (J : zI), k + d = (setsOf N R).length → eqQ Qrk I J → NvM J (nmL N R) en → enL N ((setsOf N R).drop k) en = enL N (setsOf N R) (fun _ => 0) → P9 v2 (zi k) J := by
    intro d
    induction d with
    | zero =>
      intro k v2 en J hk q nJ he
      refine h9 _ _ _ ?_
      rw [q.1 491 53 (by unfold Qrk Qna; omega), g53, if_pos ((zi_le (by omega) (by omega)).mpr (by omega))]
      rw [List.drop_of_length_le (by omega)] at he
      rw [← he] at hK
      exact hK _ J q nJ
    | succ d ih =>
      intro k v2 en J hk q nJ he
      refine h9 _ _ _ ?_
      rw [q.1 491 53 (by unfold Qrk Qna; omega), g53, if_neg (fun u => by have := (zi_le (by omega) (by omega)).mp u; omega), zi_tn (show k < 2147483648 by omega)]
      refine ⟨(zin_iff (by omega)).mpr (by omega), fun v4 ev4 => ?_⟩
      have hs : (setsOf N R)[k]? = some ((setsOf N R)[k]'(by omega)) := List.getElem?_eq_getElem (by omega)
      have hdr : (setsOf N R).drop k = (setsOf N R)[k]'(by omega) :: (setsOf N R).drop (k + 1) := List.drop_eq_getElem_cons (by omega)
      generalize (setsOf N R)[k]'(by omega) = s at hs hdr
      rw [hdr] at he
      have he' : enL N ((setsOf N R).drop (k + 1)) (up6 en (nmC N s) (evN N en (chN (N s) 2))) = enL N (setsOf N R) (fun _ => 0) := he
      rw [q.1 529 k (by unfold Qrk Qna; omega), g529 k s hs] at ev4
      subst ev4
      obtain ⟨x, x1, x2, x3⟩ := st2_mem (List.mem_of_getElem? hs)
      obtain ⟨p, hp⟩ := List.mem_iff_getElem?.mp x1
      have hsp := fl_po hN hR hp
      rw [x2] at hsp
      have hsm : s < m := by
        have := po_le hN R hR _ hsp
        omega
      have rp : ∀ A, eqQ Qrk I A → RepNM A m N := fun A qA => rep.kp2 (qA.1 _ _ (by unfold Qrk Qna; omega)) (fun a j u1 u2 => qA.1 a j (by unfold Qrk Qna; omega)) (fun j => qA.2 511 j (by unfold Qrk Qna; omega))
      have tvA : ∀ A, eqQ Qrk I A → TvM A N R := fun A qA => tv.kp (fun a j u1 u2 => qA.1 a j (by unfold Qrk Qna; omega))
      have x3' : ndR (N s) = ((2 : Nat) : Int) := x3
      obtain ⟨c1, c2, c3⟩ := chN_is (k := 2) (y := 2) hN hsm x3' rfl
      obtain ⟨d1, d2, d3⟩ := chN_is (k := 0) (y := 5) hN hsm x3' rfl
      have hem : chN (N s) 2 < m := by omega
      have hzm : chN (N s) 0 < m := by omega
      obtain ⟨w1, w2⟩ := nm_child hN t hsp (List.mem_of_getElem? d1) d2
      obtain ⟨i', y, -, y2, y3, -⟩ := fl_ch hN hR hp (by rw [x2]; exact c1)
      have y2' : (flR N R)[i']? = some y := y2
      have hpos := sz_pos hN hem
      intro P39 h39
      rw [if_pos (show (0 : Int32) = 0 from rfl)]
      refine h39 0 J ?_
      intro P66 h66
      have st : P66 0 := by
        refine h66 0 ?_
        intro v2' ev2'
        refine s_MchildOf (k := 2) (rp J q) hm hsm (ch _ hsm) c1 ⟨(zin_iff (by omega)).mpr (by omega), ?_⟩
        rw [zi_tn (show chN (N s) 2 < 2147483648 by omega), ← y3, ((tvA J q) i' y y2').2.1, y3]
        refine u_reckons (rp J q) hN hm t hu htz y2' (tvA J q) nJ (fun B qB nB wB => ?_)
        have qB' : eqQ Qrk I B := q.tr qB
        refine s_MchildOf (k := 0) (rp B qB') hm hsm (ch _ hsm) d1 ⟨(zin_iff (by omega)).mpr (by omega), ?_⟩
        rw [zi_tn (show chN (N s) 0 < 2147483648 by omega), show B.2 511 (chN (N s) 0) = nmV N (chN (N s) 0) from (((rp B qB').2 _ hzm).2.2.2.2.2.2 (by omega)).2]
        refine u_nameOf hS w1 nB (fun r C hr qC nC hC hset => ⟨(zin_iff (by omega)).mpr (by omega), (zin_iff (by omega)).mpr (by omega), fun I15 e15 v3' ev3' => ?_⟩)
        rw [ev3', zi_succ]
        have qC' : eqQ Qrk I C := qB'.tr (qC.mono (fun a j h => Or.inl h))
        rw [zi_tn (show r < 2147483648 by omega), qC.1 532 _ (by unfold Qna; omega), ← y3, wB i' y (Nat.le_refl _) (by rw [y3]; omega) y2' (by rw [y3]; exact ru4 hN hem (Or.inl c2)), y3] at e15
        exact ih (k + 1) _ _ I15 (by omega) (by rw [e15]; exact qC'.zu (Or.inl (Or.inr (Or.inr rfl)))) (hset _ I15 e15) he'
      intro P64 h64
      rw [if_pos (show (0 : Int32) = 0 from rfl)]
      exact h64 st
  exact main (setsOf N R).length 0 0 (fun _ => 0) I1 (by omega) q1 n1 (by rw [List.drop_zero])
/-! ===== a change: the model ===== -/
theorem MoM.kp {I J : zI} {s : Nat} {x : Mo} (h : MoM I s x) (hT : txOk (moT x)) (hG : txOk (moG x)) (e : ∀ j, 720 * s ≤ j → j < 720 * s + 720 → J.1 542 j = I.1 542 j) : MoM J s x := by
  obtain ⟨h1, h2, h3, h4, h5, h6, h7⟩ := h
  have a1 := hT.1
  have a2 := hG.1
  have a3 := hG.2.2
  exact ⟨fun j hj => by rw [e _ (by omega) (by omega)]; exact h1 j hj, fun j hj => by rw [e _ (by omega) (by omega)]; exact h2 j hj, fun j hj => by rw [e _ (by omega) (by omega)]; exact h3 j hj, by rw [e _ (by omega) (by omega)]; exact h4, by rw [e _ (by omega) (by omega)]; exact h5, by rw [e _ (by omega) (by omega)]; exact h6, by rw [e _ (by omega) (by omega)]; exact h7⟩
theorem MoM.sh {I J : zI} {s : Nat} {x : Mo} (h : MoM I (s + 1) x) (hT : txOk (moT x)) (hG : txOk (moG x)) (e : ∀ j, 720 * s ≤ j → j < 720 * s + 720 → J.1 542 j = I.1 542 (j + 720)) : MoM J s x := by
  obtain ⟨h1, h2, h3, h4, h5, h6, h7⟩ := h
  have a1 := hT.1
  have a2 := hG.1
  have a3 := hG.2.2
  have w : ∀ k : Nat, 720 * s + k + 720 = 720 * (s + 1) + k := fun k => by omega
  refine ⟨fun j hj => ?_, fun j hj => ?_, fun j hj => ?_, ?_, ?_, ?_, ?_⟩
  · rw [e _ (by omega) (by omega), w]; exact h1 j hj
  · rw [e _ (by omega) (by omega), show 720 * s + 300 + j + 720 = 720 * (s + 1) + 300 + j by omega]; exact h2 j hj
  · rw [e _ (by omega) (by omega), show 720 * s + 600 + j + 720 = 720 * (s + 1) + 600 + j by omega]; exact h3 j hj
  · rw [e _ (by omega) (by omega), w]; exact h4
  · rw [e _ (by omega) (by omega), w]; exact h5
  · rw [e _ (by omega) (by omega), w]; exact h6
  · rw [e _ (by omega) (by omega), w]; exact h7
theorem NowM.kp {I J : zI} {x : Mo} (h : NowM I x) (e : ∀ a j, (a = 491 ∧ (j = 5 ∨ j = 15 ∨ j = 7 ∨ j = 19 ∨ j = 8 ∨ j = 37)) ∨ a = 494 ∨ a = 495 ∨ (501 ≤ a ∧ a ≤ 506) ∨ a = 508 → J.1 a j = I.1 a j) (e2 : ∀ j, J.2 507 j = I.2 507 j) : NowM J x := by
  obtain ⟨n1, n2, n3, n4, n5, n6, n7, n8, n9, n10⟩ := h
  obtain ⟨m1, m2, m3, m4⟩ := NowT.kp (J := J) (d := moT x) ⟨n1, n2, n3, n4⟩ (e _ _ (by omega)) (e _ _ (by omega)) (fun a j u => e a j (by omega))
  obtain ⟨m5, m6, m7⟩ := GoodT.kp (J := J) (d := moG x) ⟨n5, n6, n7⟩ (e _ _ (by omega)) (e _ _ (by omega)) (fun a j u => e a j (by omega)) e2
  exact ⟨m1, m2, m3, m4, m5, m6, m7, fun j hj => by rw [e _ _ (by omega)]; exact n8 j hj, by rw [e _ _ (by omega)]; exact n9, by rw [e _ _ (by omega)]; exact n10⟩
theorem s_remembers {A : List Mo} {c0 c : Mo} {I : zI} {K : zI → Prop} (hA : A.length ≤ 20) (hAo : ∀ y ∈ c0 :: A, txOk (moT y) ∧ txOk (moG y)) (hc : txOk (moT c) ∧ txOk (moG c)) (h75 : I.1 491 75 = zi A.length) (h0 : MoM I A.length c0) (hk : ∀ (k : Nat) (y : Mo), A[k]? = some y → MoM I (A.length - 1 - k) y) (hN : NowM I c)
    (hK : ∀ J, eqQ (fun a j => (a = 491 ∧ (j = 75 ∨ j = 76)) ∨ a = 542) I J → J.1 491 75 = zi ((c0 :: A).take 20).length → J.1 491 76 = zi ((c0 :: A).take 20).length → MoM J ((c0 :: A).take 20).length c → (∀ (k : Nat) (y : Mo), ((c0 :: A).take 20)[k]? = some y → MoM J (((c0 :: A).take 20).length - 1 - k) y) → K J) : w_M_remembers I K := by
  intro P50 h50
  -- behind the shift: all lie at their places, s is the next one
  have rest : ∀ (s : Nat) (J : zI), s + 1 = ((c0 :: A).take 20).length → J.1 491 75 = zi s → eqQ (fun a j => (a = 491 ∧ (j = 75 ∨ j = 76)) ∨ a = 542) I J → (∀ (k : Nat) (y : Mo), ((c0 :: A).take 20)[k]? = some y → MoM J (s - k) y) → P50 J := by
    intro s J hs h75J qJ hJ
    have hs20 : s + 1 ≤ 20 := by
      rw [hs, List.length_take]
      omega
    refine h50 J ?_
    intro I2 e2 I3 e3
    rw [h75J, zi_succ] at e2
    rw [show I2.1 491 75 = zi (s + 1) by rw [e2, zu_self]] at e3
    have g3 : I3.1 491 75 = zi (s + 1) := by rw [e3, zu_i (by decide), e2, zu_self]
    have q3 : eqQ (fun a j => (a = 491 ∧ (j = 75 ∨ j = 76)) ∨ a = 542) I I3 := by
      rw [e3, e2]
      exact (qJ.zu (Or.inl ⟨rfl, Or.inl rfl⟩)).zu (Or.inl ⟨rfl, Or.inr rfl⟩)
    rw [g3]
    refine s_keeps (s := s + 1) hs20 hc.1 hc.2 (hN.kp (fun a j u => q3.1 a j (by omega)) (fun j => q3.2 507 j (by omega))) (fun L qL mL => ?_)
    refine hK L (q3.tr (qL.mono (fun a j h => Or.inr h.1))) (by rw [qL.1 _ _ (by omega), g3, hs]) (by rw [qL.1 _ _ (by omega), e3, zu_self, hs]) (by rw [← hs]; exact mL) (fun k y hy => ?_)
    have hkl := (List.getElem?_eq_some_iff.mp hy).1
    have hym := hAo y (List.mem_of_mem_take (List.mem_of_getElem? hy))
    rw [← hs, Nat.add_sub_cancel]
    refine (hJ k y hy).kp hym.1 hym.2 (fun j u1 u2 => ?_)
    rw [qL.1 542 j (by omega), e3, zu_oo (by decide), e2, zu_oo (by decide)]
  rw [h75]
  by_cases u : A.length = 20
  · rw [if_pos (show zi A.length = 20 by rw [u]; rfl)]
    intro P11 h11
    have shift : ∀ (d v : Nat) (J : zI), v + d = 14400 → eqQ (fun a j => (a = 491 ∧ (j = 75 ∨ j = 76)) ∨ a = 542) I J → (∀ j, j < v → J.1 542 j = I.1 542 (j + 720)) → (∀ j, v ≤ j → J.1 542 j = I.1 542 j) → J.1 491 75 = zi A.length → P11 (zi v) J := by
      intro d
      induction d with
      | zero =>
        intro v J hv q h1 h2 g75
        refine h11 _ _ ?_
        rw [if_pos (show (14400 : Int32) ≤ zi v from (zi_le (a := 14400) (by decide) (by omega)).mpr (by omega))]
        intro I7 e7
        rw [g75, u, show zi 20 - 1 = zi 19 from rfl] at e7
        have q7 : eqQ (fun a j => (a = 491 ∧ (j = 75 ∨ j = 76)) ∨ a = 542) I I7 := by
          rw [e7]
          exact q.zu (Or.inl ⟨rfl, Or.inl rfl⟩)
        have o7 : ∀ j, I7.1 542 j = J.1 542 j := fun j => by rw [e7, zu_oo (by decide)]
        have hlen : ((c0 :: A).take 20).length = 20 := by
          rw [List.length_take, List.length_cons]
          omega
        refine rest 19 I7 (by rw [hlen]) (by rw [e7, zu_self]) q7 (fun k y hy => ?_)
        have hk20 : k < 20 := by
          have := (List.getElem?_eq_some_iff.mp hy).1
          omega
        have hym := hAo y (List.mem_of_mem_take (List.mem_of_getElem? hy))
        rw [List.getElem?_take, if_pos hk20] at hy
        have sh : ∀ s, s ≤ 19 → MoM I (s + 1) y → MoM I7 s y := fun s hs hm => hm.sh hym.1 hym.2 (fun j u1 u2 => by rw [o7, h1 j (by omega)])
        cases k with
        | zero =>
          cases hy
          rw [u] at h0
          exact sh 19 (by decide) h0
        | succ k =>
          rw [List.getElem?_cons_succ] at hy
          have := hk k y hy
          rw [u, show 20 - 1 - k = 19 - (k + 1) + 1 by omega] at this
          exact sh _ (by omega) this
      | succ d ih =>
        intro v J hv q h1 h2 g75
        refine h11 _ _ ?_
        rw [if_neg (show ¬ (14400 : Int32) ≤ zi v from fun u => by have := (zi_le (a := 14400) (by decide) (by omega)).mp u; omega), show (720 : Int32) = zi 720 from rfl, zi_add, zi_tn (show v < 2147483648 by omega), zi_tn (show v + 720 < 2147483648 by omega)]
        refine ⟨(zin_iff (by omega)).mpr (by omega), (zin_iff (by omega)).mpr (by omega), fun I8 e8 w ew => ?_⟩
        rw [h2 (v + 720) (by omega)] at e8
        rw [ew, zi_succ]
        refine ih (v + 1) I8 (by omega) (by rw [e8]; exact q.zu (Or.inr rfl)) (fun j hj => ?_) (fun j hj => ?_) ?_
        · rw [e8, zu_at]
          by_cases w : j = v
          · rw [if_pos ⟨rfl, w⟩, w]
          · rw [if_neg (fun x => w x.2)]
            exact h1 j (by omega)
        · rw [e8, zu_i (by omega)]
          exact h2 j (by omega)
        · rw [e8, zu_oo (by decide)]
          exact g75
    exact shift 14400 0 I (by omega) eqQ.rf (fun j hj => by omega) (fun j _ => rfl) h75
  · rw [if_neg (show ¬ zi A.length = 20 from fun v => u ((zi_eq (b := 20) (by omega) (by decide)).mp v))]
    have htk : (c0 :: A).take 20 = c0 :: A := List.take_of_length_le (by rw [List.length_cons]; omega)
    refine rest A.length I (by rw [htk]; rfl) h75 eqQ.rf (fun k y hy => ?_)
    rw [htk] at hy
    cases k with
    | zero =>
      cases hy
      exact h0
    | succ k =>
      rw [List.getElem?_cons_succ] at hy
      have := hk k y hy
      rw [show A.length - 1 - k = A.length - (k + 1) by omega] at this
      exact this
/-! ===== what statements read when RUN last: the model ===== -/
theorem RcM.kp {I J : zI} {rc : RcZ} (h : RcM I rc) (e : ∀ a j, a = 517 ∨ a = 518 → J.1 a j = I.1 a j) : RcM J rc := fun s l hs hr => by
  obtain ⟨a1, a2, a3⟩ := h s l hs hr
  exact ⟨a1, (e 517 s (Or.inl rfl)).trans a2, fun k v hk => (e 518 _ (Or.inr rfl)).trans (a3 k v hk)⟩
theorem RcM.kpm {I J : zI} {rc : RcZ} {m : Nat} (h : RcM I rc) (hn : ∀ c, m ≤ c → rc c = none) (e1 : ∀ s, s < m → J.1 517 s = I.1 517 s) (e2 : ∀ j, J.1 518 j = I.1 518 j) : RcM J rc := fun s l hs hr => by
  obtain ⟨a1, a2, a3⟩ := h s l hs hr
  refine ⟨a1, (e1 s ?_).trans a2, fun k v hk => (e2 _).trans (a3 k v hk)⟩
  refine Nat.lt_of_not_le (fun u => ?_)
  rw [hn s u] at hr
  cases hr
theorem u_reads {m R n s p : Nat} {og : Nat → Nat} {N : Nat → Nd} {en : Int64 → Int32} {rc : RcZ} {W : List Int32} {x : Fl} {I : zI} {K : Int32 → zI → Prop} (rep : RepNM I m N) (hN : NdOk m N) (hm : m ≤ 3400) (t : TreeI m N R n og) (hx : (flR N R)[p]? = some x) (hs : x.1 = s) (h2 : ndR (N s) = 2) (tv : TvM I N R) (nv : NvM I (nmL N R) en) (hW : W = rdV N en (chN (N s) 2)) (rm : RcM I rc) (hwl : ∀ l, rc s = some l → l.length = W.length)
    (hK : ∀ v J, eqQ Qra I J → NvM J (nmL N R) en → RcM J (rcU rc s W) → (rc s ≠ none → v = if rc s = some W then 0 else 1) → K v J) : w_M_reads (zi s) I K := by
  have hR := t.1
  have hlen : (flR N R).length ≤ 248 := by
    have h1 := t.few hN
    have h2 : (flR N R).length = sz N R := fl_len hN R hR _ _ _ _
    omega
  have ch := hN.ch
  have hS := nmL_len hN t
  have hsp := fl_po hN hR hx
  rw [hs] at hsp
  have hsm : s < m := by
    have := po_le hN R hR _ hsp
    omega
  obtain ⟨c1, -, c3⟩ := chN_is (k := 2) (y := 2) hN hsm (show ndR (N s) = ((2 : Nat) : Int) from h2) rfl
  obtain ⟨i', y, -, y2, y3, -⟩ := fl_ch hN hR hx (by rw [hs]; exact c1)
  have y2' : (flR N R)[i']? = some y := y2
  obtain ⟨t1, t2, t3⟩ := tv i' y y2'
  obtain ⟨z1, z2, z3⟩ := sz_inR hN hR y2'
  have hWs : W = sgV N en (((flR N R).drop i').take (sz N y.1)) := by
    rw [hW, sgV_map, seg_po hN hR y2', y3]
    rfl
  refine s_MchildOf (k := 2) rep (by omega) hsm (ch _ hsm) c1 ?_
  have hsin : vp_in (zi s) 3700 := (zin_iff (by omega)).mpr (by omega)
  refine ⟨(zin_iff (by omega)).mpr (by omega), fun v2 ev2 => ?_⟩
  rw [zi_tn (show chN (N s) 2 < 2147483648 by omega), ← y3, t2] at ev2
  subst ev2
  refine ⟨hsin, ?_⟩
  intro P29 h29
  have rest : ∀ t3' : Int32, (rc s ≠ none → t3' = b01 false) → P29 t3' := by
    intro t3' ht3
    refine h29 t3' ?_
    intro P34 h34
    have main : ∀ (d q : Nat) (D : List Int32) (mm : Bool) (v4 : Int32) (J : zI), i' ≤ q → q + d = i' + sz N y.1 → D.length + cn8 N ((flR N R).drop q) ≤ 49 → W = D ++ sgV N en (((flR N R).drop q).take d) → (mm = true ↔ ∃ j, j < D.length ∧ I.1 518 (50 * s + j) ≠ D.getD j 0) → (rc s ≠ none → v4 = b01 mm) → eqQ Qra I J → NvM J (nmL N R) en → (∀ j, J.1 517 j = I.1 517 j) → (∀ j, J.1 518 j = if 50 * s ≤ j ∧ j < 50 * s + D.length then D.getD (j - 50 * s) 0 else I.1 518 j) → P34 (zi D.length) v4 (zi q) J := by
      intro d
      induction d with
      | zero =>
        intro q D mm v4 J hq hqd hc hD hmm hv4 qJ nJ o7 o8
        refine h34 _ _ _ _ ⟨(zin_iff (by omega)).mpr (by omega), ?_⟩
        rw [zi_tn (show i' < 2147483648 by omega), qJ.1 522 i' (by unfold Qra Qrk Qna; omega), t3, z1, if_pos ((zi_le (by omega) (by omega)).mpr (by omega))]
        rw [List.take_zero] at hD
        have hWD : W = D := by
          rw [hD]
          exact List.append_nil D
        rw [← hWD] at hmm o8 hc ⊢
        refine ⟨hsin, fun I8 e8 => ?_⟩
        rw [zi_tn (show s < 2147483648 by omega)] at e8
        refine hK _ I8 (by rw [e8]; exact qJ.zu (Or.inr (Or.inl rfl))) (nJ.kp (by rw [e8, zu_oo (by decide)]) (fun j => by rw [e8, zu_2]) (fun j => by rw [e8, zu_oo (by decide)])) (fun t l ht hr => ?_) (fun hne => ?_)
        · by_cases u : t = s
          · rw [u, rcU_s] at hr
            cases hr
            refine ⟨by omega, by rw [u, e8, zu_self], fun k v hk => ?_⟩
            have hkl := (List.getElem?_eq_some_iff.mp hk).1
            rw [u, e8, zu_oo (by decide), o8, if_pos ⟨by omega, by omega⟩, show 50 * s + k - 50 * s = k by omega, List.getD_eq_getElem?_getD, hk]
            rfl
          · rw [rcU_o u] at hr
            obtain ⟨a1, a2, a3⟩ := rm t l ht hr
            refine ⟨a1, by rw [e8, zu_i u, o7]; exact a2, fun k v hk => ?_⟩
            have hkl := (List.getElem?_eq_some_iff.mp hk).1
            rw [e8, zu_oo (by decide), o8, if_neg (by omega)]
            exact a3 k v hk
        · rw [hv4 hne]
          cases hr : rc s with
          | none => exact absurd hr hne
          | some l =>
            have hll := hwl l hr
            have a3 := (rm s l (by omega) hr).2.2
            have hat : ∀ j, j < W.length → I.1 518 (50 * s + j) = l.getD j 0 := fun j hj => by
              have hlj : l[j]? = some (l[j]'(by omega)) := List.getElem?_eq_getElem (by omega)
              rw [a3 j _ hlj, List.getD_eq_getElem?_getD, hlj]
              rfl
            by_cases u : l = W
            · rw [if_pos (by rw [u])]
              cases mm with
              | false => rfl
              | true =>
                obtain ⟨j, j1, j2⟩ := hmm.mp rfl
                rw [hat j j1, u] at j2
                exact absurd rfl j2
            · rw [if_neg (fun w => u (Option.some.inj w))]
              cases mm with
              | true => rfl
              | false =>
                refine absurd (hmm.mpr ?_) (by decide)
                refine Classical.byContradiction (fun hno => u ?_)
                refine List.ext_getElem? (fun j => ?_)
                by_cases hj : j < W.length
                · have h1 : l[j]? = some (l.getD j 0) := by
                    rw [List.getD_eq_getElem?_getD, List.getElem?_eq_getElem (by omega)]
                    rfl
                  have h2 : W[j]? = some (W.getD j 0) := by
                    rw [List.getD_eq_getElem?_getD, List.getElem?_eq_getElem hj]
                    rfl
                  rw [h1, h2, ← hat j hj]
                  refine congrArg some (Classical.byContradiction (fun hne => hno ⟨j, hj, hne⟩))
                · rw [List.getElem?_eq_none (by omega), List.getElem?_eq_none (by omega)]
      | succ d ih =>
        intro q D mm v4 J hq hqd hc hD hmm hv4 qJ nJ o7 o8
        refine h34 _ _ _ _ ⟨(zin_iff (by omega)).mpr (by omega), ?_⟩
        rw [zi_tn (show i' < 2147483648 by omega), qJ.1 522 i' (by unfold Qra Qrk Qna; omega), t3, z1, if_neg (fun u => by have := (zi_le (by omega) (by omega)).mp u; omega)]
        have hw : (flR N R)[q]? = some ((flR N R)[q]'(by omega)) := List.getElem?_eq_getElem (by omega)
        have hdq : (flR N R).drop q = (flR N R)[q]'(by omega) :: (flR N R).drop (q + 1) := List.drop_eq_getElem_cons (by omega)
        generalize (flR N R)[q]'(by omega) = w at hw hdq
        have hwp := fl_po hN hR hw
        have hwm : w.1 < m := by
          have := po_le hN R hR _ hwp
          omega
        have hcn : cn8 N ((flR N R).drop q) = isR8 N w.1 + cn8 N ((flR N R).drop (q + 1)) := by
          rw [hdq]
          unfold cn8
          rw [List.map_cons, List.sum_cons]
        rw [hdq, List.take_succ_cons] at hD
        have hD' : W = D ++ (if ndR (N w.1) = 8 then en (nmC N w.1) :: sgV N en (((flR N R).drop (q + 1)).take d) else sgV N en (((flR N R).drop (q + 1)).take d)) := hD
        have repJ : RepNM J m N := rep.kp2 (qJ.1 _ _ (by unfold Qra Qrk Qna; omega)) (fun a j u1 u2 => qJ.1 a j (by unfold Qra Qrk Qna; omega)) (fun j => qJ.2 511 j (by unfold Qra Qrk Qna; omega))
        refine ⟨(zin_iff (by omega)).mpr (by omega), fun v6 ev6 => ?_⟩
        rw [zi_tn (show q < 2147483648 by omega), qJ.1 521 q (by unfold Qra Qrk Qna; omega), (tv q w hw).1] at ev6
        subst ev6
        refine ⟨(zin_iff (by omega)).mpr (by omega), ?_⟩
        rw [zi_tn (show w.1 < 2147483648 by omega), show J.1 509 w.1 = Int32.ofInt (ndR (N w.1)) from (repJ.2 _ hwm).1]
        intro P137 h137
        have nx : ∀ (D' : List Int32) (mm' : Bool) (v : Int32) (L : zI), D'.length + cn8 N ((flR N R).drop (q + 1)) ≤ 49 → W = D' ++ sgV N en (((flR N R).drop (q + 1)).take d) → (mm' = true ↔ ∃ j, j < D'.length ∧ I.1 518 (50 * s + j) ≠ D'.getD j 0) → (rc s ≠ none → v = b01 mm') → eqQ Qra I L → NvM L (nmL N R) en → (∀ j, L.1 517 j = I.1 517 j) → (∀ j, L.1 518 j = if 50 * s ≤ j ∧ j < 50 * s + D'.length then D'.getD (j - 50 * s) 0 else I.1 518 j) → P137 (zi D'.length) v L := fun D' mm' v L b1 b2 b3 b4 b5 b6 b7 b8 => h137 _ _ _ (fun v' ev => by
          rw [ev, zi_succ]
          exact ih (q + 1) D' mm' v L (by omega) (by omega) b1 b2 b3 b4 b5 b6 b7 b8)
        by_cases u8 : ndR (N w.1) = 8
        · have hi8 : isR8 N w.1 = 1 := if_pos u8
          rw [if_pos u8] at hD'
          rw [if_pos (show Int32.ofInt (ndR (N w.1)) = 8 by rw [u8]; rfl)]
          obtain ⟨d1, d2, d3⟩ := chN_is (k := 0) (y := 5) hN hwm (show ndR (N w.1) = ((8 : Nat) : Int) from u8) rfl
          refine s_MchildOf (k := 0) repJ (by omega) hwm (ch _ hwm) d1 ⟨(zin_iff (by omega)).mpr (by omega), ?_⟩
          obtain ⟨w1, w2⟩ := nm_child hN t hwp (List.mem_of_getElem? d1) d2
          rw [zi_tn (show chN (N w.1) 0 < 2147483648 by omega), show J.2 511 (chN (N w.1) 0) = nmV N (chN (N w.1) 0) from ((repJ.2 (chN (N w.1) 0) (by omega)).2.2.2.2.2.2 (by omega)).2]
          refine u_nameOf hS w1 nJ (fun r A hr qA nA hA _ => ⟨(zin_iff (by omega)).mpr (by omega), fun v7 ev7 => ⟨hsin, ?_⟩⟩)
          rw [zi_tn (show r < 2147483648 by omega)] at ev7
          have ev7 : v7 = en (nmC N w.1) := ev7.trans hA
          have qA' : eqQ Qra I A := qJ.tr (qA.mono (fun a j h => Or.inl (Or.inl h)))
          have hixt : 50 * zi s + zi D.length = zi (50 * s + D.length) := by
            rw [show (50 : Int32) = zi 50 from rfl, zi_mul, zi_add]
          have hix : vp_in (50 * zi s + zi D.length) 185000 := by
            rw [hixt]
            exact (zin_iff (by omega)).mpr (by omega)
          have e518 : A.1 518 (50 * s + D.length) = I.1 518 (50 * s + D.length) := by
            rw [qA.1 518 _ (by unfold Qna; omega), o8, if_neg (by omega)]
          have e517 : A.1 517 s = I.1 517 s := by
            rw [qA.1 517 _ (by unfold Qna; omega), o7]
          intro P121 h121
          have put : ∀ v : Int32, (rc s ≠ none → v = b01 (mm || decide (I.1 518 (50 * s + D.length) ≠ en (nmC N w.1)))) → P121 v := fun v hv => h121 v ⟨hix, fun I19 e19 v3' ev3' => by
            rw [hixt, zi_tn (show 50 * s + D.length < 2147483648 by omega), ev7] at e19
            rw [ev3', zi_succ, show D.length + 1 = (D ++ [en (nmC N w.1)]).length by rw [List.length_append]; rfl]
            refine nx (D ++ [en (nmC N w.1)]) _ v I19 (by rw [List.length_append]; show D.length + 1 + _ ≤ 49; omega) (by rw [hD', List.append_assoc]; rfl) ?_ hv (by rw [e19]; exact qA'.zu (Or.inr (Or.inr rfl))) (nA.kp (by rw [e19, zu_oo (by decide)]) (fun j => by rw [e19, zu_2]) (fun j => by rw [e19, zu_oo (by decide)])) (fun j => by rw [e19, zu_oo (by decide), qA.1 517 _ (by unfold Qna; omega), o7]) (fun j => ?_)
            · rw [Bool.or_eq_true, hmm, decide_eq_true_iff]
              constructor
              · rintro (⟨j, w2, w3⟩ | w2)
                · refine ⟨j, by rw [List.length_append]; exact Nat.lt_of_lt_of_le w2 (Nat.le_add_right _ _), ?_⟩
                  rw [getD_snoc, if_neg (by omega)]
                  exact w3
                · refine ⟨D.length, by rw [List.length_append]; exact Nat.lt_succ_self _, ?_⟩
                  rw [getD_snoc, if_pos rfl]
                  exact w2
              · rintro ⟨j, w2, w3⟩
                rw [List.length_append] at w2
                change j < D.length + 1 at w2
                rw [getD_snoc] at w3
                by_cases uj : j = D.length
                · rw [if_pos uj, uj] at w3
                  exact Or.inr w3
                · rw [if_neg uj] at w3
                  exact Or.inl ⟨j, by omega, w3⟩
            · rw [e19, zu_at, List.length_append]
              show _ = if 50 * s ≤ j ∧ j < 50 * s + (D.length + 1) then (D ++ [en (nmC N w.1)]).getD (j - 50 * s) 0 else I.1 518 j
              rw [getD_snoc]
              by_cases uj : j = 50 * s + D.length
              · rw [if_pos ⟨rfl, uj⟩, if_pos ⟨by omega, by omega⟩, if_pos (by omega)]
              · rw [if_neg (fun w => uj w.2), qA.1 518 _ (by unfold Qna; omega), o8]
                by_cases uk : 50 * s ≤ j ∧ j < 50 * s + D.length
                · rw [if_pos uk, if_pos ⟨uk.1, by omega⟩, if_neg (by omega)]
                · rw [if_neg uk, if_neg (fun w => uk ⟨w.1, by omega⟩)]⟩
          rw [zi_tn (show s < 2147483648 by omega)]
          by_cases k1 : A.1 517 s = -1
          · rw [if_pos k1]
            refine put v4 (fun hne => ?_)
            cases hr : rc s with
            | none => exact absurd hr hne
            | some l =>
              obtain ⟨a1, a2, -⟩ := rm s l (by omega) hr
              rw [e517, a2] at k1
              exact absurd (show zi l.length < 0 by rw [k1]; decide) (zi_pos (by omega))
          · rw [if_neg k1]
            refine ⟨hix, ?_⟩
            rw [hixt, zi_tn (show 50 * s + D.length < 2147483648 by omega)]
            by_cases k2 : A.1 518 (50 * s + D.length) = v7
            · rw [if_pos k2]
              refine put v4 (fun hne => ?_)
              rw [e518, ev7] at k2
              rw [hv4 hne, decide_eq_false (fun w => w k2), Bool.or_false]
            · rw [if_neg k2]
              refine put 1 (fun _ => ?_)
              rw [e518, ev7] at k2
              rw [decide_eq_true k2, Bool.or_true]
              rfl
        · rw [if_neg (show ¬ Int32.ofInt (ndR (N w.1)) = 8 from fun v => u8 ((rl_eq (r := 8) hN hwm (by decide)).mp v))]
          rw [if_neg u8] at hD'
          exact nx D mm v4 J (by omega) hD' hmm hv4 qJ nJ o7 o8
    have st := main (sz N y.1) i' [] false t3' I (Nat.le_refl _) rfl (by
      have h1 := cn8_R hN t
      have h2 := cn8_drop (N := N) (L := flR N R) i'
      show 0 + _ ≤ 49
      omega) (hWs.trans rfl) ⟨fun w => (by cases w), fun w => by
        obtain ⟨j, hj, -⟩ := w
        exact absurd hj (Nat.not_lt_zero _)⟩ ht3 eqQ.rf nv (fun _ => rfl) (fun j => by
        rw [if_neg (fun w => by
          have h2 : j < 50 * s + 0 := w.2
          omega)])
    exact st
  rw [zi_tn (show s < 2147483648 by omega)]
  by_cases k1 : I.1 517 s = -1
  · rw [if_pos k1]
    refine rest 1 (fun hne => ?_)
    cases hr : rc s with
    | none => exact absurd hr hne
    | some l =>
      obtain ⟨a1, a2, -⟩ := rm s l (by omega) hr
      rw [a2] at k1
      exact absurd (show zi l.length < 0 by rw [k1]; decide) (zi_pos (by omega))
  · rw [if_neg k1]
    exact rest 0 (fun _ => rfl)
/-! ===== all RUN, with what is recorded, the model ===== -/
def rcL (N : Nat → Nd) (e : Nat) : List Nat → (Int64 → Int32) → RcA → RcA
  | [], _, u => u
  | s :: l, en, u => rcL N e l (up6 en (nmC N s) (evN N en (chN (N s) 2))) (rcS N e en s u)
theorem rcL_app {N : Nat → Nd} {e : Nat} : ∀ {l k : List Nat} {en : Int64 → Int32} {u : RcA}, rcL N e (l ++ k) en u = rcL N e k (enL N l en) (rcL N e l en u)
  | [], _, _, _ => rfl
  | s :: l, k, en, u => rcL_app (l := l)
theorem rcP_l {N : Nat → Nd} {F : List Fl} {e : Nat} {u0 : RcA} (he : e ≠ 0) : ∀ p, p ≤ F.length → rcP N F e u0 p = rcL N e (st2 N (F.take p)) (fun _ => 0) u0
  | 0, _ => rfl
  | p + 1, hp => by
    have ih := rcP_l (N := N) (F := F) (u0 := u0) he p (by omega)
    have hx : F[p]? = some (F[p]'(by omega)) := List.getElem?_eq_getElem (by omega)
    generalize F[p]'(by omega) = x at hx
    rw [rcP_s hx, st2_sn hx]
    by_cases u : ndR (N x.1) = 2
    · rw [if_pos ⟨u, he⟩, if_pos u, rcL_app, ← ih, ← (ruAt_l (N := N) (F := F) p (by omega)).1]
      rfl
    · rw [if_neg (fun w => u w.1), if_neg u, List.append_nil]
      exact ih
theorem u_runsAllR {m R n e : Nat} {og : Nat → Nat} {N : Nat → Nd} {rc : RcZ} {I : zI} {K : Int32 → zI → Prop} (rep : RepNM I m N) (hN : NdOk m N) (hm : m ≤ 3400) (t : TreeI m N R n og) (hu : ∀ (p q : Nat) (x y : Fl), (flR N R)[p]? = some x → (flR N R)[q]? = some y → x.1 = y.1 → p = q) (htz : ∀ z, z ∈ yl N R → tkZ (N z)) (vi : ViM I N R n) (rm : RcM I rc) (he : e < 2147483648) (h36 : I.1 491 36 = zi e) (hnB : ∀ c, c < m → ndB (N c) < 2147483648)
    (hrc : ∀ s, s < m → ndR (N s) = 2 → s ∈ setsOf N R → (rc s = none → ndB (N s) = e) ∧ ∀ l, rc s = some l → l.length = rdl N s)
    (hK : ∀ J, eqQ Qra I J → RcM J (rcL N e (setsOf N R) (fun _ => 0) (rc, 0, 0)).1 → K (zi (rcL N e (setsOf N R) (fun _ => 0) (rc, 0, 0)).2.1) J) : w_M_runsAll 1 I K := by
  have hR := t.1
  have ch := hN.ch
  have hS := nmL_len hN t
  have tv := vi.tv
  intro I1 e1
  have q1 : eqQ Qra I I1 := by
    rw [e1]
    exact eqQ.rf.zu (Or.inl (Or.inl (Or.inl ⟨rfl, rfl⟩)))
  have n1 : NvM I1 (nmL N R) (fun _ => 0) := ⟨[], by rw [e1, zu_self]; rfl, fun i v hi => (by cases hi), List.nodup_nil, fun v hv => (by cases hv), fun _ _ => rfl⟩
  obtain ⟨-, g53, -, g529⟩ := vi.2.2.2
  have hsl := sets_len hN t
  intro P9 h9
  have main : ∀ (d k : Nat) (en : Int64 → Int32) (u : RcA) (J : zI), k + d = (setsOf N R).length → eqQ Qra I J → NvM J (nmL N R) en → rcL N e ((setsOf N R).drop k) en u = rcL N e (setsOf N R) (fun _ => 0) (rc, 0, 0) → RcM J u.1 → (∀ s, s < m → ndR (N s) = 2 → s ∈ setsOf N R → (u.1 s = none → ndB (N s) = e) ∧ ∀ l, u.1 s = some l → l.length = rdl N s) → P9 (zi u.2.1) (zi k) J := by
    intro d
    induction d with
    | zero =>
      intro k en u J hk q nJ hL rJ hu'
      refine h9 _ _ _ ?_
      rw [q.1 491 53 (by unfold Qra Qrk Qna; omega), g53, if_pos ((zi_le (by omega) (by omega)).mpr (by omega))]
      rw [List.drop_of_length_le (by omega)] at hL
      have hL : u = rcL N e (setsOf N R) (fun _ => 0) (rc, 0, 0) := hL
      rw [← hL] at hK
      exact hK J q rJ
    | succ d ih =>
      intro k en u J hk q nJ hL rJ hu'
      refine h9 _ _ _ ?_
      rw [q.1 491 53 (by unfold Qra Qrk Qna; omega), g53, if_neg (fun u => by have := (zi_le (by omega) (by omega)).mp u; omega), zi_tn (show k < 2147483648 by omega)]
      refine ⟨(zin_iff (by omega)).mpr (by omega), fun v4 ev4 => ?_⟩
      have hs : (setsOf N R)[k]? = some ((setsOf N R)[k]'(by omega)) := List.getElem?_eq_getElem (by omega)
      have hdr : (setsOf N R).drop k = (setsOf N R)[k]'(by omega) :: (setsOf N R).drop (k + 1) := List.drop_eq_getElem_cons (by omega)
      generalize (setsOf N R)[k]'(by omega) = s at hs hdr
      rw [hdr] at hL
      have hL : rcL N e ((setsOf N R).drop (k + 1)) (up6 en (nmC N s) (evN N en (chN (N s) 2))) (rcS N e en s u) = rcL N e (setsOf N R) (fun _ => 0) (rc, 0, 0) := hL
      rw [q.1 529 k (by unfold Qra Qrk Qna; omega), g529 k s hs] at ev4
      subst ev4
      obtain ⟨x, x1, x2, x3⟩ := st2_mem (List.mem_of_getElem? hs)
      obtain ⟨p, hp⟩ := List.mem_iff_getElem?.mp x1
      have hsp := fl_po hN hR hp
      rw [x2] at hsp
      have hsm : s < m := by
        have := po_le hN R hR _ hsp
        omega
      have hsin : vp_in (zi s) 3700 := (zin_iff (by omega)).mpr (by omega)
      have rp : ∀ A, eqQ Qra I A → RepNM A m N := fun A qA => rep.kp2 (qA.1 _ _ (by unfold Qra Qrk Qna; omega)) (fun a j u1 u2 => qA.1 a j (by unfold Qra Qrk Qna; omega)) (fun j => qA.2 511 j (by unfold Qra Qrk Qna; omega))
      have tvA : ∀ A, eqQ Qra I A → TvM A N R := fun A qA => tv.kp (fun a j u1 u2 => qA.1 a j (by unfold Qra Qrk Qna; omega))
      have x3' : ndR (N s) = ((2 : Nat) : Int) := x3
      obtain ⟨c1, c2, c3⟩ := chN_is (k := 2) (y := 2) hN hsm x3' rfl
      obtain ⟨d1, d2, d3⟩ := chN_is (k := 0) (y := 5) hN hsm x3' rfl
      have hem : chN (N s) 2 < m := by omega
      have hzm : chN (N s) 0 < m := by omega
      obtain ⟨w1, w2⟩ := nm_child hN t hsp (List.mem_of_getElem? d1) d2
      obtain ⟨i', y, -, y2, y3, -⟩ := fl_ch hN hR hp (by rw [x2]; exact c1)
      have y2' : (flR N R)[i']? = some y := y2
      have hpos := sz_pos hN hem
      obtain ⟨k1, k2⟩ := hu' s hsm x3 (List.mem_of_getElem? hs)
      intro P39 h39
      rw [if_neg (show ¬ (1 : Int32) = 0 by decide)]
      refine u_reads (W := rdV N en (chN (N s) 2)) (rp J q) hN hm t hp x2 x3 (tvA J q) nJ rfl rJ (fun l hl => by rw [rdV_len]; exact k2 l hl) (fun v A qA nA rA hv => ?_)
      have qA' : eqQ Qra I A := q.tr qA
      refine h39 v A ?_
      intro P66 h66
      have st : ∀ t8 : Int32, t8 = zi (daN N e u.1 s (rdV N en (chN (N s) 2))) → P66 t8 := by
        intro t8 et8
        refine h66 t8 ?_
        intro v2' ev2'
        rw [et8, zi_add] at ev2'
        refine s_MchildOf (k := 2) (rp A qA') (by omega) hsm (ch _ hsm) c1 ⟨(zin_iff (by omega)).mpr (by omega), ?_⟩
        rw [zi_tn (show chN (N s) 2 < 2147483648 by omega), ← y3, ((tvA A qA') i' y y2').2.1, y3]
        refine u_reckons (rp A qA') hN (by omega) t hu htz y2' (tvA A qA') nA (fun B qB nB wB => ?_)
        have qB' : eqQ Qra I B := qA'.tr (qB.mono (fun a j h => Or.inl h))
        refine s_MchildOf (k := 0) (rp B qB') (by omega) hsm (ch _ hsm) d1 ⟨(zin_iff (by omega)).mpr (by omega), ?_⟩
        rw [zi_tn (show chN (N s) 0 < 2147483648 by omega), show B.2 511 (chN (N s) 0) = nmV N (chN (N s) 0) from (((rp B qB').2 _ hzm).2.2.2.2.2.2 (by omega)).2]
        refine u_nameOf hS w1 nB (fun r C hr qC nC hC hset => ⟨(zin_iff (by omega)).mpr (by omega), (zin_iff (by omega)).mpr (by omega), fun I15 e15 v3' ev3' => ?_⟩)
        rw [ev3', ev2', zi_succ]
        have qC' : eqQ Qra I C := qB'.tr (qC.mono (fun a j h => Or.inl (Or.inl h)))
        rw [zi_tn (show r < 2147483648 by omega), qC.1 532 _ (by unfold Qna; omega), ← y3, wB i' y (Nat.le_refl _) (by rw [y3]; omega) y2' (by rw [y3]; exact ru4 hN hem (Or.inl c2)), y3] at e15
        refine ih (k + 1) _ (rcS N e en s u) I15 (by omega) (by rw [e15]; exact qC'.zu (Or.inl (Or.inl (Or.inr (Or.inr rfl))))) (hset _ I15 e15) hL (rA.kp (fun a j h => by rw [e15, zu_oo (by omega), qC.1 a j (by unfold Qna; omega), qB.1 a j (by unfold Qrk Qna; omega)])) (fun s' h1 h2 h3 => ?_)
        by_cases us : s' = s
        · refine ⟨fun w => ?_, fun l hl => ?_⟩
          · rw [rcS_1, us, rcU_s] at w
            cases w
          · rw [rcS_1, us, rcU_s] at hl
            cases hl
            rw [us]
            exact rdV_len
        · refine ⟨fun w => ?_, fun l hl => ?_⟩
          · rw [rcS_1, rcU_o us] at w
            exact (hu' s' h1 h2 h3).1 w
          · rw [rcS_1, rcU_o us] at hl
            exact (hu' s' h1 h2 h3).2 l hl
      intro P64 h64
      rw [if_neg (show ¬ (1 : Int32) = 0 by decide)]
      refine ⟨hsin, ?_⟩
      rw [zi_tn (show s < 2147483648 by omega), qA'.1 491 36 (by unfold Qra Qrk Qna; omega), h36, show A.1 516 s = zi (ndB (N s)) from ((rp A qA').2 s hsm).2.2.2.1]
      by_cases kB : ndB (N s) = e
      · rw [if_pos (by rw [kB])]
        refine st 1 ?_
        unfold daN
        rw [if_pos (Or.inl kB)]
        rfl
      · rw [if_neg (fun w => kB ((zi_eq (hnB s hsm) he).mp w))]
        refine h64 (st v ?_)
        rw [hv (fun w => kB (k1 w))]
        unfold daN
        by_cases kW : u.1 s = some (rdV N en (chN (N s) 2))
        · rw [if_pos kW, if_neg (fun w => by
            rcases w with w | w
            · exact kB w
            · exact w kW)]
          rfl
        · rw [if_neg kW, if_pos (Or.inr kW)]
          rfl
  exact main (setsOf N R).length 0 (fun _ => 0) (rc, 0, 0) I1 (by omega) q1 n1 (by rw [List.drop_zero]) (rm.kp (fun a j h => by rw [e1, zu_oo (by omega)])) hrc
