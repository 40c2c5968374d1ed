/-! ===== moments, the class ===== -/
theorem s_now {s : Nat} {I : zI} {K : Nat → Prop} (hs : s < 21) (h4 : I.1 0 4 = zi s) (hK : K (zmom s)) : w_Desk_now I K := by
  intro P35 h35 P31 h31
  rw [h4, if_neg (zi_pos (by omega)), if_neg (show ¬ (21 : Int32) ≤ zi s from fun u => by have := (zi_le (a := 21) (by decide) (by omega)).mp u; omega), zi_tn (show s < 2147483648 by omega)]
  exact ⟨(zin_iff (by omega)).mpr hs, h35 _ hK⟩
theorem r_ruledSize {I : zI} {K : Int32 → Prop} (h : ∀ v, K v) : w_TreeView_ruledSize I K := by
  intro P4 h4
  have loop := up_loop (P := fun v _ => ∀ w, P4 w v) (b := 11) (inv := fun _ => True) (fun v J hv _ ih w => by
    refine h4 _ _ ?_
    rw [if_neg (Int32.not_le.mpr hv)]
    refine (w_get (by decide)).mpr (fun w' ew v' ev => ?_)
    rw [ev]
    exact ih J trivial w') (fun v J hv _ w => by
    refine h4 _ _ ?_
    rw [if_pos hv]
    exact h w)
  exact loop 0 I trivial 0
theorem eqX.at {lo hi : Nat} {I J : zI} (h : eqX lo hi I J) {a j : Nat} (ha : a < lo ∨ hi ≤ a) : J.1 a j = I.1 a j := congrFun (h a ha).1 j
theorem s_keepGood {k a c : Nat} {I : zI} {K : zI → Prop} (hka : k + 18 ≤ a ∨ a + 18 ≤ k) (hc : c ≤ 100) (h6 : I.1 a 6 = zi c) (hK : ∀ J, eqX k (k + 18) I J → J.1 k 3 = 0 → J.1 k 7 = I.1 a 7 → J.1 k 8 = I.1 a 8 → J.1 k 6 = zi c → (∀ j, j < c → J.1 (k + 15) j = I.1 (a + 15) j) → (∀ j, j < c → J.1 (k + 17) j = I.1 (a + 17) j) → (∀ b j, (k < b ∧ b < k + 14) ∨ (b = k ∧ j < 3) → J.1 b j = I.1 b j) → K J) : w_Moment_keepGood k a I K := by
  intro I1 e1 I2 e2 I3 e3 I4 e4
  have o4 : ∀ b, b ≠ k → I4.1 b = I.1 b := fun b hb => by rw [e4, zu_o hb, e3, zu_o hb, e2, zu_o hb, e1, zu_o hb]
  have x4 : eqX k (k + 18) I I4 := by
    rw [e4, e3, e2, e1]
    exact (((eqX.rf.zu (Nat.le_refl _) (by omega)).zu (Nat.le_refl _) (by omega)).zu (Nat.le_refl _) (by omega)).zu (Nat.le_refl _) (by omega)
  have hak : a ≠ k := by omega
  have g6 : I4.1 k 6 = zi c := by
    rw [e4, zu_self, e3, zu_o hak, e2, zu_o hak, e1, zu_o hak]
    exact h6
  have g3 : I4.1 k 3 = 0 := by rw [e4, zu_i (by decide), e3, zu_i (by decide), e2, zu_i (by decide), e1, zu_self]
  have g7 : I4.1 k 7 = I.1 a 7 := by rw [e4, zu_i (by decide), e3, zu_i (by decide), e2, zu_self, e1, zu_o hak]
  have g8 : I4.1 k 8 = I.1 a 8 := by rw [e4, zu_i (by decide), e3, zu_self, e2, zu_o hak, e1, zu_o hak]
  have gl : ∀ j, j < 3 → I4.1 k j = I.1 k j := fun j hj => by rw [e4, zu_i (by omega), e3, zu_i (by omega), e2, zu_i (by omega), e1, zu_i (by omega)]
  rw [g6]
  refine s_copy (by decide) (by decide) hc hc (fun J5 q5 v5 => ?_)
  rw [q5.at (by omega), g6]
  refine s_copy (by decide) (by decide) hc hc (fun J6 q6 v6 => ?_)
  refine hK J6 ((x4.tr (q5.mono (by omega) (by omega))).tr (q6.mono (by omega) (by omega))) ?_ ?_ ?_ ?_ (fun j hj => ?_) (fun j hj => ?_) (fun b j hb => ?_)
  · rw [q6.at (by omega), q5.at (by omega)]; exact g3
  · rw [q6.at (by omega), q5.at (by omega)]; exact g7
  · rw [q6.at (by omega), q5.at (by omega)]; exact g8
  · rw [q6.at (by omega), q5.at (by omega)]; exact g6
  · rw [q6.at (by omega), show k + 15 = k + 14 + 1 from rfl, v5, if_pos hj, o4 _ (by omega)]
  · rw [show k + 17 = k + 16 + 1 from rfl, v6, if_pos hj, q5.at (by omega), o4 _ (by omega)]
  · rw [q6.at (by omega), q5.at (by omega)]
    rcases hb with ⟨u1, u2⟩ | ⟨u1, u2⟩
    · rw [o4 _ (by omega)]
    · rw [u1]
      exact gl j u2
theorem s_beGood {R c : Nat} {I : zI} {K : zI → Prop} (hc : c ≤ 100) (h5 : I.1 7 5 = zi c) (hK : ∀ J, eqX 4 22 I J → J.1 4 3 = 1 → J.1 4 7 = zi R → J.1 4 6 = zi c → (∀ j, j < c → J.1 21 j = I.1 11 j) → (∀ b j, (4 < b ∧ b < 20) ∨ (b = 4 ∧ j < 3) → J.1 b j = I.1 b j) → K J) : w_Moment_beGood 4 (zi R) I K := by
  intro I1 e1 I2 e2 I3 e3
  have o3 : ∀ b, b ≠ 4 → I3.1 b = I.1 b := fun b hb => by rw [e3, zu_o hb, e2, zu_o hb, e1, zu_o hb]
  have x3 : eqX 4 22 I I3 := by
    rw [e3, e2, e1]
    exact ((eqX.rf.zu (Nat.le_refl _) (by omega)).zu (Nat.le_refl _) (by omega)).zu (Nat.le_refl _) (by omega)
  have g6 : I3.1 4 6 = zi c := by
    rw [e3, zu_self, e2, zu_o (by decide), e1, zu_o (by decide)]
    exact h5
  rw [g6]
  refine s_copy (by decide) (by decide) hc hc (fun J q v => ?_)
  refine hK J (x3.tr (q.mono (by omega) (by omega))) ?_ ?_ ?_ (fun j hj => ?_) (fun b j hb => ?_)
  · rw [q.at (by omega), e3, zu_i (by decide), e2, zu_i (by decide), e1, zu_self]
  · rw [q.at (by omega), e3, zu_i (by decide), e2, zu_self]
  · rw [q.at (by omega)]; exact g6
  · rw [show (21 : Nat) = 4 + 16 + 1 from rfl, v, if_pos hj, o3 _ (by decide)]
  · rw [q.at (by omega)]
    rcases hb with ⟨u1, u2⟩ | ⟨u1, u2⟩
    · rw [o3 _ (by omega)]
    · rw [u1, e3, zu_i (by omega), e2, zu_i (by omega), e1, zu_i (by omega)]
theorem s_tokCopy {k a c : Nat} {I : zI} {K : zI → Prop} (hka : k + 11 ≤ a ∨ a + 11 ≤ k) (hc : c ≤ 100) (h5 : I.1 a 5 = zi c) (hK : ∀ J, eqX k (k + 11) I J → J.1 k 5 = zi c → (∀ i j, i < 5 → j < c → J.1 (k + 2 + 2 * i) j = I.1 (a + 2 + 2 * i) j) → K J) : w_Tokens_copyFrom k a I K := by
  intro I1 e1
  have hak : a ≠ k := by omega
  have x1 : eqX k (k + 11) I I1 := by
    rw [e1]
    exact eqX.rf.zu (Nat.le_refl _) (by omega)
  have o1 : ∀ b, b ≠ k → I1.1 b = I.1 b := fun b hb => by rw [e1, zu_o hb]
  have g1 : I1.1 k 5 = zi c := by rw [e1, zu_self, h5]
  rw [g1]
  refine s_copy (by decide) (by decide) hc hc (fun J2 q2 v2 => ?_)
  rw [q2.at (a := k) (by omega), g1]
  refine s_copy (by decide) (by decide) hc hc (fun J3 q3 v3 => ?_)
  rw [q3.at (a := k) (by omega), q2.at (a := k) (by omega), g1]
  refine s_copy (by decide) (by decide) hc hc (fun J4 q4 v4 => ?_)
  rw [q4.at (a := k) (by omega), q3.at (a := k) (by omega), q2.at (a := k) (by omega), g1]
  refine s_copy (by decide) (by decide) hc hc (fun J5 q5 v5 => ?_)
  rw [q5.at (a := k) (by omega), q4.at (a := k) (by omega), q3.at (a := k) (by omega), q2.at (a := k) (by omega), g1]
  refine s_copy (by decide) (by decide) hc hc (fun J6 q6 v6 => ?_)
  refine hK J6 (((((x1.tr (q2.mono (by omega) (by omega))).tr (q3.mono (by omega) (by omega))).tr (q4.mono (by omega) (by omega))).tr (q5.mono (by omega) (by omega))).tr (q6.mono (by omega) (by omega))) ?_ (fun i j hi hj => ?_)
  · rw [q6.at (by omega), q5.at (by omega), q4.at (by omega), q3.at (by omega), q2.at (by omega)]; exact g1
  · rcases (show i = 0 ∨ i = 1 ∨ i = 2 ∨ i = 3 ∨ i = 4 by omega) with rfl | rfl | rfl | rfl | rfl
    · rw [q6.at (by omega), q5.at (by omega), q4.at (by omega), q3.at (by omega), show k + 2 + 2 * 0 = k + 1 + 1 from rfl, v2, if_pos hj, o1 _ (by omega)]
    · rw [q6.at (by omega), q5.at (by omega), q4.at (by omega), show k + 2 + 2 * 1 = k + 3 + 1 from rfl, v3, if_pos hj, q2.at (by omega), o1 _ (by omega)]
    · rw [q6.at (by omega), q5.at (by omega), show k + 2 + 2 * 2 = k + 5 + 1 from rfl, v4, if_pos hj, q3.at (by omega), q2.at (by omega), o1 _ (by omega)]
    · rw [q6.at (by omega), show k + 2 + 2 * 3 = k + 7 + 1 from rfl, v5, if_pos hj, q4.at (by omega), q3.at (by omega), q2.at (by omega), o1 _ (by omega)]
    · rw [show k + 2 + 2 * 4 = k + 9 + 1 from rfl, v6, if_pos hj, q5.at (by omega), q4.at (by omega), q3.at (by omega), q2.at (by omega), o1 _ (by omega)]
theorem MoX.kp {I J : zI} {k : Nat} {x : Mo} (h : MoX I k x) (e : ∀ a j, k ≤ a → a < k + 18 → J.1 a j = I.1 a j) : MoX J k x := by
  obtain ⟨h1, h2, ⟨h3, h4⟩, h5, h6, h7, h8, h9, h10⟩ := h
  refine ⟨by rw [e _ _ (by omega) (by omega)]; exact h1, fun j hj => by rw [e _ _ (by omega) (by omega)]; exact h2 j hj, ⟨by rw [e _ _ (by omega) (by omega)]; exact h3, fun j y hy => ?_⟩, by rw [e _ _ (by omega) (by omega)]; exact h5, by rw [e _ _ (by omega) (by omega)]; exact h6, fun j hj => by rw [e _ _ (by omega) (by omega)]; exact h7 j hj, fun j y hy => by rw [e _ _ (by omega) (by omega)]; exact h8 j y hy, by rw [e _ _ (by omega) (by omega)]; exact h9, by rw [e _ _ (by omega) (by omega)]; exact h10⟩
  rw [e _ _ (by omega) (by omega), e _ _ (by omega) (by omega), e _ _ (by omega) (by omega), e _ _ (by omega) (by omega), e _ _ (by omega) (by omega)]
  exact h4 j y hy
/-- a moment copied -/
theorem s_momCopy {k a : Nat} {x : Mo} {I : zI} {K : zI → Prop} (hka : k + 18 ≤ a ∨ a + 18 ≤ k) (hT : txOk (moT x)) (hG : txOk (moG x)) (hX : MoX I a x) (hK : ∀ J, eqX k (k + 18) I J → MoX J k x → K J) : w_Moment_copyFrom k a I K := by
  obtain ⟨h1, h2, ⟨h3, h4⟩, h5, h6, h7, h8, h9, h10⟩ := id hX
  have hak : a ≠ k := by omega
  intro I1 e1
  have o1 : ∀ b, b ≠ k → I1.1 b = I.1 b := fun b hb => by rw [e1, zu_o hb]
  have g1 : I1.1 k 1 = zi (moT x).length := by rw [e1, zu_self, h1]
  have x1 : eqX k (k + 18) I I1 := by
    rw [e1]
    exact eqX.rf.zu (Nat.le_refl _) (by omega)
  rw [g1]
  refine s_copy (by decide) (by decide) hT.1 hT.1 (fun J2 q2 v2 => ?_)
  have y2 : eqX k (k + 18) I J2 := x1.tr (q2.mono (by omega) (by omega))
  refine s_tokCopy (c := (lexL (moT x)).length) (by omega) hT.2.2 (by rw [y2.at (by omega)]; exact h3) (fun J3 q3 g3 v3 => ?_)
  have y3 : eqX k (k + 18) I J3 := y2.tr (q3.mono (by omega) (by omega))
  refine s_keepGood (c := (lexL (moG x)).length) hka hG.2.2 (by rw [y3.at (by omega)]; exact h6) (fun J4 q4 w1 w2 w2r w3 w4 w5 w6 => ?_)
  have y4 : eqX k (k + 18) I J4 := y3.tr q4
  have a3 : J4.1 a 3 = b01 (moB x) := by rw [y4.at (by omega)]; exact h5
  rw [a3]
  refine ⟨?_, fun I5 e5 => ?_⟩
  · cases moB x
    · exact Or.inl rfl
    · exact Or.inr rfl
  have o5 : ∀ b j, ¬ (b = k ∧ j = 3) → I5.1 b j = J4.1 b j := fun b j u => by rw [e5, zu_at, if_neg u]
  refine hK I5 (by rw [e5]; exact y4.zu (Nat.le_refl _) (by omega)) ⟨?_, fun j hj => ?_, ⟨?_, fun j y hy => ?_⟩, ?_, ?_, fun j hj => ?_, fun j y hy => ?_, ?_, ?_⟩
  · rw [o5 _ _ (by omega), w6 _ _ (by omega), q3.at (by omega), q2.at (by omega)]
    exact g1
  · rw [o5 _ _ (by omega), w6 _ _ (by omega), q3.at (by omega), show k + 2 = k + 1 + 1 from rfl, v2, if_pos hj, o1 _ (by omega)]
    exact h2 j hj
  · rw [o5 _ _ (by omega), w6 _ _ (by omega)]
    exact g3
  · have hj := (List.getElem?_eq_some_iff.mp hy).1
    have tk : ∀ i, i < 5 → I5.1 (k + 3 + 2 + 2 * i) j = I.1 (a + 3 + 2 + 2 * i) j := fun i hi => by
      rw [o5 _ _ (by omega), w6 _ _ (by omega), v3 i j hi hj, y2.at (by omega)]
    obtain ⟨z1, z2, z3, z4, z5⟩ := h4 j y hy
    exact ⟨(tk 0 (by decide)).trans z1, (tk 1 (by decide)).trans z2, (tk 2 (by decide)).trans z3, (tk 3 (by decide)).trans z4, (tk 4 (by decide)).trans z5⟩
  · rw [e5, zu_self]
  · rw [o5 _ _ (by omega)]
    exact w3
  · rw [o5 _ _ (by omega), w4 j hj, y3.at (by omega)]
    exact h7 j hj
  · have hj := (List.getElem?_eq_some_iff.mp hy).1
    rw [o5 _ _ (by omega), w5 j hj, y3.at (by omega)]
    exact h8 j y hy
  · rw [o5 _ _ (by omega), w2, y3.at (by omega)]
    exact h9
  · rw [o5 _ _ (by omega), w2r, y3.at (by omega)]
    exact h10
/-- the next moment is the draft -/
theorem s_turn {x : Sg} {c : Mo} {I : zI} {K : zI → Prop} {s : Nat} (hs : s < 21) (h4 : I.1 0 4 = zi s) (h5 : I.1 0 5 = zi (sgA x).length) (hlA : (sgA x).length ≤ 20) (hc : MoX I 4 c) (hcT : txOk (moT c)) (hcG : txOk (moG c)) (hC : MoX I (zmom s) (sgC x)) (hA : ∀ (k : Nat) (y : Mo), (sgA x)[k]? = some y → MoX I (zmom ((s + 20 - k) % 21)) y)
    (hK : ∀ J, eqQ (fun a j => (a = 0 ∧ 4 ≤ j ∧ j ≤ 6) ∨ (113 ≤ a ∧ a < 491)) I J → J.1 0 5 = zi ((sgC x :: sgA x).take 20).length → J.1 0 6 = 0 → (∃ s', s' < 21 ∧ J.1 0 4 = zi s' ∧ MoX J (zmom s') c ∧ ∀ (k : Nat) (y : Mo), ((sgC x :: sgA x).take 20)[k]? = some y → MoX J (zmom ((s' + 20 - k) % 21)) y) → K J) : w_Desk_turnToNext I K := by
  unfold w_Desk_turnToNext w_Desk_nextSlot
  have zm : ∀ i, zmom i = 113 + 18 * i := fun i => rfl
  have rest : ∀ s', s' = (s + 1) % 21 → ∀ I2, I2 = zu I 0 4 (zi s') → w_Desk_now I2 (fun r_3 => w_Moment_copyFrom r_3 4 I2 (fun I_4 => ∀ I_5, I_5 = (zu I_4 0 5 (if ((I_4.1 0 5) + 1) < 20 then ((I_4.1 0 5) + 1) else 20)) → ∀ I_6, I_6 = (zu I_5 0 6 0) → K I_6)) := by
    intro s' es I2 e2
    have hs' : s' < 21 := by omega
    refine s_now hs' (by rw [e2, zu_self]) ?_
    have o2 : ∀ a j, ¬ (a = 0 ∧ j = 4) → I2.1 a j = I.1 a j := fun a j u => by rw [e2, zu_at, if_neg u]
    have z1 := zm s'
    refine s_momCopy (by omega) hcT hcG (hc.kp (fun a j _ _ => o2 a j (by omega))) (fun J qJ mJ I5 e5 I6 e6 => ?_)
    have gJ : J.1 0 5 = zi (sgA x).length := by rw [qJ.at (by omega), o2 _ _ (by omega)]; exact h5
    have hmin : (if (J.1 0 5 + 1) < 20 then (J.1 0 5 + 1) else 20) = zi ((sgC x :: sgA x).take 20).length := by
      rw [gJ, zi_succ, List.length_take, List.length_cons]
      by_cases u : (sgA x).length + 1 < 20
      · rw [if_pos (show zi ((sgA x).length + 1) < 20 from (zi_lt (b := 20) (by omega) (by decide)).mpr u), Nat.min_eq_right (by omega)]
      · rw [if_neg (show ¬ zi ((sgA x).length + 1) < 20 from fun v => u ((zi_lt (b := 20) (by omega) (by decide)).mp v)), Nat.min_eq_left (by omega)]
        rfl
    rw [hmin] at e5
    have o6 : ∀ a j, a ≠ 0 → I6.1 a j = J.1 a j := fun a j u => by rw [e6, zu_oo u, e5, zu_oo u]
    have q6 : eqQ (fun a j => (a = 0 ∧ 4 ≤ j ∧ j ≤ 6) ∨ (113 ≤ a ∧ a < 491)) I I6 := by
      have q2 : eqQ (fun a j => (a = 0 ∧ 4 ≤ j ∧ j ≤ 6) ∨ (113 ≤ a ∧ a < 491)) I I2 := by
        rw [e2]
        exact eqQ.rf.zu (Or.inl ⟨rfl, by decide, by decide⟩)
      have q3 : eqQ (fun a j => (a = 0 ∧ 4 ≤ j ∧ j ≤ 6) ∨ (113 ≤ a ∧ a < 491)) I J := eqX.q q2 qJ (fun a j h1 h2 => Or.inr ⟨by omega, by omega⟩)
      rw [e6, e5]
      exact (q3.zu (Or.inl ⟨rfl, by decide, by decide⟩)).zu (Or.inl ⟨rfl, by decide, by decide⟩)
    refine hK I6 q6 (by rw [e6, zu_i (by decide), e5, zu_self]) (by rw [e6, zu_self]) ⟨s', hs', ?_, mJ.kp (fun a j u1 u2 => o6 a j (by omega)), fun k y hy => ?_⟩
    · rw [e6, zu_i (by decide), e5, zu_i (by decide), qJ.at (by omega), e2, zu_self]
    · have hk := (List.getElem?_eq_some_iff.mp hy).1
      rw [List.length_take] at hk
      have hk20 : k < 20 := by omega
      rw [List.getElem?_take, if_pos hk20] at hy
      have old : ∀ r, r < 21 → r ≠ s' → MoX I (zmom r) y → MoX I6 (zmom r) y := fun r hr hrs hm => hm.kp (fun a j u1 u2 => by
        have z2 := zm r
        rw [o6 a j (by omega), qJ.at (by omega), o2 _ _ (by omega)])
      cases k with
      | zero =>
        cases hy
        rw [show (s' + 20 - 0) % 21 = s by omega]
        exact old s hs (by omega) hC
      | succ k =>
        rw [List.getElem?_cons_succ] at hy
        have := hA k y hy
        rw [show (s + 20 - k) % 21 = (s' + 20 - (k + 1)) % 21 by omega] at this
        exact old _ (by omega) (by omega) this
  rw [h4]
  by_cases u : s < 20
  · rw [if_pos (show zi s < 20 from (zi_lt (b := 20) (by omega) (by decide)).mpr u), zi_succ]
    exact rest (s + 1) (by omega)
  · rw [if_neg (show ¬ zi s < 20 from fun v => u ((zi_lt (b := 20) (by omega) (by decide)).mp v))]
    exact rest 0 (by omega)
/-! ===== a change: the class ===== -/
theorem TapX.kp {I J : zI} {t : List Int32} (h : TapX I t) (e1 : J.1 0 1 = I.1 0 1) (e2 : ∀ j, J.1 2 j = I.1 2 j) : TapX J t := ⟨e1.trans h.1, fun j v hj => by rw [e2]; exact h.2 j v hj⟩
theorem ViX.pr {I J : zI} {N : Nat → Nd} {R : Nat} (h : ViX I N R) (e : ∀ a j, (43 ≤ a ∧ a ≤ 63) ∨ (69 ≤ a ∧ a ≤ 83) → J.1 a j = I.1 a j) (p : PnX J N R) : ViX J N R := by
  obtain ⟨v1, v2, v3, v4, v5, v6, v7, -⟩ := h
  refine ⟨(e 43 13 (by omega)).trans v1, v2.kp (fun a j h1 h2 => e a j (by omega)), fun p x hx => by rw [e 53 p (by omega), e 55 p (by omega)]; exact v3 p x hx, ⟨(e 43 11 (by omega)).trans v4.1, fun i r hi => (e 63 i (by omega)).trans (v4.2 i r hi)⟩, fun c hc => ?_, fun r hr => (e 61 r (by omega)).trans (v6 r hr), v7.kp (fun a j u1 u2 => e a j (by omega)), p⟩
  obtain ⟨p, p1, p2⟩ := v5 c hc
  exact ⟨p, p1, (e 47 c (by omega)).trans p2⟩
theorem ViX.kp {I J : zI} {N : Nat → Nd} {R : Nat} (h : ViX I N R) (e : ∀ a j, (43 ≤ a ∧ a ≤ 63) ∨ (69 ≤ a ∧ a ≤ 83) ∨ a = 110 ∨ (a = 0 ∧ j = 18) → J.1 a j = I.1 a j) : ViX J N R :=
  h.pr (fun a j u => e a j (by omega)) ⟨(e 0 18 (by omega)).trans h.2.2.2.2.2.2.2.1, fun i v hi => (e 110 i (by omega)).trans (h.2.2.2.2.2.2.2.2 i v hi)⟩
theorem PrX.kp {I J : zI} {pl : List (Nat × Nat)} (h : PrX I pl) (e : ∀ a j, 88 ≤ a → a ≤ 96 → (a = 88 → j = 4) → J.1 a j = I.1 a j) : PrX J pl := by
  obtain ⟨h1, h2, h3, h4⟩ := h
  refine ⟨by rw [e 88 4 (by decide) (by decide) (fun _ => rfl)]; exact h1, fun i p hi => ?_, fun v hv => by rw [e 96 _ (by decide) (by decide) (by omega)]; exact h3 v hv, h4⟩
  rw [e 90 _ (by decide) (by decide) (by omega), e 92 _ (by decide) (by decide) (by omega), e 94 _ (by decide) (by decide) (by omega)]
  exact h2 i p hi
theorem RX.pr {I J : zI} {x : Sg} (hv : Iv x) (h : RX I x) (e : ∀ a j, ((a = 0 ∧ (j = 1 ∨ (4 ≤ j ∧ j ≤ 7))) ∨ (69 ≤ a ∧ a ≤ 83) ∨ a = 2 ∨ (a = 24 ∧ j = 9) ∨ (25 ≤ a ∧ a ≤ 63) ∨ (a = 88 ∧ j = 4) ∨ (89 ≤ a ∧ a ≤ 96) ∨ (113 ≤ a ∧ a < 491)) → J.1 a j = I.1 a j) (pn : PnX J (sgN x) (moR (sgC x))) : RX J x := by
  obtain ⟨r1, r2, r3, r4, r5, r6, r7, s, hs, s4, sC, sA, sZ⟩ := h
  have zm : ∀ i, zmom i = 113 + 18 * i := fun i => rfl
  have mk : ∀ i y, i < 21 → MoX I (zmom i) y → MoX J (zmom i) y := fun i y hi hm => hm.kp (fun a j u1 u2 => e a j (by have := zm i; omega))
  exact ⟨r1.kp (e _ _ (by omega)) (fun j => e _ _ (by omega)), r2.kp hv.2.1.ch (fun a j h1 h2 h3 => e a j (by omega)), r3.pr (fun a j h => e a j (by omega)) pn, r4.kp (fun a j h1 h2 h3 => e a j (by omega)), by rw [e _ _ (by omega)]; exact r5, by rw [e _ _ (by omega)]; exact r6, by rw [e _ _ (by omega)]; exact r7, s, hs, by rw [e _ _ (by omega)]; exact s4, mk _ _ hs sC, fun k y hy => mk _ _ (by omega) (sA k y hy), fun k y hy => mk _ _ (by omega) (sZ k y hy)⟩
theorem RX.kp {I J : zI} {x : Sg} (hv : Iv x) (h : RX I x) (e : ∀ a j, ((a = 0 ∧ (j = 1 ∨ (4 ≤ j ∧ j ≤ 7) ∨ j = 18)) ∨ (69 ≤ a ∧ a ≤ 83) ∨ a = 110 ∨ a = 2 ∨ (a = 24 ∧ j = 9) ∨ (25 ≤ a ∧ a ≤ 63) ∨ (a = 88 ∧ j = 4) ∨ (89 ≤ a ∧ a ≤ 96) ∨ (113 ≤ a ∧ a < 491)) → J.1 a j = I.1 a j) : RX J x :=
  RX.pr hv h (fun a j u => e a j (by omega)) ⟨(e 0 18 (by omega)).trans h.2.2.1.2.2.2.2.2.2.2.1, fun i v hi => (e 110 i (by omega)).trans (h.2.2.1.2.2.2.2.2.2.2.2 i v hi)⟩
theorem oldX_of {m k : Nat} {N : Nat → Nd} {c : Mo} {I : zI} (rep : RepNX I m N) (hm : m ≤ 3400) (o : MoOk m N c) (h : MoX I k c) : OldX I k (txF (moG c)) (lexL (moG c)) := by
  obtain ⟨o1, o2, o3, o4, o5⟩ := o
  obtain ⟨h1, h2, h3, h5, h6, h7, h8, h9⟩ := h
  refine ⟨h6, fun j y hy => ?_⟩
  have hj := (List.getElem?_eq_some_iff.mp hy).1
  obtain ⟨t1, t2⟩ := o4.2.2.2.2.1 j hj
  obtain ⟨k1, k2⟩ := o5 j y hy
  obtain ⟨n1, n2, n3, n4, n5, n6, n7⟩ := rep.2 _ t1
  obtain ⟨l1, l2, l3⟩ := n7 (by omega)
  rw [k2] at l1 l2 l3
  refine ⟨moO c j, by omega, h7 j hj, ?_, ?_, ?_, ?_⟩
  · rw [n2]
    unfold ndM
    rw [t2, if_pos (by decide), k1]
  · rw [l1, tkBs_len]
  · rw [l2, hdT_bs]
  · rw [l3, tlT_bs]
theorem r_tellGrowth {v : Int32} {I : zI} {K : zI → Prop} (hK : ∀ J, eqQ (fun a _ => a = 23) I J → K J) : w_Desk_tellGrowth v I K := by
  unfold w_Desk_tellGrowth
  refine (w_set (by decide)).mpr ((w_set (by decide)).mpr ((w_set (by decide)).mpr ((w_set (by decide)).mpr ((w_set (by decide)).mpr ((w_set (by decide)).mpr ((w_set (by decide)).mpr ((w_set (by decide)).mpr ((w_set (by decide)).mpr ((w_set (by decide)).mpr (hK _ ?_))))))))))
  exact (((((((((eqQ.rf.rs (fun _ => rfl)).rs (fun _ => rfl)).rs (fun _ => rfl)).rs (fun _ => rfl)).rs (fun _ => rfl)).rs (fun _ => rfl)).rs (fun _ => rfl)).rs (fun _ => rfl)).rs (fun _ => rfl)).rs (fun _ => rfl)
theorem r_tellGood {v : Int32} {I : zI} {K : zI → Prop} (hK : ∀ J, eqQ (fun a _ => a = 23) I J → K J) : w_Desk_tellGood v I K := by
  unfold w_Desk_tellGood
  exact r_ruledSize (fun w => (w_set (by decide)).mpr ((w_set (by decide)).mpr (hK _ ((eqQ.rf.rs (fun _ => rfl)).rs (fun _ => rfl)))))
/-- what a change of the class may touch -/
def Qcl (a j : Nat) : Prop := a < 491
theorem s_change {x : Sg} {d : List Int32} {bt : Bool} {I : zI} {K : Int32 → zI → Prop} (hv : Iv x) (hR : RX I x) (hdb : ∀ j, j < d.length → byt (txF d j)) (hd1 : I.1 4 1 = zi d.length) (hd2 : d.length ≤ 300 → ∀ j, j < d.length → I.1 6 j = txF d j) (hdl : d.length < 100000) (he : sgE x < 100000)
    (h0 : refu x d → ∀ J, eqQ Qcl I J → RX J x → K (-1) J)
    (h1 : ¬ refu x d → ∀ J, eqQ Qcl I J → RX J (chg x d (if bt = true then [] else sgT x)) → K (if (regY x d).1 + 1 = (lexL d).length ∧ topS (regY x d).2.2.2.1 = 1 then 0 else 1) J) : w_Desk_change (b01 bt) I K := by
  obtain ⟨r1, r2, r3, r4, r5, r6, r7, s, hs, s4, sC, sA, sZ⟩ := id hR
  obtain ⟨hTp, hN, hu, hm, hTk, ⟨hP1, hP2⟩, hE, hC, hA, hZ, hAZ⟩ := id hv
  unfold w_Desk_change
  rw [hd1, r2.1, r4.1]
  by_cases c1 : 300 < d.length
  · rw [if_pos (show (300 : Int32) < zi d.length from (zi_lt (a := 300) (by decide) (by omega)).mpr c1)]
    exact h0 (Or.inl c1) I eqQ.rf hR
  rw [if_neg (show ¬ (300 : Int32) < zi d.length from fun u => c1 ((zi_lt (a := 300) (by decide) (by omega)).mp u))]
  by_cases c2 : 3000 ≤ sgM x
  · rw [if_pos (show (3000 : Int32) ≤ zi (sgM x) from (zi_le (a := 3000) (by decide) (by omega)).mpr c2)]
    exact h0 (Or.inr (Or.inl c2)) I eqQ.rf hR
  rw [if_neg (show ¬ (3000 : Int32) ≤ zi (sgM x) from fun u => c2 ((zi_le (a := 3000) (by decide) (by omega)).mp u))]
  by_cases c3 : 3900 ≤ (sgP x).length
  · rw [if_neg (show ¬ zi (sgP x).length < 3900 from fun u => by have := (zi_lt (b := 3900) (by omega) (by decide)).mp u; omega)]
    exact h0 (Or.inr (Or.inr (Or.inl c3))) I eqQ.rf hR
  rw [if_pos (show zi (sgP x).length < 3900 from (zi_lt (b := 3900) (by omega) (by decide)).mpr (by omega))]
  have hlx : (lexL d).length = (lexF (txF d) d.length d.length 0).length + 1 := by
    show (lexF (txF d) d.length d.length 0 ++ [(10, d.length, 0)]).length = _
    rw [List.length_append]
    rfl
  refine s_readAll (by decide) (by omega) (hd2 (by omega)) (by decide) (fun c4 I2 q2 tk2 => ?_) (fun c4 I2 q2 => ?_)
  rotate_left
  · rw [if_pos rfl]
    refine h0 (Or.inr (Or.inr (Or.inr (by omega)))) I2 (eqX.q eqQ.rf q2 (fun a j u1 u2 => by unfold Qcl; omega)) (hR.kp hv (fun a j u => q2.at (by omega)))
  rw [if_neg (by decide)]
  have hd : txOk d := ⟨by omega, hdb, by omega⟩
  have hnr : ¬ refu x d := by
    unfold refu
    omega
  have h1 := h1 hnr
  obtain ⟨m1, g, N1, k, y, hreg, hn, hrun, ⟨ge, gi, hog, hm0, hm1⟩, g1, g2, g3, g4, g5, g6, g7, g8⟩ := reg_ok hv hd
  have hY : regY x d = y := by
    unfold regY
    rw [hreg]
  have hgN : (reg x d).1.2.1 = g := by rw [hreg]
  obtain ⟨oT, oG, oB, oR, oK⟩ := id hC
  have zm : ∀ i, zmom i = 113 + 18 * i := fun i => rfl
  have zms := zm s
  have lxd := lex_lxo hd
  have lxg := lex_lxo oG
  obtain ⟨kl1, kl2, kl3⟩ := kept_le (t := txF d) (t' := txF (moG (sgC x))) lxd.2.1 lxg.2.1
  intro P83 h83
  -- the tape then
  have tape : ∀ t3 : Int32, t3 = (if bt = true then 0 else zi (sgT x).length) → P83 t3 := by
    intro t3 et3
    refine h83 t3 ?_
    intro I4 e4 I5 e5 v2 ev2
    have o2 : ∀ a j, ¬ (7 ≤ a ∧ a < 18) → I2.1 a j = I.1 a j := fun a j u => q2.at (by omega)
    rw [e4, zu_i (by decide), o2 0 7 (by omega), r5, zi_succ, ← e4] at e5
    have o5 : ∀ a j, ¬ (a = 0 ∧ (j = 1 ∨ j = 7)) → ¬ (7 ≤ a ∧ a < 18) → I5.1 a j = I.1 a j := fun a j u v => by
      rw [e5, zu_at, if_neg (by omega), e4, zu_at, if_neg (by omega), o2 a j v]
    have g07 : I5.1 0 7 = zi (sgE x + 1) := by rw [e5, zu_self]
    have g01 : I5.1 0 1 = t3 := by rw [e5, zu_i (by decide), e4, zu_self]
    rw [o5 24 9 (by omega) (by omega), r2.1] at ev2
    subst ev2
    refine r_ruledSize (fun r7' => ?_)
    refine s_now hs (by rw [o5 0 4 (by omega) (by omega)]; exact s4) ?_
    rw [g07]
    unfold w_Grower_regrow
    intro Ia ea Ib eb
    have oab : ∀ a j, ¬ (a = 64 ∧ (j = 5 ∨ j = 6)) → Ib.1 a j = I5.1 a j := fun a j u => by rw [eb, zu_at, if_neg (by omega), ea, zu_at, if_neg (by omega)]
    have ob : ∀ a j, ¬ (a = 64 ∧ (j = 5 ∨ j = 6)) → ¬ (a = 0 ∧ (j = 1 ∨ j = 7)) → ¬ (7 ≤ a ∧ a < 18) → Ib.1 a j = I.1 a j := fun a j u v w => by rw [oab a j u, o5 a j v w]
    have b5 : Ib.1 64 5 = zi (lexL (moG (sgC x))).length := by
      rw [eb, zu_i (by decide), ea, zu_self, o5 _ _ (by omega) (by omega)]
      exact sC.2.2.2.2.1
    have ot : ∀ a j, 7 ≤ a → a < 18 → I5.1 a j = I2.1 a j := fun a j u v => by rw [e5, zu_oo (by omega), e4, zu_oo (by omega)]
    have b6 : Ib.1 64 6 = zi (lexL d).length := by
      rw [eb, zu_self, ea, zu_oo (by decide), ot 7 5 (by decide) (by decide)]
      exact tk2.1
    have tkb : RepT Ib 7 (txF d) (lexL d) := ⟨by rw [oab _ _ (by omega), ot 7 5 (by decide) (by decide)]; exact tk2.1, fun j y hy => by
      rw [oab _ _ (by omega), oab _ _ (by omega), oab _ _ (by omega), oab _ _ (by omega), oab _ _ (by omega), ot _ _ (by decide) (by decide), ot _ _ (by decide) (by decide), ot _ _ (by decide) (by decide), ot _ _ (by decide) (by decide), ot _ _ (by decide) (by decide)]
      exact tk2.2 j y hy⟩
    have repb : RepNX Ib (sgM x) (sgN x) := r2.kp hN.ch (fun a j u1 u2 u3 => ob a j (by omega) (by omega) (by omega))
    have sCb : MoX Ib (zmom s) (sgC x) := sC.kp (fun a j u1 u2 => ob a j (by omega) (by omega) (by omega))
    refine s_keepAlike (by omega) (Or.inl rfl) tkb (oldX_of repb (by omega) hC sCb) b5 b6 lxd.2.1 lxg.2.1 lxd.2.2.1 lxg.2.2.1 lxd.1 lxg.1 (fun J3 q3 A3 B3 => ?_)
    have rep3 : RepNX J3 (sgM x) (sgN x) := repb.kp hN.ch (fun a j u1 u2 u3 => q3.1 a j (by omega))
    have tk3 : RepT J3 7 (txF d) (lexL d) := ⟨by rw [q3.1 _ _ (by omega)]; exact tkb.1, fun j y hy => by
      rw [q3.1 _ _ (by omega), q3.1 _ _ (by omega), q3.1 _ _ (by omega), q3.1 _ _ (by omega), q3.1 _ _ (by omega)]
      exact tkb.2 j y hy⟩
    refine s_nameTokens (g := fun _ => 0) (by omega) (by omega) (Or.inl (by decide)) rep3 hN.ch tk3 (by rw [q3.1 _ _ (by omega)]; exact b5) (by rw [q3.1 _ _ (by omega)]; exact b6) A3 B3 (by omega) (by omega) (by omega) (by omega) lxd.2.2.1 lxg.2.2.1 (fun j hj => by rw [q3.1 _ _ (by omega)]; exact sCb.2.2.2.2.2.1 j hj) (by omega) (fun m' g' N' J4 hn' q4 rep4 _ _ _ gn4 => ?_)
    rw [hn] at hn'
    cases hn'
    -- what lies elsewhere stays
    have o4 : ∀ a j, ¬ (a = 64) → ¬ (a = 0 ∧ (j = 1 ∨ j = 7)) → ¬ (7 ≤ a ∧ a < 18) → a ≠ 19 → ¬ Qnx (sgM x) a j → J4.1 a j = I.1 a j := fun a j u1 u2 u3 u4 u5 => by
      rw [q4.1 a j (fun w => by
        rcases w with w | w | w
        · exact u5 w
        · omega
        · omega), q3.1 a j (by omega), ob a j (by omega) u2 u3]
    have n4 : ∀ a j, ¬ (24 ≤ a ∧ a ≤ 42) → a ≠ 64 → ¬ (a = 0 ∧ (j = 1 ∨ j = 7)) → ¬ (7 ≤ a ∧ a < 18) → a ≠ 19 → J4.1 a j = I.1 a j := fun a j u0 u1 u2 u3 u4 => o4 a j u1 u2 u3 u4 (by unfold Qnx; omega)
    have k4 : ∀ j, J4.1 64 j = if j = 9 then J4.1 64 9 else J3.1 64 j := fun j => by
      by_cases w : j = 9
      · rw [if_pos w, w]
      · rw [if_neg w, q4.1 64 j (by unfold Qnt Qnx; omega)]
    obtain ⟨f1, f2, f3, f4, f5⟩ := r3
    refine s_growAll (R := moR (sgC x)) (Or.inl (by decide)) ge gi (by omega) rep4 (f2.kp (fun a j u1 u2 => n4 a j (by omega) (by omega) (by omega) (by omega) (by omega))) (by rw [n4 _ _ (by omega) (by omega) (by omega) (by omega) (by omega)]; exact f1) ⟨_, fl_0 hN oR.1, rfl⟩ (fun c hc => by obtain ⟨p, p1, p2⟩ := f5.1 c hc; exact ⟨p, p1, by rw [n4 47 c (by omega) (by omega) (by omega) (by omega) (by omega)]; exact p2⟩) (by rw [k4, if_neg (by decide), q3.1 _ _ (by omega)]; exact b5) (by rw [k4, if_neg (by decide), q3.1 _ _ (by omega)]; exact b6) (by rw [k4, if_neg (by decide)]; exact A3) (by rw [k4, if_neg (by decide)]; exact B3) gn4 (fun J5 k' y' hrun' gi' gx' w13 => ?_)
    rw [hrun] at hrun'
    cases hrun'
    obtain ⟨x1, x2, x3, x4, x5, x6⟩ := gx'
    have c5 : ∀ a j, ¬ (24 ≤ a ∧ a ≤ 42) → ¬ (64 ≤ a ∧ a ≤ 68) → ¬ (a = 0 ∧ (j = 1 ∨ j = 7)) → ¬ (7 ≤ a ∧ a < 18) → a ≠ 19 → J5.1 a j = I.1 a j := fun a j u0 u1 u2 u3 u4 => by
      rw [x1.1 a j (by unfold Qgx Qnx; omega), n4 a j u0 (by omega) u2 u3 u4]
    have d5 : ∀ a j, (a = 0 ∧ (j = 1 ∨ j = 7)) ∨ (7 ≤ a ∧ a < 18) → J5.1 a j = Ib.1 a j := fun a j u => by
      rw [x1.1 a j (by unfold Qgx Qnx; omega), q4.1 a j (by unfold Qnt Qnx; omega), q3.1 a j (by omega)]
    have tk5 : RepT J5 7 (txF d) (lexL d) := ⟨by rw [d5 _ _ (by omega)]; exact tkb.1, fun j y hy => by
      rw [d5 _ _ (by omega), d5 _ _ (by omega), d5 _ _ (by omega), d5 _ _ (by omega), d5 _ _ (by omega)]
      exact tkb.2 j y hy⟩
    have g501 : J5.1 0 1 = t3 := by rw [d5 _ _ (by omega), oab _ _ (by omega)]; exact g01
    have g507 : J5.1 0 7 = zi (sgE x + 1) := by rw [d5 _ _ (by omega), oab _ _ (by omega)]; exact g07
    have gn5 : ∀ j, j < (lexL d).length → J5.1 19 j = zi (g j) := fun j hj => by rw [x1.1 19 j (by unfold Qgx Qnx; omega)]; exact gn4 j hj
    have q5 : eqQ Qcl I J5 := by
      have a2 : eqQ Qcl I I2 := eqX.q eqQ.rf q2 (fun a j u1 u2 => by unfold Qcl; omega)
      have a5 : eqQ Qcl I I5 := by
        rw [e5, e4]
        exact (a2.zu (by unfold Qcl; decide)).zu (by unfold Qcl; decide)
      have ab : eqQ Qcl I Ib := by
        rw [eb, ea]
        exact (a5.zu (by unfold Qcl; decide)).zu (by unfold Qcl; decide)
      exact ((ab.tr (q3.mono (fun a j h => by unfold Qcl; omega))).tr (q4.mono (fun a j h => by unfold Qnt Qnx at h; unfold Qcl; omega))).tr (x1.mono (fun a j h => by unfold Qgx Qnx at h; unfold Qcl; omega))
    -- the rest of it, of what is told of it
    have tapeT : ∀ J : zI, J.1 0 1 = t3 → (∀ j, J.1 2 j = I.1 2 j) → TapX J (if bt = true then [] else sgT x) := by
      intro J u1 u2
      by_cases ub : bt = true
      · rw [if_pos ub]
        rw [if_pos ub] at et3
        exact ⟨by rw [u1, et3]; rfl, fun j v hj => by cases hj⟩
      · rw [if_neg ub]
        rw [if_neg ub] at et3
        exact ⟨by rw [u1, et3], fun j v hj => by rw [u2]; exact r1.2 j v hj⟩
    rw [hY] at h1
    by_cases hg : y.1 + 1 = (lexL d).length ∧ topS y.2.2.2.1 = 1
    · rw [if_pos hg]
      rw [if_pos hg] at h1
      refine ⟨Or.inr rfl, ?_⟩
      obtain ⟨b, hst, tr⟩ := g8 hg.1 hg.2
      intro P174 h174
      rw [if_neg (by decide)]
      unfold w_Grower_onTop
      have hst2 : y.2.2.2.1.length = 2 := by rw [hst]; rfl
      have hstR : J5.1 68 1 = zi (regR x d) := (x3.2.2 1 (regR x d, 1) (by rw [hst]; rfl)).2 (Nat.le_refl 1)
      refine (w_get (by decide)).mpr ?_
      rw [x3.2.1, hst2, rg_in (by decide) (show 2 - 1 < 300 by decide), show J5.1 (67 + 1) (2 - 1) = zi (regR x d) from hstR]
      refine s_beGood (c := (lexL d).length) hd.2.2 tk5.1 (fun I26 q6 z1 z2 z3 z4 z5 => ?_)
      obtain ⟨w8, hw8⟩ : ∃ w8, I26.1 4 8 = w8 := ⟨_, rfl⟩
      have mc : MoX I26 4 (d, d, true, regR x d, (reg x d).1.2.1, w8) := by
        refine ⟨?_, fun j hj => ?_, ⟨?_, fun j w hw => ?_⟩, ?_, ?_, fun j hj => ?_, fun j w hw => ?_, ?_, hw8⟩
        · rw [z5 _ _ (by omega), c5 _ _ (by omega) (by omega) (by omega) (by omega) (by omega)]
          exact hd1
        · rw [z5 _ _ (by omega), c5 _ _ (by omega) (by omega) (by omega) (by omega) (by omega)]
          exact hd2 (by omega) j hj
        · rw [z5 _ _ (by omega)]
          exact tk5.1
        · rw [z5 _ _ (by omega), z5 _ _ (by omega), z5 _ _ (by omega), z5 _ _ (by omega), z5 _ _ (by omega)]
          exact tk5.2 j w hw
        · rw [z1]
          rfl
        · exact z3
        · rw [z5 _ _ (by omega)]
          show J5.1 19 j = zi ((reg x d).1.2.1 j)
          rw [hgN]
          exact gn5 j hj
        · rw [show (4 + 17 : Nat) = 21 from rfl, z4 j (List.getElem?_eq_some_iff.mp hw).1]
          exact (tk5.2 j w hw).2.1
        · rw [z2]
          rfl
      have o6 : ∀ a j, ¬ (4 ≤ a ∧ a < 22) → I26.1 a j = J5.1 a j := fun a j u => q6.at (by omega)
      refine h174 I26 ?_
      intro P193 h193
      rw [if_neg (by decide)]
      refine h193 _ (r_tellGrowth (fun I13 q13 => ?_))
      intro P222 h222
      rw [if_neg (by decide)]
      have p13 : ∀ a j, ¬ (4 ≤ a ∧ a < 22) → a ≠ 23 → I13.1 a j = J5.1 a j := fun a j u1 u2 => by rw [q13.1 a j u2, o6 a j u1]
      have hcm0 : (chg x d []).2.1 = (y.2.1, y.2.2.1) := by
        unfold chg
        rw [hY, if_pos hg]
      have oN2 : MoOk (sgM (chg x d [])) (sgN (chg x d [])) (newC x d) := (chg_ok (tp := []) hv hd hnr ⟨Nat.zero_le _, fun b hb => by cases hb⟩ he).2.2.2.2.2.2.2.1
      rw [show sgM (chg x d []) = y.2.1 from congrArg Prod.fst hcm0, show sgN (chg x d []) = y.2.2.1 from congrArg Prod.snd hcm0] at oN2
      obtain ⟨pl1, pl2⟩ := prt_R g4 oN2
      have wz := tkz_R g4 oN2
      rw [show moR (newC x d) = regR x d by unfold newC; rw [hY, if_pos hg]; rfl] at pl1 pl2 wz
      rw [show moG (newC x d) = d by unfold newC; rw [hY, if_pos hg]; rfl, show moO (newC x d) = g by unfold newC; rw [hY, if_pos hg]; exact hgN] at wz
      refine s_deskLook (R := regR x d) (rep := x2.kp g4.ch (fun a j u1 u2 u3 => p13 a j (by omega) (by omega))) g4 g5 (by omega) tr (fun c hc => by have := g7 c hc; omega) (fun c hc => by obtain ⟨p, p1, p2⟩ := f5.1 c hc; exact ⟨p, p1, by rw [p13 47 c (by omega) (by omega), c5 47 c (by omega) (by omega) (by omega) (by omega) (by omega)]; exact p2⟩) pl1 pl2 (Or.inl (by decide)) (by rw [q13.1 _ _ (by decide)]; exact z2) ⟨by rw [q13.1 _ _ (by decide)]; exact mc.2.2.2.2.1, fun j hj => by rw [q13.1 (4 + 15) j (show ¬ (4 + 15 : Nat) = 23 by decide)]; rw [← hgN]; exact mc.2.2.2.2.2.1 j hj, wz⟩ (fun I17 q17 vi17 => ?_)
      have p17 : ∀ a j, ¬ (4 ≤ a ∧ a < 22) → a ≠ 23 → ¬ Qla a j → I17.1 a j = J5.1 a j := fun a j u1 u2 u3 => by rw [q17.1 a j u3, p13 a j u1 u2]
      unfold w_Desk_layRow
      intro v1 ev1
      obtain ⟨rr1, rr2⟩ := runs_ok g4 g5 tr
      have pr17 : PrX I17 (sgP x) := r4.kp (fun a j u1 u2 u3 => by rw [p17 a j (by omega) (by omega) (by unfold Qla Qvi Qrr Qpn; omega), c5 a j (by omega) (by omega) (by omega) (by omega) (by omega)])
      rw [vi17.2.2.2.1.1]
      refine s_layAll (fun r hr => by have := rr1 r hr; omega) rr2 (by omega) hP1 pr17 vi17.2.2.2.1.2 (fun I18 q18 pr18 I19 e19 => (w_set (by decide)).mpr (r_tellGood (fun I14 q14 => ?_)))
      have p14 : ∀ a j, a ≠ 23 → ¬ (a = 4 ∧ j = 8) → ¬ Qpr a j → I14.1 a j = I17.1 a j := fun a j u1 u2 u3 => by
        rw [q14.1 a j u1, rs_o (by omega), e19, zu_at, if_neg u2, q18.1 a j u3]
      have pr14 : PrX I14 (layAllR (runsOf y.2.2.1 (regR x d)) (sgP x)) := pr18.kp (fun a j u1 u2 u3 => by rw [q14.1 a j (by omega), rs_o (by omega), e19, zu_at, if_neg (by omega)])
      refine h222 I14 ?_
      have w14 : ∀ a j, ¬ (4 ≤ a ∧ a < 22) → a ≠ 23 → ¬ Qla a j → ¬ Qpr a j → I14.1 a j = J5.1 a j := fun a j u1 u2 u3 u4 => by rw [p14 a j u2 (by omega) u4, p17 a j u1 u2 u3]
      have q14J : eqQ Qcl I I14 := by
        refine (((q5.tr ?_).tr (q13.mono (fun a j h => by unfold Qcl; omega))).tr (q17.mono (fun a j h => by unfold Qla Qvi Qrr Qpn at h; unfold Qcl; omega))).tr ?_
        · exact eqX.q eqQ.rf q6 (fun a j u1 u2 => by unfold Qcl; omega)
        · refine eqQ.tr ?_ (q14.mono (fun a j h => by unfold Qcl; omega))
          refine eqQ.rs ?_ (fun _ => by unfold Qcl; decide)
          rw [e19]
          exact (q18.mono (fun a j h => by unfold Qpr at h; unfold Qcl; omega)).zu (by unfold Qcl; decide)
      refine s_turn (x := x) (c := newC x d) hs (by rw [w14 _ _ (by omega) (by omega) (by unfold Qla Qvi Qrr Qpn; omega) (by unfold Qpr; omega), c5 _ _ (by omega) (by omega) (by omega) (by omega) (by omega)]; exact s4) (by rw [w14 _ _ (by omega) (by omega) (by unfold Qla Qvi Qrr Qpn; omega) (by unfold Qpr; omega), c5 _ _ (by omega) (by omega) (by omega) (by omega) (by omega)]; exact r6) (by omega) ?_ ?_ ?_ (sC.kp (fun a j u1 u2 => by rw [w14 a j (by omega) (by omega) (by unfold Qla Qvi Qrr Qpn; omega) (by unfold Qpr; omega), c5 a j (by omega) (by omega) (by omega) (by omega) (by omega)])) (fun kk yy hy => (sA kk yy hy).kp (fun a j u1 u2 => by
          have := zm ((s + 20 - kk) % 21)
          rw [w14 a j (by omega) (by omega) (by unfold Qla Qvi Qrr Qpn; omega) (by unfold Qpr; omega), c5 a j (by omega) (by omega) (by omega) (by omega) (by omega)])) (fun J qJ t1 t2 t3' => ?_)
      · have mcc : MoX I14 4 (newC x d) := by
          obtain ⟨a1, a2, ⟨a3, a4⟩, a5, a6, a7, a8, a9, -⟩ := mc
          have hnc : newC x d = (d, d, true, regR x d, (reg x d).1.2.1, rowI (runsOf y.2.2.1 (regR x d)) (sgP x)) := by
            unfold newC
            rw [hY, if_pos hg]
          rw [hnc]
          have kk : ∀ a j, 4 ≤ a → a < 22 → ¬ (a = 4 ∧ j = 8) → I14.1 a j = I26.1 a j := fun a j u1 u2 u3 => by
            rw [p14 a j (by omega) u3 (by unfold Qpr; omega), q17.1 a j (by unfold Qla Qvi Qrr Qpn; omega), q13.1 a j (by omega)]
          refine ⟨by rw [kk _ _ (by decide) (by decide) (by decide)]; exact a1, fun j hj => by rw [kk _ _ (by decide) (by decide) (by omega)]; exact a2 j hj, ⟨by rw [kk _ _ (by decide) (by decide) (by decide)]; exact a3, fun j w hw => ?_⟩, by rw [kk _ _ (by decide) (by decide) (by decide)]; exact a5, by rw [kk _ _ (by decide) (by decide) (by decide)]; exact a6, fun j hj => by rw [kk _ _ (by decide) (by decide) (by omega)]; exact a7 j hj, fun j w hw => by rw [kk _ _ (by decide) (by decide) (by omega)]; exact a8 j w hw, by rw [kk _ _ (by decide) (by decide) (by decide)]; exact a9, by rw [q14.1 4 8 (by decide), rs_o (by decide), e19]; exact zu_self⟩
          rw [kk _ _ (by decide) (by decide) (by omega), kk _ _ (by decide) (by decide) (by omega), kk _ _ (by decide) (by decide) (by omega), kk _ _ (by decide) (by decide) (by omega), kk _ _ (by decide) (by decide) (by omega)]
          exact a4 j w hw
        exact mcc
      · unfold newC
        rw [hY, if_pos hg]
        exact hd
      · unfold newC
        rw [hY, if_pos hg]
        exact hd
      · rw [if_neg (by decide)]
        have wJ : ∀ a j, ¬ (a = 0 ∧ 4 ≤ j ∧ j ≤ 6) → ¬ (113 ≤ a ∧ a < 491) → J.1 a j = I14.1 a j := fun a j u1 u2 => qJ.1 a j (by omega)
        refine h1 J (q14J.tr (qJ.mono (fun a j h => by unfold Qcl; omega))) ?_
        obtain ⟨s', hs', b1, b2, b3⟩ := t3'
        have hcm : (chg x d (if bt = true then [] else sgT x)).2.1 = (y.2.1, y.2.2.1) := by
          unfold chg
          rw [hY, if_pos hg]
        have hcN : sgN (chg x d (if bt = true then [] else sgT x)) = y.2.2.1 := congrArg Prod.snd hcm
        have hcM : sgM (chg x d (if bt = true then [] else sgT x)) = y.2.1 := congrArg Prod.fst hcm
        have hcP : sgP (chg x d (if bt = true then [] else sgT x)) = layAllR (runsOf y.2.2.1 (regR x d)) (sgP x) := by
          unfold chg sgP
          rw [hY]
          exact if_pos hg
        have hcR : moR (sgC (chg x d (if bt = true then [] else sgT x))) = regR x d := by
          show moR (newC x d) = _
          unfold newC
          rw [hY, if_pos hg]
          rfl
        refine ⟨tapeT J ?_ (fun j => ?_), ?_, ?_, ?_, ?_, t1, t2, s', hs', b1, b2, b3, fun kk yy hy => (by cases hy)⟩
        · rw [wJ _ _ (by omega) (by omega), w14 _ _ (by omega) (by omega) (by unfold Qla Qvi Qrr Qpn; omega) (by unfold Qpr; omega)]
          exact g501
        · rw [wJ _ _ (by omega) (by omega), w14 _ _ (by omega) (by omega) (by unfold Qla Qvi Qrr Qpn; omega) (by unfold Qpr; omega), c5 _ _ (by omega) (by omega) (by omega) (by omega) (by omega)]
        · rw [hcM, hcN]
          exact x2.kp g4.ch (fun a j u1 u2 u3 => by rw [wJ _ _ (by omega) (by omega), w14 _ _ (by omega) (by omega) (by unfold Qla Qvi Qrr Qpn; omega) (by unfold Qpr; omega)])
        · rw [hcN, hcR]
          exact vi17.kp (fun a j u => by rw [wJ _ _ (by omega) (by omega), p14 a j (by omega) (by omega) (by unfold Qpr; omega)])
        · rw [hcP]
          exact pr14.kp (fun a j u1 u2 u3 => by rw [wJ _ _ (by omega) (by omega)])
        · rw [wJ _ _ (by omega) (by omega), w14 _ _ (by omega) (by omega) (by unfold Qla Qvi Qrr Qpn; omega) (by unfold Qpr; omega)]
          exact g507
    · rw [if_neg hg]
      rw [if_neg hg] at h1
      refine ⟨Or.inl rfl, ?_⟩
      intro P174 h174
      rw [if_pos rfl]
      intro I22 e22
      have o22 : ∀ a j, ¬ (a = 24 ∧ j = 9) → I22.1 a j = J5.1 a j := fun a j u => by rw [e22, zu_at, if_neg u]
      refine s_now hs (by rw [o22 _ _ (by omega), c5 _ _ (by omega) (by omega) (by omega) (by omega) (by omega)]; exact s4) ?_
      have sC22 : MoX I22 (zmom s) (sgC x) := sC.kp (fun a j u1 u2 => by rw [o22 _ _ (by omega), c5 a j (by omega) (by omega) (by omega) (by omega) (by omega)])
      refine s_keepGood (c := (lexL (moG (sgC x))).length) (by omega) oG.2.2 sC22.2.2.2.2.1 (fun I24 q24 z1 z2 z2r z3 z4 z5 z6 => ?_)
      have o24 : ∀ a j, ¬ (4 ≤ a ∧ a < 22) → I24.1 a j = I22.1 a j := fun a j u => q24.at (by omega)
      have nc : newC x d = (d, moG (sgC x), false, moR (sgC x), moO (sgC x), moW (sgC x)) := by
        unfold newC
        rw [hY, if_neg hg]
      have mc : MoX I24 4 (newC x d) := by
        rw [nc]
        refine ⟨?_, fun j hj => ?_, ⟨?_, fun j w hw => ?_⟩, ?_, ?_, fun j hj => ?_, fun j w hw => ?_, ?_, ?_⟩
        · rw [z6 _ _ (by omega), o22 _ _ (by omega), c5 _ _ (by omega) (by omega) (by omega) (by omega) (by omega)]
          exact hd1
        · rw [z6 _ _ (by omega), o22 _ _ (by omega), c5 _ _ (by omega) (by omega) (by omega) (by omega) (by omega)]
          exact hd2 (by omega) j hj
        · rw [z6 _ _ (by omega), o22 _ _ (by omega)]
          exact tk5.1
        · rw [z6 _ _ (by omega), z6 _ _ (by omega), z6 _ _ (by omega), z6 _ _ (by omega), z6 _ _ (by omega), o22 _ _ (by omega), o22 _ _ (by omega), o22 _ _ (by omega), o22 _ _ (by omega), o22 _ _ (by omega)]
          exact tk5.2 j w hw
        · rw [z1]
          rfl
        · exact z3
        · rw [z4 j hj]
          exact sC22.2.2.2.2.2.1 j hj
        · rw [z5 j (List.getElem?_eq_some_iff.mp hw).1]
          exact sC22.2.2.2.2.2.2.1 j w hw
        · rw [z2]
          exact sC22.2.2.2.2.2.2.2.1
        · rw [z2r]
          exact sC22.2.2.2.2.2.2.2.2
      refine h174 I24 ?_
      intro P193 h193
      rw [if_pos rfl]
      refine h193 _ (r_tellGrowth (fun I13 q13 => ?_))
      intro P222 h222
      rw [if_pos rfl]
      refine h222 I13 ?_
      have w13' : ∀ a j, ¬ (4 ≤ a ∧ a < 22) → a ≠ 23 → ¬ (a = 24 ∧ j = 9) → I13.1 a j = J5.1 a j := fun a j u1 u2 u3 => by rw [q13.1 a j u2, o24 a j u1, o22 a j u3]
      have q13J : eqQ Qcl I I13 := by
        refine eqQ.tr ?_ (q13.mono (fun a j h => by unfold Qcl; omega))
        refine eqX.q ?_ q24 (fun a j u1 u2 => by unfold Qcl; omega)
        rw [e22]
        exact q5.zu (by unfold Qcl; decide)
      refine s_turn (x := x) (c := newC x d) hs (by rw [w13' _ _ (by omega) (by omega) (by omega), c5 _ _ (by omega) (by omega) (by omega) (by omega) (by omega)]; exact s4) (by rw [w13' _ _ (by omega) (by omega) (by omega), c5 _ _ (by omega) (by omega) (by omega) (by omega) (by omega)]; exact r6) (by omega) (mc.kp (fun a j u1 u2 => q13.1 a j (by omega))) (by rw [nc]; exact hd) (by rw [nc]; exact oG) (sC.kp (fun a j u1 u2 => by rw [w13' a j (by omega) (by omega) (by omega), c5 a j (by omega) (by omega) (by omega) (by omega) (by omega)])) (fun kk yy hy => (sA kk yy hy).kp (fun a j u1 u2 => by
          have := zm ((s + 20 - kk) % 21)
          rw [w13' a j (by omega) (by omega) (by omega), c5 a j (by omega) (by omega) (by omega) (by omega) (by omega)])) (fun J qJ t1 t2 t3' => ?_)
      rw [if_pos rfl]
      have wJ : ∀ a j, ¬ (a = 0 ∧ 4 ≤ j ∧ j ≤ 6) → ¬ (113 ≤ a ∧ a < 491) → J.1 a j = I13.1 a j := fun a j u1 u2 => qJ.1 a j (by omega)
      refine h1 J (q13J.tr (qJ.mono (fun a j h => by unfold Qcl; omega))) ?_
      obtain ⟨s', hs', b1, b2, b3⟩ := t3'
      have hcm : (chg x d (if bt = true then [] else sgT x)).2.1 = (sgM x, sgN x) := by
        unfold chg
        rw [hY, if_neg hg]
      have hcN : sgN (chg x d (if bt = true then [] else sgT x)) = sgN x := congrArg Prod.snd hcm
      have hcM : sgM (chg x d (if bt = true then [] else sgT x)) = sgM x := congrArg Prod.fst hcm
      have hcP : sgP (chg x d (if bt = true then [] else sgT x)) = sgP x := by
        unfold chg sgP
        rw [hY]
        exact if_neg hg
      have hcR : moR (sgC (chg x d (if bt = true then [] else sgT x))) = moR (sgC x) := by
        show moR (newC x d) = _
        rw [nc]
        rfl
      refine ⟨tapeT J ?_ (fun j => ?_), ?_, ?_, ?_, ?_, t1, t2, s', hs', b1, b2, b3, fun kk yy hy => (by cases hy)⟩
      · rw [wJ _ _ (by omega) (by omega), w13' _ _ (by omega) (by omega) (by omega)]
        exact g501
      · rw [wJ _ _ (by omega) (by omega), w13' _ _ (by omega) (by omega) (by omega), c5 _ _ (by omega) (by omega) (by omega) (by omega) (by omega)]
      · rw [hcM, hcN]
        refine ⟨?_, fun kk hk => ?_⟩
        · rw [wJ _ _ (by omega) (by omega), q13.1 _ _ (by omega), o24 _ _ (by omega), e22, zu_self]
        · rw [← g1 kk hk]
          exact (x2.2 kk (by omega)).kept (g4.ch kk (by omega)) (fun a u1 u2 => by rw [wJ _ _ (by omega) (by omega), w13' _ _ (by omega) (by omega) (by omega)]) (fun i hi => by rw [wJ _ _ (by omega) (by omega), w13' _ _ (by omega) (by omega) (by omega)])
      · rw [hcN, hcR]
        exact ViX.kp ⟨f1, f2, f3, f4, f5⟩ (fun a j u => by rw [wJ _ _ (by omega) (by omega), w13' _ _ (by omega) (by omega) (by omega)]; exact (c5 a j (by omega) (by omega) (by omega) (by omega) (by omega)))
      · rw [hcP]
        exact r4.kp (fun a j u1 u2 u3 => by rw [wJ _ _ (by omega) (by omega), w13' _ _ (by omega) (by omega) (by omega), c5 a j (by omega) (by omega) (by omega) (by omega) (by omega)])
      · rw [wJ _ _ (by omega) (by omega), w13' _ _ (by omega) (by omega) (by omega)]
        exact g507
  by_cases ub : bt = true
  · rw [ub, if_neg (show ¬ b01 true = 0 by decide)]
    exact tape 0 (by rw [if_pos ub])
  · have hbf : bt = false := by
      cases bt
      · rfl
      · exact absurd rfl ub
    rw [hbf, if_pos (show b01 false = 0 by decide)]
    exact tape _ (by rw [if_neg ub, q2.at (by omega)]; exact r1.1)
/-! ===== what the model keeps ===== -/
/-- the TEXT as it is, in the model's rows -/
def NowT (I : zI) (d : List Int32) : Prop :=
  I.1 491 5 = zi d.length ∧ (∀ j, j < d.length → I.1 494 j = txF d j) ∧ I.1 491 15 = zi (lexL d).length ∧ ∀ (j : Nat) (y : Nat × Nat × Nat), (lexL d)[j]? = some y → I.1 501 j = zi y.1 ∧ I.1 502 j = zi y.2.1 ∧ I.1 503 j = zi y.2.2
/-- the last good one -/
def GoodT (I : zI) (d : List Int32) : Prop := I.1 491 7 = zi d.length ∧ (∀ j, j < d.length → I.1 495 j = txF d j) ∧ OldU I (txF d) (lexL d)
/-- the new one -/
def NewT (I : zI) (d : List Int32) : Prop := I.1 491 3 = zi d.length ∧ (∀ j, j < d.length → I.1 493 j = txF d j) ∧ RepU I (txF d) (lexL d)
theorem NewT.kp {I J : zI} {d : List Int32} (h : NewT I d) (e1 : J.1 491 3 = I.1 491 3) (e2 : J.1 491 9 = I.1 491 9) (e : ∀ a j, a = 493 ∨ (496 ≤ a ∧ a ≤ 498) → J.1 a j = I.1 a j) (e3 : ∀ j, J.2 499 j = I.2 499 j) : NewT J d := by
  obtain ⟨h1, h2, h3, h4⟩ := h
  refine ⟨e1.trans h1, fun j hj => by rw [e _ _ (Or.inl rfl)]; exact h2 j hj, e2.trans h3, fun j y hy => ?_⟩
  obtain ⟨z1, z2, z3, z4⟩ := h4 j y hy
  exact ⟨by rw [e _ _ (by omega)]; exact z1, by rw [e _ _ (by omega)]; exact z2, by rw [e _ _ (by omega)]; exact z3, by rw [e3]; exact z4⟩
theorem NowT.kp {I J : zI} {d : List Int32} (h : NowT I d) (e1 : J.1 491 5 = I.1 491 5) (e2 : J.1 491 15 = I.1 491 15) (e : ∀ a j, a = 494 ∨ (501 ≤ a ∧ a ≤ 503) → J.1 a j = I.1 a j) : NowT J d := by
  obtain ⟨h1, h2, h3, h4⟩ := h
  refine ⟨e1.trans h1, fun j hj => by rw [e _ _ (Or.inl rfl)]; exact h2 j hj, e2.trans h3, fun j y hy => ?_⟩
  rw [e 501 _ (by omega), e 502 _ (by omega), e 503 _ (by omega)]
  exact h4 j y hy
theorem GoodT.kp {I J : zI} {d : List Int32} (h : GoodT I d) (e1 : J.1 491 7 = I.1 491 7) (e2 : J.1 491 19 = I.1 491 19) (e : ∀ a j, a = 495 ∨ (504 ≤ a ∧ a ≤ 506) → J.1 a j = I.1 a j) (e3 : ∀ j, J.2 507 j = I.2 507 j) : GoodT J d := by
  obtain ⟨h1, h2, h3, h4⟩ := h
  refine ⟨e1.trans h1, fun j hj => by rw [e _ _ (Or.inl rfl)]; exact h2 j hj, e2.trans h3, fun j y hy => ?_⟩
  obtain ⟨z1, z2, z3, z4⟩ := h4 j y hy
  exact ⟨by rw [e _ _ (by omega)]; exact z1, by rw [e _ _ (by omega)]; exact z2, by rw [e _ _ (by omega)]; exact z3, by rw [e3]; exact z4⟩
def Qkg (a j : Nat) : Prop := (a = 491 ∧ (j = 7 ∨ j = 19)) ∨ a = 495 ∨ (504 ≤ a ∧ a ≤ 507)
theorem s_keepsGood {d : List Int32} {I : zI} {K : zI → Prop} (hd : txOk d) (hn : NewT I d) (hK : ∀ J, eqQ Qkg I J → GoodT J d → K J) : w_M_keepsGood I K := by
  intro I1 e1 I2 e2
  obtain ⟨n1, n2, n3, n4⟩ := id hn
  have hd1 := hd.1
  have hd3 := hd.2.2
  have q2 : eqQ Qkg I I2 := by
    rw [e2, e1]
    exact (eqQ.rf.zu (Or.inl ⟨rfl, Or.inl rfl⟩)).zu (Or.inl ⟨rfl, Or.inr rfl⟩)
  have g7 : I2.1 491 7 = zi d.length := by rw [e2, zu_i (by decide), e1, zu_self, n1]
  have g19 : I2.1 491 19 = zi (lexL d).length := by rw [e2, zu_self, e1, zu_i (by decide), n3]
  intro P18 h18
  have main : ∀ (f v : Nat) (J : zI), v + f = d.length → eqQ Qkg I J → J.1 491 7 = zi d.length → J.1 491 19 = zi (lexL d).length → (∀ j, j < v → J.1 495 j = txF d j) → P18 (zi v) J := by
    intro f
    induction f with
    | zero =>
      intro v J hv q a7 a19 h
      refine h18 _ _ ?_
      rw [q.1 491 3 (by unfold Qkg; omega), n1, if_pos ((zi_le (by omega) (by omega)).mpr (by omega))]
      intro P46 h46
      have inner : ∀ (f v : Nat) (B : zI), v + f = (lexL d).length → eqQ Qkg I B → B.1 491 7 = zi d.length → B.1 491 19 = zi (lexL d).length → (∀ j, j < d.length → B.1 495 j = txF d j) → (∀ (j : Nat) (y : Nat × Nat × Nat), j < v → (lexL d)[j]? = some y → B.1 504 j = zi y.1 ∧ B.1 505 j = zi y.2.1 ∧ B.1 506 j = zi y.2.2 ∧ B.2 507 j = isV (txF d) y) → P46 (zi v) B := by
        intro f
        induction f with
        | zero =>
          intro v B hv qB b7 b19 h1 h2
          refine h46 _ _ ?_
          rw [qB.1 491 9 (by unfold Qkg; omega), n3, if_pos ((zi_le (by omega) (by omega)).mpr (by omega))]
          exact hK B qB ⟨b7, h1, b19, fun j y hy => h2 j y (by have := (List.getElem?_eq_some_iff.mp hy).1; omega) hy⟩
        | succ f ih =>
          intro v B hv qB b7 b19 h1 h2
          refine h46 _ _ ?_
          rw [qB.1 491 9 (by unfold Qkg; omega), n3, if_neg (fun u => by have := (zi_le (by omega) (by omega)).mp u; omega), zi_tn (show v < 2147483648 by omega)]
          have i1 : vp_in (zi v) 710 := (zin_iff (by omega)).mpr (by omega)
          have i2 : vp_in (zi v) 110 := (zin_iff (by omega)).mpr (by omega)
          refine ⟨i1, i2, fun I7 e7 => ⟨i1, i2, fun I8 e8 => ⟨i1, i2, fun I9 e9 => ⟨i1, i2, fun I10 e10 w ew => ?_⟩⟩⟩⟩
          rw [ew, zi_succ]
          have hx : (lexL d)[v]? = some ((lexL d)[v]'(by omega)) := List.getElem?_eq_getElem (by omega)
          generalize (lexL d)[v]'(by omega) = x at hx
          obtain ⟨z1, z2, z3, z4⟩ := n4 v x hx
          rw [qB.1 496 v (by unfold Qkg; omega), z1] at e7
          rw [show I7.1 497 v = zi x.2.1 by rw [e7, zu_oo (by decide), qB.1 497 v (by unfold Qkg; omega)]; exact z2] at e8
          rw [show I8.1 498 v = zi x.2.2 by rw [e8, zu_oo (by decide), e7, zu_oo (by decide), qB.1 498 v (by unfold Qkg; omega)]; exact z3] at e9
          rw [show I9.2 499 v = isV (txF d) x by rw [e9, zu_2, e8, zu_2, e7, zu_2, qB.2 499 v (by unfold Qkg; omega)]; exact z4] at e10
          have o : ∀ a j, ¬ (504 ≤ a ∧ a ≤ 506 ∧ j = v) → I10.1 a j = B.1 a j := fun a j u => by rw [e10, zul_1, e9, zu_at, if_neg (by omega), e8, zu_at, if_neg (by omega), e7, zu_at, if_neg (by omega)]
          refine ih (v + 1) I10 (by omega) ?_ (by rw [o _ _ (by omega)]; exact b7) (by rw [o _ _ (by omega)]; exact b19) (fun j hj => by rw [o _ _ (by omega)]; exact h1 j hj) (fun j y hj hy => ?_)
          · rw [e10, e9, e8, e7]
            exact (((qB.zu (Or.inr (Or.inr (by omega)))).zu (Or.inr (Or.inr (by omega)))).zu (Or.inr (Or.inr (by omega)))).zul (Or.inr (Or.inr (by omega)))
          · by_cases u : j = v
            · subst u
              rw [hx] at hy
              cases hy
              refine ⟨?_, ?_, ?_, ?_⟩
              · rw [e10, zul_1, e9, zu_oo (by decide), e8, zu_oo (by decide), e7, zu_self]
              · rw [e10, zul_1, e9, zu_oo (by decide), e8, zu_self]
              · rw [e10, zul_1, e9, zu_self]
              · rw [e10, zul_at, if_pos ⟨rfl, rfl⟩]
            · obtain ⟨y1, y2, y3, y4⟩ := h2 j y (by omega) hy
              rw [o 504 j (by omega), o 505 j (by omega), o 506 j (by omega)]
              refine ⟨y1, y2, y3, ?_⟩
              rw [e10, zul_at, if_neg (by omega), e9, zu_2, e8, zu_2, e7, zu_2]
              exact y4
      exact inner (lexL d).length 0 J (by omega) q a7 a19 (fun j hj => h j (by omega)) (fun j y hj => by omega)
    | succ f ih =>
      intro v J hv q a7 a19 h
      refine h18 _ _ ?_
      rw [q.1 491 3 (by unfold Qkg; omega), n1, if_neg (fun u => by have := (zi_le (by omega) (by omega)).mp u; omega), zi_tn (show v < 2147483648 by omega)]
      refine ⟨(zin_iff (by omega)).mpr (by omega), (zin_iff (by omega)).mpr (by omega), fun I13 e13 w ew => ?_⟩
      rw [q.1 493 v (by unfold Qkg; omega), n2 v (by omega)] at e13
      rw [ew, zi_succ]
      refine ih (v + 1) I13 (by omega) (by rw [e13]; exact q.zu (Or.inr (Or.inl rfl))) (by rw [e13, zu_oo (by decide)]; exact a7) (by rw [e13, zu_oo (by decide)]; exact a19) (fun j hj => ?_)
      rw [e13, zu_at]
      by_cases u : j = v
      · rw [if_pos ⟨rfl, u⟩, u]
      · rw [if_neg (fun x => u x.2)]
        exact h j (by omega)
  exact main d.length 0 I2 (by omega) q2 g7 g19 (fun j hj => by omega)
def Qkt (a j : Nat) : Prop := (a = 491 ∧ (j = 5 ∨ j = 15)) ∨ a = 494 ∨ (501 ≤ a ∧ a ≤ 503)
theorem s_keepsTokens {d : List Int32} {gd : Bool} {I : zI} {K : zI → Prop} (hd : txOk d) (hn : NewT I d) (h8 : I.1 491 8 = b01 gd) (hK : ∀ J, eqQ (fun a j => Qkt a j ∨ (gd = true ∧ Qkg a j)) I J → NowT J d → (gd = true → GoodT J d) → K J) : w_M_keepsTokens I K := by
  intro I1 e1 I2 e2
  obtain ⟨n1, n2, n3, n4⟩ := id hn
  have hd1 := hd.1
  have hd3 := hd.2.2
  have q2 : eqQ Qkt I I2 := by
    rw [e2, e1]
    exact (eqQ.rf.zu (Or.inl ⟨rfl, Or.inl rfl⟩)).zu (Or.inl ⟨rfl, Or.inr rfl⟩)
  have g5 : I2.1 491 5 = zi d.length := by rw [e2, zu_i (by decide), e1, zu_self, n1]
  have g15 : I2.1 491 15 = zi (lexL d).length := by rw [e2, zu_self, e1, zu_i (by decide), n3]
  intro P18 h18
  have main : ∀ (f v : Nat) (J : zI), v + f = d.length → eqQ Qkt I J → J.1 491 5 = zi d.length → J.1 491 15 = zi (lexL d).length → (∀ j, j < v → J.1 494 j = txF d j) → P18 (zi v) J := by
    intro f
    induction f with
    | zero =>
      intro v J hv q a5 a15 h
      refine h18 _ _ ?_
      rw [q.1 491 3 (by unfold Qkt; omega), n1, if_pos ((zi_le (by omega) (by omega)).mpr (by omega))]
      intro P46 h46
      have inner : ∀ (f v : Nat) (B : zI), v + f = (lexL d).length → eqQ Qkt I B → B.1 491 5 = zi d.length → B.1 491 15 = zi (lexL d).length → (∀ j, j < d.length → B.1 494 j = txF d j) → (∀ (j : Nat) (y : Nat × Nat × Nat), j < v → (lexL d)[j]? = some y → B.1 501 j = zi y.1 ∧ B.1 502 j = zi y.2.1 ∧ B.1 503 j = zi y.2.2) → P46 (zi v) B := by
        intro f
        induction f with
        | zero =>
          intro v B hv qB b5 b15 h1 h2
          refine h46 _ _ ?_
          rw [qB.1 491 9 (by unfold Qkt; omega), n3, if_pos ((zi_le (by omega) (by omega)).mpr (by omega)), qB.1 491 8 (by unfold Qkt; omega), h8]
          have nt : NowT B d := ⟨b5, h1, b15, fun j y hy => h2 j y (by have := (List.getElem?_eq_some_iff.mp hy).1; omega) hy⟩
          cases gd with
          | false =>
            rw [if_pos (show b01 false = 0 by decide)]
            exact hK B (qB.mono (fun a j h => Or.inl h)) nt (fun u => by cases u)
          | true =>
            rw [if_neg (show ¬ b01 true = 0 by decide)]
            refine s_keepsGood hd (hn.kp (qB.1 _ _ (by unfold Qkt; omega)) (qB.1 _ _ (by unfold Qkt; omega)) (fun a j u => qB.1 a j (by unfold Qkt; omega)) (fun j => qB.2 499 j (by unfold Qkt; omega))) (fun C qC gC => ?_)
            exact hK C ((qB.mono (fun a j h => Or.inl h)).tr (qC.mono (fun a j h => Or.inr ⟨rfl, h⟩))) (nt.kp (qC.1 _ _ (by unfold Qkg; omega)) (qC.1 _ _ (by unfold Qkg; omega)) (fun a j u => qC.1 a j (by unfold Qkg; omega))) (fun _ => gC)
        | succ f ih =>
          intro v B hv qB b5 b15 h1 h2
          refine h46 _ _ ?_
          rw [qB.1 491 9 (by unfold Qkt; omega), n3, if_neg (fun u => by have := (zi_le (by omega) (by omega)).mp u; omega), zi_tn (show v < 2147483648 by omega)]
          have i1 : vp_in (zi v) 710 := (zin_iff (by omega)).mpr (by omega)
          have i2 : vp_in (zi v) 110 := (zin_iff (by omega)).mpr (by omega)
          refine ⟨i1, i2, fun I7 e7 => ⟨i1, i2, fun I8 e8 => ⟨i1, i2, fun I9 e9 w ew => ?_⟩⟩⟩
          rw [ew, zi_succ]
          have hx : (lexL d)[v]? = some ((lexL d)[v]'(by omega)) := List.getElem?_eq_getElem (by omega)
          generalize (lexL d)[v]'(by omega) = x at hx
          obtain ⟨z1, z2, z3, z4⟩ := n4 v x hx
          rw [qB.1 496 v (by unfold Qkt; omega), z1] at e7
          rw [show I7.1 497 v = zi x.2.1 by rw [e7, zu_oo (by decide), qB.1 497 v (by unfold Qkt; omega)]; exact z2] at e8
          rw [show I8.1 498 v = zi x.2.2 by rw [e8, zu_oo (by decide), e7, zu_oo (by decide), qB.1 498 v (by unfold Qkt; omega)]; exact z3] at e9
          have o : ∀ a j, ¬ (501 ≤ a ∧ a ≤ 503 ∧ j = v) → I9.1 a j = B.1 a j := fun a j u => by rw [e9, zu_at, if_neg (by omega), e8, zu_at, if_neg (by omega), e7, zu_at, if_neg (by omega)]
          refine ih (v + 1) I9 (by omega) ?_ (by rw [o _ _ (by omega)]; exact b5) (by rw [o _ _ (by omega)]; exact b15) (fun j hj => by rw [o _ _ (by omega)]; exact h1 j hj) (fun j y hj hy => ?_)
          · rw [e9, e8, e7]
            exact ((qB.zu (Or.inr (Or.inr (by omega)))).zu (Or.inr (Or.inr (by omega)))).zu (Or.inr (Or.inr (by omega)))
          · by_cases u : j = v
            · subst u
              rw [hx] at hy
              cases hy
              refine ⟨?_, ?_, ?_⟩
              · rw [e9, zu_oo (by decide), e8, zu_oo (by decide), e7, zu_self]
              · rw [e9, zu_oo (by decide), e8, zu_self]
              · rw [e9, zu_self]
            · rw [o 501 j (by omega), o 502 j (by omega), o 503 j (by omega)]
              exact h2 j y (by omega) hy
      exact inner (lexL d).length 0 J (by omega) q a5 a15 (fun j hj => h j (by omega)) (fun j y hj => by omega)
    | succ f ih =>
      intro v J hv q a5 a15 h
      refine h18 _ _ ?_
      rw [q.1 491 3 (by unfold Qkt; omega), n1, if_neg (fun u => by have := (zi_le (by omega) (by omega)).mp u; omega), zi_tn (show v < 2147483648 by omega)]
      refine ⟨(zin_iff (by omega)).mpr (by omega), (zin_iff (by omega)).mpr (by omega), fun I13 e13 w ew => ?_⟩
      rw [q.1 493 v (by unfold Qkt; omega), n2 v (by omega)] at e13
      rw [ew, zi_succ]
      refine ih (v + 1) I13 (by omega) (by rw [e13]; exact q.zu (Or.inr (Or.inl rfl))) (by rw [e13, zu_oo (by decide)]; exact a5) (by rw [e13, zu_oo (by decide)]; exact a15) (fun j hj => ?_)
      rw [e13, zu_at]
      by_cases u : j = v
      · rw [if_pos ⟨rfl, u⟩, u]
      · rw [if_neg (fun x => u x.2)]
        exact h j (by omega)
  exact main d.length 0 I2 (by omega) q2 g5 g15 (fun j hj => by omega)
/-- a state kept -/
theorem s_keeps {s : Nat} {x : Mo} {I : zI} {K : zI → Prop} (hs : s ≤ 20) (hT : txOk (moT x)) (hG : txOk (moG x)) (hN : NowM I x) (hK : ∀ J, eqQ (fun a j => a = 542 ∧ 720 * s ≤ j ∧ j < 720 * s + 720) I J → MoM J s x → K J) : w_M_keeps (zi s) I K := by
  obtain ⟨n1, n2, n3, n4, n5, n6, n7, n8, n9, n10⟩ := hN
  intro v2 ev2
  rw [show (720 : Int32) = zi 720 from rfl, zi_mul] at ev2
  subst ev2
  have hT1 := hT.1
  have hG1 := hG.1
  have hG3 := hG.2.2
  intro P8 h8
  have main : ∀ (f v : Nat) (J : zI), v + f = 300 → eqQ (fun a j => a = 542 ∧ 720 * s ≤ j ∧ j < 720 * s + 720) I J → (∀ j, j < v → J.1 542 (720 * s + j) = I.1 494 j ∧ J.1 542 (720 * s + 300 + j) = I.1 495 j) → P8 (zi v) J := by
    intro f
    induction f with
    | zero =>
      intro v J hv q h
      refine h8 _ _ ?_
      rw [if_pos (show (300 : Int32) ≤ zi v from (zi_le (a := 300) (by decide) (by omega)).mpr (by omega))]
      intro P55 h55
      have inner : ∀ (f v : Nat) (B : zI), v + f = 110 → eqQ (fun a j => a = 542 ∧ 720 * s ≤ j ∧ j < 720 * s + 720) I B → (∀ j, j < 300 → B.1 542 (720 * s + j) = I.1 494 j ∧ B.1 542 (720 * s + 300 + j) = I.1 495 j) → (∀ j, j < v → B.1 542 (720 * s + 600 + j) = I.1 508 j) → P55 (zi v) B := by
        intro f
        induction f with
        | zero =>
          intro v B hv qB h1 h2
          refine h55 _ _ ?_
          rw [if_pos (show (110 : Int32) ≤ zi v from (zi_le (a := 110) (by decide) (by omega)).mpr (by omega))]
          have ix : ∀ k : Nat, k < 720 → vp_in (zi (720 * s) + zi k) 15120 ∧ Int32.toNatClampNeg (zi (720 * s) + zi k) = 720 * s + k := fun k hk => by
            rw [zi_add, zi_tn (by omega)]
            exact ⟨(zin_iff (by omega)).mpr (by omega), rfl⟩
          obtain ⟨a1, b1⟩ := ix 710 (by decide)
          obtain ⟨a2, b2⟩ := ix 711 (by decide)
          obtain ⟨a3, b3⟩ := ix 712 (by decide)
          obtain ⟨a4, b4⟩ := ix 713 (by decide)
          rw [show (710 : Int32) = zi 710 from rfl, show (711 : Int32) = zi 711 from rfl, show (712 : Int32) = zi 712 from rfl, show (713 : Int32) = zi 713 from rfl, b1, b2, b3, b4]
          refine ⟨a1, fun I6 e6 => ⟨a2, fun I7 e7 => ?_⟩⟩
          rw [qB.1 491 5 (by omega), n1] at e6
          rw [show I6.1 491 7 = zi (moG x).length by rw [e6, zu_oo (by decide), qB.1 491 7 (by omega)]; exact n5] at e7
          rw [show I7.1 491 8 = b01 (moB x) by rw [e7, zu_oo (by decide), e6, zu_oo (by decide), qB.1 491 8 (by omega)]; exact n9]
          intro P134 h134
          have fin : P134 (b01 (moB x)) := by
            refine h134 _ ⟨a3, fun I9 e9 => ⟨a4, fun I10 e10 => ?_⟩⟩
            rw [show I9.1 491 37 = zi (moR x) by rw [e9, zu_oo (by decide), e7, zu_oo (by decide), e6, zu_oo (by decide), qB.1 491 37 (by omega)]; exact n10] at e10
            have o : ∀ a j, ¬ (a = 542 ∧ 720 * s + 710 ≤ j ∧ j ≤ 720 * s + 713) → I10.1 a j = B.1 a j := fun a j u => by
              rw [e10, zu_at, if_neg (by omega), e9, zu_at, if_neg (by omega), e7, zu_at, if_neg (by omega), e6, zu_at, if_neg (by omega)]
            refine hK I10 ?_ ⟨fun j hj => ?_, fun j hj => ?_, fun j hj => ?_, ?_, ?_, ?_, ?_⟩
            · rw [e10, e9, e7, e6]
              exact (((qB.zu ⟨rfl, by omega, by omega⟩).zu ⟨rfl, by omega, by omega⟩).zu ⟨rfl, by omega, by omega⟩).zu ⟨rfl, by omega, by omega⟩
            · rw [o _ _ (by omega), (h1 j (by omega)).1]
              exact n2 j hj
            · rw [o _ _ (by omega), (h1 j (by omega)).2]
              exact n6 j hj
            · rw [o _ _ (by omega), h2 j (by omega)]
              exact n8 j hj
            · rw [e10, zu_i (by omega), e9, zu_i (by omega), e7, zu_i (by omega), e6, zu_self]
            · rw [e10, zu_i (by omega), e9, zu_i (by omega), e7, zu_self]
            · rw [e10, zu_i (by omega), e9, zu_self]
            · rw [e10, zu_self]
          cases hb : moB x with
          | false =>
            rw [if_pos (show b01 false = 0 by decide)]
            rw [hb] at fin
            exact fin
          | true =>
            rw [if_neg (show ¬ b01 true = 0 by decide)]
            rw [hb] at fin
            exact fin
        | succ f ih =>
          intro v B hv qB h1 h2
          refine h55 _ _ ?_
          rw [if_neg (show ¬ (110 : Int32) ≤ zi v from fun u => by have := (zi_le (a := 110) (by decide) (by omega)).mp u; omega), show (600 : Int32) = zi 600 from rfl, zi_add, zi_add, zi_tn (show v < 2147483648 by omega), zi_tn (show 720 * s + 600 + v < 2147483648 by omega)]
          refine ⟨(zin_iff (by omega)).mpr (by omega), (zin_iff (by omega)).mpr (by omega), fun I12 e12 w ew => ?_⟩
          rw [qB.1 508 v (by omega)] at e12
          rw [ew, zi_succ]
          have o : ∀ a j, ¬ (a = 542 ∧ j = 720 * s + 600 + v) → I12.1 a j = B.1 a j := fun a j u => by rw [e12, zu_at, if_neg u]
          refine ih (v + 1) I12 (by omega) (by rw [e12]; exact qB.zu ⟨rfl, by omega, by omega⟩) (fun j hj => ?_) (fun j hj => ?_)
          · rw [o _ _ (by omega), o _ _ (by omega)]
            exact h1 j hj
          · by_cases u : j = v
            · rw [u, e12, zu_self]
            · rw [o _ _ (by omega)]
              exact h2 j (by omega)
      exact inner 110 0 J (by omega) q (fun j hj => h j (by omega)) (fun j hj => by omega)
    | succ f ih =>
      intro v J hv q h
      refine h8 _ _ ?_
      rw [if_neg (show ¬ (300 : Int32) ≤ zi v from fun u => by have := (zi_le (a := 300) (by decide) (by omega)).mp u; omega), show (300 : Int32) = zi 300 from rfl, zi_add, zi_add, zi_add, zi_tn (show v < 2147483648 by omega), zi_tn (show 720 * s + v < 2147483648 by omega), zi_tn (show 720 * s + 300 + v < 2147483648 by omega)]
      refine ⟨(zin_iff (by omega)).mpr (by omega), (zin_iff (by omega)).mpr (by omega), fun I15 e15 => ⟨(zin_iff (by omega)).mpr (by omega), (zin_iff (by omega)).mpr (by omega), fun I16 e16 w ew => ?_⟩⟩
      rw [q.1 494 v (by omega)] at e15
      rw [show I15.1 495 v = I.1 495 v by rw [e15, zu_oo (by decide), q.1 495 v (by omega)]] at e16
      rw [ew, zi_succ]
      have o : ∀ a j, ¬ (a = 542 ∧ (j = 720 * s + v ∨ j = 720 * s + 300 + v)) → I16.1 a j = J.1 a j := fun a j u => by rw [e16, zu_at, if_neg (by omega), e15, zu_at, if_neg (by omega)]
      refine ih (v + 1) I16 (by omega) (by rw [e16, e15]; exact (q.zu ⟨rfl, by omega, by omega⟩).zu ⟨rfl, by omega, by omega⟩) (fun j hj => ?_)
      by_cases u : j = v
      · rw [u]
        refine ⟨?_, ?_⟩
        · rw [e16, zu_i (by omega), e15, zu_self]
        · rw [e16, zu_self]
      · rw [o _ _ (by omega), o _ _ (by omega)]
        exact h j (by omega)
  exact main 300 0 I (by omega) eqQ.rf (fun j hj => by omega)
/-! ===== how many NAMES a TREE has ===== -/
/-- a weight summed up over the nodes of a tree -/
def poW (N : Nat → Nd) (f : Nat → Nat) (c : Nat) : Nat := ((po N c).map f).sum
theorem fmW {N : Nat → Nd} {f : Nat → Nat} : ∀ {l : List Nat}, ((l.flatMap (po N)).map f).sum = (l.map (poW N f)).sum
  | [] => rfl
  | c :: l => by
    rw [List.flatMap_cons, List.map_append, List.sum_append, fmW, List.map_cons, List.sum_cons]
    rfl
theorem poW_eq {m c : Nat} {N : Nat → Nd} {f : Nat → Nat} (h : NdOk m N) (hc : c < m) : poW N f c = f c + ((ndC (N c)).map (poW N f)).sum := by
  unfold poW
  rw [po_eq h hc, List.map_cons, List.sum_cons, fmW]
  rfl
theorem poW_le {m : Nat} {N : Nat → Nd} {f : Nat → Nat} {e : Nat → Int} (h : NdOk m N) (ht : ∀ c, c < m → ndR (N c) = -2 → (2 : Int) * f c ≤ 1 + e (5 + ndK (N c))) (hr : ∀ c (r : Nat), c < m → r < 11 → ndR (N c) = (r : Int) → (2 : Int) * f c + ((rhS r).map e).sum ≤ e (syN r)) (c : Nat) : c < m → (2 : Int) * poW N f c ≤ ndT (N c) + e (ndM (N c)) := by
  have lst : ∀ l : List Nat, (∀ z ∈ l, (2 : Int) * poW N f z ≤ ndT (N z) + e (ndM (N z))) → (2 : Int) * (l.map (poW N f)).sum ≤ tkS N l + (l.map (fun z => e (ndM (N z)))).sum := by
    intro l
    induction l with
    | nil =>
      intro _
      show (2 : Int) * ((0 : Nat) : Int) ≤ ((0 : Nat) : Int) + 0
      omega
    | cons z l ih =>
      intro hl
      have h1 := hl z (List.mem_cons_self ..)
      have h2 := ih (fun w hw => hl w (List.mem_cons_of_mem _ hw))
      rw [List.map_cons, List.sum_cons, tkS_cons, List.map_cons, List.sum_cons]
      omega
  induction c using Nat.strongRecOn with
  | ind c ih =>
    intro hc
    rw [poW_eq h hc]
    rcases h c hc with ⟨e1, e2, e3, e4, -⟩ | ⟨r, s, hr11, -, e3, -, -, e6, e7, e8⟩
    · have hM : ndM (N c) = 5 + ndK (N c) := by
        unfold ndM
        rw [if_pos (by omega)]
      have h1 := ht c hc e1
      rw [e2, e4, hM]
      show (2 : Int) * ((f c + 0 : Nat) : Int) ≤ _
      omega
    · have hM : ndM (N c) = syN r := by
        unfold ndM
        rw [e3, if_neg (by omega)]
        rfl
      have h1 := hr c r hc hr11 e3
      have h2 := lst (ndC (N c)) (fun z hz => ih z (e7 z hz) (by have := e7 z hz; omega))
      rw [← e6, List.map_map] at h1
      have he : (List.map (e ∘ fun c => ndM (N c)) (ndC (N c))) = (ndC (N c)).map (fun z => e (ndM (N z))) := rfl
      rw [he] at h1
      rw [hM, e8]
      omega
def eNm (y : Nat) : Int := if y ≤ 1 then 0 else if y ≤ 5 then 1 else -1
def eR8 (y : Nat) : Int := if y ≤ 1 then 0 else if y ≤ 4 then 1 else -1
theorem eNm_fin : ∀ r, r < 11 → ((rhS r).map eNm).sum ≤ eNm (syN r) := by decide +kernel
theorem eR8_fin : ∀ r, r < 11 → (2 : Int) * (if r = 8 then 1 else 0) + ((rhS r).map eR8).sum ≤ eR8 (syN r) := by decide +kernel
def isNm (N : Nat → Nd) (z : Nat) : Nat := if ndR (N z) = -2 ∧ ndK (N z) = 0 then 1 else 0
def isR8 (N : Nat → Nd) (z : Nat) : Nat := if ndR (N z) = 8 then 1 else 0
theorem names_le {m R n : Nat} {og : Nat → Nat} {N : Nat → Nd} (h : NdOk m N) (t : TreeI m N R n og) : poW N (isNm N) R ≤ 49 ∧ poW N (isR8 N) R ≤ 49 := by
  have h2 := t.tk h
  have h3 := t.2.2.2.2.2.2.2
  constructor
  · have := poW_le (f := isNm N) (e := eNm) h (fun c hc hr => ?_) (fun c r hc hr11 hr => ?_) R t.1
    · rw [t.2.1] at this
      have h4 : eNm 0 = 0 := rfl
      omega
    · unfold isNm eNm
      by_cases u : ndR (N c) = -2 ∧ ndK (N c) = 0
      · rw [if_pos u, u.2]
        decide
      · rw [if_neg u, if_neg (by omega)]
        split <;> omega
    · have h5 := eNm_fin r hr11
      unfold isNm
      rw [if_neg (by omega)]
      omega
  · have := poW_le (f := isR8 N) (e := eR8) h (fun c hc hr => ?_) (fun c r hc hr11 hr => ?_) R t.1
    · rw [t.2.1] at this
      have h4 : eR8 0 = 0 := rfl
      omega
    · unfold isR8 eR8
      rw [if_neg (by omega), if_neg (by omega), if_neg (by omega)]
      omega
    · have h5 := eR8_fin r hr11
      unfold isR8
      by_cases u : r = 8
      · rw [if_pos (by omega)]
        rw [if_pos u] at h5
        omega
      · rw [if_neg (by omega)]
        rw [if_neg u] at h5
        omega
def nmL (N : Nat → Nd) (R : Nat) : List Int64 := ((po N R).filter (fun z => decide (ndR (N z) = -2 ∧ ndK (N z) = 0))).map (nmV N)
theorem nm_sum {N : Nat → Nd} : ∀ {l : List Nat}, (l.filter (fun z => decide (ndR (N z) = -2 ∧ ndK (N z) = 0))).length = (l.map (isNm N)).sum
  | [] => rfl
  | z :: l => by
    rw [List.filter_cons, List.map_cons, List.sum_cons]
    unfold isNm
    by_cases u : ndR (N z) = -2 ∧ ndK (N z) = 0
    · rw [if_pos u, if_pos (decide_eq_true u), List.length_cons, nm_sum, Nat.add_comm]
      rfl
    · rw [if_neg u, if_neg (by rw [decide_eq_false u]; decide), nm_sum, Nat.zero_add]
      rfl
theorem nmL_len {m R n : Nat} {og : Nat → Nat} {N : Nat → Nd} (h : NdOk m N) (t : TreeI m N R n og) : (nmL N R).length ≤ 49 := by
  unfold nmL
  rw [List.length_map, nm_sum]
  exact (names_le h t).1
theorem nd_le {l S : List Int64} (h : l.Nodup) (hs : ∀ x ∈ l, x ∈ S) : l.length ≤ S.length := by
  induction l generalizing S with
  | nil => exact Nat.zero_le _
  | cons x l ih =>
    obtain ⟨h1, h2⟩ := List.nodup_cons.mp h
    have hx := hs x (List.mem_cons_self ..)
    have h3 := ih (S := S.erase x) h2 (fun y hy => (List.mem_erase_of_ne (fun e => h1 (by rw [← e]; exact hy))).mpr (hs y (List.mem_cons_of_mem _ hy)))
    rw [List.length_erase_of_mem hx] at h3
    have h4 := List.length_pos_of_mem hx
    rw [List.length_cons]
    omega
/-- the model's list of NAMES: unlike ones out of S -/
def NmM (I : zI) (S : List Int64) : Prop := ∃ nm : List Int64, I.1 491 55 = zi nm.length ∧ (∀ (i : Nat) (v : Int64), nm[i]? = some v → I.2 530 i = v) ∧ nm.Nodup ∧ ∀ v ∈ nm, v ∈ S
def Qna (a j : Nat) : Prop := (a = 491 ∧ j = 55) ∨ a = 530 ∨ a = 531
theorem s_nameOf {v : Int64} {S : List Int64} {I : zI} {K : Int32 → zI → Prop} (hS : S.length ≤ 49) (hv : v ∈ S) (hN : NmM I S) (hK : ∀ (r : Nat) (J : zI), r < 60 → eqQ Qna I J → NmM J S → K (zi r) J) : w_M_nameOf v I K := by
  obtain ⟨nm, n1, n2, n3, n4⟩ := id hN
  have hl := nd_le n3 n4
  intro P2 h2
  have main : ∀ (d k : Nat), k + d = nm.length → (∀ i : Nat, i < k → nm[i]? ≠ some v) → P2 (zi k) := by
    intro d
    induction d with
    | zero =>
      intro k hk hno
      refine h2 _ ?_
      have hnv : v ∉ nm := fun hm => by
        obtain ⟨i, hi⟩ := List.mem_iff_getElem?.mp hm
        exact hno i (by have := (List.getElem?_eq_some_iff.mp hi).1; omega) hi
      have hnd : (nm ++ [v]).Nodup := List.nodup_append.mpr ⟨n3, List.nodup_cons.mpr ⟨List.not_mem_nil, List.nodup_nil⟩, fun a ha b hb e => by
        cases List.mem_singleton.mp hb
        exact hnv (e ▸ ha)⟩
      have hsub : ∀ w ∈ nm ++ [v], w ∈ S := fun w hw => by
        rcases List.mem_append.mp hw with hw | hw
        · exact n4 w hw
        · cases List.mem_singleton.mp hw
          exact hv
      have hl2 := nd_le hnd hsub
      rw [List.length_append] at hl2
      change nm.length + 1 ≤ _ at hl2
      rw [n1, if_pos ((zi_le (by omega) (by omega)).mpr (by omega)), zi_tn (show nm.length < 2147483648 by omega)]
      refine ⟨(zin_iff (by omega)).mpr (by omega), fun I2 e2 => ?_⟩
      have g2 : I2.1 491 55 = zi nm.length := by rw [e2, zul_1]; exact n1
      rw [g2, zi_tn (show nm.length < 2147483648 by omega)]
      refine ⟨(zin_iff (by omega)).mpr (by omega), fun I3 e3 I4 e4 => ?_⟩
      rw [show I3.1 491 55 = zi nm.length by rw [e3, zu_oo (by decide)]; exact g2, zi_succ] at e4
      rw [show I4.1 491 55 - 1 = zi nm.length by rw [e4, zu_self]; exact zi_sub (b := 1) (by omega)]
      refine hK nm.length I4 (by omega) ?_ ⟨nm ++ [v], ?_, fun i w hi => ?_, hnd, hsub⟩
      · rw [e4, e3, e2]
        exact ((eqQ.rf.zul (Or.inr (Or.inl rfl))).zu (Or.inr (Or.inr rfl))).zu (Or.inl ⟨rfl, rfl⟩)
      · rw [e4, zu_self, List.length_append]
        rfl
      · rw [e4, zu_2, e3, zu_2, e2, zul_at]
        rcases snoc_at hi with hi | ⟨rfl, rfl⟩
        · have := (List.getElem?_eq_some_iff.mp hi).1
          rw [if_neg (by omega)]
          exact n2 i w hi
        · rw [if_pos ⟨rfl, rfl⟩]
    | succ d ih =>
      intro k hk hno
      refine h2 _ ?_
      rw [n1, if_neg (fun u => by have := (zi_le (by omega) (by omega)).mp u; omega), zi_tn (show k < 2147483648 by omega)]
      have hk2 : nm[k]? = some (nm[k]'(by omega)) := List.getElem?_eq_getElem (by omega)
      generalize nm[k]'(by omega) = w at hk2
      refine ⟨(zin_iff (by omega)).mpr (by omega), ?_⟩
      rw [n2 k w hk2]
      by_cases u : w = v
      · rw [if_pos (lg_cmp0.mpr u)]
        exact hK k I (by omega) eqQ.rf hN
      · rw [if_neg (fun x => u (lg_cmp0.mp x))]
        intro v' ev
        rw [ev, zi_succ]
        refine ih (k + 1) (by omega) (fun i hi hi2 => ?_)
        by_cases x : i = k
        · rw [x, hk2] at hi2
          exact u (Option.some.inj hi2)
        · exact hno i (by omega) hi2
  exact main nm.length 0 (by omega) (fun i hi => by omega)
theorem s_MchildOf {m c k z : Nat} {N : Nat → Nd} {I : zI} {K : Int32 → Prop} (rep : RepNM I m N) (hm : m ≤ 3700) (hc : c < m) (hch : (ndC (N c)).length ≤ 4) (hk : (ndC (N c))[k]? = some z) (hK : K (zi z)) : w_M_childOf (zi c) (zi k) I K := by
  have hkl := (List.getElem?_eq_some_iff.mp hk).1
  unfold w_M_childOf
  rw [show 4 * zi c + zi k = zi (4 * c + k) by rw [show (4 : Int32) = zi 4 from rfl, zi_mul, zi_add], zi_tn (show 4 * c + k < 2147483648 by omega)]
  refine ⟨(zin_iff (by omega)).mpr (by omega), ?_⟩
  rw [show I.1 513 (4 * c + k) = zi z from (rep.2 c hc).2.2.2.2.2.1 k z hk]
  exact hK
theorem po_sub {m : Nat} {N : Nat → Nd} (h : NdOk m N) (R : Nat) : R < m → ∀ c ∈ po N R, ∀ z ∈ ndC (N c), z ∈ po N R := by
  induction R using Nat.strongRecOn with
  | ind R ih =>
    intro hR c hc z hz
    rw [po_eq h hR] at hc ⊢
    rcases List.mem_cons.mp hc with rfl | hc
    · have hzc := h.lt hR hz
      refine List.mem_cons_of_mem _ (List.mem_flatMap.mpr ⟨z, hz, ?_⟩)
      rw [po_eq h (by omega)]
      exact List.mem_cons_self ..
    · obtain ⟨w, hw, hcw⟩ := List.mem_flatMap.mp hc
      have hlt := h.lt hR hw
      exact List.mem_cons_of_mem _ (List.mem_flatMap.mpr ⟨w, hw, ih w hlt (by omega) c hcw z hz⟩)
/-- a CHILD of symbol NAME is a NAME of the TREE -/
theorem nm_child {m R n c z : Nat} {og : Nat → Nat} {N : Nat → Nd} (h : NdOk m N) (t : TreeI m N R n og) (hc : c ∈ po N R) (hz : z ∈ ndC (N c)) (hM : ndM (N z) = 5) : nmV N z ∈ nmL N R ∧ ndR (N z) = -2 := by
  have hcR := po_le h R t.1 c hc
  have hR := t.1
  have hzc := h.lt (show c < m by omega) hz
  have hzt : ndR (N z) = -2 ∧ ndK (N z) = 0 := by
    rcases h z (by omega) with ⟨f1, -⟩ | ⟨r', s', f1, -, f3, -⟩
    · unfold ndM at hM
      rw [f1, if_pos (by decide)] at hM
      exact ⟨f1, by omega⟩
    · have h1 : ndM (N z) = syN r' := by
        unfold ndM
        rw [f3, if_neg (by omega)]
        rfl
      have h5 := (sy_fin r' f1).2
      change syN r' < 5 at h5
      omega
  refine ⟨?_, hzt.1⟩
  unfold nmL
  refine List.mem_map.mpr ⟨z, List.mem_filter.mpr ⟨?_, decide_eq_true hzt⟩, rfl⟩
  exact po_sub h R t.1 c hc z hz
/-! ===== all statements RUN, the model: it returns ===== -/
theorem RepNM.kp2 {I J : zI} {m : Nat} {N : Nat → Nd} (rep : RepNM I m N) (e1 : J.1 491 25 = I.1 491 25) (e : ∀ a j, 509 ≤ a → a ≤ 516 → J.1 a j = I.1 a j) (e2 : ∀ j, J.2 511 j = I.2 511 j) : RepNM J m N :=
  ⟨e1.trans rep.1, fun k hk => by
    obtain ⟨n1, n2, n3, n4, n5, n6, n7⟩ := rep.2 k hk
    refine ⟨by rw [e _ _ (by decide) (by decide)]; exact n1, by rw [e _ _ (by decide) (by decide)]; exact n2, by rw [e _ _ (by decide) (by decide)]; exact n3, by rw [e _ _ (by decide) (by decide)]; exact n4, by rw [e _ _ (by decide) (by decide)]; exact n5, fun i c hi => by rw [e _ _ (by decide) (by decide)]; exact n6 i c hi, fun q => ?_⟩
    obtain ⟨w1, w2⟩ := n7 q
    exact ⟨by rw [e _ _ (by decide) (by decide)]; exact w1, by rw [e2]; exact w2⟩⟩
def TvM (I : zI) (N : Nat → Nd) (R : Nat) : Prop := ∀ (i : Nat) (x : Fl), (flR N R)[i]? = some x → I.1 521 i = zi x.1 ∧ I.1 523 x.1 = zi i ∧ I.1 522 i = zi (i + x.2.2.2.2)
theorem TvM.kp {I J : zI} {N : Nat → Nd} {R : Nat} (h : TvM I N R) (e : ∀ a j, 521 ≤ a → a ≤ 523 → J.1 a j = I.1 a j) : TvM J N R := fun i x hx => by
  obtain ⟨h1, h2, h3⟩ := h i x hx
  rw [e 521 _ (by decide) (by decide), e 523 _ (by decide) (by decide), e 522 _ (by decide) (by decide)]
  exact ⟨h1, h2, h3⟩
theorem ViM.tv {I : zI} {N : Nat → Nd} {R n : Nat} (h : ViM I N R n) : TvM I N R := fun i x hx => by
  obtain ⟨b1, b2, -⟩ := h.2.1.2.1 i x (List.getElem?_eq_some_iff.mp hx).1 hx
  exact ⟨b1, b2, (h.2.2.1 i x hx).1⟩
theorem NmM.kp {I J : zI} {S : List Int64} (h : NmM I S) (e1 : J.1 491 55 = I.1 491 55) (e2 : ∀ j, J.2 530 j = I.2 530 j) : NmM J S := by
  obtain ⟨nm, n1, n2, n3, n4⟩ := h
  exact ⟨nm, e1.trans n1, fun i v hi => by rw [e2]; exact n2 i v hi, n3, n4⟩
theorem fl_po {m R i : Nat} {N : Nat → Nd} {x : Fl} (h : NdOk m N) (hR : R < m) (hx : (flR N R)[i]? = some x) : x.1 ∈ po N R := by
  rw [← fl_map h R hR 0 0 0 1]
  exact List.mem_map.mpr ⟨x, List.mem_of_getElem? hx, rfl⟩
def Qrk (a j : Nat) : Prop := Qna a j ∨ a = 532
theorem r_reckons {m R n p : Nat} {og : Nat → Nat} {N : Nat → Nd} {x : Fl} {I : zI} {K : zI → Prop} (rep : RepNM I m N) (hN : NdOk m N) (hm : m ≤ 3700) (t : TreeI m N R n og) (hx : (flR N R)[p]? = some x) (tv : TvM I N R) (nm : NmM I (nmL N R)) (hK : ∀ J, eqQ Qrk I J → NmM J (nmL N R) → K J) : w_M_reckons (zi p) I K := by
  have hR := t.1
  have hlen : (flR N R).length ≤ 248 := by
    have h1 := t.few hN
    have h2 : (flR N R).length = sz N R := fl_len hN R hR _ _ _ _
    omega
  obtain ⟨s1, s2, s3⟩ := sz_inR hN hR hx
  unfold w_M_reckons
  rw [zi_tn (show p < 2147483648 by omega), (tv p x hx).2.2, s1]
  refine ⟨(zin_iff (by omega)).mpr (by omega), fun v2 ev2 => ?_⟩
  subst ev2
  intro P9 h9
  have ch := hN.ch
  have hS := nmL_len hN t
  have main : ∀ (d k : Nat) (J : zI), p + d = k → k ≤ p + sz N x.1 → eqQ Qrk I J → NmM J (nmL N R) → P9 (zi k - 1) J := by
    intro d
    induction d with
    | zero =>
      intro k J hk hk2 q nJ
      refine h9 _ _ ?_
      rw [if_pos (show zi k - 1 < zi p by
        rw [show p = k by omega]
        by_cases u : k = 0
        · rw [u]
          decide
        · rw [show zi k - 1 = zi (k - 1) from zi_sub (b := 1) (by omega)]
          exact (zi_lt (by omega) (by omega)).mpr (by omega))]
      exact hK J q nJ
    | succ d ih =>
      intro k J hk hk2 q nJ
      obtain ⟨q', rfl⟩ : ∃ q', k = q' + 1 := ⟨k - 1, by omega⟩
      refine h9 _ _ ?_
      rw [show zi (q' + 1) - 1 = zi q' from zi_sub (b := 1) (by omega), if_neg (fun u => by have := (zi_lt (by omega) (by omega)).mp u; omega), zi_tn (show q' < 2147483648 by omega)]
      have hy : (flR N R)[q']? = some ((flR N R)[q']'(by omega)) := List.getElem?_eq_getElem (by omega)
      generalize (flR N R)[q']'(by omega) = y at hy
      have hyp := fl_po hN hR hy
      have hym := po_le hN R hR _ hyp
      have hym : y.1 < m := by omega
      have repJ : RepNM J m N := rep.kp ch (q.1 _ _ (by unfold Qrk Qna; omega)) (fun a j u1 u2 => q.1 a j (by unfold Qrk Qna; omega)) (fun j => q.2 511 j (by unfold Qrk Qna; omega))
      refine ⟨(zin_iff (by omega)).mpr (by omega), fun v3 ev3 => ?_⟩
      rw [q.1 521 q' (by unfold Qrk Qna; omega), (tv q' y hy).1] at ev3
      subst ev3
      have hyin : vp_in (zi y.1) 3700 := (zin_iff (by omega)).mpr (by omega)
      rw [zi_tn (show y.1 < 2147483648 by omega)]
      refine ⟨hyin, fun x5 ex5 => ?_⟩
      rw [show J.1 509 y.1 = Int32.ofInt (ndR (N y.1)) from (repJ.2 _ hym).1] at ex5
      intro P222 h222
      have nx : ∀ L, eqQ Qrk I L → NmM L (nmL N R) → P222 L := fun L qL nL => h222 L (fun v ev => by
        have e5 : v = zi q' - 1 := by
          rw [ev, Int32.sub_eq_add_neg]
        rw [e5]
        exact ih q' L (by omega) (by omega) qL nL)
      -- a value put
      have put : ∀ (A : zI) (v : Int32), eqQ Qrk I A → NmM A (nmL N R) → vp_in (zi y.1) 3700 ∧ ∀ I_9, I_9 = zu A 532 y.1 v → P222 I_9 := fun A v qA nA => ⟨hyin, fun I9 e9 => nx I9 (by rw [e9]; exact qA.zu (Or.inr rfl)) (nA.kp (by rw [e9, zu_oo (by decide)]) (fun j => by rw [e9, zu_2]))⟩
      have zin : ∀ z, z < y.1 → vp_in (zi z) 3700 := fun z hz => (zin_iff (by omega)).mpr (by omega)
      -- a CHILD
      have child : ∀ (r k w : Nat) (H : Int32 → Prop), ndR (N y.1) = (r : Int) → (rhS r)[k]? = some w → (∀ z, z < y.1 → z ∈ ndC (N y.1) → ndM (N z) = w → H (zi z)) → w_M_childOf (zi y.1) (zi k) J H := fun r k w H hr hk hH => by
        obtain ⟨z, z1, z2, z3⟩ := hN.child hym hr hk
        exact s_MchildOf repJ hm hym (ch _ hym) z1 (hH z z3 (List.mem_of_getElem? z1) z2)
      intro P132 h132
      have one : ∀ (r w : Nat), ndR (N y.1) = (r : Int) → (rhS r)[0]? = some w → P132 := fun r w hr hk => h132 (child r 0 w _ hr hk (fun z hz _ _ => ⟨zin z hz, put J _ q nJ⟩))
      rcases hN y.1 hym with ⟨e1, -⟩ | ⟨r, s, hr11, -, e3, -⟩
      · rw [e1] at ex5
        subst ex5
        rw [if_neg (by decide), if_neg (by decide), if_neg (by decide), if_neg (by decide), if_neg (by decide), if_neg (by decide), if_neg (by decide)]
        exact nx J q nJ
      · rw [e3, zi_int r] at ex5
        subst ex5
        rcases (show r ≤ 3 ∨ r = 4 ∨ r = 5 ∨ r = 6 ∨ r = 7 ∨ r = 8 ∨ r = 9 ∨ r = 10 by omega) with u | rfl | rfl | rfl | rfl | rfl | rfl | rfl
        · have ne : ∀ b : Nat, 4 ≤ b → b ≤ 10 → ¬ zi r = zi b := fun b u1 u2 w => by
            have := (zi_eq (by omega) (by omega)).mp w
            omega
          rw [if_neg (show ¬ zi r = 4 from ne 4 (by decide) (by decide)), if_neg (show ¬ zi r = 5 from ne 5 (by decide) (by decide)), if_neg (show ¬ zi r = 6 from ne 6 (by decide) (by decide)), if_neg (show ¬ zi r = 7 from ne 7 (by decide) (by decide)), if_neg (show ¬ zi r = 8 from ne 8 (by decide) (by decide)), if_neg (show ¬ zi r = 9 from ne 9 (by decide) (by decide)), if_neg (show ¬ zi r = 10 from ne 10 (by decide) (by decide))]
          exact nx J q nJ
        · rw [if_pos (show zi 4 = 4 from rfl)]
          exact child 4 0 2 _ e3 rfl (fun z hz _ _ => ⟨zin z hz, child 4 2 3 _ e3 rfl (fun z2 hz2 _ _ => ⟨zin z2 hz2, put J _ q nJ⟩)⟩)
        · rw [if_neg (show ¬ zi 5 = 4 by decide), if_pos (show zi 5 = 5 from rfl)]
          exact one 5 3 e3 rfl
        · rw [if_neg (show ¬ zi 6 = 4 by decide), if_neg (show ¬ zi 6 = 5 by decide), if_pos (show zi 6 = 6 from rfl)]
          exact child 6 0 3 _ e3 rfl (fun z hz _ _ => ⟨zin z hz, child 6 2 4 _ e3 rfl (fun z2 hz2 _ _ => ⟨zin z2 hz2, put J _ q nJ⟩)⟩)
        · rw [if_neg (show ¬ zi 7 = 4 by decide), if_neg (show ¬ zi 7 = 5 by decide), if_neg (show ¬ zi 7 = 6 by decide), if_pos (show zi 7 = 7 from rfl)]
          exact one 7 4 e3 rfl
        · rw [if_neg (show ¬ zi 8 = 4 by decide), if_neg (show ¬ zi 8 = 5 by decide), if_neg (show ¬ zi 8 = 6 by decide), if_neg (show ¬ zi 8 = 7 by decide), if_pos (show zi 8 = 8 from rfl)]
          refine child 8 0 5 _ e3 rfl (fun z hz hzc hzM => ⟨zin z hz, ?_⟩)
          obtain ⟨w1, w2⟩ := nm_child hN t hyp hzc hzM
          rw [zi_tn (show z < 2147483648 by omega), show J.2 511 z = nmV N z from ((repJ.2 z (by omega)).2.2.2.2.2.2 (by omega)).2]
          refine s_nameOf hS w1 nJ (fun r A hr qA nA => ⟨(zin_iff (by omega)).mpr (by omega), ?_⟩)
          exact put A _ (q.tr (qA.mono (fun a j h => Or.inl h))) nA
        · rw [if_neg (show ¬ zi 9 = 4 by decide), if_neg (show ¬ zi 9 = 5 by decide), if_neg (show ¬ zi 9 = 6 by decide), if_neg (show ¬ zi 9 = 7 by decide), if_neg (show ¬ zi 9 = 8 by decide), if_pos (show zi 9 = 9 from rfl)]
          exact child 9 0 6 _ e3 rfl (fun z hz _ _ => ⟨zin z hz, put J _ q nJ⟩)
        · rw [if_neg (show ¬ zi 10 = 4 by decide), if_neg (show ¬ zi 10 = 5 by decide), if_neg (show ¬ zi 10 = 6 by decide), if_neg (show ¬ zi 10 = 7 by decide), if_neg (show ¬ zi 10 = 8 by decide), if_neg (show ¬ zi 10 = 9 by decide), if_pos (show zi 10 = 10 from rfl)]
          exact child 10 1 2 _ e3 rfl (fun z hz _ _ => ⟨zin z hz, put J _ q nJ⟩)
  exact main (sz N x.1) (p + sz N x.1) I rfl (Nat.le_refl _) eqQ.rf nm
/-- how many nodes of RULE 8 -/
def cn8 (N : Nat → Nd) (L : List Fl) : Nat := (L.map (fun x => isR8 N x.1)).sum
theorem cn8_R {m R n : Nat} {og : Nat → Nat} {N : Nat → Nd} (hN : NdOk m N) (t : TreeI m N R n og) : cn8 N (flR N R) ≤ 49 := by
  have h1 := (names_le hN t).2
  unfold poW at h1
  rw [← fl_map hN R t.1 0 0 0 1, List.map_map] at h1
  exact h1
theorem cn8_drop {N : Nat → Nd} {L : List Fl} (k : Nat) : cn8 N (L.drop k) ≤ cn8 N L := by
  have : cn8 N L = cn8 N (L.take k) + cn8 N (L.drop k) := by
    unfold cn8
    rw [← List.sum_append, ← List.map_append, List.take_append_drop]
  omega
def Qra (a j : Nat) : Prop := Qrk a j ∨ a = 517 ∨ a = 518
theorem r_reads {m R n s p : Nat} {og : Nat → Nat} {N : Nat → Nd} {x : Fl} {I : zI} {K : Int32 → zI → Prop} (rep : RepNM I m N) (hN : NdOk m N) (hm : m ≤ 3700) (t : TreeI m N R n og) (hx : (flR N R)[p]? = some x) (hs : x.1 = s) (h2 : ndR (N s) = 2) (tv : TvM I N R) (nm : NmM I (nmL N R)) (hK : ∀ v J, eqQ Qra I J → NmM J (nmL N R) → K v J) : w_M_reads (zi s) I K := by
  have hR := t.1
  have hlen : (flR N R).length ≤ 248 := by
    have h1 := t.few hN
    have h2 : (flR N R).length = sz N R := fl_len hN R hR _ _ _ _
    omega
  have ch := hN.ch
  have hS := nmL_len hN t
  have hsp := fl_po hN hR hx
  rw [hs] at hsp
  have hsm : s < m := by
    have := po_le hN R hR _ hsp
    omega
  obtain ⟨e, c1, -, c3⟩ := hN.child (k := 2) (y := 2) hsm (show ndR (N s) = ((2 : Nat) : Int) from h2) rfl
  obtain ⟨i', y, -, y2, y3, -⟩ := fl_ch hN hR hx (by rw [hs]; exact c1)
  have y2' : (flR N R)[i']? = some y := y2
  obtain ⟨t1, t2, t3⟩ := tv i' y y2'
  obtain ⟨z1, z2, z3⟩ := sz_inR hN hR y2'
  refine s_MchildOf (k := 2) rep hm hsm (ch _ hsm) c1 ?_
  have hsin : vp_in (zi s) 3700 := (zin_iff (by omega)).mpr (by omega)
  refine ⟨(zin_iff (by omega)).mpr (by omega), fun v2 ev2 => ?_⟩
  rw [zi_tn (show e < 2147483648 by omega), ← y3, t2] at ev2
  subst ev2
  refine ⟨hsin, ?_⟩
  intro P29 h29
  have rest : ∀ t3' : Int32, P29 t3' := by
    intro t3'
    refine h29 t3' ?_
    intro P34 h34
    have main : ∀ (d q c : Nat) (v4 : Int32) (J : zI), i' ≤ q → q + d = i' + sz N y.1 → c + cn8 N ((flR N R).drop q) ≤ 49 → eqQ Qra I J → NmM J (nmL N R) → P34 (zi c) v4 (zi q) J := by
      intro d
      induction d with
      | zero =>
        intro q c v4 J hq hqd hc qJ nJ
        refine h34 _ _ _ _ ⟨(zin_iff (by omega)).mpr (by omega), ?_⟩
        rw [zi_tn (show i' < 2147483648 by omega), qJ.1 522 i' (by unfold Qra Qrk Qna; omega), t3, z1, if_pos ((zi_le (by omega) (by omega)).mpr (by omega))]
        refine ⟨hsin, fun I8 e8 => hK _ I8 (by rw [e8]; exact qJ.zu (Or.inr (Or.inl rfl))) (nJ.kp (by rw [e8, zu_oo (by decide)]) (fun j => by rw [e8, zu_2]))⟩
      | succ d ih =>
        intro q c v4 J hq hqd hc qJ nJ
        refine h34 _ _ _ _ ⟨(zin_iff (by omega)).mpr (by omega), ?_⟩
        rw [zi_tn (show i' < 2147483648 by omega), qJ.1 522 i' (by unfold Qra Qrk Qna; omega), t3, z1, if_neg (fun u => by have := (zi_le (by omega) (by omega)).mp u; omega)]
        have hw : (flR N R)[q]? = some ((flR N R)[q]'(by omega)) := List.getElem?_eq_getElem (by omega)
        have hdq : (flR N R).drop q = (flR N R)[q]'(by omega) :: (flR N R).drop (q + 1) := List.drop_eq_getElem_cons (by omega)
        generalize (flR N R)[q]'(by omega) = w at hw hdq
        have hwp := fl_po hN hR hw
        have hwm : w.1 < m := by
          have := po_le hN R hR _ hwp
          omega
        have hcn : cn8 N ((flR N R).drop q) = isR8 N w.1 + cn8 N ((flR N R).drop (q + 1)) := by
          rw [hdq]
          unfold cn8
          rw [List.map_cons, List.sum_cons]
        have repJ : RepNM J m N := rep.kp2 (qJ.1 _ _ (by unfold Qra Qrk Qna; omega)) (fun a j u1 u2 => qJ.1 a j (by unfold Qra Qrk Qna; omega)) (fun j => qJ.2 511 j (by unfold Qra Qrk Qna; omega))
        refine ⟨(zin_iff (by omega)).mpr (by omega), fun v6 ev6 => ?_⟩
        rw [zi_tn (show q < 2147483648 by omega), qJ.1 521 q (by unfold Qra Qrk Qna; omega), (tv q w hw).1] at ev6
        subst ev6
        refine ⟨(zin_iff (by omega)).mpr (by omega), ?_⟩
        rw [zi_tn (show w.1 < 2147483648 by omega), show J.1 509 w.1 = Int32.ofInt (ndR (N w.1)) from (repJ.2 _ hwm).1]
        intro P137 h137
        have nx : ∀ (c' : Nat) (v : Int32) (L : zI), c' + cn8 N ((flR N R).drop (q + 1)) ≤ 49 → eqQ Qra I L → NmM L (nmL N R) → P137 (zi c') v L := fun c' v L hc' qL nL => h137 _ _ _ (fun v' ev => by
          rw [ev, zi_succ]
          exact ih (q + 1) c' v L (by omega) (by omega) hc' qL nL)
        by_cases u8 : ndR (N w.1) = 8
        · have hi8 : isR8 N w.1 = 1 := if_pos u8
          rw [if_pos (show Int32.ofInt (ndR (N w.1)) = 8 by rw [u8]; rfl)]
          obtain ⟨z, d1, d2, d3⟩ := hN.child (k := 0) (y := 5) hwm (show ndR (N w.1) = ((8 : Nat) : Int) from u8) rfl
          refine s_MchildOf (k := 0) repJ hm hwm (ch _ hwm) d1 ⟨(zin_iff (by omega)).mpr (by omega), ?_⟩
          obtain ⟨w1, w2⟩ := nm_child hN t hwp (List.mem_of_getElem? d1) d2
          rw [zi_tn (show z < 2147483648 by omega), show J.2 511 z = nmV N z from ((repJ.2 z (by omega)).2.2.2.2.2.2 (by omega)).2]
          refine s_nameOf hS w1 nJ (fun r A hr qA nA => ⟨(zin_iff (by omega)).mpr (by omega), fun v7 ev7 => ⟨hsin, ?_⟩⟩)
          have qA' : eqQ Qra I A := qJ.tr (qA.mono (fun a j h => Or.inl (Or.inl h)))
          have hix : vp_in (50 * zi s + zi c) 185000 := by
            rw [show (50 : Int32) = zi 50 from rfl, zi_mul, zi_add]
            exact (zin_iff (by omega)).mpr (by omega)
          intro P121 h121
          have put : ∀ v : Int32, P121 v := fun v => h121 v ⟨hix, fun I19 e19 v3' ev3' => by
            rw [ev3', zi_succ]
            exact nx (c + 1) v I19 (by omega) (by rw [e19]; exact qA'.zu (Or.inr (Or.inr rfl))) (nA.kp (by rw [e19, zu_oo (by decide)]) (fun j => by rw [e19, zu_2]))⟩
          split
          · exact put _
          · refine ⟨hix, ?_⟩
            split
            · exact put _
            · exact put _
        · rw [if_neg (show ¬ Int32.ofInt (ndR (N w.1)) = 8 from fun v => u8 (by
            rcases hN w.1 hwm with ⟨f1, -⟩ | ⟨r, s', f1, -, f3, -⟩
            · rw [f1] at v
              exact absurd v (by decide)
            · rw [f3, zi_int r] at v
              have := (zi_eq (b := 8) (by omega) (by decide)).mp v
              omega))]
          exact nx c v4 J (by omega) qJ nJ
    exact main (sz N y.1) i' 0 t3' I (Nat.le_refl _) rfl (by have := cn8_R hN t; have := cn8_drop (N := N) (L := flR N R) i'; omega) eqQ.rf nm
  split
  · exact rest 1
  · exact rest 0
/-- all of them -/
theorem r_runsAllN {m R n : Nat} {og : Nat → Nat} {N : Nat → Nd} {e : Bool} {I : zI} {K : Int32 → zI → Prop} (rep : RepNM I m N) (hN : NdOk m N) (hm : m ≤ 3700) (t : TreeI m N R n og) (vi : ViM I N R n) (hK : ∀ v J, eqQ Qra I J → NmM J (nmL N R) → K v J) : w_M_runsAll (b01 e) I K := by
  have hR := t.1
  have ch := hN.ch
  have hS := nmL_len hN t
  have tv := vi.tv
  intro I1 e1
  have q1 : eqQ Qra I I1 := by
    rw [e1]
    exact eqQ.rf.zu (Or.inl (Or.inl (Or.inl ⟨rfl, rfl⟩)))
  have n1 : NmM I1 (nmL N R) := ⟨[], by rw [e1, zu_self]; rfl, fun i v hi => (by cases hi), List.nodup_nil, fun v hv => (by cases hv)⟩
  obtain ⟨-, g53, -, g529⟩ := vi.2.2.2
  have hsl : (setsOf N R).length ≤ 99 := by
    have h1 := cn2_le (F := flR N R) hN 400 0 0 [(R, 0, 1)] (by have := t.few hN; have h2 : (flR N R).length = sz N R := fl_len hN R hR _ _ _ _; omega) (fun y hy => by cases List.mem_singleton.mp hy; exact hR) (by
      rw [List.drop_zero]
      show fl N R 0 0 0 1 = fl N R 0 0 0 1 ++ []
      rw [List.append_nil])
    rw [List.drop_zero, wtW_cons] at h1
    change _ ≤ wt2 N R + 0 at h1
    have h2 : (setsOf N R).length = cn2 N (flR N R) := st2_len
    have h3 := wt2_le (N := N) (c := R)
    have h4 := t.tk hN
    have h5 := t.2.2.2.2.2.2.2
    omega
  intro P9 h9
  have main : ∀ (d k : Nat) (v2 : Int32) (J : zI), k + d = (setsOf N R).length → eqQ Qra I J → NmM J (nmL N R) → P9 v2 (zi k) J := by
    intro d
    induction d with
    | zero =>
      intro k v2 J hk q nJ
      refine h9 _ _ _ ?_
      rw [q.1 491 53 (by unfold Qra Qrk Qna; omega), g53, if_pos ((zi_le (by omega) (by omega)).mpr (by omega))]
      exact hK _ J q nJ
    | succ d ih =>
      intro k v2 J hk q nJ
      refine h9 _ _ _ ?_
      rw [q.1 491 53 (by unfold Qra Qrk Qna; omega), g53, if_neg (fun u => by have := (zi_le (by omega) (by omega)).mp u; omega), zi_tn (show k < 2147483648 by omega)]
      refine ⟨(zin_iff (by omega)).mpr (by omega), fun v4 ev4 => ?_⟩
      have hs : (setsOf N R)[k]? = some ((setsOf N R)[k]'(by omega)) := List.getElem?_eq_getElem (by omega)
      generalize (setsOf N R)[k]'(by omega) = s at hs
      rw [q.1 529 k (by unfold Qra Qrk Qna; omega), g529 k s hs] at ev4
      subst ev4
      obtain ⟨x, x1, x2, x3⟩ := st2_mem (List.mem_of_getElem? hs)
      obtain ⟨p, hp⟩ := List.mem_iff_getElem?.mp x1
      have hsp := fl_po hN hR hp
      rw [x2] at hsp
      have hsm : s < m := by
        have := po_le hN R hR _ hsp
        omega
      have hsin : vp_in (zi s) 3700 := (zin_iff (by omega)).mpr (by omega)
      have rp : ∀ A, eqQ Qra I A → RepNM A m N := fun A qA => rep.kp2 (qA.1 _ _ (by unfold Qra Qrk Qna; omega)) (fun a j u1 u2 => qA.1 a j (by unfold Qra Qrk Qna; omega)) (fun j => qA.2 511 j (by unfold Qra Qrk Qna; omega))
      have tvA : ∀ A, eqQ Qra I A → TvM A N R := fun A qA => tv.kp (fun a j u1 u2 => qA.1 a j (by unfold Qra Qrk Qna; omega))
      obtain ⟨ex, c1, -, c3⟩ := hN.child (k := 2) (y := 2) hsm (show ndR (N s) = ((2 : Nat) : Int) from x3) rfl
      obtain ⟨z, d1, d2, d3⟩ := hN.child (k := 0) (y := 5) hsm (show ndR (N s) = ((2 : Nat) : Int) from x3) rfl
      obtain ⟨w1, w2⟩ := nm_child hN t hsp (List.mem_of_getElem? d1) d2
      obtain ⟨i', y, -, y2, y3, -⟩ := fl_ch hN hR hp (by rw [x2]; exact c1)
      have y2' : (flR N R)[i']? = some y := y2
      intro P39 h39
      have rest : ∀ (t6 : Int32) (A : zI), eqQ Qra I A → NmM A (nmL N R) → P39 t6 A := by
        intro t6 A qA nA
        refine h39 t6 A ?_
        intro P66 h66
        have st : ∀ t8 : Int32, P66 t8 := by
          intro t8
          refine h66 t8 ?_
          intro v2' ev2'
          refine s_MchildOf (k := 2) (rp A qA) hm hsm (ch _ hsm) c1 ⟨(zin_iff (by omega)).mpr (by omega), ?_⟩
          rw [zi_tn (show ex < 2147483648 by omega), ← y3, ((tvA A qA) i' y y2').2.1, y3]
          refine r_reckons (rp A qA) hN hm t y2' (tvA A qA) nA (fun B qB nB => ?_)
          have qB' : eqQ Qra I B := qA.tr (qB.mono (fun a j h => Or.inl h))
          refine s_MchildOf (k := 0) (rp B qB') hm hsm (ch _ hsm) d1 ⟨(zin_iff (by omega)).mpr (by omega), ?_⟩
          rw [zi_tn (show z < 2147483648 by omega), show B.2 511 z = nmV N z from (((rp B qB').2 z (by omega)).2.2.2.2.2.2 (by omega)).2]
          refine s_nameOf hS w1 nB (fun r C hr qC nC => ⟨(zin_iff (by omega)).mpr (by omega), (zin_iff (by omega)).mpr (by omega), fun I15 e15 v3' ev3' => ?_⟩)
          rw [ev3', zi_succ]
          have qC' : eqQ Qra I C := qB'.tr (qC.mono (fun a j h => Or.inl (Or.inl h)))
          exact ih (k + 1) _ I15 (by omega) (by rw [e15]; exact qC'.zu (Or.inl (Or.inl (Or.inr (Or.inr rfl))))) (nC.kp (by rw [e15, zu_oo (by decide)]) (fun j => by rw [e15, zu_2]))
        intro P64 h64
        split
        · exact h64 (st _)
        · refine ⟨hsin, ?_⟩
          split
          · exact st _
          · exact h64 (st _)
      split
      · exact rest _ J q nJ
      · exact r_reads (rp J q) hN hm t hp x2 x3 (tvA J q) nJ (fun v A qA nA => rest v A (q.tr qA) nA)
  exact main (setsOf N R).length 0 0 I1 (by omega) q1 n1
theorem r_runsAll {m R n : Nat} {og : Nat → Nat} {N : Nat → Nd} {e : Bool} {I : zI} {K : Int32 → zI → Prop} (rep : RepNM I m N) (hN : NdOk m N) (hm : m ≤ 3700) (t : TreeI m N R n og) (vi : ViM I N R n) (hK : ∀ v J, eqQ Qra I J → K v J) : w_M_runsAll (b01 e) I K :=
  r_runsAllN rep hN hm t vi (fun v J q _ => hK v J q)
/-! ===== a change: the model ===== -/
theorem MoM.kp {I J : zI} {s : Nat} {x : Mo} (h : MoM I s x) (hT : txOk (moT x)) (hG : txOk (moG x)) (e : ∀ j, 720 * s ≤ j → j < 720 * s + 720 → J.1 542 j = I.1 542 j) : MoM J s x := by
  obtain ⟨h1, h2, h3, h4, h5, h6, h7⟩ := h
  have a1 := hT.1
  have a2 := hG.1
  have a3 := hG.2.2
  exact ⟨fun j hj => by rw [e _ (by omega) (by omega)]; exact h1 j hj, fun j hj => by rw [e _ (by omega) (by omega)]; exact h2 j hj, fun j hj => by rw [e _ (by omega) (by omega)]; exact h3 j hj, by rw [e _ (by omega) (by omega)]; exact h4, by rw [e _ (by omega) (by omega)]; exact h5, by rw [e _ (by omega) (by omega)]; exact h6, by rw [e _ (by omega) (by omega)]; exact h7⟩
theorem MoM.sh {I J : zI} {s : Nat} {x : Mo} (h : MoM I (s + 1) x) (hT : txOk (moT x)) (hG : txOk (moG x)) (e : ∀ j, 720 * s ≤ j → j < 720 * s + 720 → J.1 542 j = I.1 542 (j + 720)) : MoM J s x := by
  obtain ⟨h1, h2, h3, h4, h5, h6, h7⟩ := h
  have a1 := hT.1
  have a2 := hG.1
  have a3 := hG.2.2
  have w : ∀ k : Nat, 720 * s + k + 720 = 720 * (s + 1) + k := fun k => by omega
  refine ⟨fun j hj => ?_, fun j hj => ?_, fun j hj => ?_, ?_, ?_, ?_, ?_⟩
  · rw [e _ (by omega) (by omega), w]; exact h1 j hj
  · rw [e _ (by omega) (by omega), show 720 * s + 300 + j + 720 = 720 * (s + 1) + 300 + j by omega]; exact h2 j hj
  · rw [e _ (by omega) (by omega), show 720 * s + 600 + j + 720 = 720 * (s + 1) + 600 + j by omega]; exact h3 j hj
  · rw [e _ (by omega) (by omega), w]; exact h4
  · rw [e _ (by omega) (by omega), w]; exact h5
  · rw [e _ (by omega) (by omega), w]; exact h6
  · rw [e _ (by omega) (by omega), w]; exact h7
theorem NowM.kp {I J : zI} {x : Mo} (h : NowM I x) (e : ∀ a j, (a = 491 ∧ (j = 5 ∨ j = 15 ∨ j = 7 ∨ j = 19 ∨ j = 8 ∨ j = 37)) ∨ a = 494 ∨ a = 495 ∨ (501 ≤ a ∧ a ≤ 506) ∨ a = 508 → J.1 a j = I.1 a j) (e2 : ∀ j, J.2 507 j = I.2 507 j) : NowM J x := by
  obtain ⟨n1, n2, n3, n4, n5, n6, n7, n8, n9, n10⟩ := h
  obtain ⟨m1, m2, m3, m4⟩ := NowT.kp (J := J) (d := moT x) ⟨n1, n2, n3, n4⟩ (e _ _ (by omega)) (e _ _ (by omega)) (fun a j u => e a j (by omega))
  obtain ⟨m5, m6, m7⟩ := GoodT.kp (J := J) (d := moG x) ⟨n5, n6, n7⟩ (e _ _ (by omega)) (e _ _ (by omega)) (fun a j u => e a j (by omega)) e2
  exact ⟨m1, m2, m3, m4, m5, m6, m7, fun j hj => by rw [e _ _ (by omega)]; exact n8 j hj, by rw [e _ _ (by omega)]; exact n9, by rw [e _ _ (by omega)]; exact n10⟩
theorem s_remembers {A : List Mo} {c0 c : Mo} {I : zI} {K : zI → Prop} (hA : A.length ≤ 20) (hAo : ∀ y ∈ c0 :: A, txOk (moT y) ∧ txOk (moG y)) (hc : txOk (moT c) ∧ txOk (moG c)) (h75 : I.1 491 75 = zi A.length) (h0 : MoM I A.length c0) (hk : ∀ (k : Nat) (y : Mo), A[k]? = some y → MoM I (A.length - 1 - k) y) (hN : NowM I c)
    (hK : ∀ J, eqQ (fun a j => (a = 491 ∧ (j = 75 ∨ j = 76)) ∨ a = 542) I J → J.1 491 75 = zi ((c0 :: A).take 20).length → J.1 491 76 = zi ((c0 :: A).take 20).length → MoM J ((c0 :: A).take 20).length c → (∀ (k : Nat) (y : Mo), ((c0 :: A).take 20)[k]? = some y → MoM J (((c0 :: A).take 20).length - 1 - k) y) → K J) : w_M_remembers I K := by
  intro P50 h50
  -- behind the shift: all lie at their places, s is the next one
  have rest : ∀ (s : Nat) (J : zI), s + 1 = ((c0 :: A).take 20).length → J.1 491 75 = zi s → eqQ (fun a j => (a = 491 ∧ (j = 75 ∨ j = 76)) ∨ a = 542) I J → (∀ (k : Nat) (y : Mo), ((c0 :: A).take 20)[k]? = some y → MoM J (s - k) y) → P50 J := by
    intro s J hs h75J qJ hJ
    have hs20 : s + 1 ≤ 20 := by
      rw [hs, List.length_take]
      omega
    refine h50 J ?_
    intro I2 e2 I3 e3
    rw [h75J, zi_succ] at e2
    rw [show I2.1 491 75 = zi (s + 1) by rw [e2, zu_self]] at e3
    have g3 : I3.1 491 75 = zi (s + 1) := by rw [e3, zu_i (by decide), e2, zu_self]
    have q3 : eqQ (fun a j => (a = 491 ∧ (j = 75 ∨ j = 76)) ∨ a = 542) I I3 := by
      rw [e3, e2]
      exact (qJ.zu (Or.inl ⟨rfl, Or.inl rfl⟩)).zu (Or.inl ⟨rfl, Or.inr rfl⟩)
    rw [g3]
    refine s_keeps (s := s + 1) hs20 hc.1 hc.2 (hN.kp (fun a j u => q3.1 a j (by omega)) (fun j => q3.2 507 j (by omega))) (fun L qL mL => ?_)
    refine hK L (q3.tr (qL.mono (fun a j h => Or.inr h.1))) (by rw [qL.1 _ _ (by omega), g3, hs]) (by rw [qL.1 _ _ (by omega), e3, zu_self, hs]) (by rw [← hs]; exact mL) (fun k y hy => ?_)
    have hkl := (List.getElem?_eq_some_iff.mp hy).1
    have hym := hAo y (List.mem_of_mem_take (List.mem_of_getElem? hy))
    rw [← hs, Nat.add_sub_cancel]
    refine (hJ k y hy).kp hym.1 hym.2 (fun j u1 u2 => ?_)
    rw [qL.1 542 j (by omega), e3, zu_oo (by decide), e2, zu_oo (by decide)]
  rw [h75]
  by_cases u : A.length = 20
  · rw [if_pos (show zi A.length = 20 by rw [u]; rfl)]
    intro P11 h11
    have shift : ∀ (d v : Nat) (J : zI), v + d = 14400 → eqQ (fun a j => (a = 491 ∧ (j = 75 ∨ j = 76)) ∨ a = 542) I J → (∀ j, j < v → J.1 542 j = I.1 542 (j + 720)) → (∀ j, v ≤ j → J.1 542 j = I.1 542 j) → J.1 491 75 = zi A.length → P11 (zi v) J := by
      intro d
      induction d with
      | zero =>
        intro v J hv q h1 h2 g75
        refine h11 _ _ ?_
        rw [if_pos (show (14400 : Int32) ≤ zi v from (zi_le (a := 14400) (by decide) (by omega)).mpr (by omega))]
        intro I7 e7
        rw [g75, u, show zi 20 - 1 = zi 19 from rfl] at e7
        have q7 : eqQ (fun a j => (a = 491 ∧ (j = 75 ∨ j = 76)) ∨ a = 542) I I7 := by
          rw [e7]
          exact q.zu (Or.inl ⟨rfl, Or.inl rfl⟩)
        have o7 : ∀ j, I7.1 542 j = J.1 542 j := fun j => by rw [e7, zu_oo (by decide)]
        have hlen : ((c0 :: A).take 20).length = 20 := by
          rw [List.length_take, List.length_cons]
          omega
        refine rest 19 I7 (by rw [hlen]) (by rw [e7, zu_self]) q7 (fun k y hy => ?_)
        have hk20 : k < 20 := by
          have := (List.getElem?_eq_some_iff.mp hy).1
          omega
        have hym := hAo y (List.mem_of_mem_take (List.mem_of_getElem? hy))
        rw [List.getElem?_take, if_pos hk20] at hy
        have sh : ∀ s, s ≤ 19 → MoM I (s + 1) y → MoM I7 s y := fun s hs hm => hm.sh hym.1 hym.2 (fun j u1 u2 => by rw [o7, h1 j (by omega)])
        cases k with
        | zero =>
          cases hy
          rw [u] at h0
          exact sh 19 (by decide) h0
        | succ k =>
          rw [List.getElem?_cons_succ] at hy
          have := hk k y hy
          rw [u, show 20 - 1 - k = 19 - (k + 1) + 1 by omega] at this
          exact sh _ (by omega) this
      | succ d ih =>
        intro v J hv q h1 h2 g75
        refine h11 _ _ ?_
        rw [if_neg (show ¬ (14400 : Int32) ≤ zi v from fun u => by have := (zi_le (a := 14400) (by decide) (by omega)).mp u; omega), show (720 : Int32) = zi 720 from rfl, zi_add, zi_tn (show v < 2147483648 by omega), zi_tn (show v + 720 < 2147483648 by omega)]
        refine ⟨(zin_iff (by omega)).mpr (by omega), (zin_iff (by omega)).mpr (by omega), fun I8 e8 w ew => ?_⟩
        rw [h2 (v + 720) (by omega)] at e8
        rw [ew, zi_succ]
        refine ih (v + 1) I8 (by omega) (by rw [e8]; exact q.zu (Or.inr rfl)) (fun j hj => ?_) (fun j hj => ?_) ?_
        · rw [e8, zu_at]
          by_cases w : j = v
          · rw [if_pos ⟨rfl, w⟩, w]
          · rw [if_neg (fun x => w x.2)]
            exact h1 j (by omega)
        · rw [e8, zu_i (by omega)]
          exact h2 j (by omega)
        · rw [e8, zu_oo (by decide)]
          exact g75
    exact shift 14400 0 I (by omega) eqQ.rf (fun j hj => by omega) (fun j _ => rfl) h75
  · rw [if_neg (show ¬ zi A.length = 20 from fun v => u ((zi_eq (b := 20) (by omega) (by decide)).mp v))]
    have htk : (c0 :: A).take 20 = c0 :: A := List.take_of_length_le (by rw [List.length_cons]; omega)
    refine rest A.length I (by rw [htk]; rfl) h75 eqQ.rf (fun k y hy => ?_)
    rw [htk] at hy
    cases k with
    | zero =>
      cases hy
      exact h0
    | succ k =>
      rw [List.getElem?_cons_succ] at hy
      have := hk k y hy
      rw [show A.length - 1 - k = A.length - (k + 1) by omega] at this
      exact this
theorem TapM.kp {I J : zI} {t : List Int32} (h : TapM I t) (e1 : J.1 491 0 = I.1 491 0) (e2 : ∀ j, J.1 492 j = I.1 492 j) : TapM J t := ⟨e1.trans h.1, fun j v hj => by rw [e2]; exact h.2 j v hj⟩
theorem ViM.kp {I J : zI} {N : Nat → Nd} {R n : Nat} (h : ViM I N R n) (e : ∀ a j, (a = 491 ∧ (j = 37 ∨ j = 43 ∨ j = 51 ∨ j = 53)) ∨ (521 ≤ a ∧ a ≤ 526) ∨ a = 528 ∨ a = 529 → J.1 a j = I.1 a j) : ViM J N R n := by
  obtain ⟨v1, ⟨v2, v3, v4⟩, v5, v6, v7, v8, v9⟩ := h
  refine ⟨by rw [e _ _ (by omega)]; exact v1, ⟨by rw [e _ _ (by omega)]; exact v2, fun i x hi hx => ?_, fun c hc hno => by rw [e _ _ (by omega)]; exact v4 c hc hno⟩, fun i x hx => ?_, by rw [e _ _ (by omega)]; exact v6, by rw [e _ _ (by omega)]; exact v7, fun i r hi => by rw [e _ _ (by omega)]; exact v8 i r hi, fun i r hi => by rw [e _ _ (by omega)]; exact v9 i r hi⟩
  · obtain ⟨b1, b2, o, b3, b4, b5⟩ := v3 i x hi hx
    rw [e 521 _ (by omega), e 523 _ (by omega)]
    exact ⟨b1, b2, o, b3, by rw [e 526 _ (by omega)]; exact b4, b5⟩
  · obtain ⟨b1, b2, b3⟩ := v5 i x hx
    rw [e 522 _ (by omega)]
    refine ⟨b1, fun u => by rw [e 524 _ (by omega)]; exact b2 u, fun u => ?_⟩
    obtain ⟨y, j, c1, c2, c3, c4⟩ := b3 u
    exact ⟨y, j, c1, c2, by rw [e 524 _ (by omega)]; exact c3, by rw [e 525 _ (by omega)]; exact c4⟩
theorem PrM.kp {I J : zI} {pl : List (Nat × Nat)} (h : PrM I pl) (e : ∀ a j, (a = 491 ∧ j = 59) ∨ a = 533 ∨ a = 534 → J.1 a j = I.1 a j) : PrM J pl :=
  ⟨by rw [e _ _ (by omega)]; exact h.1, fun i p hi => by rw [e 533 _ (by omega), e 534 _ (by omega)]; exact h.2.1 i p hi, h.2.2⟩
theorem ViM.fm {m R n : Nat} {og : Nat → Nat} {I : zI} {N : Nat → Nd} (hN : NdOk m N) (hu : UqE m N) (t : TreeI m N R n og) (h : ViM I N R n) : FlM I (flR N R) := fun p x hx => by
  have fg := t.flG hN hu
  obtain ⟨b1, b2, o, b3, b4, b5⟩ := h.2.1.2.1 p x (List.getElem?_eq_some_iff.mp hx).1 hx
  obtain ⟨c1, c2, c3⟩ := h.2.2.1 p x hx
  refine ⟨c2, fun u y hy => ?_, fun u => ?_⟩
  · obtain ⟨y', j, d1, d2, d3, d4⟩ := c3 u
    rw [hy] at d1
    cases d1
    exact d3
  · rw [b4, b5 u, zi_int]
theorem r_ruleNodes {m R n : Nat} {og : Nat → Nat} {I : zI} {N : Nat → Nd} {K : Int32 → Prop} (hN : NdOk m N) (hu : UqE m N) (hm : m ≤ 3700) (t : TreeI m N R n og) (h : ViM I N R n) (hK : ∀ v, K v) : w_M_ruleNodes I K := by
  have fg := t.flG hN hu
  have hl := t.few hN
  have hlen : (flR N R).length = sz N R := fl_len hN R t.1 _ _ _ _
  intro P4 h4
  have main : ∀ (d k : Nat) (v : Int32), k + d = (flR N R).length → P4 v (zi k) := by
    intro d
    induction d with
    | zero =>
      intro k v hk
      refine h4 _ _ ?_
      rw [h.2.1.1, if_pos ((zi_le (by omega) (by omega)).mpr (by omega))]
      exact hK v
    | succ d ih =>
      intro k v hk
      refine h4 _ _ ?_
      have hx : (flR N R)[k]? = some ((flR N R)[k]'(by omega)) := List.getElem?_eq_getElem (by omega)
      generalize (flR N R)[k]'(by omega) = x at hx
      have hxm := (fg.1.2 k x hx).1
      rw [h.2.1.1, if_neg (fun u => by have := (zi_le (by omega) (by omega)).mp u; omega), zi_tn (show k < 2147483648 by omega), (h.2.1.2.1 k x (by omega) hx).1]
      refine ⟨(zin_iff (by omega)).mpr (by omega), (zin_iff (by omega)).mpr (by omega), ?_⟩
      intro P29 h29
      have nx : ∀ w, P29 w := fun w => h29 w (fun v' ev => by
        rw [ev, zi_succ]
        exact ih (k + 1) w (by omega))
      split
      · exact nx _
      · intro v' ev
        exact nx _
  exact main (flR N R).length 0 0 (by omega)
/-- what a change of the model may touch -/
def Qmo (a j : Nat) : Prop := 491 ≤ a ∧ a < 546
theorem s_edited {x : Sg} {d tp : List Int32} {I : zI} {K : Int32 → zI → Prop} (hv : Iv x) (hR : RM I (tp, x.2)) (hd : txOk d) (hnr : ¬ refu x d) (hn : NewT I d) (he : sgE x < 100000)
    (h1 : ∀ J, eqQ Qmo I J → RM J (chg x d tp) → K (if (regY x d).1 + 1 = (lexL d).length ∧ topS (regY x d).2.2.2.1 = 1 then 0 else 1) J) : w_M_edited I K := by
  obtain ⟨r1, r2, r3, r4, r5, r6, r7, nw, sC, sA, sZ⟩ := hR
  change RepNM I (sgM x) (sgN x) at r2
  change ViM I (sgN x) (moR (sgC x)) (lexL (moG (sgC x))).length at r3
  change PrM I (sgP x) at r4
  change I.1 491 36 = zi (sgE x) at r5
  change I.1 491 75 = zi (sgA x).length at r6
  change NowM I (sgC x) at nw
  change MoM I (sgA x).length (sgC x) at sC
  change ∀ (k : Nat) (y : Mo), (sgA x)[k]? = some y → MoM I ((sgA x).length - 1 - k) y at sA
  obtain ⟨m1, g, N1, k, y, hreg, hnm, hrun, ⟨ge, gi, hog, hm0, hm1⟩, g1, g2, g3, g4, g5, g6, g7, g8⟩ := reg_ok hv hd
  obtain ⟨hTp, hN, hu, hm, hTk, ⟨hP1, hP2⟩, hE, hC, hA, hZ, hAZ⟩ := id hv
  obtain ⟨oT, oG, oB, oR, oK⟩ := id hC
  have hY : regY x d = y := by
    unfold regY
    rw [hreg]
  have hgN : (reg x d).1.2.1 = g := by rw [hreg]
  unfold refu at hnr
  have lxd := lex_lxo hd
  have lxg := lex_lxo oG
  obtain ⟨kl1, kl2, kl3⟩ := kept_le (t := txF d) (t' := txF (moG (sgC x))) lxd.2.1 lxg.2.1
  obtain ⟨nw1, nw2, nw3, nw4, nw5, nw6, nw7, nw8, nw9, nw10⟩ := id nw
  have hl100 := lxd.2.2.1
  unfold w_M_edited
  intro v1 ev1 v2 ev2
  rw [r2.1] at ev1
  subst ev1
  refine r_ruleNodes hN hu (by omega) oR r3 (fun _ => ?_)
  intro I4 e4
  rw [r5, zi_succ] at e4
  have o4 : ∀ a j, ¬ (a = 491 ∧ j = 36) → I4.1 a j = I.1 a j := fun a j u => by rw [e4, zu_at, if_neg u]
  have o42 : I4.2 = I.2 := by rw [e4, zu_2]
  have hn4 : NewT I4 d := hn.kp (o4 _ _ (by omega)) (o4 _ _ (by omega)) (fun a j u => o4 a j (by omega)) (fun j => by rw [o42])
  have old4 : OldU I4 (txF (moG (sgC x))) (lexL (moG (sgC x))) := (GoodT.kp (J := I4) (d := moG (sgC x)) ⟨nw5, nw6, nw7⟩ (o4 _ _ (by omega)) (o4 _ _ (by omega)) (fun a j u => o4 a j (by omega)) (fun j => by rw [o42])).2.2
  refine s_fillsKept hn4.2.2 old4 lxd.2.1 lxg.2.1 lxd.2.2.1 lxg.2.2.1 lxd.1 lxg.1 (fun I5 q5 A5 B5 => ?_)
  have o5 : ∀ a j, ¬ (a = 491 ∧ (j = 36 ∨ j = 66 ∨ j = 67)) → I5.1 a j = I.1 a j := fun a j u => by rw [q5.1 a j (by omega), o4 a j (by omega)]
  have o52 : ∀ a j, a ≠ 491 → I5.2 a j = I.2 a j := fun a j u => by rw [q5.2 a j (by omega), o42]
  have g36 : I5.1 491 36 = zi (sgE x + 1) := by rw [q5.1 _ _ (by omega), e4, zu_self]
  have hn5 : NewT I5 d := hn.kp (o5 _ _ (by omega)) (o5 _ _ (by omega)) (fun a j u => o5 a j (by omega)) (fun j => o52 499 j (by decide))
  have rep5 : RepNM I5 (sgM x) (sgN x) := r2.kp2 (o5 _ _ (by omega)) (fun a j u1 u2 => o5 a j (by omega)) (fun j => o52 511 j (by decide))
  refine s_makesTokens (g := fun _ => 0) rep5 hN.ch hn5.2.2 lxd.1 g36 (by rw [o5 _ _ (by omega)]; exact nw7.1) A5 B5 (by omega) (by omega) (by omega) (by omega) lxd.2.2.1 lxg.2.2.1 (fun j hj => by rw [o5 _ _ (by omega)]; exact nw8 j hj) (by omega) (fun m' g' N' I7 hn' q7 rep7 _ _ gn7 => ?_)
  rw [hnm] at hn'
  cases hn'
  have o7 : ∀ a j, ¬ (a = 491 ∧ (j = 25 ∨ j = 36 ∨ j = 66 ∨ j = 67)) → ¬ (509 ≤ a ∧ a ≤ 517) → a ≠ 500 → I7.1 a j = I.1 a j := fun a j u1 u2 u3 => by rw [q7.1 a j (by unfold Qnu Qnm; omega), o5 a j (by omega)]
  have o72 : ∀ a j, a ≠ 491 → ¬ (509 ≤ a ∧ a ≤ 517) → a ≠ 500 → I7.2 a j = I.2 a j := fun a j u1 u2 u3 => by rw [q7.2 a j (by unfold Qnu Qnm; omega), o52 a j u1]
  have k7 : ∀ j, j ≠ 25 → I7.1 491 j = I5.1 491 j := fun j u => q7.1 491 j (by unfold Qnu Qnm; omega)
  have vi7 : ViM I7 (sgN x) (moR (sgC x)) (lexL (moG (sgC x))).length := r3.kp (fun a j u => o7 a j (by omega) (by omega) (by omega))
  refine s_grows (kd := fun i => ((lexL d).getD i (10, 0, 0)).1) ge gi (by omega) rep7 (vi7.fm hN hu oR) (by rw [k7 _ (by decide)]; exact g36) (by rw [o7 _ _ (by omega) (by omega) (by omega)]; exact hn.2.2.1) (by rw [o7 _ _ (by omega) (by omega) (by omega)]; exact nw7.1) (by rw [k7 _ (by decide)]; exact A5) (by rw [k7 _ (by decide)]; exact B5) (fun i hi => ?_) gn7 (fun i hi j hj => ?_) (fun I9 k' y' hrun' gi' gm' => ?_)
  · have hx : (lexL d)[i]? = some ((lexL d).getD i (10, 0, 0)) := by
      rw [List.getD_eq_getElem?_getD, List.getElem?_eq_getElem hi]
      rfl
    rw [o7 _ _ (by omega) (by omega) (by omega)]
    exact (hn.2.2.2 i _ hx).1
  · have hjn := wasN_lt hi (by omega) (by omega) (by omega) hj
    rw [o7 _ _ (by omega) (by omega) (by omega), nw8 j hjn, hog i hi j hj]
  rw [hrun] at hrun'
  cases hrun'
  obtain ⟨x1, x2, x3, x4, x5⟩ := gm'
  have o9 : ∀ a j, ¬ (a = 491 ∧ (j = 25 ∨ j = 36 ∨ j = 66 ∨ j = 67 ∨ (71 ≤ j ∧ j ≤ 73))) → ¬ (509 ≤ a ∧ a ≤ 517) → a ≠ 500 → a ≠ 539 → a ≠ 540 → I9.1 a j = I.1 a j := fun a j u1 u2 u3 u4 u5 => by rw [x1.1 a j (by unfold Qgm Qnm; omega), o7 a j (by omega) u2 u3]
  have o92 : ∀ a j, a ≠ 491 → ¬ (509 ≤ a ∧ a ≤ 517) → a ≠ 500 → a ≠ 539 → a ≠ 540 → I9.2 a j = I.2 a j := fun a j u1 u2 u3 u4 u5 => by rw [x1.2 a j (by unfold Qgm Qnm; omega), o72 a j u1 u2 u3]
  have g936 : I9.1 491 36 = zi (sgE x + 1) := by rw [x1.1 _ _ (by unfold Qgm Qnm; omega), k7 _ (by decide)]; exact g36
  have q9 : eqQ Qmo I I9 := by
    have a4 : eqQ Qmo I I4 := by
      rw [e4]
      exact eqQ.rf.zu ⟨by decide, by decide⟩
    exact ((a4.tr (q5.mono (fun a j h => by unfold Qmo; omega))).tr (q7.mono (fun a j h => by unfold Qnu Qnm at h; unfold Qmo; omega))).tr (x1.mono (fun a j h => by unfold Qgm Qnm at h; unfold Qmo; omega))
  have hn9 : NewT I9 d := hn.kp (o9 _ _ (by omega) (by omega) (by omega) (by omega) (by omega)) (o9 _ _ (by omega) (by omega) (by omega) (by omega) (by omega)) (fun a j u => o9 a j (by omega) (by omega) (by omega) (by omega) (by omega)) (fun j => o92 499 j (by omega) (by omega) (by omega) (by omega) (by omega))
  have gn9 : ∀ j, j < (lexL d).length → I9.1 500 j = zi (g j) := fun j hj => by rw [x1.1 500 j (by unfold Qgm Qnm; omega)]; exact gn7 j hj
  have vx : ∀ i : Nat, i < 10 → vp_in (zi i) 10 := fun i hi => (zin_iff (by omega)).mpr hi
  have hAo : ∀ z ∈ sgC x :: sgA x, txOk (moT z) ∧ txOk (moG z) := fun z hz => by
    rcases List.mem_cons.mp hz with rfl | hz
    · exact ⟨oT, oG⟩
    · exact ⟨(hA z hz).1, (hA z hz).2.1⟩
  rw [hY] at h1
  intro P52 h52
  -- what is told of it and kept, with the answer as a Bool
  have both : ∀ gd : Bool, (gd = true ↔ (y.1 + 1 = (lexL d).length ∧ topS y.2.2.2.1 = 1)) → P52 (b01 gd) := by
    intro gd hgd
    refine h52 _ ⟨by cases gd; exact Or.inl rfl; exact Or.inr rfl, fun I11 e11 => ⟨vx 0 (by decide), fun I12 e12 => ⟨vx 1 (by decide), fun I13 e13 => ⟨vx 2 (by decide), fun I14 e14 => ⟨vx 5 (by decide), fun I15 e15 => ?_⟩⟩⟩⟩⟩
    intro P113 h113
    have lst : ∀ t16 : Int32, P113 t16 := by
      intro t16
      refine h113 t16 ⟨vx 6 (by decide), fun I17 e17 => ⟨vx 7 (by decide), fun I18 e18 => ?_⟩⟩
      have o18 : ∀ a j, a ≠ 538 → I18.1 a j = I11.1 a j := fun a j u => by rw [e18, zu_oo u, e17, zu_oo u, e15, zu_oo u, e14, zu_oo u, e13, zu_oo u, e12, zu_oo u]
      have c18 : ∀ a j, a ≠ 538 → ¬ (a = 491 ∧ j = 8) → I18.1 a j = I9.1 a j := fun a j u v => by rw [o18 a j u, e11, zu_at, if_neg v]
      have c182 : I18.2 = I9.2 := by rw [e18, zu_2, e17, zu_2, e15, zu_2, e14, zu_2, e13, zu_2, e12, zu_2, e11, zu_2]
      have g8' := g8
      have g8 : I18.1 491 8 = b01 gd := by rw [o18 _ _ (by decide), e11, zu_self]
      have q18 : eqQ Qmo I I18 := by
        have z : ∀ (A : zI) (j : Nat) (v : Int32), eqQ Qmo I A → eqQ Qmo I (zu A 538 j v) := fun A j v h => h.zu ⟨by decide, by decide⟩
        rw [e18, e17, e15, e14, e13, e12, e11]
        exact z _ _ _ (z _ _ _ (z _ _ _ (z _ _ _ (z _ _ _ (z _ _ _ (q9.zu ⟨by decide, by decide⟩))))))
      have hn18 : NewT I18 d := hn9.kp (c18 _ _ (by omega) (by omega)) (c18 _ _ (by omega) (by omega)) (fun a j u => c18 a j (by omega) (by omega)) (fun j => by rw [c182])
      intro P346 h346
      -- the end: all is remembered
      have fin : ∀ L : zI, eqQ Qmo I L → TapM L tp → RepNM L (sgM (chg x d tp)) (sgN (chg x d tp)) → ViM L (sgN (chg x d tp)) (moR (newC x d)) (lexL (moG (newC x d))).length → PrM L (sgP (chg x d tp)) → L.1 491 36 = zi (sgE x + 1) → NowM L (newC x d) → (∀ j, L.1 542 j = I.1 542 j) → L.1 491 75 = zi (sgA x).length → P346 L := by
        intro L qL l1 l2 l3 l4 l5 l6 l7 l8
        refine h346 L ⟨vx 9 (by decide), fun I20 e20 => ?_⟩
        have o20 : ∀ a j, a ≠ 538 → I20.1 a j = L.1 a j := fun a j u => by rw [e20, zu_oo u]
        have nc : txOk (moT (newC x d)) ∧ txOk (moG (newC x d)) ∧ moB (newC x d) = gd := by
          unfold newC
          rw [hY]
          by_cases hg : y.1 + 1 = (lexL d).length ∧ topS y.2.2.2.1 = 1
          · rw [if_pos hg]
            exact ⟨hd, hd, (hgd.mpr hg).symm⟩
          · rw [if_neg hg]
            refine ⟨hd, oG, ?_⟩
            cases gd
            · rfl
            · exact absurd (hgd.mp rfl) hg
        refine s_remembers (A := sgA x) (c0 := sgC x) (c := newC x d) (by omega) hAo ⟨nc.1, nc.2.1⟩ (by rw [o20 _ _ (by decide)]; exact l8) (sC.kp oT oG (fun j _ _ => by rw [o20 _ _ (by decide)]; exact l7 j)) (fun kk yy hy => (sA kk yy hy).kp (hAo yy (List.mem_cons_of_mem _ (List.mem_of_getElem? hy))).1 (hAo yy (List.mem_cons_of_mem _ (List.mem_of_getElem? hy))).2 (fun j _ _ => by rw [o20 _ _ (by decide)]; exact l7 j)) (l6.kp (fun a j u => o20 a j (by omega)) (fun j => by rw [e20, zu_2])) (fun M qM t1 t2 t3 t4 => ?_)
        have oM : ∀ a j, a ≠ 538 → a ≠ 542 → ¬ (a = 491 ∧ (j = 75 ∨ j = 76)) → M.1 a j = L.1 a j := fun a j u1 u2 u3 => by rw [qM.1 a j (by omega), o20 a j u1]
        have oM2 : ∀ a j, a ≠ 542 → a ≠ 491 → M.2 a j = L.2 a j := fun a j u v => by rw [qM.2 a j (by omega), e20, zu_2]
        have l6M : NowM M (newC x d) := l6.kp (fun a j u => oM a j (by omega) (by omega) (by omega)) (fun j => oM2 507 j (by decide) (by decide))
        have key := h1 M (by
          refine eqQ.tr ?_ (qM.mono (fun a j h => by unfold Qmo; omega))
          rw [e20]
          exact qL.zu ⟨by decide, by decide⟩) ⟨l1.kp (oM _ _ (by decide) (by decide) (by decide)) (fun j => oM _ _ (by decide) (by decide) (by omega)), l2.kp2 (oM _ _ (by decide) (by decide) (by decide)) (fun a j u1 u2 => oM a j (by omega) (by omega) (by omega)) (fun j => oM2 511 j (by decide) (by decide)), l3.kp (fun a j u => oM a j (by omega) (by omega) (by omega)), l4.kp (fun a j u => oM a j (by omega) (by omega) (by omega)), by rw [oM _ _ (by decide) (by decide) (by decide)]; exact l5, t1, t2, l6M, t3, t4, fun kk yy hy => (by cases hy)⟩
        rw [show M.1 491 8 = b01 gd by rw [← nc.2.2]; exact l6M.2.2.2.2.2.2.2.2.1]
        cases gd with
        | false =>
          rw [if_pos (show b01 false = 0 by decide)]
          rw [if_neg (fun hg => by have := hgd.mpr hg; cases this)] at key
          exact key
        | true =>
          rw [if_neg (show ¬ b01 true = 0 by decide)]
          rw [if_pos (hgd.mp rfl)] at key
          exact key
      rw [g8]
      cases gd with
      | false =>
        rw [if_pos (show b01 false = 0 by decide)]
        have hg : ¬ (y.1 + 1 = (lexL d).length ∧ topS y.2.2.2.1 = 1) := fun hg => by have := hgd.mpr hg; cases this
        intro I23 e23
        have c23 : ∀ a j, ¬ (a = 491 ∧ j = 25) → I23.1 a j = I18.1 a j := fun a j u => by rw [e23, zu_at, if_neg u]
        refine s_keepsTokens (gd := false) hd (hn18.kp (c23 _ _ (by omega)) (c23 _ _ (by omega)) (fun a j u => c23 a j (by omega)) (fun j => by rw [e23, zu_2])) (by rw [c23 _ _ (by omega)]; exact g8) (fun I24 q24 nt24 _ => ?_)
        have q24 : eqQ Qkt I23 I24 := q24.mono (fun a j h => by rcases h with h | ⟨h, -⟩; exact h; cases h)
        refine ⟨vx 3 (by decide), fun I25 e25 => ⟨vx 4 (by decide), fun I26 e26 => ⟨vx 8 (by decide), fun I27 e27 => ?_⟩⟩⟩
        have o27 : ∀ a j, a ≠ 538 → I27.1 a j = I24.1 a j := fun a j u => by rw [e27, zu_oo u, e26, zu_oo u, e25, zu_oo u]
        have o272 : I27.2 = I24.2 := by rw [e27, zu_2, e26, zu_2, e25, zu_2]
        -- against I9
        have c27 : ∀ a j, a ≠ 538 → ¬ Qkt a j → ¬ (a = 491 ∧ (j = 25 ∨ j = 8)) → I27.1 a j = I9.1 a j := fun a j u1 u2 u3 => by rw [o27 a j u1, q24.1 a j u2, c23 a j (by omega), c18 a j u1 (by omega)]
        have f27 : ∀ a j, a ≠ 538 → ¬ Qkt a j → ¬ (a = 491 ∧ (j = 25 ∨ j = 8 ∨ j = 36 ∨ j = 66 ∨ j = 67 ∨ (71 ≤ j ∧ j ≤ 73))) → ¬ (509 ≤ a ∧ a ≤ 517) → a ≠ 500 → a ≠ 539 → a ≠ 540 → I27.1 a j = I.1 a j := fun a j u1 u2 u3 u4 u5 u6 u7 => by rw [c27 a j u1 u2 (by omega), o9 a j (by omega) u4 u5 u6 u7]
        have nce : newC x d = (d, moG (sgC x), false, moR (sgC x), moO (sgC x), moW (sgC x)) := by
          unfold newC
          rw [hY, if_neg hg]
        have hcm : (chg x d tp).2.1 = (sgM x, sgN x) := by
          unfold chg
          rw [hY, if_neg hg]
        have hcN : sgN (chg x d tp) = sgN x := congrArg Prod.snd hcm
        have hcM : sgM (chg x d tp) = sgM x := congrArg Prod.fst hcm
        have hcP : sgP (chg x d tp) = sgP x := by
          unfold chg sgP
          rw [hY]
          exact if_neg hg
        rw [hcN, hcM, hcP, nce] at fin
        refine fin I27 ?_ (r1.kp (f27 _ _ (by decide) (by unfold Qkt; decide) (by decide) (by decide) (by decide) (by decide) (by decide)) (fun j => f27 _ _ (by decide) (by unfold Qkt; omega) (by omega) (by omega) (by omega) (by omega) (by omega))) ⟨?_, fun kk hk => ?_⟩ (r3.kp (fun a j u => f27 a j (by omega) (by unfold Qkt; omega) (by omega) (by omega) (by omega) (by omega) (by omega))) (r4.kp (fun a j u => f27 a j (by omega) (by unfold Qkt; omega) (by omega) (by omega) (by omega) (by omega) (by omega))) (by rw [c27 _ _ (by decide) (by unfold Qkt; decide) (by decide)]; exact g936) ?_ (fun j => f27 542 j (by decide) (by unfold Qkt; omega) (by omega) (by omega) (by omega) (by omega) (by omega)) (by rw [f27 _ _ (by decide) (by unfold Qkt; decide) (by decide) (by decide) (by decide) (by decide) (by decide)]; exact r6)
        · rw [e27, e26, e25]
          refine (((eqQ.tr ?_ (q24.mono (fun a j h => by unfold Qkt at h; unfold Qmo; omega))).zu ⟨by decide, by decide⟩).zu ⟨by decide, by decide⟩).zu ⟨by decide, by decide⟩
          rw [e23]
          exact q18.zu ⟨by decide, by decide⟩
        · rw [o27 _ _ (by decide), q24.1 _ _ (by unfold Qkt; decide), e23, zu_self]
        · rw [← g1 kk hk]
          obtain ⟨n1, n2, n3, n4, n5, n6, n7⟩ := x2.2 kk (by omega)
          have cc : ∀ a j, 509 ≤ a → a ≤ 516 → I27.1 a j = I9.1 a j := fun a j u1 u2 => c27 a j (by omega) (by unfold Qkt; omega) (by omega)
          refine ⟨by rw [cc _ _ (by decide) (by decide)]; exact n1, by rw [cc _ _ (by decide) (by decide)]; exact n2, by rw [cc _ _ (by decide) (by decide)]; exact n3, by rw [cc _ _ (by decide) (by decide)]; exact n4, by rw [cc _ _ (by decide) (by decide)]; exact n5, fun i c hi => by rw [cc _ _ (by decide) (by decide)]; exact n6 i c hi, fun q => ?_⟩
          obtain ⟨w1, w2⟩ := n7 q
          exact ⟨by rw [cc _ _ (by decide) (by decide)]; exact w1, by rw [o272, q24.2 511 kk (by unfold Qkt; omega), e23, zu_2, c182]; exact w2⟩
        · obtain ⟨a1, a2, a3, a4⟩ := nt24.kp (J := I27) (o27 _ _ (by decide)) (o27 _ _ (by decide)) (fun a j u => o27 a j (by omega))
          obtain ⟨a5, a6, a7⟩ := GoodT.kp (J := I27) (d := moG (sgC x)) ⟨nw5, nw6, nw7⟩ (f27 _ _ (by decide) (by unfold Qkt; decide) (by decide) (by decide) (by decide) (by decide) (by decide)) (f27 _ _ (by decide) (by unfold Qkt; decide) (by decide) (by decide) (by decide) (by decide) (by decide)) (fun a j u => f27 a j (by omega) (by unfold Qkt; omega) (by omega) (by omega) (by omega) (by omega) (by omega)) (fun j => by rw [o272, q24.2 507 j (by unfold Qkt; omega), e23, zu_2, c182]; exact o92 507 j (by decide) (by decide) (by decide) (by decide) (by decide))
          refine ⟨a1, a2, a3, a4, a5, a6, a7, fun j hj => ?_, ?_, ?_⟩
          · rw [f27 508 j (by decide) (by unfold Qkt; omega) (by omega) (by omega) (by omega) (by omega) (by omega)]
            exact nw8 j hj
          · rw [o27 _ _ (by decide), q24.1 _ _ (by unfold Qkt; decide), c23 _ _ (by decide)]
            exact g8
          · rw [f27 _ _ (by decide) (by unfold Qkt; decide) (by decide) (by decide) (by decide) (by decide) (by decide)]
            exact nw10
      | true =>
        rw [if_neg (show ¬ b01 true = 0 by decide)]
        have hg := hgd.mp rfl
        obtain ⟨b, hst, tr⟩ := g8' hg.1 hg.2
        have fg := oR.flG hN hu
        have hFl := oR.few hN
        have hFlen : (flR (sgN x) (moR (sgC x))).length = sz (sgN x) (moR (sgC x)) := fl_len hN _ oR.1 _ _ _ _
        intro P133 h133
        have cp : ∀ (dd v : Nat) (A : zI), v + dd = (lexL d).length → eqQ (fun a _ => a = 508) I18 A → (∀ j, j < v → A.1 508 j = zi (g j)) → P133 (zi v) A := by
          intro dd
          induction dd with
          | succ dd ih =>
            intro v A hvd qA hA'
            refine h133 _ _ ?_
            rw [qA.1 491 9 (by omega), hn18.2.2.1, if_neg (fun u => by have := (zi_le (by omega) (by omega)).mp u; omega), zi_tn (show v < 2147483648 by omega)]
            refine ⟨(zin_iff (by omega)).mpr (by omega), (zin_iff (by omega)).mpr (by omega), fun I54 e54 w ew => ?_⟩
            rw [qA.1 500 v (by omega), c18 500 v (by decide) (by omega), gn9 v (by omega)] at e54
            rw [ew, zi_succ]
            refine ih (v + 1) I54 (by omega) (by rw [e54]; exact qA.zu rfl) (fun j hj => ?_)
            rw [e54, zu_at]
            by_cases u : j = v
            · rw [if_pos ⟨rfl, u⟩, u]
            · rw [if_neg (fun z => u z.2)]
              exact hA' j (by omega)
          | zero =>
            intro v A hvd qA hA'
            refine h133 _ _ ?_
            rw [qA.1 491 9 (by omega), hn18.2.2.1, if_pos ((zi_le (by omega) (by omega)).mpr (by omega))]
            have hst2 : y.2.2.2.1.length = 2 := by rw [hst]; rfl
            have a71 : A.1 491 71 - 1 = zi 1 := by
              rw [qA.1 491 71 (by omega), c18 491 71 (by decide) (by decide), x3.2.1, hst2]
              rfl
            rw [a71, zi_tn (by decide)]
            refine ⟨(zin_iff (by omega)).mpr (by decide), fun I30 e30 => ?_⟩
            rw [qA.1 540 1 (by omega), c18 540 1 (by decide) (by decide), (x3.2.2 1 (regR x d, 1) (by rw [hst]; rfl)).2 (Nat.le_refl 1)] at e30
            have c30 : ∀ a j, a ≠ 508 → ¬ (a = 491 ∧ j = 37) → I30.1 a j = I18.1 a j := fun a j u1 u2 => by rw [e30, zu_at, if_neg u2, qA.1 a j u1]
            have q30 : eqQ Qmo I I30 := by
              rw [e30]
              exact (q18.tr (qA.mono (fun a j h => by unfold Qmo; omega))).zu ⟨by decide, by decide⟩
            intro P180 h180
            have vi30 : ∀ (B : zI), eqQ (fun a _ => a = 541) I30 B → B.1 491 43 = zi (flR (sgN x) (moR (sgC x))).length ∧ ∀ (i : Nat) (z : Fl), (flR (sgN x) (moR (sgC x)))[i]? = some z → B.1 521 i = zi z.1 := fun B qB => by
              refine ⟨?_, fun i z hz => ?_⟩
              · rw [qB.1 491 43 (by omega), c30 _ _ (by decide) (by decide), c18 _ _ (by decide) (by decide), o9 _ _ (by decide) (by decide) (by decide) (by decide) (by decide)]
                exact r3.2.1.1
              · rw [qB.1 521 i (by omega), c30 _ _ (by decide) (by omega), c18 _ _ (by decide) (by omega), o9 _ _ (by omega) (by omega) (by decide) (by decide) (by decide)]
                exact (r3.2.1.2.1 i z (List.getElem?_eq_some_iff.mp hz).1 hz).1
            have oo : ∀ (d2 v : Nat) (B : zI), v + d2 = (flR (sgN x) (moR (sgC x))).length → eqQ (fun a _ => a = 541) I30 B → (∀ (j : Nat) (z : Fl), j < v → (flR (sgN x) (moR (sgC x)))[j]? = some z → B.1 541 j = zi z.1) → P180 (zi v) B := by
              intro d2
              induction d2 with
              | succ d2 ih2 =>
                intro v B hvd2 qB hB
                obtain ⟨w1, w2⟩ := vi30 B qB
                refine h180 _ _ ?_
                rw [w1, if_neg (fun u => by have := (zi_le (by omega) (by omega)).mp u; omega), zi_tn (show v < 2147483648 by omega)]
                have hz : (flR (sgN x) (moR (sgC x)))[v]? = some ((flR (sgN x) (moR (sgC x)))[v]'(by omega)) := List.getElem?_eq_getElem (by omega)
                generalize (flR (sgN x) (moR (sgC x)))[v]'(by omega) = z at hz
                refine ⟨(zin_iff (by omega)).mpr (by omega), (zin_iff (by omega)).mpr (by omega), fun I51 e51 w ew => ?_⟩
                rw [w2 v z hz] at e51
                rw [ew, zi_succ]
                refine ih2 (v + 1) I51 (by omega) (by rw [e51]; exact qB.zu rfl) (fun j z' hj hz' => ?_)
                rw [e51, zu_at]
                by_cases u : j = v
                · subst u
                  rw [hz] at hz'
                  cases hz'
                  rw [if_pos ⟨rfl, rfl⟩]
                · rw [if_neg (fun q => u q.2)]
                  exact hB j z' (by omega) hz'
              | zero =>
                intro v B hvd2 qB hB
                obtain ⟨w1, w2⟩ := vi30 B qB
                refine h180 _ _ ?_
                rw [w1, if_pos ((zi_le (by omega) (by omega)).mpr (by omega))]
                intro v6 ev6
                subst ev6
                have cB : ∀ a j, a ≠ 508 → a ≠ 541 → ¬ (a = 491 ∧ j = 37) → B.1 a j = I18.1 a j := fun a j u1 u2 u3 => by rw [qB.1 a j u2, c30 a j u1 u3]
                have cB2 : ∀ a j, a ≠ 508 → a ≠ 541 → B.2 a j = I18.2 a j := fun a j u1 u2 => by rw [qB.2 a j u2, e30, zu_2, qA.2 a j u1]
                refine s_keepsTokens (gd := true) hd (hn18.kp (cB _ _ (by decide) (by decide) (by decide)) (cB _ _ (by decide) (by decide) (by decide)) (fun a j u => cB a j (by omega) (by omega) (by omega)) (fun j => cB2 499 j (by decide) (by decide))) (by rw [cB _ _ (by decide) (by decide) (by decide)]; exact g8) (fun I34 q34 nt34 gt34 => ?_)
                have q34' : eqQ (fun a j => Qkt a j ∨ Qkg a j) B I34 := q34.mono (fun a j h => by rcases h with h | ⟨-, h⟩; exact Or.inl h; exact Or.inr h)
                -- against I9, no texts
                have c34 : ∀ a j, a ≠ 538 → a ≠ 508 → a ≠ 541 → ¬ Qkt a j → ¬ Qkg a j → ¬ (a = 491 ∧ (j = 8 ∨ j = 37)) → I34.1 a j = I9.1 a j := fun a j u1 u2 u3 u4 u5 u6 => by
                  rw [q34'.1 a j (fun h => by rcases h with h | h; exact u4 h; exact u5 h), cB a j u2 u3 (by omega), c18 a j u1 (by omega)]
                have c342 : ∀ a j, a ≠ 508 → a ≠ 541 → ¬ Qkt a j → ¬ Qkg a j → I34.2 a j = I9.2 a j := fun a j u2 u3 u4 u5 => by
                  rw [q34'.2 a j (fun h => by rcases h with h | h; exact u4 h; exact u5 h), cB2 a j u2 u3, c182]
                have rep34 : RepNM I34 y.2.1 y.2.2.1 := x2.kp2 (c34 _ _ (by decide) (by decide) (by decide) (by unfold Qkt; decide) (by unfold Qkg; decide) (by decide)) (fun a j u1 u2 => c34 a j (by omega) (by omega) (by omega) (by unfold Qkt; omega) (by unfold Qkg; omega) (by omega)) (fun j => c342 511 j (by decide) (by decide) (by unfold Qkt; omega) (by unfold Qkg; omega))
                have g37 : I34.1 491 37 = zi (regR x d) := by rw [q34'.1 491 37 (by unfold Qkt Qkg; decide), qB.1 491 37 (by decide), e30, zu_self]
                refine s_Mtree rep34 g4 g5 (by omega) tr g37 (fun I35 q35 vi35 => ?_)
                have n541 : ∀ (j : Nat) (z : Fl), (flR (sgN x) (moR (sgC x)))[j]? = some z → I35.1 541 j = zi z.1 := fun j z hz => by
                  rw [q35.1 541 j (by unfold Qft; omega), q34'.1 541 j (by unfold Qkt Qkg; omega)]
                  exact hB j z (by have := (List.getElem?_eq_some_iff.mp hz).1; omega) hz
                intro P229 h229
                have brk : ∀ (d3 v : Nat) (w : Int32), v + d3 = (flR (sgN x) (moR (sgC x))).length → P229 w (zi v) := by
                  intro d3
                  induction d3 with
                  | succ d3 ih3 =>
                    intro v w hvd3
                    refine h229 _ _ ?_
                    rw [if_neg (fun u => by have := (zi_le (by omega) (by omega)).mp u; omega), zi_tn (show v < 2147483648 by omega)]
                    have hz : (flR (sgN x) (moR (sgC x)))[v]? = some ((flR (sgN x) (moR (sgC x)))[v]'(by omega)) := List.getElem?_eq_getElem (by omega)
                    generalize (flR (sgN x) (moR (sgC x)))[v]'(by omega) = z at hz
                    have hzm := (fg.1.2 v z hz).1
                    have i1 : vp_in (zi v) 700 := (zin_iff (by omega)).mpr (by omega)
                    have i2 : vp_in (zi z.1) 3700 := (zin_iff (by omega)).mpr (by omega)
                    rw [n541 v z hz]
                    refine ⟨i1, i2, ?_⟩
                    intro P269 h269
                    have nx : ∀ w, P269 w := fun w => h269 w (fun v' ev => by
                      rw [ev, zi_succ]
                      exact ih3 (v + 1) w (by omega))
                    split
                    · exact nx _
                    · refine ⟨i1, i2, ?_⟩
                      split
                      · exact nx _
                      · intro v' ev
                        exact nx _
                  | zero =>
                    intro v w hvd3
                    refine h229 _ _ ?_
                    rw [if_pos ((zi_le (by omega) (by omega)).mpr (by omega))]
                    obtain ⟨rr1, rr2⟩ := runs_ok g4 g5 tr
                    have pr35 : PrM I35 (sgP x) := r4.kp (fun a j u => by
                      rw [q35.1 a j (by unfold Qft; omega), c34 a j (by omega) (by omega) (by omega) (by unfold Qkt; omega) (by unfold Qkg; omega) (by omega), o9 a j (by omega) (by omega) (by omega) (by omega) (by omega)])
                    refine s_rowNow (fun r hr => by have := rr1 r hr; omega) rr2 (by omega) hP1 pr35 vi35.2.2.2.1 vi35.2.2.2.2.2.1 (fun I39 q39 pr39 _ _ => ⟨vx 3 (by decide), fun I40 e40 => ⟨vx 4 (by decide), fun I41 e41 => ?_⟩⟩)
                    have c41 : ∀ a j, a ≠ 538 → ¬ Qro a j → I41.1 a j = I35.1 a j := fun a j u1 u2 => by rw [e41, zu_oo u1, e40, zu_oo u1, q39.1 a j u2]
                    have c412 : ∀ a j, ¬ Qro a j → I41.2 a j = I35.2 a j := fun a j u => by rw [e41, zu_2, e40, zu_2, q39.2 a j u]
                    have vi41 : ViM I41 y.2.2.1 (regR x d) (lexL d).length := vi35.kp (fun a j u => c41 a j (by omega) (by unfold Qro; omega))
                    have rep35 : RepNM I35 y.2.1 y.2.2.1 := rep34.kp2 (q35.1 _ _ (by unfold Qft; decide)) (fun a j u1 u2 => q35.1 a j (by unfold Qft; omega)) (fun j => q35.2 511 j (by unfold Qft; omega))
                    have rep41 : RepNM I41 y.2.1 y.2.2.1 := rep35.kp2 (c41 _ _ (by decide) (by unfold Qro; decide)) (fun a j u1 u2 => c41 a j (by omega) (by unfold Qro; omega)) (fun j => c412 511 j (by unfold Qro; omega))
                    refine r_runsAll (e := true) rep41 g4 (by omega) tr vi41 (fun rv2 I43 q43 => ⟨vx 8 (by decide), fun I44 e44 => ?_⟩)
                    have c44 : ∀ a j, a ≠ 538 → ¬ Qra a j → I44.1 a j = I41.1 a j := fun a j u1 u2 => by rw [e44, zu_oo u1, q43.1 a j u2]
                    have c442 : ∀ a j, ¬ Qra a j → I44.2 a j = I41.2 a j := fun a j u => by rw [e44, zu_2, q43.2 a j u]
                    -- against I35, I34
                    have b35 : ∀ a j, a ≠ 538 → ¬ Qra a j → ¬ Qro a j → I44.1 a j = I35.1 a j := fun a j u1 u2 u3 => by rw [c44 a j u1 u2, c41 a j u1 u3]
                    have b34 : ∀ a j, a ≠ 538 → ¬ Qra a j → ¬ Qro a j → ¬ Qft a j → I44.1 a j = I34.1 a j := fun a j u1 u2 u3 u4 => by rw [b35 a j u1 u2 u3, q35.1 a j u4]
                    have b342 : ∀ a j, ¬ Qra a j → ¬ Qro a j → ¬ Qft a j → I44.2 a j = I34.2 a j := fun a j u2 u3 u4 => by rw [c442 a j u2, c412 a j u3, q35.2 a j u4]
                    have b9 : ∀ a j, a ≠ 538 → a ≠ 508 → a ≠ 541 → ¬ Qkt a j → ¬ Qkg a j → ¬ (a = 491 ∧ (j = 8 ∨ j = 37)) → ¬ Qra a j → ¬ Qro a j → ¬ Qft a j → I44.1 a j = I9.1 a j := fun a j u1 u2 u3 u4 u5 u6 u7 u8 u9 => by rw [b34 a j u1 u7 u8 u9, c34 a j u1 u2 u3 u4 u5 u6]
                    have nce : newC x d = (d, d, true, regR x d, g, rowI (runsOf y.2.2.1 (regR x d)) (sgP x)) := by
                      unfold newC
                      rw [hY, if_pos hg, hgN]
                    have hcm : (chg x d tp).2.1 = (y.2.1, y.2.2.1) := by
                      unfold chg
                      rw [hY, if_pos hg]
                    have hcN : sgN (chg x d tp) = y.2.2.1 := congrArg Prod.snd hcm
                    have hcM : sgM (chg x d tp) = y.2.1 := congrArg Prod.fst hcm
                    have hcP : sgP (chg x d tp) = layAllR (runsOf y.2.2.1 (regR x d)) (sgP x) := by
                      unfold chg sgP
                      rw [hY]
                      exact if_pos hg
                    rw [hcN, hcM, hcP, nce] at fin
                    refine fin I44 ?_ (r1.kp ?_ (fun j => ?_)) (rep41.kp2 (c44 _ _ (by decide) (by unfold Qra Qrk Qna; decide)) (fun a j u1 u2 => c44 a j (by omega) (by unfold Qra Qrk Qna; omega)) (fun j => c442 511 j (by unfold Qra Qrk Qna; omega))) (vi41.kp (fun a j u => c44 a j (by omega) (by unfold Qra Qrk Qna; omega))) (pr39.kp (fun a j u => by rw [c44 a j (by omega) (by unfold Qra Qrk Qna; omega), e41, zu_oo (by omega), e40, zu_oo (by omega)])) ?_ ?_ (fun j => ?_) ?_
                    · rw [e44]
                      refine eqQ.zu (eqQ.tr ?_ (q43.mono (fun a j h => by unfold Qra Qrk Qna at h; unfold Qmo; omega))) ⟨by decide, by decide⟩
                      rw [e41, e40]
                      refine eqQ.zu (eqQ.zu (eqQ.tr ?_ (q39.mono (fun a j h => by unfold Qro at h; unfold Qmo; omega))) ⟨by decide, by decide⟩) ⟨by decide, by decide⟩
                      exact ((q30.tr (qB.mono (fun a j h => by unfold Qmo; omega))).tr (q34'.mono (fun a j h => by unfold Qkt Qkg at h; unfold Qmo; omega))).tr (q35.mono (fun a j h => by unfold Qft at h; unfold Qmo; omega))
                    · rw [b9 _ _ (by decide) (by decide) (by decide) (by unfold Qkt; decide) (by unfold Qkg; decide) (by decide) (by unfold Qra Qrk Qna; decide) (by unfold Qro; decide) (by unfold Qft; decide), o9 _ _ (by decide) (by decide) (by decide) (by decide) (by decide)]
                    · rw [b9 492 j (by decide) (by decide) (by decide) (by unfold Qkt; omega) (by unfold Qkg; omega) (by omega) (by unfold Qra Qrk Qna; omega) (by unfold Qro; omega) (by unfold Qft; omega), o9 492 j (by omega) (by omega) (by decide) (by decide) (by decide)]
                    · rw [b9 _ _ (by decide) (by decide) (by decide) (by unfold Qkt; decide) (by unfold Qkg; decide) (by decide) (by unfold Qra Qrk Qna; decide) (by unfold Qro; decide) (by unfold Qft; decide)]
                      exact g936
                    · obtain ⟨a1, a2, a3, a4⟩ := nt34.kp (J := I44) (b34 _ _ (by decide) (by unfold Qra Qrk Qna; decide) (by unfold Qro; decide) (by unfold Qft; decide)) (b34 _ _ (by decide) (by unfold Qra Qrk Qna; decide) (by unfold Qro; decide) (by unfold Qft; decide)) (fun a j u => b34 a j (by omega) (by unfold Qra Qrk Qna; omega) (by unfold Qro; omega) (by unfold Qft; omega))
                      obtain ⟨a5, a6, a7⟩ := (gt34 rfl).kp (J := I44) (b34 _ _ (by decide) (by unfold Qra Qrk Qna; decide) (by unfold Qro; decide) (by unfold Qft; decide)) (b34 _ _ (by decide) (by unfold Qra Qrk Qna; decide) (by unfold Qro; decide) (by unfold Qft; decide)) (fun a j u => b34 a j (by omega) (by unfold Qra Qrk Qna; omega) (by unfold Qro; omega) (by unfold Qft; omega)) (fun j => b342 507 j (by unfold Qra Qrk Qna; omega) (by unfold Qro; omega) (by unfold Qft; omega))
                      refine ⟨a1, a2, a3, a4, a5, a6, a7, fun j hj => ?_, ?_, ?_⟩
                      · change j < (lexL d).length at hj
                        rw [b34 508 j (by decide) (by unfold Qra Qrk Qna; omega) (by unfold Qro; omega) (by unfold Qft; omega), q34'.1 508 j (by unfold Qkt Qkg; omega), qB.1 508 j (by omega), e30, zu_oo (by decide)]
                        exact hA' j (by omega)
                      · rw [b34 _ _ (by decide) (by unfold Qra Qrk Qna; decide) (by unfold Qro; decide) (by unfold Qft; decide), q34'.1 491 8 (by unfold Qkt Qkg; decide), cB _ _ (by decide) (by decide) (by decide)]
                        exact g8
                      · rw [b34 _ _ (by decide) (by unfold Qra Qrk Qna; decide) (by unfold Qro; decide) (by unfold Qft; decide)]
                        exact g37
                    · rw [b9 542 j (by decide) (by decide) (by decide) (by unfold Qkt; omega) (by unfold Qkg; omega) (by omega) (by unfold Qra Qrk Qna; omega) (by unfold Qro; omega) (by unfold Qft; omega), o9 542 j (by omega) (by omega) (by decide) (by decide) (by decide)]
                    · rw [b9 _ _ (by decide) (by decide) (by decide) (by unfold Qkt; decide) (by unfold Qkg; decide) (by decide) (by unfold Qra Qrk Qna; decide) (by unfold Qro; decide) (by unfold Qft; decide), o9 _ _ (by decide) (by decide) (by decide) (by decide) (by decide)]
                      exact r6
                exact brk (flR (sgN x) (moR (sgC x))).length 0 0 (by omega)
            exact oo (flR (sgN x) (moR (sgC x))).length 0 I30 (by omega) eqQ.rf (fun j z hj => by omega)
        exact cp (lexL d).length 0 I18 (by omega) eqQ.rf (fun j hj => by omega)
    repeat' split
    all_goals exact lst _
  by_cases hg : y.1 + 1 = (lexL d).length ∧ topS y.2.2.2.1 = 1
  · rw [if_pos hg, if_neg (show ¬ (0 : Int32) ≤ -1 by decide)]
    exact both true ⟨fun _ => hg, fun _ => rfl⟩
  · rw [if_neg hg, if_pos (zi_ge (by have := gi'.1; omega))]
    exact both false ⟨(fun u => by cases u), (fun u => absurd u hg)⟩
/-! ===== texts laid together ===== -/
def seg (l : List Int32) (a b : Nat) : List Int32 := (l.drop a).take (b - a)
theorem seg_len {l : List Int32} {a b : Nat} (h : b ≤ l.length) : (seg l a b).length = b - a := by
  unfold seg
  rw [List.length_take, List.length_drop]
  omega
theorem seg_succ {l : List Int32} {a b : Nat} (h : a ≤ b) (hb : b < l.length) : seg l a (b + 1) = seg l a b ++ [txF l b] := by
  unfold seg
  rw [show b + 1 - a = (b - a) + 1 by omega, List.take_add_one, List.getElem?_drop, show a + (b - a) = b by omega, List.getElem?_eq_getElem hb]
  show _ ++ [l[b]] = _ ++ [txF l b]
  rw [txF_at (List.getElem?_eq_getElem hb)]
theorem seg_nil {l : List Int32} {a : Nat} : seg l a a = [] := by
  unfold seg
  rw [Nat.sub_self, List.take_zero]
theorem txF_snoc {l : List Int32} {v : Int32} {j : Nat} : txF (l ++ [v]) j = if j < l.length then txF l j else if j = l.length then v else 0 := by
  unfold txF
  rw [List.getD_eq_getElem?_getD, List.getD_eq_getElem?_getD]
  by_cases u : j < l.length
  · rw [if_pos u, List.getElem?_append_left u]
  · rw [if_neg u]
    by_cases w : j = l.length
    · rw [if_pos w, w, List.getElem?_append_right (Nat.le_refl _), Nat.sub_self]
      rfl
    · rw [if_neg w, List.getElem?_eq_none (by rw [List.length_append]; show l.length + 1 ≤ j; omega)]
      rfl
/-! the class's draft -/
def DrX (I : zI) (d : List Int32) : Prop := I.1 4 1 = zi d.length ∧ ∀ j, j < d.length → j < 300 → I.1 6 j = txF d j
def Qap (a j : Nat) : Prop := (a = 4 ∧ j = 1) ∨ a = 6
theorem s_mAppend {kr n a b : Nat} {t d : List Int32} {I : zI} {K : zI → Prop} (hkr : kr + 1 ≠ 4 ∧ kr + 1 ≠ 6) (hn : n < 2147483648) (ht : t.length ≤ n) (hsrc : ∀ j, j < t.length → I.1 (kr + 1) j = txF t j) (hab : a ≤ b) (hb : b ≤ t.length) (hbn : b ≤ 1000) (hd : d.length ≤ 10000) (hD : DrX I d)
    (hK : ∀ J, eqQ Qap I J → DrX J (d ++ seg t a b) → K J) : w_Moment_append 4 kr n (zi a) (zi b) I K := by
  intro P3 h3
  have main : ∀ (f i : Nat) (J : zI), i + f = b → a ≤ i → eqQ Qap I J → DrX J (d ++ seg t a i) → P3 (zi i) J := by
    intro f
    induction f with
    | zero =>
      intro i J hi ha q dJ
      refine h3 _ _ ?_
      rw [if_pos ((zi_le (by omega) (by omega)).mpr (by omega))]
      exact hK J q (by rw [show b = i by omega]; exact dJ)
    | succ f ih =>
      intro i J hi ha q dJ
      refine h3 _ _ ?_
      rw [if_neg (fun u => by have := (zi_le (by omega) (by omega)).mp u; omega)]
      refine (w_get hn).mpr ?_
      rw [rg_in hn (show i < n by omega), q.1 (kr + 1) i (by unfold Qap; omega), hsrc i (by omega)]
      have hl : (d ++ seg t a i).length = d.length + (i - a) := by rw [List.length_append, seg_len (by omega)]
      refine (w_set (by decide)).mpr ?_
      rw [dJ.1]
      have hnx : d ++ seg t a (i + 1) = (d ++ seg t a i) ++ [txF t i] := by rw [seg_succ ha (by omega), List.append_assoc]
      have hln : ((d ++ seg t a i) ++ [txF t i]).length = (d ++ seg t a i).length + 1 := List.length_append
      by_cases u : (d ++ seg t a i).length < 300
      · rw [rs_in (by decide) u]
        intro I5 e5 v ev
        rw [show (zu J (4 + 1 + 1) (d ++ seg t a i).length (txF t i)).1 4 1 = zi (d ++ seg t a i).length by rw [zu_oo (by decide)]; exact dJ.1, zi_succ] at e5
        rw [ev, zi_succ]
        refine ih (i + 1) I5 (by omega) (by omega) (by rw [e5]; exact (q.zu (Or.inr rfl)).zu (Or.inl ⟨rfl, rfl⟩)) ?_
        rw [hnx]
        refine ⟨by rw [e5, zu_self, hln], fun j hj h300 => ?_⟩
        rw [e5, zu_oo (by decide), zu_at, txF_snoc]
        by_cases w : j = (d ++ seg t a i).length
        · rw [if_pos ⟨rfl, w⟩, if_neg (by omega), if_pos w]
        · rw [if_neg (fun z => w z.2), if_pos (by omega)]
          exact dJ.2 j (by omega) h300
      · rw [rs_out (by decide) (by omega) (by omega)]
        intro I5 e5 v ev
        rw [dJ.1, zi_succ] at e5
        rw [ev, zi_succ]
        refine ih (i + 1) I5 (by omega) (by omega) (by rw [e5]; exact q.zu (Or.inl ⟨rfl, rfl⟩)) ?_
        rw [hnx]
        refine ⟨by rw [e5, zu_self, hln], fun j hj h300 => ?_⟩
        rw [e5, zu_oo (by decide), txF_snoc, if_pos (by omega)]
        exact dJ.2 j (by omega) h300
  exact main (b - a) a I (by omega) (Nat.le_refl _) eqQ.rf (by rw [seg_nil, List.append_nil]; exact hD)
/-! the model's new bytes -/
def NwM (I : zI) (d : List Int32) : Prop := ∀ j, j < d.length → I.1 493 j = txF d j
theorem s_copies {a b : Nat} {t d : List Int32} {I : zI} {K : Int32 → zI → Prop} (ht : t.length ≤ 300) (hsrc : ∀ j, j < t.length → I.1 495 j = txF t j) (hab : a ≤ b) (hb : b ≤ t.length) (hd : d.length + (b - a) ≤ 700) (hD : NwM I d)
    (hK : ∀ J, eqQ (fun a _ => a = 493) I J → NwM J (d ++ seg t a b) → K (zi (d ++ seg t a b).length) J) : w_M_copies (zi d.length) (zi a) (zi b) I K := by
  intro P3 h3
  have main : ∀ (f i : Nat) (J : zI), i + f = b → a ≤ i → eqQ (fun a _ => a = 493) I J → NwM J (d ++ seg t a i) → P3 (zi i) J := by
    intro f
    induction f with
    | zero =>
      intro i J hi ha q dJ
      refine h3 _ _ ?_
      rw [if_pos ((zi_le (by omega) (by omega)).mpr (by omega))]
      have hib : i = b := by omega
      subst hib
      have key := hK J q dJ
      rw [List.length_append, seg_len hb] at key
      rw [zi_add, zi_sub (by omega), show d.length + i - a = d.length + (i - a) by omega]
      exact key
    | succ f ih =>
      intro i J hi ha q dJ
      refine h3 _ _ ?_
      have hl : (d ++ seg t a i).length = d.length + (i - a) := by rw [List.length_append, seg_len (by omega)]
      rw [if_neg (fun u => by have := (zi_le (by omega) (by omega)).mp u; omega), zi_add, zi_sub (by omega), zi_tn (show i < 2147483648 by omega), zi_tn (show d.length + i - a < 2147483648 by omega)]
      refine ⟨(zin_iff (by omega)).mpr (by omega), (zin_iff (by omega)).mpr (by omega), fun I3 e3 v ev => ?_⟩
      rw [q.1 495 i (by omega), hsrc i (by omega)] at e3
      rw [ev, zi_succ]
      refine ih (i + 1) I3 (by omega) (by omega) (by rw [e3]; exact q.zu rfl) ?_
      have hnx : d ++ seg t a (i + 1) = (d ++ seg t a i) ++ [txF t i] := by rw [seg_succ ha (by omega), List.append_assoc]
      rw [hnx]
      intro j hj
      rw [List.length_append] at hj
      change j < (d ++ seg t a i).length + 1 at hj
      rw [e3, zu_at, txF_snoc]
      by_cases w : j = (d ++ seg t a i).length
      · rw [if_pos ⟨rfl, by omega⟩, if_neg (by omega), if_pos w]
      · rw [if_neg (fun z => w (by omega)), if_pos (by omega)]
        exact dJ j (by omega)
  exact main (b - a) a I (by omega) (Nat.le_refl _) eqQ.rf (by rw [seg_nil, List.append_nil]; exact hD)
/-! the tokens lie one behind the other -/
theorem lexF_sorted {t : Nat → Int32} {n : Nat} (hb : ∀ j, j < n → byt (t j)) : ∀ (f i a b : Nat) (x y : Nat × Nat × Nat), a < b → (lexF t n f i)[a]? = some x → (lexF t n f i)[b]? = some y → x.2.1 + x.2.2 ≤ y.2.1
  | 0, i, a, b, x, y, hab, hx, hy => by cases hx
  | f + 1, i, a, b, x, y, hab, hx, hy => by
    rw [lexF] at hx hy
    by_cases h1 : n ≤ i
    · rw [if_pos h1] at hx
      cases hx
    · rw [if_neg h1] at hx hy
      by_cases h2 : isB (t i) = true
      · rw [if_pos h2] at hx hy
        exact lexF_sorted hb f (i + 1) a b x y hab hx hy
      · rw [if_neg h2] at hx hy
        obtain ⟨b', rfl⟩ : ∃ b', b = b' + 1 := ⟨b - 1, by omega⟩
        rw [List.getElem?_cons_succ] at hy
        cases a with
        | zero =>
          cases hx
          have := (lexF_ok hb f _ y (List.mem_of_getElem? hy)).2.2.1
          exact this
        | succ a =>
          rw [List.getElem?_cons_succ] at hx
          exact lexF_sorted hb f _ a b' x y (by omega) hx hy
theorem lexL_sorted {l : List Int32} (h : txOk l) {a b : Nat} {x y : Nat × Nat × Nat} (hab : a < b) (hx : (lexL l)[a]? = some x) (hy : (lexL l)[b]? = some y) : x.2.1 + x.2.2 ≤ y.2.1 := by
  have hx' : (lexF (txF l) l.length l.length 0 ++ [(10, l.length, 0)])[a]? = some x := hx
  have hy' : (lexF (txF l) l.length l.length 0 ++ [(10, l.length, 0)])[b]? = some y := hy
  rcases snoc_at hx' with hx2 | ⟨e1, -⟩
  · rcases snoc_at hy' with hy2 | ⟨-, e2⟩
    · exact lexF_sorted h.2.1 _ _ a b x y hab hx2 hy2
    · rw [e2]
      exact (lexF_ok h.2.1 _ _ x (List.mem_of_getElem? hx2)).2.2.2.2
  · have := (List.getElem?_eq_some_iff.mp hy').1
    rw [List.length_append] at this
    change b < _ + 1 at this
    omega
theorem lexL_in {l : List Int32} (h : txOk l) {a : Nat} {x : Nat × Nat × Nat} (hx : (lexL l)[a]? = some x) : x.2.1 + x.2.2 ≤ l.length := (lex_ok h.2.1 x (List.mem_of_getElem? hx)).2
/-! where RUNS are -/
def fstF (F : List Fl) (r : Nat) : Nat := match F.find? (fun x => x.1 == r) with
  | some x => x.2.2.1.toNat
  | none => 0
theorem fstF_at {F : List Fl} {p : Nat} {x : Fl} (hu : ∀ (p q : Nat) (x y : Fl), F[p]? = some x → F[q]? = some y → x.1 = y.1 → p = q) (hp : F[p]? = some x) : fstF F x.1 = x.2.2.1.toNat := by
  have h : F.find? (fun y => y.1 == x.1) = some x := by
    obtain ⟨hl, hx⟩ := List.getElem?_eq_some_iff.mp hp
    refine List.find?_eq_some_iff_getElem.mpr ⟨beq_self_eq_true _, p, hl, hx, fun j hj => ?_⟩
    have hj2 : F[j]? = some (F[j]'(by omega)) := List.getElem?_eq_getElem (by omega)
    have ne : (F[j]'(by omega)).1 ≠ x.1 := fun e => by
      have := hu j p _ _ hj2 hp e
      omega
    rw [Bool.not_eq_true', beq_eq_false_iff_ne]
    exact ne
  unfold fstF
  rw [h]
theorem rn_ok {m : Nat} {N : Nat → Nd} {F : List Fl} (h : NdOk m N) : ∀ (d p t : Nat) (w : List (Nat × Nat × Nat)), (∀ y ∈ w, y.1 < m) → F.drop p = flS N w p t → ∀ (i r : Nat), (rnL N F d p)[i]? = some r → ∃ (q f : Nat) (x : Fl), F[q]? = some x ∧ x.1 = r ∧ x.2.2.1 = (f : Int) ∧ t ≤ f ∧ r < m ∧ 1 ≤ ndT (N r) ∧
    ∀ r', (rnL N F d p)[i + 1]? = some r' → ∃ (q' f' : Nat) (x' : Fl), F[q']? = some x' ∧ x'.1 = r' ∧ x'.2.2.1 = (f' : Int) ∧ f + ndT (N r) ≤ f'
  | 0, _, _, _, _, _, i, r, hr => by cases hr
  | d + 1, p, t, w, hw, hdr, i, r, hr => by
    cases hx : F[p]? with
    | none =>
      rw [rnL_no (List.getElem?_eq_none_iff.mp hx)] at hr
      cases hr
    | some x =>
      obtain ⟨c, q, dd, w', rfl, hc, rfl, h1, h2⟩ := flS_hd h hw hdr hx
      have hw' : ∀ y ∈ w', y.1 < m := fun y hy => hw y (List.mem_cons_of_mem _ hy)
      rw [rnL_at hx] at hr ⊢
      by_cases u : ndM (N c) = 1
      · rw [if_pos (show ndM (N (flH N c q t dd).1) = 1 from u)] at hr ⊢
        have hT := tok1 h c hc (Or.inl (by omega))
        have hf : (flH N c q t dd).2.2.1 = (t : Int) := if_neg (by omega)
        cases i with
        | zero =>
          cases hr
          refine ⟨p, t, _, hx, rfl, hf, Nat.le_refl _, hc, hT, fun r' hr' => ?_⟩
          rw [List.getElem?_cons_succ] at hr'
          obtain ⟨q', f', x', a1, a2, a3, a4, -⟩ := rn_ok h d (p + sz N c) (t + ndT (N c)) w' hw' h2 0 r' hr'
          exact ⟨q', f', x', a1, a2, a3, a4⟩
        | succ i =>
          rw [List.getElem?_cons_succ] at hr
          obtain ⟨q', f', x', a1, a2, a3, a4, a5, a6, a7⟩ := rn_ok h d (p + sz N c) (t + ndT (N c)) w' hw' h2 i r hr
          refine ⟨q', f', x', a1, a2, a3, by omega, a5, a6, fun r' hr' => ?_⟩
          rw [List.getElem?_cons_succ] at hr'
          exact a7 r' hr'
      · rw [if_neg (show ¬ ndM (N (flH N c q t dd).1) = 1 from u)] at hr ⊢
        obtain ⟨q', f', x', a1, a2, a3, a4, a5, a6, a7⟩ := rn_ok h d (p + 1) _ _ (fun y hy => by
          rcases List.mem_append.mp hy with hy | hy
          · obtain ⟨z, hz, rfl⟩ := List.mem_map.mp hy
            have := h.lt hc hz
            show z < m
            omega
          · exact hw' y hy) h1 i r hr
        exact ⟨q', f', x', a1, a2, a3, by omega, a5, a6, a7⟩
def fsR (x : Sg) (i : Nat) : Nat := fstF (flR (sgN x) (moR (sgC x))) ((runsOf (sgN x) (moR (sgC x))).getD i 0)
def lsR (x : Sg) (i : Nat) : Nat := fsR x i + ndT (sgN x ((runsOf (sgN x) (moR (sgC x))).getD i 0)) - 1
def tkG (x : Sg) (k : Nat) : Nat × Nat × Nat := (lexL (moG (sgC x))).getD k (10, 0, 0)
/-- where the i-th RUN begins, and where it ends -/
def rS (x : Sg) (i : Nat) : Nat := (tkG x (fsR x i)).2.1
def rE (x : Sg) (i : Nat) : Nat := (tkG x (lsR x i)).2.1 + (tkG x (lsR x i)).2.2
theorem run_ok {x : Sg} (hv : Iv x) {i r : Nat} (hr : (runsOf (sgN x) (moR (sgC x)))[i]? = some r) : r < sgM x ∧ 1 ≤ ndT (sgN x r) ∧ fsR x i + ndT (sgN x r) < (lexL (moG (sgC x))).length ∧ (runsOf (sgN x) (moR (sgC x))).getD i 0 = r ∧ (∃ (p : Nat) (y : Fl), (flR (sgN x) (moR (sgC x)))[p]? = some y ∧ y.1 = r ∧ y.2.2.1 = (fsR x i : Int)) ∧
    rS x i ≤ rE x i ∧ rE x i ≤ (moG (sgC x)).length ∧ ((runsOf (sgN x) (moR (sgC x)))[i + 1]? ≠ none → rE x i ≤ rS x (i + 1)) := by
  obtain ⟨hTp, hN, hu, hm, hTk, ⟨hP1, hP2⟩, hE, hC, hA, hZ, hAZ⟩ := hv
  obtain ⟨oT, oG, oB, oR, oK⟩ := hC
  have fg := oR.flG hN hu
  have hst : (flR (sgN x) (moR (sgC x))).drop 0 = flS (sgN x) [(moR (sgC x), 0, 1)] 0 0 := by
    rw [List.drop_zero]
    show fl (sgN x) (moR (sgC x)) 0 0 0 1 = fl (sgN x) (moR (sgC x)) 0 0 0 1 ++ []
    rw [List.append_nil]
  have hw0 : ∀ y ∈ [(moR (sgC x), 0, 1)], y.1 < sgM x := fun y hy => by cases List.mem_singleton.mp hy; exact oR.1
  have hgd : ∀ (i r : Nat), (runsOf (sgN x) (moR (sgC x)))[i]? = some r → (runsOf (sgN x) (moR (sgC x))).getD i 0 = r := fun i r h => by
    rw [List.getD_eq_getElem?_getD, h]
    rfl
  have hfs : ∀ (i r q f : Nat) (z : Fl), (runsOf (sgN x) (moR (sgC x)))[i]? = some r → (flR (sgN x) (moR (sgC x)))[q]? = some z → z.1 = r → z.2.2.1 = (f : Int) → fsR x i = f := fun i r q f z h1 h2 h3 h4 => by
    unfold fsR
    rw [hgd i r h1, ← h3, fstF_at fg.2.1 h2, h4, Int.toNat_natCast]
  obtain ⟨q, f, y, a1, a2, a3, -, a5, a6, a7⟩ := rn_ok hN 400 0 0 _ hw0 hst i r hr
  have e1 := hfs i r q f y hr a1 a2 a3
  have hbd : f + ndT (sgN x r) < (lexL (moG (sgC x))).length := by
    rcases (fg.2.2 q y a1).1 with u | ⟨f', u1, u2, u3⟩
    · omega
    · rw [a2] at u3
      omega
  have hat : ∀ k, k < (lexL (moG (sgC x))).length → (lexL (moG (sgC x)))[k]? = some (tkG x k) := fun k hk => by
    unfold tkG
    rw [List.getD_eq_getElem?_getD, List.getElem?_eq_getElem hk]
    rfl
  have hls : lsR x i = f + ndT (sgN x r) - 1 := by
    unfold lsR
    rw [e1, hgd i r hr]
  refine ⟨a5, a6, by rw [e1]; exact hbd, hgd i r hr, ⟨q, y, a1, a2, by rw [a3, e1]⟩, ?_, ?_, fun hn => ?_⟩
  · unfold rS rE
    rw [e1, hls]
    by_cases u : ndT (sgN x r) = 1
    · rw [u, Nat.add_sub_cancel]
      omega
    · have := lexL_sorted oG (show f < f + ndT (sgN x r) - 1 by omega) (hat f (by omega)) (hat _ (by omega))
      omega
  · unfold rE
    rw [hls]
    exact lexL_in oG (hat _ (by omega))
  · obtain ⟨r', hr'⟩ := Option.ne_none_iff_exists'.mp hn
    obtain ⟨q', f', y', b1, b2, b3, b4⟩ := a7 r' hr'
    have e2 := hfs (i + 1) r' q' f' y' hr' b1 b2 b3
    have hf' : f' < (lexL (moG (sgC x))).length := by
      rcases (fg.2.2 q' y' b1).1 with u | ⟨f'', u1, u2, u3⟩
      · omega
      · omega
    unfold rS rE
    rw [hls, e2]
    exact lexL_sorted oG (by omega) (hat _ (by omega)) (hat _ hf')
