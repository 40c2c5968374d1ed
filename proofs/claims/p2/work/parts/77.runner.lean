/-! ===== loops by numbers ===== -/
theorem i_succ {v b : Int32} (h : v < b) : (v + 1).toInt = v.toInt + 1 := by
  have h1 := Int32.lt_iff_toInt_lt.mp h
  have h2 := b.toInt_lt
  have h3 := v.le_toInt
  rw [Int32.toInt_add, show (1 : Int32).toInt = 1 from rfl]
  exact Int.bmod_eq_of_le (by omega) (by omega)
theorem i_pred {v : Int32} (h : 0 ≤ v) : (v + (-1)).toInt = v.toInt - 1 := by
  have h1 : (0 : Int) ≤ v.toInt := by simpa using Int32.le_iff_toInt_le.mp h
  have h2 := v.toInt_lt
  rw [Int32.toInt_add, show (-1 : Int32).toInt = -1 from rfl]
  exact Int.bmod_eq_of_le (by omega) (by omega)
theorem up_loop {P : Int32 → zI → Prop} {b : Int32} {inv : zI → Prop} (step : ∀ v J, v < b → inv J → (∀ J', inv J' → P (v + 1) J') → P v J) (stop : ∀ v J, b ≤ v → inv J → P v J) : ∀ v J, inv J → P v J := by
  have main : ∀ (n : Nat) (v : Int32) (J : zI), (b.toInt - v.toInt).toNat ≤ n → inv J → P v J := by
    intro n
    induction n with
    | zero =>
      intro v J hn hJ
      refine stop v J (Int32.le_iff_toInt_le.mpr (by omega)) hJ
    | succ n ih =>
      intro v J hn hJ
      by_cases hv : v < b
      · refine step v J hv hJ (fun J' hJ' => ih (v + 1) J' ?_ hJ')
        have h1 := Int32.lt_iff_toInt_lt.mp hv
        rw [i_succ hv]
        omega
      · exact stop v J (Int32.not_lt.mp hv) hJ
  exact fun v J => main _ v J (Nat.le_refl _)
theorem dn_loop {P : Int32 → zI → Prop} {a : Int32} {inv : zI → Prop} (ha : 0 ≤ a) (step : ∀ v J, a ≤ v → inv J → (∀ J', inv J' → P (v + (-1)) J') → P v J) (stop : ∀ v J, v < a → inv J → P v J) : ∀ v J, inv J → P v J := by
  have main : ∀ (n : Nat) (v : Int32) (J : zI), (v.toInt - a.toInt + 1).toNat ≤ n → inv J → P v J := by
    intro n
    induction n with
    | zero =>
      intro v J hn hJ
      refine stop v J (Int32.lt_iff_toInt_lt.mpr (by omega)) hJ
    | succ n ih =>
      intro v J hn hJ
      by_cases hv : v < a
      · exact stop v J hv hJ
      · have hav := Int32.not_lt.mp hv
        refine step v J hav hJ (fun J' hJ' => ih (v + (-1)) J' ?_ hJ')
        have h1 := Int32.le_iff_toInt_le.mp hav
        rw [i_pred (Int32.le_trans ha hav)]
        omega
  exact fun v J => main _ v J (Nat.le_refl _)
theorem eqQ.rs {Q : Nat → Nat → Prop} {I J : zI} {a n : Nat} {i v : Int32} (h : eqQ Q I J) (hQ : ∀ j, Q a j) : eqQ Q I (rs J a n i v) := by
  unfold Jvm.Pilot.@@N@@.rs
  split
  · exact h
  · split
    · exact h
    · exact h.zu (hQ _)
theorem eqX.q {Q : Nat → Nat → Prop} {I J L : zI} {lo hi : Nat} (h : eqQ Q I J) (h2 : eqX lo hi J L) (hQ : ∀ a j, lo ≤ a → a < hi → Q a j) : eqQ Q I L :=
  h.tr ⟨fun a j u => congrFun (h2 a (by
    by_cases c : a < lo
    · exact Or.inl c
    · by_cases d : hi ≤ a
      · exact Or.inr d
      · exact absurd (hQ a j (by omega) (by omega)) u)).1 j, fun a j u => congrFun (h2 a (by
    by_cases c : a < lo
    · exact Or.inl c
    · by_cases d : hi ≤ a
      · exact Or.inr d
      · exact absurd (hQ a j (by omega) (by omega)) u)).2 j⟩
/-! ===== all statements RUN, the class: it returns, and changes its own rows alone ===== -/
def Qrr (a j : Nat) : Prop := 69 ≤ a ∧ a ≤ 87
theorem r_lengthOf {r : Int32} {I : zI} {K : Int32 → Prop} (h : ∀ v, K v) : w_Desk_lengthOf r I K := by
  by_cases h0 : r < 0
  · exact s_lengthOf_neg h0 (h _)
  · obtain ⟨a, ha, rfl⟩ := zi_of (Int32.not_lt.mp h0)
    by_cases h1 : a < 11
    · exact s_lengthOf h1 (h _)
    · unfold w_Desk_lengthOf
      rw [if_neg h0, if_pos (show (11 : Int32) ≤ zi a from (zi_le (a := 11) (by decide) ha).mpr (by omega))]
      exact h _
theorem r_clear {I : zI} {K : zI → Prop} (hK : ∀ J, eqQ Qrr I J → K J) : w_Runner_clear I K := by
  unfold w_Runner_clear
  refine s_fill (by decide) (fun I1 q1 _ => s_fill (by decide) (fun I2 q2 _ => s_fill (by decide) (fun I3 q3 _ => s_fill (by decide) (fun I4 q4 _ => s_fill (by decide) (fun I5 q5 _ => ?_)))))
  intro I6 e6 I7 e7 I8 e8
  have hq : eqQ Qrr I I5 := ((((eqX.q eqQ.rf q1 (fun a j h1 h2 => ⟨by omega, by omega⟩)) |> fun h => eqX.q h q2 (fun a j h1 h2 => ⟨by omega, by omega⟩)) |> fun h => eqX.q h q3 (fun a j h1 h2 => ⟨by omega, by omega⟩)) |> fun h => eqX.q h q4 (fun a j h1 h2 => ⟨by omega, by omega⟩)) |> fun h => eqX.q h q5 (fun a j h1 h2 => ⟨by omega, by omega⟩)
  refine hK I8 ?_
  rw [e8, e7, e6]
  exact ((hq.zu ⟨by decide, by decide⟩).zu ⟨by decide, by decide⟩).zu ⟨by decide, by decide⟩
theorem r_sameBytes {a b : Int32} {I : zI} {K : Int32 → Prop} (h1 : K 1) (h0 : K 0) : w_Nodes_sameBytes a b I K := by
  unfold w_Nodes_sameBytes
  refine (w_get (by decide)).mpr ((w_get (by decide)).mpr ?_)
  split
  · refine (w_get (by decide)).mpr ((w_get (by decide)).mpr ?_)
    split
    · refine (w_get (by decide)).mpr ((w_get (by decide)).mpr ?_)
      split
      · refine (w_get (by decide)).mpr ((w_get (by decide)).mpr ?_)
        split
        · exact h1
        · exact h0
      · exact h0
    · exact h0
  · exact h0
theorem r_findNames {a : Nat} {I : zI} {K : zI → Prop} (ha : a < 69 ∨ 87 < a) (hK : ∀ J, eqQ Qrr I J → K J) : w_Runner_findNames a I K := by
  intro P2 h2
  refine up_loop (P := P2) (b := I.1 a 6) (inv := fun J => eqQ Qrr I J) (fun v J hv hJ ih => ?_) (fun v J hv hJ => ?_) 0 I eqQ.rf
  · refine h2 _ _ ?_
    rw [hJ.1 a 6 (by unfold Qrr; omega), if_neg (Int32.not_le.mpr hv)]
    refine (w_get (by decide)).mpr ?_
    intro P22 h22
    have stop : ∀ w : Int32, w_Row_set 70 100 v w J (fun I_5 => ∀ v2_6, v2_6 = (v + 1) → P2 v2_6 I_5) := fun w => by
      refine (w_set (by decide)).mpr (fun v' ev => ?_)
      rw [ev]
      exact ih _ (hJ.rs (fun j => ⟨by decide, by decide⟩))
    refine up_loop (P := fun w _ => P22 w) (b := v) (inv := fun _ => True) (fun w _ hw _ ih2 => ?_) (fun w _ hw _ => ?_) 0 I trivial
    · refine h22 _ ?_
      intro P53 h53
      rw [if_neg (Int32.not_le.mpr hw)]
      refine (w_get (by decide)).mpr (r_sameBytes ?_ ?_)
      · rw [if_neg (by decide)]
        exact h53 (stop w)
      · rw [if_pos rfl]
        intro v' ev
        rw [ev]
        exact ih2 I trivial
    · refine h22 _ ?_
      intro P53 h53
      rw [if_pos hw]
      exact h53 (stop w)
  · refine h2 _ _ ?_
    rw [hJ.1 a 6 (by unfold Qrr; omega), if_pos hv]
    exact hK J hJ
theorem r_valueOf {a : Int32} {I : zI} {K : Int32 → Prop} (h : ∀ v, K v) : w_Runner_valueOf a I K := (w_get (by decide)).mpr ((w_get (by decide)).mpr (h _))
theorem zb_or {x y : Int32} (hx : zb x) (hy : zb y) : zb (x ||| y) := by
  rcases hx with rfl | rfl <;> rcases hy with rfl | rfl <;> first | exact Or.inl (by decide) | exact Or.inr (by decide)
theorem r_recordReads {a1 a2 a3 : Int32} {I : zI} {K : Int32 → zI → Prop} (hK : ∀ v J, eqQ Qrr I J → K v J) : w_Runner_recordReads a1 a2 a3 I K := by
  unfold w_Runner_recordReads
  refine (w_get (by decide)).mpr ?_
  intro P16 h16
  have rest : ∀ t : Int32, P16 t := by
    intro t
    refine h16 t ?_
    intro P37 h37
    have rest2 : ∀ I3, eqQ Qrr I I3 → P37 I3 := by
      intro I3 q3
      refine h37 I3 ((w_get (by decide)).mpr ?_)
      intro v5 ev5 P55 h55
      have loop := up_loop (P := fun v J => ∀ v5 v6, zb v6 → P55 v5 v6 v J) (b := a3) (inv := fun J => eqQ Qrr I J) (fun v J hv hJ ih v5 v6 hz => by
        refine h55 _ _ _ _ ?_
        rw [if_neg (Int32.not_le.mpr hv)]
        refine (w_get (by decide)).mpr ((w_get (by decide)).mpr ?_)
        intro P149 h149
        have nxt : ∀ (w5 w6 : Int32) (L : zI), zb w6 → eqQ Qrr I L → P149 w5 w6 L := fun w5 w6 L hz hL => by
          refine h149 _ _ _ (fun v' ev => ?_)
          rw [ev]
          exact ih L hL w5 w6 hz
        split
        · refine (w_get (by decide)).mpr (r_valueOf (fun r20 => ?_))
          intro P132 h132
          have put : ∀ u : Int32, zb u → P132 u := fun u hu => by
            refine h132 _ (fun w6 e6 => (w_set (by decide)).mpr (fun w5 e5 => ?_))
            rw [e6]
            exact nxt _ _ _ (zb_or hz hu) (hJ.rs (fun j => ⟨by decide, by decide⟩))
          intro P131 h131
          split
          · refine (w_get (by decide)).mpr ?_
            split
            · exact h131 (put 0 (Or.inl rfl))
            · exact put 1 (Or.inr rfl)
          · exact h131 (put 0 (Or.inl rfl))
        · exact nxt _ _ _ hz hJ) (fun v J hv hJ v5 v6 hz => by
        refine h55 _ _ _ _ ?_
        rw [if_pos hv]
        intro P170 h170
        have fin : ∀ t, P170 t := fun t => h170 t (fun I11 e11 => ⟨hz, hK _ _ (by rw [e11]; exact hJ.zu ⟨by decide, by decide⟩)⟩)
        split
        · exact fin _
        · exact fin _)
      exact loop a2 I3 q3 v5 0 (Or.inl rfl)
    split
    · exact rest2 I eqQ.rf
    · exact (w_set (by decide)).mpr (rest2 _ (eqQ.rf.rs (fun j => ⟨by decide, by decide⟩)))
  split
  · exact rest 1
  · exact rest 0
theorem r_noteReads {a1 a2 : Int32} {I : zI} {K : zI → Prop} (hK : ∀ J, eqQ Qrr I J → K J) : w_Runner_noteReads a1 a2 I K := by
  intro P2 h2
  refine up_loop (P := P2) (b := a2) (inv := fun J => eqQ Qrr I J) (fun v J hv hJ ih => ?_) (fun v J hv hJ => ?_) a1 I eqQ.rf
  · refine h2 _ _ ?_
    rw [if_neg (Int32.not_le.mpr hv)]
    refine (w_get (by decide)).mpr ((w_get (by decide)).mpr ?_)
    intro P86 h86
    have nxt : ∀ L, eqQ Qrr I L → P86 L := fun L hL => h86 L (fun v' ev => by rw [ev]; exact ih L hL)
    split
    · refine (w_get (by decide)).mpr ((w_get (by decide)).mpr ((w_get (by decide)).mpr ((w_set (by decide)).mpr ((w_set (by decide)).mpr ?_))))
      exact nxt _ ((hJ.rs (fun j => ⟨by decide, by decide⟩)).rs (fun j => ⟨by decide, by decide⟩))
    · exact nxt J hJ
  · refine h2 _ _ ?_
    rw [if_pos hv]
    exact hK J hJ
theorem r_numberOf {a : Int32} {I : zI} {K : Int32 → Prop} (hK : ∀ v, K v) : w_Runner_numberOf a I K := by
  intro P5 h5
  have st : ∀ (s : Int32), ¬ s < 0 → (∀ v, P5 v (s + (-8))) → ∀ v, P5 v s := by
    intro s hs hn v
    refine h5 _ _ ?_
    rw [if_neg hs]
    intro v3 ev3 P34 h34
    have nx : ∀ t, P34 t := fun t => h34 t (fun v2 e2 => by rw [e2]; exact hn t)
    split
    · exact nx _
    · exact nx _
  refine st 24 (by decide) (st 16 (by decide) (st 8 (by decide) (st 0 (by decide) (fun v => ?_)))) 0
  refine h5 _ _ ?_
  rw [if_pos (by decide)]
  exact hK v
theorem r_worthAt {a : Int32} {I : zI} {K : Int32 → Prop} (hK : ∀ v, K v) : w_Runner_worthAt a I K := by
  intro v2 ev2
  refine (w_get (by decide)).mpr (fun v3 ev3 => (w_get (by decide)).mpr ((w_get (by decide)).mpr ?_))
  intro P120 h120
  have h : P120 := h120 ((w_get (by decide)).mpr (hK _))
  split
  · exact (w_get (by decide)).mpr ((w_get (by decide)).mpr (hK _))
  · split
    · exact h
    · split
      · exact (w_get (by decide)).mpr ((w_get (by decide)).mpr (hK _))
      · split
        · exact h
        · split
          · exact (w_get (by decide)).mpr ((w_get (by decide)).mpr ((w_get (by decide)).mpr (hK _)))
          · split
            · exact (w_get (by decide)).mpr ((w_get (by decide)).mpr (r_numberOf (fun v => hK v)))
            · split
              · exact (w_get (by decide)).mpr (hK _)
              · exact hK _
theorem r_evaluate {a1 a2 : Int32} {I : zI} {K : zI → Prop} (h0 : 0 ≤ a1) (hK : ∀ J, eqQ Qrr I J → K J) : w_Runner_evaluate a1 a2 I K := by
  intro v3 ev3 P4 h4
  refine dn_loop (P := P4) (a := a1) (inv := fun J => eqQ Qrr I J) h0 (fun v J hv hJ ih => ?_) (fun v J hv hJ => ?_) v3 I eqQ.rf
  · refine h4 _ _ ?_
    rw [if_neg (Int32.not_lt.mpr hv)]
    refine r_worthAt (fun w => (w_set (by decide)).mpr (fun v' ev => ?_))
    rw [ev]
    exact ih _ (hJ.rs (fun j => ⟨by decide, by decide⟩))
  · refine h4 _ _ ?_
    rw [if_pos hv]
    exact hK J hJ
theorem r_setName {a1 a2 a3 : Int32} {I : zI} {K : zI → Prop} (hK : ∀ J, eqQ Qrr I J → K J) : w_Runner_setName a1 a2 a3 I K := by
  refine (w_get (by decide)).mpr ((w_get (by decide)).mpr ?_)
  intro P52 h52
  have nx : ∀ L, eqQ Qrr I L → P52 L := fun L hL => h52 L ((w_set (by decide)).mpr ((w_get (by decide)).mpr ((w_set (by decide)).mpr ((w_add (by decide)).mpr ((w_set (by decide)).mpr (hK _ ((((hL.rs (fun j => ⟨by decide, by decide⟩)).rs (fun j => ⟨by decide, by decide⟩)).rs (fun j => ⟨by decide, by decide⟩)).rs (fun j => ⟨by decide, by decide⟩))))))))
  split
  · exact nx I eqQ.rf
  · intro I9 e9
    refine (w_get (by decide)).mpr (fun I11 e11 => nx I11 ?_)
    rw [e11, e9]
    exact (eqQ.rf.zu ⟨by decide, by decide⟩).zu ⟨by decide, by decide⟩
theorem r_runStatement {p : Nat} {a2 : Int32} {I : zI} {K : zI → Prop} (hp : p < 1000) (hK : ∀ J, eqQ Qrr I J → K J) : w_Runner_runStatement (zi p) a2 I K := by
  refine (w_get (by decide)).mpr (fun v4 ev4 => (w_get (by decide)).mpr (fun v5 ev5 => ?_))
  have h0 : 0 ≤ v4 := by
    rw [ev4, show (3 : Int32) = zi 3 from rfl, zi_add]
    exact zi_ge (by omega)
  intro P55 h55
  have st : ∀ (t : Int32) (L : zI), eqQ Qrr I L → P55 t L := by
    intro t L hL
    refine h55 _ _ ?_
    intro P91 h91
    have nx : ∀ M, eqQ Qrr I M → P91 M := fun M hM => h91 M (r_noteReads (fun A qA => r_evaluate h0 (fun B qB => (w_get (by decide)).mpr ((w_get (by decide)).mpr (r_setName (fun C qC => hK C (((hM.tr qA).tr qB).tr qC)))))))
    split
    · exact nx L hL
    · intro P81 h81
      have yes : P81 := h81 (fun I13 e13 => nx I13 (by rw [e13]; exact hL.zu ⟨by decide, by decide⟩))
      split
      · refine (w_get (by decide)).mpr ?_
        split
        · exact yes
        · exact nx L hL
      · exact yes
  intro P54 h54
  split
  · exact h54 I (st 0 I eqQ.rf)
  · refine r_recordReads (fun v J qJ => ?_)
    split
    · exact h54 J (st 0 J qJ)
    · exact st 1 J qJ
theorem r_sumUp {I : zI} {K : zI → Prop} (hK : ∀ J, eqQ Qrr I J → K J) : w_Runner_sumUp I K := by
  intro I1 e1 P7 h7
  have q1 : eqQ Qrr I I1 := by
    rw [e1]
    exact eqQ.rf.zu ⟨by decide, by decide⟩
  refine up_loop (P := P7) (b := I.1 43 12) (inv := fun J => eqQ Qrr I J) (fun v J hv hJ ih => ?_) (fun v J hv hJ => ?_) 0 I1 q1
  · refine h7 _ _ ?_
    rw [hJ.1 43 12 (by unfold Qrr; omega), if_neg (Int32.not_le.mpr hv)]
    refine (w_get (by decide)).mpr ((w_get (by decide)).mpr ?_)
    intro P49 h49
    have nx : ∀ t, P49 t := by
      intro t
      refine h49 t ?_
      intro P71 h71
      have n2 : ∀ u, P71 u := fun u => h71 u (fun I17 e17 v' ev => by
        rw [ev]
        exact ih I17 (by rw [e17]; exact hJ.zu ⟨by decide, by decide⟩))
      split
      · exact n2 _
      · exact (w_get (by decide)).mpr (n2 _)
    split
    · exact nx _
    · exact nx _
  · refine h7 _ _ ?_
    rw [hJ.1 43 12 (by unfold Qrr; omega), if_pos hv]
    intro I4 e4 P88 h88
    have q4 : eqQ Qrr I I4 := by
      rw [e4]
      exact hJ.zu ⟨by decide, by decide⟩
    refine up_loop (P := P88) (b := 100) (inv := fun J => eqQ Qrr I J) (fun v J hv hJ ih => ?_) (fun v J hv hJ => ?_) 0 I4 q4
    · refine h88 _ _ ?_
      rw [if_neg (Int32.not_le.mpr hv)]
      refine (w_get (by decide)).mpr ?_
      intro P115 h115
      have nx : ∀ t, P115 t := fun t => h115 t (fun I9 e9 v' ev => by
        rw [ev]
        exact ih I9 (by rw [e9]; exact hJ.zu ⟨by decide, by decide⟩))
      split
      · exact nx _
      · exact nx _
    · refine h88 _ _ ?_
      rw [if_pos hv]
      exact hK J hJ
theorem r_runAll {a n : Nat} {e : Int32} {I : zI} {K : zI → Prop} (ha : a < 69 ∨ 87 < a) (hn : I.1 43 12 = zi n) (hn2 : n < 1000) (hK : ∀ J, eqQ Qrr I J → K J) : w_Runner_runAll a e I K := by
  refine r_clear (fun A qA => r_findNames ha (fun B qB => ?_))
  intro P11 h11
  have main : ∀ (d p : Nat) (J : zI), p + d = n → eqQ Qrr I J → P11 (zi p) J := by
    intro d
    induction d with
    | zero =>
      intro p J hp hJ
      refine h11 _ _ ?_
      rw [hJ.1 43 12 (by unfold Qrr; omega), hn, if_pos ((zi_le (by omega) (by omega)).mpr (by omega))]
      exact r_evaluate (by decide) (fun C qC => r_sumUp (fun D qD => hK D ((hJ.tr qC).tr qD)))
    | succ d ih =>
      intro p J hp hJ
      refine h11 _ _ ?_
      rw [hJ.1 43 12 (by unfold Qrr; omega), hn, if_neg (fun u => by have := (zi_le (by omega) (by omega)).mp u; omega)]
      refine (w_get (by decide)).mpr ((w_get (by decide)).mpr ?_)
      intro P53 h53
      have nx : ∀ L, eqQ Qrr I L → P53 L := fun L hL => h53 L (fun v ev => by
        rw [ev, zi_succ]
        exact ih (p + 1) L (by omega) hL)
      split
      · exact r_runStatement (by omega) (fun C qC => nx C (hJ.tr qC))
      · exact nx J hJ
  exact main n 0 B (by omega) (qA.tr qB)
