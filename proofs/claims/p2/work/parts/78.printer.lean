/-! ===== the print, the class: it returns ===== -/
def Qpn (a j : Nat) : Prop := (a = 97 ∧ (j = 2 ∨ j = 3)) ∨ a = 99 ∨ a = 110
theorem r_putOff {v : Int32} {I : zI} {K : zI → Prop} (hK : ∀ J, eqQ Qpn I J → K J) : w_Printer_putOff v I K := by
  refine (w_set (by decide)).mpr (fun I2 e2 => hK I2 ?_)
  rw [e2]
  exact (eqQ.rf.rs (fun j => Or.inr (Or.inl rfl))).zu (Or.inl ⟨rfl, Or.inl rfl⟩)
theorem r_writeByte {v : Int32} {I : zI} {K : zI → Prop} (hK : ∀ J, eqQ Qpn I J → K J) : w_Printer_writeByte v 109 700 I K := by
  refine (w_set (by decide)).mpr (fun I2 e2 => hK I2 ?_)
  rw [e2]
  exact (eqQ.rf.rs (fun j => Or.inr (Or.inr rfl))).zu (Or.inl ⟨rfl, Or.inr rfl⟩)
theorem r_byteOf {a b : Int32} {I : zI} {K : Int32 → Prop} (h : ∀ v, K v) : w_Nodes_byteOf a b I K := by
  intro P24 h24
  split
  · exact (w_get (by decide)).mpr (h24 _ (h _))
  · exact (w_get (by decide)).mpr (h24 _ (h _))
theorem r_writeToken {v : Int32} {I : zI} {K : zI → Prop} (hK : ∀ J, eqQ Qpn I J → K J) : w_Printer_writeToken v 109 700 I K := by
  intro P2 h2
  refine up_loop (P := P2) (b := rg 3400 (I.1 36) v) (inv := fun J => eqQ Qpn I J) (fun w J hw hJ ih => ?_) (fun w J hw hJ => ?_) 0 I eqQ.rf
  · refine h2 _ _ ((w_get (by decide)).mpr ?_)
    have e : J.1 (35 + 1) = I.1 36 := funext (fun j => hJ.1 36 j (by unfold Qpn; omega))
    rw [e, if_neg (Int32.not_le.mpr hw)]
    exact r_byteOf (fun b => r_writeByte (fun A qA v' ev => by
      rw [ev]
      exact ih A (hJ.tr qA)))
  · refine h2 _ _ ((w_get (by decide)).mpr ?_)
    have e : J.1 (35 + 1) = I.1 36 := funext (fun j => hJ.1 36 j (by unfold Qpn; omega))
    rw [e, if_pos hw]
    exact hK J hJ
theorem r_childOf {a b : Int32} {I : zI} {K : Int32 → Prop} (h : ∀ v, K v) : w_Nodes_childOf a b I K := (w_get (by decide)).mpr (h _)
theorem r_childrenOf {a : Int32} {I : zI} {K : Int32 → Prop} (h : ∀ v, K v) : w_Nodes_childrenOf a I K := (w_get (by decide)).mpr (r_lengthOf (fun v => h v))
theorem r_openUp {v : Int32} {I : zI} {K : zI → Prop} (hK : ∀ J, eqQ Qpn I J → K J) : w_Printer_openUp v I K := by
  refine (w_get (by decide)).mpr ?_
  intro P28 h28
  have yes : ∀ t, P28 t := by
    intro t
    refine h28 t ?_
    split
    · exact r_childOf (fun w => r_putOff (fun A qA => hK A qA))
    · intro P59 h59
      have nx : ∀ L, eqQ Qpn I L → P59 L := by
        intro L hL
        refine h59 L (r_childrenOf (fun r => ?_))
        intro v4 ev4 P71 h71
        refine dn_loop (P := P71) (a := 0) (inv := fun J => eqQ Qpn I J) (by decide) (fun w J hw hJ ih => ?_) (fun w J hw hJ => ?_) v4 L hL
        · refine h71 _ _ ?_
          rw [if_neg (Int32.not_lt.mpr hw)]
          exact r_childOf (fun c => r_putOff (fun A qA v' ev => by
            rw [ev]
            exact ih A (hJ.tr qA)))
        · refine h71 _ _ ?_
          rw [if_pos hw]
          split
          · exact hK J hJ
          · exact r_putOff (fun A qA => hK A (hJ.tr qA))
      split
      · exact nx I eqQ.rf
      · exact r_putOff (fun A qA => nx A qA)
  intro P23 h23
  split
  · exact h23 (yes 1)
  · split
    · exact h23 (yes 1)
    · exact yes 0
theorem r_isToken {a : Int32} {I : zI} {K : Int32 → Prop} (h : ∀ v, K v) : w_Nodes_isToken a I K := by
  refine (w_get (by decide)).mpr ?_
  split
  · exact h _
  · exact h _
theorem r_write {v : Int32} {I : zI} {K : Int32 → zI → Prop} (hK : ∀ r J, eqQ Qpn I J → K r J) : w_Printer_write v 109 700 I K := by
  intro I1 e1 I2 e2
  have q2 : eqQ Qpn I I2 := by
    rw [e2, e1]
    exact (eqQ.rf.zu (Or.inl ⟨rfl, Or.inr rfl⟩)).zu (Or.inl ⟨rfl, Or.inl rfl⟩)
  refine r_putOff (fun I3 q3 => ?_)
  intro P17 h17
  refine up_loop (P := P17) (b := 10000) (inv := fun J => eqQ Qpn I J) (fun w J hw hJ ih => ?_) (fun w J hw hJ => ?_) 0 I3 (q2.tr q3)
  · refine h17 _ _ ?_
    intro P105 h105
    have stop : P105 := h105 (hK _ J hJ)
    rw [if_neg (Int32.not_le.mpr hw)]
    split
    · exact stop
    · intro I6 e6
      have q6 : eqQ Qpn I I6 := by
        rw [e6]
        exact hJ.zu (Or.inl ⟨rfl, Or.inl rfl⟩)
      refine (w_get (by decide)).mpr ?_
      intro P99 h99
      have nx : ∀ L, eqQ Qpn I L → P99 L := fun L hL => h99 L (fun v' ev => by
        rw [ev]
        exact ih L hL)
      split
      · refine r_isToken (fun t => ?_)
        split
        · exact r_openUp (fun A qA => nx A (q6.tr qA))
        · exact r_writeToken (fun A qA => nx A (q6.tr qA))
      · exact r_writeByte (fun A qA => nx A (q6.tr qA))
  · refine h17 _ _ ?_
    intro P105 h105
    rw [if_pos hw]
    exact h105 (hK _ J hJ)
/-- the class looks at a TREE, runs it, prints it -/
def Qla (a j : Nat) : Prop := Qvi a j ∨ Qrr a j ∨ Qpn a j ∨ (a = 0 ∧ j = 18)
theorem s_deskLook {m R n a : Nat} {e : Int32} {og : Nat → Nat} {N : Nat → Nd} {I : zI} {K : zI → Prop} (rep : RepNX I m N) (hN : NdOk m N) (hu : UqE m N) (hm : m ≤ 3400) (t : TreeI m N R n og) (htk : ∀ c, c < m → ndT (N c) ≤ 1000) (hpl : PlX I) (ha : a < 24 ∨ 113 ≤ a) (hT : I.1 a 7 = zi R)
    (hK : ∀ J, eqQ Qla I J → ViX J N R → K J) : w_Desk_lookAt a e I K := by
  unfold w_Desk_lookAt
  have fg := t.flG hN hu
  refine s_lookAt rep hN hu hm t htk hpl hT (fun A qA vA => ?_)
  refine r_runAll (n := (flR N R).length) (by omega) vA.2.1.1 (by have := fg.1.1; omega) (fun B qB => r_write (fun r C qC I5 e5 => ?_))
  have q5 : eqQ Qla I I5 := by
    rw [e5]
    exact (((qA.mono (fun a j h => Or.inl h)).tr (qB.mono (fun a j h => Or.inr (Or.inl h)))).tr (qC.mono (fun a j h => Or.inr (Or.inr (Or.inl h))))).zu (Or.inr (Or.inr (Or.inr ⟨rfl, rfl⟩)))
  have o : ∀ a j, 43 ≤ a → a ≤ 68 → I5.1 a j = A.1 a j := fun a j h1 h2 => by
    rw [e5, zu_oo (by omega), qC.1 a j (by unfold Qpn; omega), qB.1 a j (by unfold Qrr; omega)]
  obtain ⟨v1, v2, v3, v4, v5⟩ := vA
  refine hK I5 q5 ⟨by rw [o _ _ (by decide) (by decide)]; exact v1, v2.kp (fun a j h1 h2 => o a j (by omega) (by omega)), fun p x hx => by rw [o 53 _ (by decide) (by decide), o 55 _ (by decide) (by decide)]; exact v3 p x hx, ⟨by rw [o _ _ (by decide) (by decide)]; exact v4.1, fun i r hi => by rw [o _ _ (by decide) (by decide)]; exact v4.2 i r hi⟩, fun c hc => ?_⟩
  obtain ⟨p, p1, p2⟩ := v5 c hc
  exact ⟨p, p1, by rw [o 47 c (by decide) (by decide)]; exact p2⟩
