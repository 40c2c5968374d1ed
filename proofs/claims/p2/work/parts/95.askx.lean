/-! ===== what the class answers: it returns ===== -/
def Qpo (a j : Nat) : Prop := (a = 97 ∧ (j = 2 ∨ j = 3)) ∨ a = 99 ∨ a = 110 ∨ a = 112
theorem Qpn_po {I J : zI} (q : eqQ Qpn I J) : eqQ Qpo I J := q.mono (fun a j h => by unfold Qpn at h; unfold Qpo; omega)
theorem r_writeByteB {v : Int32} {I : zI} {K : zI → Prop} (hK : ∀ J, eqQ Qpo I J → K J) : w_Printer_writeByte v 111 700 I K := by
  refine (w_set (by decide)).mpr (fun I2 e2 => hK I2 ?_)
  rw [e2]
  exact (eqQ.rf.rs (fun j => Or.inr (Or.inr (Or.inr rfl)))).zu (Or.inl ⟨rfl, Or.inr rfl⟩)
theorem r_writeTokenB {v : Int32} {I : zI} {K : zI → Prop} (hK : ∀ J, eqQ Qpo I J → K J) : w_Printer_writeToken v 111 700 I K := by
  intro P2 h2
  refine up_loop (P := P2) (b := rg 3400 (I.1 36) v) (inv := fun J => eqQ Qpo I J) (fun w J hw hJ ih => ?_) (fun w J hw hJ => ?_) 0 I eqQ.rf
  · refine h2 _ _ ((w_get (by decide)).mpr ?_)
    have e : J.1 (35 + 1) = I.1 36 := funext (fun j => hJ.1 36 j (by unfold Qpo; omega))
    rw [e, if_neg (Int32.not_le.mpr hw)]
    exact r_byteOf (fun b => r_writeByteB (fun A qA v' ev => by
      rw [ev]
      exact ih A (hJ.tr qA)))
  · refine h2 _ _ ((w_get (by decide)).mpr ?_)
    have e : J.1 (35 + 1) = I.1 36 := funext (fun j => hJ.1 36 j (by unfold Qpo; omega))
    rw [e, if_pos hw]
    exact hK J hJ
theorem r_writeB {v : Int32} {I : zI} {K : Int32 → zI → Prop} (hK : ∀ r J, eqQ Qpo I J → K r J) : w_Printer_write v 111 700 I K := by
  intro I1 e1 I2 e2
  have q2 : eqQ Qpo I I2 := by
    rw [e2, e1]
    exact (eqQ.rf.zu (Or.inl ⟨rfl, Or.inr rfl⟩)).zu (Or.inl ⟨rfl, Or.inl rfl⟩)
  refine r_putOff (fun I3 q3n => ?_)
  have q3 := Qpn_po q3n
  intro P17 h17
  refine up_loop (P := P17) (b := 10000) (inv := fun J => eqQ Qpo I J) (fun w J hw hJ ih => ?_) (fun w J hw hJ => ?_) 0 I3 (q2.tr q3)
  · refine h17 _ _ ?_
    intro P105 h105
    have stop : P105 := h105 (hK _ J hJ)
    rw [if_neg (Int32.not_le.mpr hw)]
    split
    · exact stop
    · intro I6 e6
      have q6 : eqQ Qpo I I6 := by
        rw [e6]
        exact hJ.zu (Or.inl ⟨rfl, Or.inl rfl⟩)
      refine (w_get (by decide)).mpr ?_
      intro P99 h99
      have nx : ∀ L, eqQ Qpo I L → P99 L := fun L hL => h99 L (fun v' ev => by
        rw [ev]
        exact ih L hL)
      split
      · refine r_isToken (fun t => ?_)
        split
        · exact r_openUp (fun A qA => nx A (q6.tr (Qpn_po qA)))
        · exact r_writeTokenB (fun A qA => nx A (q6.tr qA))
      · exact r_writeByteB (fun A qA => nx A (q6.tr qA))
  · refine h17 _ _ ?_
    intro P105 h105
    rw [if_pos hw]
    exact h105 (hK _ J hJ)
theorem r_copyFrom {k n a an : Nat} {c : Int32} {I : zI} {K : zI → Prop} (hn : n < 2147483648) (han : an < 2147483648) (hK : ∀ J, eqX (k + 1) (k + 2) I J → K J) : w_Row_copyFrom k n a an c I K := by
  unfold w_Row_copyFrom
  intro v ev
  have key : v ≤ zi n ∧ v ≤ zi an := by
    have e : ∀ w : Nat, Int32.ofNat w = zi w := fun _ => rfl
    rw [e, e] at ev
    by_cases q : zi an < zi n
    · rw [if_pos q] at ev
      by_cases q2 : zi an < c
      · rw [if_pos q2] at ev
        rw [ev]
        exact ⟨Int32.le_of_lt q, Int32.le_refl _⟩
      · rw [if_neg q2] at ev
        rw [ev]
        exact ⟨Int32.le_trans (Int32.not_lt.mp q2) (Int32.le_of_lt q), Int32.not_lt.mp q2⟩
    · rw [if_neg q] at ev
      by_cases q2 : zi n < c
      · rw [if_pos q2] at ev
        rw [ev]
        exact ⟨Int32.le_refl _, Int32.not_lt.mp q⟩
      · rw [if_neg q2] at ev
        rw [ev]
        exact ⟨Int32.not_lt.mp q2, Int32.le_trans (Int32.not_lt.mp q2) (Int32.not_lt.mp q)⟩
  by_cases h0 : v ≤ 0
  · rw [if_pos h0]
    exact hK I eqX.rf
  · rw [if_neg h0]
    have h1 : 0 ≤ v := Int32.le_of_lt (Int32.not_le.mp h0)
    obtain ⟨m, hm, rfl⟩ := zi_of h1
    rw [zi_tn hm]
    refine ⟨⟨h1, (zi_le hm han).mp key.2, (zi_le hm hn).mp key.1⟩, fun J e => ?_⟩
    subst e
    refine hK _ (fun b hb => ?_)
    have hbk : b ≠ k + 1 := by omega
    exact zcp_ne hbk
theorem r_leadsTo {a b : Int32} {I : zI} {K : Int32 → Prop} (h : ∀ v, K v) : w_Desk_leadsTo a b I K := by
  by_cases ha : 0 ≤ a ∧ a < 21
  · by_cases hb : 0 ≤ b ∧ b < 17
    · obtain ⟨s, hs, rfl⟩ := zi_of ha.1
      obtain ⟨y, hy, rfl⟩ := zi_of hb.1
      exact s_leadsTo ((zi_lt (b := 21) hs (by decide)).mp ha.2) ((zi_lt (b := 17) hy (by decide)).mp hb.2) (h _)
    · unfold w_Desk_leadsTo
      split
      · exact h _
      · split
        · exact h _
        · split
          · exact h _
          · rename_i h1 h2 h3
            rw [if_neg (fun u => hb ⟨Int32.not_lt.mp h3, u⟩)]
            exact h _
  · unfold w_Desk_leadsTo
    split
    · exact h _
    · split
      · exact h _
      · rename_i h1 h2
        exact absurd ⟨Int32.not_lt.mp h1, Int32.not_le.mp h2⟩ ha
theorem r_ruleAt {a : Int32} {I : zI} {K : Int32 → Prop} (h : ∀ v, K v) : w_Desk_ruleAt a I K := by
  by_cases ha : 0 ≤ a ∧ a < 21
  · obtain ⟨s, hs, rfl⟩ := zi_of ha.1
    exact s_ruleAt ((zi_lt (b := 21) hs (by decide)).mp ha.2) (h _)
  · unfold w_Desk_ruleAt
    split
    · exact h _
    · split
      · exact h _
      · rename_i h1 h2
        exact absurd ⟨Int32.not_lt.mp h1, Int32.not_le.mp h2⟩ ha
theorem r_symbolOf {a : Int32} {I : zI} {K : Int32 → Prop} (h : ∀ v, K v) : w_Desk_symbolOf a I K := by
  by_cases ha : 0 ≤ a ∧ a < 11
  · obtain ⟨s, hs, rfl⟩ := zi_of ha.1
    exact s_symbolOf ((zi_lt (b := 11) hs (by decide)).mp ha.2) (h _)
  · unfold w_Desk_symbolOf
    split
    · exact h _
    · split
      · exact h _
      · rename_i h1 h2
        exact absurd ⟨Int32.not_lt.mp h1, Int32.not_le.mp h2⟩ ha
theorem r_fits {a b : Int32} {I : zI} {K : Int32 → Prop} (h : ∀ v, K v) : w_Desk_fits a b I K := by
  unfold w_Desk_fits
  split
  · exact h _
  · split
    · exact h _
    · rename_i h1 h2
      obtain ⟨s, hs, rfl⟩ := zi_of (Int32.not_lt.mp h1)
      have hs13 := (zi_lt (b := 13) hs (by decide)).mp (Int32.not_le.mp h2)
      refine ⟨(zin_iff hs).mpr (by show s < 13; exact hs13), ?_⟩
      split
      · exact h _
      · exact h _
theorem r_has {a : Int32} {I : zI} {K : Int32 → Prop} (h : ∀ v, K v) : w_Nodes_has a I K := by
  unfold w_Nodes_has
  split
  · exact h _
  · split
    · exact h _
    · exact h _
theorem r_holds {a : Int32} {I : zI} {K : Int32 → Prop} (h : ∀ v, K v) : w_TreeView_holds a I K := by
  refine r_has (fun v => ?_)
  split
  · exact h _
  · refine (w_get (by decide)).mpr ?_
    split
    · exact h _
    · refine (w_get (by decide)).mpr ?_
      split
      · exact h _
      · exact h _
theorem r_parentOf {a : Int32} {I : zI} {K : Int32 → Prop} (h : ∀ v, K v) : w_TreeView_parentOf a I K := by
  refine r_holds (fun v => ?_)
  split
  · exact h _
  · split
    · exact h _
    · exact (w_get (by decide)).mpr ((w_get (by decide)).mpr ((w_get (by decide)).mpr (h _)))
theorem r_firstOf {a : Int32} {I : zI} {K : Int32 → Prop} (h : ∀ v, K v) : w_TreeView_firstOf a I K := by
  refine r_holds (fun v => ?_)
  split
  · exact h _
  · exact (w_get (by decide)).mpr ((w_get (by decide)).mpr (h _))
theorem r_tkhas {k : Nat} {a : Int32} {I : zI} {K : Int32 → Prop} (h : ∀ v, K v) : w_Tokens_has k a I K := by
  unfold w_Tokens_has
  split
  · exact h _
  · split
    · exact h _
    · exact h _
theorem r_hasGood {k : Nat} {a : Int32} {I : zI} {K : Int32 → Prop} (h : ∀ v, K v) : w_Moment_hasGood k a I K := by
  unfold w_Moment_hasGood
  split
  · exact h _
  · split
    · exact h _
    · exact h _
theorem r_hasRun {a : Int32} {I : zI} {K : Int32 → Prop} (h : ∀ v, K v) : w_TreeView_hasRun a I K := by
  unfold w_TreeView_hasRun
  split
  · exact h _
  · split
    · exact h _
    · exact h _
theorem r_now {x : Sg} {I : zI} {K : Nat → Prop} (hR : RX I x) (h : ∀ s, s < 21 → K (zmom s)) : w_Desk_now I K := by
  obtain ⟨s, hA⟩ := hR.now
  exact s_now hA.1 hA.2.1 (h s hA.1)
theorem up_pure {P : Int32 → Prop} {b : Int32} (step : ∀ v, v < b → P (v + 1) → P v) (stop : ∀ v, b ≤ v → P v) : ∀ v, P v := fun v =>
  up_loop (P := fun v _ => P v) (b := b) (inv := fun _ => True) (fun v J hv _ ih => step v hv (ih J trivial)) (fun v J hv _ => stop v hv) v z00 trivial
theorem dn_pure {P : Int32 → Prop} {a : Int32} (ha : 0 ≤ a) (step : ∀ v, a ≤ v → P (v + (-1)) → P v) (stop : ∀ v, v < a → P v) : ∀ v, P v := fun v =>
  dn_loop (P := fun v _ => P v) (a := a) (inv := fun _ => True) ha (fun v J hv _ ih => step v hv (ih J trivial)) (fun v J hv _ => stop v hv) v z00 trivial
theorem r_covering {k : Nat} {a : Int32} {I : zI} {K : Int32 → Prop} (h : ∀ v, K v) : w_Tokens_covering k a I K := by
  intro P2 h2
  refine up_pure (b := I.1 k 5) (fun v hv ih => ?_) (fun v hv => ?_) 0
  · refine h2 _ ?_
    rw [if_neg (Int32.not_le.mpr hv)]
    refine (w_get (by decide)).mpr ?_
    intro P45 h45
    have no : P45 := h45 (fun v' ev => by rw [ev]; exact ih)
    split
    · exact no
    · refine (w_get (by decide)).mpr ((w_get (by decide)).mpr ?_)
      split
      · exact no
      · exact h _
  · refine h2 _ ?_
    rw [if_pos hv]
    exact h _
theorem r_isEnd {a : Int32} {I : zI} {K : Int32 → Prop} (h : ∀ v, K v) : w_Desk_isEnd a I K := by
  refine (w_get (by decide)).mpr ?_
  split
  · exact h _
  · exact h _
theorem r_startOf {x : Sg} {a : Int32} {I : zI} {K : Int32 → Prop} (hR : RX I x) (h : ∀ v, K v) : w_Desk_startOf a I K := r_now hR (fun s hs => r_firstOf (fun v => (w_get (by decide)).mpr (h _)))
theorem r_endOf {x : Sg} {a : Int32} {I : zI} {K : Int32 → Prop} (hR : RX I x) (h : ∀ v, K v) : w_Desk_endOf a I K := r_now hR (fun s hs => r_firstOf (fun v => (w_get (by decide)).mpr (fun w ew => (w_get (by decide)).mpr ((w_get (by decide)).mpr ((w_get (by decide)).mpr (h _))))))
theorem r_placeBehind {a : Int32} {I : zI} {K : Int32 → Prop} (h : ∀ v, K v) : w_TreeView_placeBehind a I K := (w_get (by decide)).mpr ((w_get (by decide)).mpr (h _))
theorem r_holdsExpression {a : Int32} {I : zI} {K : Int32 → Prop} (h : ∀ v, K v) : w_TreeView_holdsExpression a I K := by
  refine r_holds (fun v => ?_)
  split
  · exact h _
  · refine (w_get (by decide)).mpr ?_
    split
    · exact h _
    · exact h _
theorem r_sibling {a b : Int32} {I : zI} {K : Int32 → Prop} (h : ∀ v, K v) : w_TreeView_sibling a b I K := by
  refine r_parentOf (fun p => ?_)
  split
  · refine r_childrenOf (fun n => ?_)
    intro P26 h26
    refine up_pure (b := n) (fun v hv ih => ?_) (fun v hv => ?_) 0
    · refine h26 _ ?_
      rw [if_neg (Int32.not_le.mpr hv)]
      intro v6 ev6
      refine r_childOf (fun c => ?_)
      intro P76 h76
      have no : P76 := h76 (fun v' ev => by rw [ev]; exact ih)
      split
      · split
        · exact no
        · split
          · exact no
          · exact r_childOf (fun c => h _)
      · exact no
    · refine h26 _ ?_
      rw [if_pos hv]
      exact h _
  · exact h _
theorem r_lowestOfRule {a b : Int32} {I : zI} {K : Int32 → Prop} (h : ∀ v, K v) : w_TreeView_lowestOfRule a b I K := by
  refine r_parentOf (fun p => ?_)
  intro P9 h9
  refine up_pure (P := fun v => ∀ w, P9 w v) (b := 400) (fun v hv ih w => ?_) (fun v hv w => ?_) 0 p
  · refine h9 _ _ ?_
    rw [if_neg (Int32.not_le.mpr hv)]
    split
    · exact h _
    · refine (w_get (by decide)).mpr ?_
      split
      · exact h _
      · exact r_parentOf (fun q v' ev => by rw [ev]; exact ih q)
  · refine h9 _ _ ?_
    rw [if_pos hv]
    exact h _
theorem r_lowestOver {a b : Int32} {I : zI} {K : Int32 → Prop} (h : ∀ v, K v) : w_TreeView_lowestOver a b I K := by
  refine r_parentOf (fun p => ?_)
  intro P9 h9
  refine up_pure (P := fun v => ∀ w, P9 w v) (b := 400) (fun v hv ih w => ?_) (fun v hv w => ?_) 0 p
  · refine h9 _ _ ?_
    rw [if_neg (Int32.not_le.mpr hv)]
    split
    · exact h _
    · refine r_firstOf (fun f => ?_)
      intro P54 h54
      have no : P54 := h54 (r_parentOf (fun q v' ev => by rw [ev]; exact ih q))
      split
      · exact no
      · refine (w_get (by decide)).mpr ?_
        split
        · exact no
        · exact h _
  · refine h9 _ _ ?_
    rw [if_pos hv]
    exact h _
theorem r_wayDown {a b : Int32} {I : zI} {K : Int32 → Prop} (h : ∀ v, K v) : w_TreeView_wayDown a b I K := by
  refine (w_get (by decide)).mpr ((w_get (by decide)).mpr (fun v3 ev3 => ?_))
  split
  · exact h _
  · split
    · intro P36 h36
      refine up_pure (P := fun v => ∀ w, P36 w v) (b := v3) (fun v hv ih w => ?_) (fun v hv w => ?_) 0 a
      · refine h36 _ _ ?_
        rw [if_neg (Int32.not_le.mpr hv)]
        exact r_parentOf (fun q v' ev => by rw [ev]; exact ih q)
      · refine h36 _ _ ?_
        rw [if_pos hv]
        exact h _
    · exact h _
theorem r_readsName {a : Int32} {I : zI} {K : Int32 → Prop} (h : ∀ v, K v) : w_TreeView_readsName a I K := by
  refine r_placeBehind (fun b => (w_get (by decide)).mpr ?_)
  intro P15 h15
  refine up_pure (b := b) (fun v hv ih => ?_) (fun v hv => ?_) _
  · refine h15 _ ?_
    rw [if_neg (Int32.not_le.mpr hv)]
    refine (w_get (by decide)).mpr ((w_get (by decide)).mpr ?_)
    split
    · exact h _
    · intro v' ev
      rw [ev]
      exact ih
  · refine h15 _ ?_
    rw [if_pos hv]
    exact h _
theorem r_madeWithin {a e : Int32} {I : zI} {K : Int32 → Prop} (h : ∀ v, K v) : w_TreeView_madeWithin a e I K := by
  refine r_placeBehind (fun b => (w_get (by decide)).mpr ?_)
  intro P19 h19
  refine up_pure (P := fun v => ∀ w, P19 w v) (b := b) (fun v hv ih w => ?_) (fun v hv w => ?_) _ 0
  · refine h19 _ _ ?_
    rw [if_neg (Int32.not_le.mpr hv)]
    intro P56 h56
    have nx : ∀ w, P56 w := fun w => h56 w (fun v' ev => by rw [ev]; exact ih w)
    split
    · exact nx _
    · refine (w_get (by decide)).mpr ((w_get (by decide)).mpr ?_)
      split
      · intro v' ev
        exact nx _
      · exact nx _
  · refine h19 _ _ ?_
    rw [if_pos hv]
    exact h _
theorem r_depthOf {a : Int32} {I : zI} {K : Int32 → Prop} (h : ∀ v, K v) : w_Pairs_depthOf a I K := by
  intro P2 h2
  refine up_pure (b := 30) (fun v hv ih => ?_) (fun v hv => ?_) 0
  · refine h2 _ ?_
    rw [if_neg (Int32.not_le.mpr hv)]
    split
    · exact h _
    · intro v' ev
      rw [ev]
      exact ih
  · refine h2 _ ?_
    rw [if_pos hv]
    exact h _
theorem r_isGoodName {x : Sg} {a : Int32} {I : zI} {K : Int32 → Prop} (hR : RX I x) (h : ∀ v, K v) : w_Desk_isGoodName a I K := by
  refine r_now hR (fun s hs => r_hasGood (fun v => ?_))
  split
  · exact h _
  · refine (w_get (by decide)).mpr ((w_get (by decide)).mpr ?_)
    split
    · exact h _
    · exact h _
/-! those that try a text anew -/
def Qad (a j : Nat) : Prop := 100 ≤ a ∧ a ≤ 108
theorem r_begin {k : Nat} {I : zI} {K : zI → Prop} (hk : k = 101 ∨ k = 104) (hK : ∀ J, eqQ Qad I J → K J) : w_Trial_begin k I K := by
  intro I1 e1
  refine (w_set (by decide)).mpr (hK _ ?_)
  refine eqQ.rs ?_ (fun j => ⟨by omega, by omega⟩)
  rw [e1]
  exact eqQ.rf.zu ⟨by omega, by omega⟩
theorem r_trialCopy {k a : Nat} {I : zI} {K : zI → Prop} (hk : k = 101 ∨ k = 104) (hK : ∀ J, eqQ Qad I J → K J) : w_Trial_copyFrom k a I K := by
  intro I1 e1
  refine r_copyFrom (by decide) (by decide) (fun J q => hK J ?_)
  refine eqX.q ?_ q (fun a j h1 h2 => ⟨by omega, by omega⟩)
  rw [e1]
  exact eqQ.rf.zu ⟨by omega, by omega⟩
theorem r_accepts {k : Nat} {a : Int32} {I : zI} {K : Int32 → zI → Prop} (hk : k = 101 ∨ k = 104) (hK : ∀ v J, eqQ Qad I J → K v J) : w_Trial_accepts k a I K := by
  intro P2 h2
  refine up_loop (P := P2) (b := 1000) (inv := fun J => eqQ Qad I J) (fun v J hv hJ ih => ?_) (fun v J hv hJ => ?_) 0 I eqQ.rf
  · refine h2 _ _ ?_
    rw [if_neg (Int32.not_le.mpr hv)]
    refine (w_get (by decide)).mpr (r_leadsTo (fun to => r_ruleAt (fun ru => ?_)))
    split
    · intro P83 h83
      have no : P83 := h83 (by
        split
        · split
          · exact hK _ J hJ
          · exact hK _ J hJ
        · exact hK _ J hJ)
      split
      · exact no
      · refine r_lengthOf (fun l => ?_)
        split
        · refine r_lengthOf (fun l2 I10 e10 I11 e11 => (w_get (by decide)).mpr (r_symbolOf (fun sy => r_leadsTo (fun t => (w_set (by decide)).mpr (fun v' ev => ?_)))))
          rw [ev]
          refine ih _ (eqQ.rs ?_ (fun j => ⟨by omega, by omega⟩))
          rw [e11, e10]
          exact (hJ.zu ⟨by omega, by omega⟩).zu ⟨by omega, by omega⟩
        · exact no
    · intro I19 e19
      refine (w_set (by decide)).mpr (hK _ _ (eqQ.rs ?_ (fun j => ⟨by omega, by omega⟩)))
      rw [e19]
      exact hJ.zu ⟨by omega, by omega⟩
  · refine h2 _ _ ?_
    rw [if_pos hv]
    exact hK _ J hJ
theorem r_acceptsFrom {k t : Nat} {a : Int32} {I : zI} {K : Int32 → zI → Prop} (hk : k = 101 ∨ k = 104) (ht : t < 100 ∨ 108 < t) (hK : ∀ v J, eqQ Qad I J → K v J) : w_Trial_acceptsFrom k t a I K := by
  intro P2 h2
  refine up_loop (P := P2) (b := I.1 t 5) (inv := fun J => eqQ Qad I J) (fun v J hv hJ ih => ?_) (fun v J hv hJ => ?_) a I eqQ.rf
  · refine h2 _ _ ?_
    rw [hJ.1 t 5 (by unfold Qad; omega), if_neg (Int32.not_le.mpr hv)]
    refine (w_get (by decide)).mpr (r_accepts hk (fun r A qA => ?_))
    split
    · exact hK _ A (hJ.tr qA)
    · intro v' ev
      rw [ev]
      exact ih A (hJ.tr qA)
  · refine h2 _ _ ?_
    rw [hJ.1 t 5 (by unfold Qad; omega), if_pos hv]
    exact hK _ J hJ
theorem r_weigh {t : Nat} {I : zI} {K : zI → Prop} (ht : t < 100 ∨ 108 < t) (hK : ∀ J, eqQ Qad I J → K J) : w_Adviser_weigh t I K := by
  intro P4 h4
  refine up_loop (P := fun v J => ∀ w, P4 w v J) (b := I.1 t 5) (inv := fun J => eqQ Qad I J) (fun v J hv hJ ih w => ?_) (fun v J hv hJ w => ?_) 0 I eqQ.rf 0
  · refine h4 _ _ _ ?_
    rw [hJ.1 t 5 (by unfold Qad; omega), if_neg (Int32.not_le.mpr hv)]
    refine (w_set (by decide)).mpr ((w_get (by decide)).mpr ?_)
    intro P90 h90
    have nx : ∀ u, P90 u := fun u => h90 u (fun v' ev => by
      rw [ev]
      exact ih _ (hJ.rs (fun j => ⟨by decide, by decide⟩)) u)
    split
    · intro v' ev
      exact nx _
    · split
      · intro v' ev
        exact nx _
      · split
        · intro v' ev
          exact nx _
        · split
          · intro v' ev
            exact nx _
          · exact nx _
  · refine h4 _ _ _ ?_
    rw [hJ.1 t 5 (by unfold Qad; omega), if_pos hv]
    exact (w_set (by decide)).mpr (hK _ (hJ.rs (fun j => ⟨by decide, by decide⟩)))
theorem r_lastMisfit {t : Nat} {I : zI} {K : Int32 → Prop} (h : ∀ v, K v) : w_Adviser_lastMisfit t I K := by
  intro v1 ev1 P7 h7
  refine dn_pure (a := 0) (by decide) (fun v hv ih => ?_) (fun v hv => ?_) v1
  · refine h7 _ ?_
    rw [if_neg (Int32.not_lt.mpr hv)]
    refine (w_get (by decide)).mpr ((w_get (by decide)).mpr (r_fits (fun r => ?_)))
    split
    · exact h _
    · intro v' ev
      rw [ev]
      exact ih
  · refine h7 _ ?_
    rw [if_pos hv]
    exact h _
theorem r_couldGo {t : Nat} {a b : Int32} {I : zI} {K : Int32 → Prop} (h : ∀ v, K v) : w_Adviser_couldGo t a b I K := by
  refine (w_get (by decide)).mpr ((w_get (by decide)).mpr ((w_get (by decide)).mpr ?_))
  intro P38 h38
  have nx : ∀ u, P38 u := by
    intro u
    refine h38 u ?_
    intro P59 h59
    have n2 : ∀ w, P59 w := by
      intro w
      refine h59 w ?_
      split
      · exact h _
      · refine (w_get (by decide)).mpr (r_fits (fun r => ?_))
        split
        · exact h _
        · exact h _
    split
    · exact n2 _
    · exact (w_get (by decide)).mpr (n2 _)
  split
  · exact nx _
  · exact nx _
theorem r_found {a b : Int32} {I : zI} {K : zI → Prop} (hK : ∀ J, eqQ Qad I J → K J) : w_Adviser_found a b I K := by
  intro I1 e1 I2 e2
  refine hK I2 ?_
  rw [e2, e1]
  exact (eqQ.rf.zu ⟨by decide, by decide⟩).zu ⟨by decide, by decide⟩
theorem r_findWay {t n : Nat} {I : zI} {K : zI → Prop} (ht : t < 100 ∨ 108 < t) (h5 : I.1 t 5 = zi n) (hn : n ≤ 1000) (hK : ∀ J, eqQ Qad I J → K J) : w_Adviser_findWay t I K := by
  refine r_weigh ht (fun I1 q1 => r_lastMisfit (fun mf => ?_))
  intro P12 h12
  have outer : ∀ (d p : Nat) (J : zI), p + d = n + 1 → 1 ≤ p → eqQ Qad I J → P12 (zi p) J := by
    intro d
    induction d with
    | zero =>
      intro p J hp h1 hJ
      refine h12 _ _ ?_
      rw [hJ.1 t 5 (by unfold Qad; omega), h5, if_pos ((zi_le (by omega) (by omega)).mpr (by omega))]
      exact r_found (fun A qA => hK A (hJ.tr qA))
    | succ d ih =>
      intro p J hp h1 hJ
      refine h12 _ _ ?_
      rw [hJ.1 t 5 (by unfold Qad; omega), h5]
      by_cases u : n ≤ p
      · rw [if_pos ((zi_le (by omega) (by omega)).mpr u)]
        exact r_found (fun A qA => hK A (hJ.tr qA))
      rw [if_neg (fun w => u ((zi_le (by omega) (by omega)).mp w))]
      refine r_begin (Or.inl rfl) (fun B qB => ?_)
      intro P33 h33
      have inner : ∀ (d2 q : Nat) (v : Int32) (C : zI), q + d2 = n + 1 → eqQ Qad I C → P33 v (zi q) C := by
        intro d2
        induction d2 with
        | zero =>
          intro q v C hq hC
          refine h33 _ _ _ ?_
          intro P126 h126
          have stop : P126 := h126 (fun v' ev => by
            rw [ev, zi_succ]
            exact ih (p + 1) C (by omega) (by omega) hC)
          split
          · exact stop
          · rw [hC.1 t 5 (by unfold Qad; omega), h5, zi_add, if_pos ((zi_le (by omega) (by omega)).mpr (by omega))]
            exact stop
        | succ d2 ih2 =>
          intro q v C hq hC
          refine h33 _ _ _ ?_
          intro P126 h126
          have stop : P126 := h126 (fun v' ev => by
            rw [ev, zi_succ]
            exact ih (p + 1) C (by omega) (by omega) hC)
          split
          · exact stop
          · split
            · exact stop
            · intro P102 h102
              have nx : ∀ D, eqQ Qad I D → P102 D := fun D hD => h102 D ((w_get (by decide)).mpr (r_accepts (Or.inl rfl) (fun r E qE v' ev => by
                rw [ev, zi_succ]
                exact ih2 (q + 1) r E (by omega) (hD.tr qE))))
              split
              · exact nx C hC
              · refine r_couldGo (fun r => ?_)
                split
                · exact nx C hC
                · refine r_trialCopy (Or.inr rfl) (fun D qD => r_acceptsFrom (Or.inr rfl) ht (fun r E qE => ?_))
                  split
                  · exact nx E ((hC.tr qD).tr qE)
                  · exact r_found (fun F qF => hK F (((hC.tr qD).tr qE).tr qF))
      exact inner (n + 1) 0 1 B (by omega) (hJ.tr qB)
  exact outer n 1 I1 (by omega) (Nat.le_refl 1) q1
theorem r_findMend {t : Nat} {I : zI} {K : zI → Prop} (ht : t < 100 ∨ 108 < t) (hK : ∀ J, eqQ Qad I J → K J) : w_Adviser_findMend t I K := by
  refine r_begin (Or.inl rfl) (fun I1 q1 => ?_)
  intro P11 h11
  refine up_loop (P := fun v J => ∀ w, P11 w v J) (b := I.1 t 5) (inv := fun J => eqQ Qad I J) (fun v J hv hJ ih w => ?_) (fun v J hv hJ w => ?_) 0 I1 q1 1
  · refine h11 _ _ _ ?_
    intro P104 h104
    have stop : P104 := h104 (r_found (fun A qA => hK A (hJ.tr qA)))
    split
    · exact stop
    · rw [hJ.1 t 5 (by unfold Qad; omega), if_neg (Int32.not_le.mpr hv)]
      intro P26 h26
      refine up_loop (P := P26) (b := 10) (inv := fun J => eqQ Qad I J) (fun k A hk hA ih2 => ?_) (fun k A hk hA => ?_) 0 J hJ
      · refine h26 _ _ ?_
        rw [if_neg (Int32.not_le.mpr hk)]
        refine r_trialCopy (Or.inr rfl) (fun B qB => r_accepts (Or.inr rfl) (fun r C qC => ?_))
        intro P76 h76
        have nx : ∀ D, eqQ Qad I D → P76 D := fun D hD => h76 D (fun v' ev => by
          rw [ev]
          exact ih2 D hD)
        split
        · exact nx C ((hA.tr qB).tr qC)
        · refine r_acceptsFrom (Or.inr rfl) ht (fun r D qD => ?_)
          split
          · exact nx D (((hA.tr qB).tr qC).tr qD)
          · exact r_found (fun E qE => hK E ((((hA.tr qB).tr qC).tr qD).tr qE))
      · refine h26 _ _ ?_
        rw [if_pos hk]
        refine (w_get (by decide)).mpr (r_accepts (Or.inl rfl) (fun r B qB v' ev => ?_))
        rw [ev]
        exact ih B (hA.tr qB) r
  · refine h11 _ _ _ ?_
    intro P104 h104
    have stop : P104 := h104 (r_found (fun A qA => hK A (hJ.tr qA)))
    split
    · exact stop
    · rw [hJ.1 t 5 (by unfold Qad; omega), if_pos hv]
      exact stop
theorem r_kindsInPlace {t : Nat} {I : zI} {K : Int32 → zI → Prop} (ht : t < 100 ∨ 108 < t) (hK : ∀ v J, eqQ Qad I J → K v J) : w_Adviser_kindsInPlace t I K := by
  have wrong : ∀ K' : zI → Prop, (∀ J, eqQ Qad I J → K' J) → w_Adviser_goToWrong t I K' := by
    intro K' hK'
    refine r_begin (Or.inl rfl) (fun I1 q1 => r_begin (Or.inr rfl) (fun I2 q2 => ?_))
    intro P16 h16
    refine up_loop (P := P16) (b := I.1 t 5) (inv := fun J => eqQ Qad I J) (fun v J hv hJ ih => ?_) (fun v J hv hJ => ?_) 0 I2 (q1.tr q2)
    · refine h16 _ _ ?_
      rw [hJ.1 t 5 (by unfold Qad; omega), if_neg (Int32.not_le.mpr hv)]
      refine (w_get (by decide)).mpr (r_accepts (Or.inr rfl) (fun r A qA => ?_))
      split
      · exact hK' A (hJ.tr qA)
      · refine r_trialCopy (Or.inl rfl) (fun B qB v' ev => ?_)
        rw [ev]
        exact ih B ((hJ.tr qA).tr qB)
    · refine h16 _ _ ?_
      rw [hJ.1 t 5 (by unfold Qad; omega), if_pos hv]
      exact hK' J hJ
  refine wrong _ (fun I1 q1 => ?_)
  intro P9 h9
  refine up_loop (P := fun v J => ∀ w, P9 w v J) (b := 11) (inv := fun J => eqQ Qad I J) (fun v J hv hJ ih w => ?_) (fun v J hv hJ w => ?_) 0 I1 q1 0
  · refine h9 _ _ _ ?_
    split
    · exact hK _ J hJ
    · refine r_trialCopy (Or.inr rfl) (fun A qA => r_accepts (Or.inr rfl) (fun r B qB => ?_))
      intro P45 h45
      have nx : ∀ u, P45 u := fun u => h45 u (fun v2 e2 v3 e3 => by
        rw [e3]
        exact ih B ((hJ.tr qA).tr qB) _)
      split
      · exact nx _
      · exact nx _
  · refine h9 _ _ _ ?_
    rw [if_pos (show (10 : Int32) < v from Int32.lt_of_lt_of_le (by decide) hv)]
    exact hK _ J hJ
