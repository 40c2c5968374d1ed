/-! ===== each question to the class returns ===== -/
theorem RX.ad {I J : zI} {x : Sg} (hv : Iv x) (h : RX I x) (q : eqQ Qad I J) : RX J x := h.kp hv (fun a j u => q.1 a j (by unfold Qad; omega))
theorem RX.po {I J : zI} {x : Sg} (hv : Iv x) (h : RX I x) (q : eqQ Qpo I J) : RX J x := h.kp hv (fun a j u => q.1 a j (by unfold Qpo; omega))
theorem Qad_cl {I J : zI} (q : eqQ Qad I J) : eqQ Qcl I J := q.mono (fun a j h => by unfold Qad at h; unfold Qcl; omega)
theorem Qpo_cl {I J : zI} (q : eqQ Qpo I J) : eqQ Qcl I J := q.mono (fun a j h => by unfold Qpo at h; unfold Qcl; omega)
theorem zmom_out {s : Nat} : zmom s + 3 < 100 ∨ 108 < zmom s + 3 := Or.inr (by have : zmom s = 113 + 18 * s := rfl; omega)
theorem q_text {x : Sg} {a : Int32} {I : zI} {K : Int32 → Prop} (hR : RX I x) (h : ∀ v, K v) : w_Desk_text a I K := by
  refine r_now hR (fun s hs => ?_)
  split
  · exact h _
  · split
    · exact h _
    · exact (w_get (by decide)).mpr (h _)
theorem q_token {x : Sg} {a b : Int32} {I : zI} {K : Int32 → Prop} (hR : RX I x) (h : ∀ v, K v) : w_Desk_token a b I K := by
  refine r_now hR (fun s hs => r_tkhas (fun v => ?_))
  split
  · exact h _
  · split
    · exact (w_get (by decide)).mpr (h _)
    · split
      · exact (w_get (by decide)).mpr (h _)
      · split
        · exact (w_get (by decide)).mpr (h _)
        · exact h _
theorem q_good {x : Sg} {a : Int32} {I : zI} {K : Int32 → Prop} (hR : RX I x) (h : ∀ v, K v) : w_Desk_good a I K := by
  refine r_now hR (fun s hs => r_hasGood (fun v => ?_))
  split
  · exact h _
  · exact (w_get (by decide)).mpr (h _)
theorem q_under {x : Sg} {a : Int32} {I : zI} {K : Int32 → Prop} (hR : RX I x) (h : ∀ v, K v) : w_Desk_under a I K := by
  refine r_now hR (fun s hs => ?_)
  split
  · exact h _
  · split
    · exact r_covering (fun v => h v)
    · exact h _
theorem q_inTheWay {x : Sg} {a : Int32} {I : zI} {K : Int32 → zI → Prop} (hv : Iv x) (hR : RX I x) (h : ∀ v J, eqQ Qcl I J → RX J x → K v J) : w_Desk_inTheWay a I K := by
  intro P11 h11
  have yes : P11 := by
    refine h11 ?_
    obtain ⟨s, hA⟩ := hR.now
    refine s_now hA.1 hA.2.1 ?_
    split
    · refine r_findWay (n := (lexL (moT (sgC x))).length) zmom_out hA.2.2.2.2.1.1 (by have := hv.2.2.2.2.2.2.2.1.1.2.2; omega) (fun J qJ => ?_)
      split
      · exact h _ J (Qad_cl qJ) (hR.ad hv qJ)
      · exact h _ J (Qad_cl qJ) (hR.ad hv qJ)
    · exact h _ I eqQ.rf hR
  split
  · exact yes
  · split
    · exact yes
    · exact h _ I eqQ.rf hR
theorem q_expected {x : Sg} {I : zI} {K : Int32 → zI → Prop} (hv : Iv x) (hR : RX I x) (h : ∀ v J, eqQ Qcl I J → RX J x → K v J) : w_Desk_expected I K := by
  refine r_now hR (fun s hs => ?_)
  split
  · exact r_kindsInPlace zmom_out (fun v J qJ => h v J (Qad_cl qJ) (hR.ad hv qJ))
  · exact h _ I eqQ.rf hR
theorem q_mend {x : Sg} {a : Int32} {I : zI} {K : Int32 → zI → Prop} (hv : Iv x) (hR : RX I x) (h : ∀ v J, eqQ Qcl I J → RX J x → K v J) : w_Desk_mend a I K := by
  intro P11 h11
  have yes : P11 := by
    refine h11 (r_now hR (fun s hs => ?_))
    split
    · refine r_findMend zmom_out (fun J qJ => ?_)
      split
      · exact h _ J (Qad_cl qJ) (hR.ad hv qJ)
      · exact h _ J (Qad_cl qJ) (hR.ad hv qJ)
    · exact h _ I eqQ.rf hR
  split
  · exact yes
  · split
    · exact yes
    · exact h _ I eqQ.rf hR
theorem q_node {x : Sg} {a b : Int32} {I : zI} {K : Int32 → Prop} (hR : RX I x) (h : ∀ v, K v) : w_Desk_node a b I K := by
  refine r_has (fun v => ?_)
  split
  · exact h _
  · split
    · exact (w_get (by decide)).mpr (h _)
    · split
      · exact (w_get (by decide)).mpr (h _)
      · split
        · exact r_childrenOf (fun v => h v)
        · split
          · exact (w_get (by decide)).mpr (h _)
          · split
            · exact (w_get (by decide)).mpr (h _)
            · split
              · exact (w_get (by decide)).mpr (h _)
              · split
                · refine r_isEnd (fun v => ?_)
                  split
                  · refine r_holds (fun v => ?_)
                    split
                    · exact h _
                    · exact h _
                  · exact h _
                · split
                  · exact r_parentOf (fun v => h v)
                  · split
                    · refine r_isEnd (fun v => ?_)
                      split
                      · exact r_firstOf (fun v => h v)
                      · exact r_now hR (fun s hs => h _)
                    · exact h _
theorem q_child {a b : Int32} {I : zI} {K : Int32 → Prop} (h : ∀ v, K v) : w_Desk_child a b I K := by
  refine r_has (fun v => ?_)
  split
  · exact h _
  · split
    · exact h _
    · refine r_childrenOf (fun v => ?_)
      split
      · exact r_childOf (fun v => h v)
      · exact h _
theorem q_beside {a : Int32} {I : zI} {K : Int32 → Prop} (h : ∀ v, K v) : w_Desk_beside a I K := r_sibling (fun v => h v)
theorem q_before {a : Int32} {I : zI} {K : Int32 → Prop} (h : ∀ v, K v) : w_Desk_before a I K := r_sibling (fun v => h v)
theorem q_span {x : Sg} {a b : Int32} {I : zI} {K : Int32 → Prop} (hR : RX I x) (h : ∀ v, K v) : w_Desk_span a b I K := by
  intro P9 h9
  have yes : P9 := by
    refine h9 (r_holds (fun v => ?_))
    split
    · exact h _
    · refine r_firstOf (fun f => ?_)
      split
      · split
        · exact r_startOf hR (fun v => h v)
        · exact r_endOf hR (fun v => r_startOf hR (fun w => h _))
      · exact h _
  split
  · exact yes
  · split
    · exact yes
    · exact h _
theorem q_ruled {a : Int32} {I : zI} {K : Int32 → Prop} (h : ∀ v, K v) : w_Desk_ruled a I K := by
  unfold w_Desk_ruled
  split
  · exact h _
  · split
    · exact h _
    · exact (w_get (by decide)).mpr (h _)
theorem q_above {x : Sg} {a b : Int32} {I : zI} {K : Int32 → Prop} (hR : RX I x) (h : ∀ v, K v) : w_Desk_above a b I K := by
  refine r_now hR (fun s hs => r_hasGood (fun v => ?_))
  split
  · exact h _
  · split
    · exact h _
    · split
      · exact (w_get (by decide)).mpr (r_lowestOfRule (fun v => h v))
      · exact h _
theorem q_common {x : Sg} {a b : Int32} {I : zI} {K : Int32 → Prop} (hR : RX I x) (h : ∀ v, K v) : w_Desk_common a b I K := by
  refine r_now hR (fun s hs => r_hasGood (fun v => ?_))
  split
  · exact h _
  · refine r_hasGood (fun v => ?_)
    split
    · exact h _
    · refine (w_get (by decide)).mpr ?_
      split
      · exact h _
      · exact r_lowestOver (fun v => h v)
theorem q_path {x : Sg} {a b : Int32} {I : zI} {K : Int32 → Prop} (hR : RX I x) (h : ∀ v, K v) : w_Desk_path a b I K := by
  refine r_now hR (fun s hs => r_hasGood (fun v => ?_))
  split
  · exact h _
  · split
    · exact h _
    · exact (w_get (by decide)).mpr (r_wayDown (fun v => h v))
theorem q_print {a : Int32} {I : zI} {K : Int32 → Prop} (h : ∀ v, K v) : w_Desk_print a I K := by
  unfold w_Desk_print
  split
  · exact h _
  · split
    · exact h _
    · exact (w_get (by decide)).mpr (h _)
theorem q_alike {x : Sg} {a b : Int32} {I : zI} {K : Int32 → zI → Prop} (hv : Iv x) (hR : RX I x) (h : ∀ v J, eqQ Qcl I J → RX J x → K v J) : w_Desk_alike a b I K := by
  refine r_holdsExpression (fun v => ?_)
  split
  · exact h _ I eqQ.rf hR
  · refine r_holdsExpression (fun v => ?_)
    split
    · exact h _ I eqQ.rf hR
    · refine r_write (fun r1 I2 q2 => r_writeB (fun r3 I4 q4 => ?_))
      have q4' := (Qpn_po q2).tr q4
      have R4 := hR.po hv q4'
      intro P38 h38
      have st : ∀ t : Int32, zb t → P38 t := by
        intro t ht
        refine h38 t ?_
        intro P43 h43
        have stop : ∀ u : Int32, zb u → w_Desk_now I4 (fun r_8 => w_Printer_write (I4.1 r_8 7) 109 700 I4 (fun r_9 I_10 => zb u ∧ (if u = 0 then K 0 I_10 else K 1 I_10))) := fun u hu => r_now R4 (fun s hs => r_write (fun r9 I10 q10 => ⟨hu, by
          have q10' := q4'.tr (Qpn_po q10)
          split
          · exact h _ I10 (Qpo_cl q10') (hR.po hv q10')
          · exact h _ I10 (Qpo_cl q10') (hR.po hv q10')⟩))
        refine up_pure (P := fun v => ∀ w, zb w → P43 w v) (b := r1) (fun v hv ih w hw => ?_) (fun v hv w hw => ?_) 0 t ht
        · refine h43 _ _ ?_
          intro P88 h88
          have no : P88 := h88 (stop w hw)
          split
          · exact no
          · rw [if_neg (Int32.not_le.mpr hv)]
            refine (w_get (by decide)).mpr ((w_get (by decide)).mpr ?_)
            intro P80 h80
            have nx : ∀ u, zb u → P80 u := fun u hu => h80 u (fun v' ev => by rw [ev]; exact ih u hu)
            split
            · exact nx 1 (Or.inr rfl)
            · exact nx 0 (Or.inl rfl)
        · refine h43 _ _ ?_
          intro P88 h88
          have no : P88 := h88 (stop w hw)
          repeat' split
          all_goals exact no
      split
      · exact st 1 (Or.inr rfl)
      · exact st 0 (Or.inl rfl)
theorem q_firm {a : Int32} {I : zI} {K : Int32 → Prop} (h : ∀ v, K v) : w_Desk_firm a I K := by
  refine r_holdsExpression (fun v => ?_)
  split
  · exact h _
  · refine r_readsName (fun v => ?_)
    split
    · exact h _
    · exact h _
theorem q_run {a : Int32} {I : zI} {K : Int32 → Prop} (h : ∀ v, K v) : w_Desk_run a I K := by
  refine r_hasRun (fun v => ?_)
  split
  · exact h _
  · exact (w_get (by decide)).mpr (h _)
theorem q_young {a : Int32} {I : zI} {K : Int32 → Prop} (h : ∀ v, K v) : w_Desk_young a I K := by
  refine r_hasRun (fun v => ?_)
  split
  · exact h _
  · exact (w_get (by decide)).mpr (r_madeWithin (fun v => h v))
theorem q_row {x : Sg} {a : Int32} {I : zI} {K : Int32 → Prop} (hR : RX I x) (h : ∀ v, K v) : w_Desk_row a I K := by
  unfold w_Desk_row
  split
  · exact r_now hR (fun s hs => h _)
  · split
    · exact r_depthOf (fun v => h v)
    · exact h _
theorem q_pair {a b : Int32} {I : zI} {K : Int32 → Prop} (h : ∀ v, K v) : w_Desk_pair a b I K := by
  unfold w_Desk_pair
  split
  · exact h _
  · split
    · split
      · exact (w_get (by decide)).mpr (h _)
      · split
        · exact (w_get (by decide)).mpr (h _)
        · exact h _
    · exact h _
theorem q_value {x : Sg} {a : Int32} {I : zI} {K : Int32 → Prop} (hR : RX I x) (h : ∀ v, K v) : w_Desk_value a I K := by
  refine r_isGoodName hR (fun v => ?_)
  split
  · exact h _
  · exact r_valueOf (fun v => h v)
theorem q_worth {a : Int32} {I : zI} {K : Int32 → Prop} (h : ∀ v, K v) : w_Desk_worth a I K := by
  refine r_holdsExpression (fun v => ?_)
  split
  · exact h _
  · exact (w_get (by decide)).mpr ((w_get (by decide)).mpr (h _))
theorem q_uses {x : Sg} {a : Int32} {I : zI} {K : Int32 → Prop} (hR : RX I x) (h : ∀ v, K v) : w_Desk_uses a I K := by
  refine r_isGoodName hR (fun v => ?_)
  split
  · exact h _
  · exact (w_get (by decide)).mpr (h _)
theorem q_sets {x : Sg} {a : Int32} {I : zI} {K : Int32 → Prop} (hR : RX I x) (h : ∀ v, K v) : w_Desk_sets a I K := by
  refine r_isGoodName hR (fun v => ?_)
  split
  · exact h _
  · exact (w_get (by decide)).mpr ((w_get (by decide)).mpr (h _))
theorem q_idle {a : Int32} {I : zI} {K : Int32 → Prop} (h : ∀ v, K v) : w_Desk_idle a I K := by
  unfold w_Desk_idle
  split
  · exact h _
  · split
    · split
      · exact h _
      · exact (w_get (by decide)).mpr (h _)
    · exact h _
theorem q_last {a : Int32} {I : zI} {K : Int32 → Prop} (h : ∀ v, K v) : w_Desk_last a I K := by
  unfold w_Desk_last
  split
  · exact h _
  · split
    · exact h _
    · exact (w_get (by decide)).mpr (h _)
theorem q_count {x : Sg} {a : Int32} {I : zI} {K : Int32 → Prop} (hR : RX I x) (h : ∀ v, K v) : w_Desk_count a I K := by
  refine r_now hR (fun s hs => ?_)
  have inn : ∀ b, w_Desk_countInTree b I (fun r => K r) := by
    intro b
    unfold w_Desk_countInTree
    have g : w_Row_get 60 11 8 I (fun r_10 => K r_10) := (w_get (by decide)).mpr (h _)
    repeat' split
    all_goals first | exact h _ | exact r_madeWithin (fun v => h v) | exact g
  repeat' split
  all_goals first | exact h _ | exact inn _
