/-! ===== count: the model ===== -/
theorem m_count {x : Sg} {a : Int32} {I : zI} {K : Int32 → zI → Prop} (hv : Iv x) (hR : RM I x) (hK : ∀ v J, eqQ Qmo I J → RM J x → K v J) : w_M_count a I K := by
  have V := hR.view hv
  have hm := V.2.2.1
  obtain ⟨l1, l2, l3, l4, l5, l6, l7⟩ := V.len
  have d0 : ∀ v, K v I := fun v => hK v I eqQ.rf hR
  unfold w_M_count
  by_cases c0 : a = 0
  · rw [if_pos c0]
    exact d0 _
  rw [if_neg c0]
  by_cases c1 : a = 1
  · rw [if_pos c1]
    exact d0 _
  rw [if_neg c1]
  by_cases c2 : a = 2
  · rw [if_pos c2]
    split
    · exact d0 _
    · exact d0 _
  rw [if_neg c2]
  by_cases c3 : a = 3
  · rw [if_pos c3]
    exact d0 _
  rw [if_neg c3]
  by_cases c4 : a = 4
  · rw [if_pos c4]
    exact d0 _
  rw [if_neg c4]
  by_cases c5 : a = 5
  · rw [if_pos c5]
    exact d0 _
  rw [if_neg c5]
  by_cases c6 : a = 6
  · rw [if_pos c6]
    exact d0 _
  rw [if_neg c6]
  by_cases c7 : a = 7
  · rw [if_pos c7]
    exact d0 _
  rw [if_neg c7]
  by_cases c8 : a = 8
  · rw [if_pos c8]
    exact d0 _
  rw [if_neg c8]
  by_cases c9 : a = 9
  · rw [if_pos c9]
    exact d0 _
  rw [if_neg c9]
  by_cases c10 : a = 10
  · rw [if_pos c10]
    exact d0 _
  rw [if_neg c10]
  by_cases c11 : a = 11
  · rw [if_pos c11]
    intro P162 h162
    refine up_plc V (P := P162) (fun p c d w hI ih => ?_) (fun w => ?_) 0 0 (Nat.zero_le _)
    · obtain ⟨i1, i2, i3, i4, -⟩ := V.inp hI
      refine h162 _ _ ?_
      have hin : vp_in (zi p) 700 := (zin_iff (by omega)).mpr (by omega)
      rw [l3, if_neg (fun u => by have := (zi_le (by omega) (by omega)).mp u; omega)]
      refine ⟨hin, ?_⟩
      rw [zi_tn (show p < 2147483648 by omega), i4]
      refine ⟨(zin_iff (by omega)).mpr (by omega), ?_⟩
      intro P209 h209
      have nx : ∀ v, P209 v := fun v => h209 v (fun v' ev => by
        rw [ev, zi_succ]
        exact ih v)
      split
      · refine ⟨hin, s_deepOf V hI ?_⟩
        split
        · exact nx _
        · exact ⟨hin, s_deepOf V hI (nx _)⟩
      · exact nx _
    · refine h162 _ _ ?_
      rw [l3, if_pos (Int32.le_refl _)]
      exact d0 _
  rw [if_neg c11]
  by_cases c12 : a = 12
  · rw [if_pos c12]
    intro P219 h219
    refine up_idx (n := (lexL (moG (sgC x))).length) (P := fun v => ∀ w, P219 w v) (fun i hi ih w => ?_) (fun w => ?_) 0 (Nat.zero_le _) 0
    · refine h219 _ _ ?_
      have hin : vp_in (zi i) 110 := (zin_iff (by omega)).mpr (by omega)
      rw [V.2.2.2.2.2.1, if_neg (fun u => by have := (zi_le (by omega) (by omega)).mp u; omega)]
      refine ⟨hin, ?_⟩
      intro P247 h247
      have nx : ∀ v, P247 v := fun v => h247 v (fun v' ev => by
        rw [ev, zi_succ]
        exact ih v)
      split
      · exact ⟨hin, fun v ev => nx v⟩
      · exact nx _
    · refine h219 _ _ ?_
      rw [V.2.2.2.2.2.1, if_pos (Int32.le_refl _)]
      exact d0 _
  rw [if_neg c12]
  by_cases c13 : a = 13
  · rw [if_pos c13]
    exact m_setNames V (fun v => d0 v)
  rw [if_neg c13]
  by_cases c14 : a = 14
  · rw [if_pos c14]
    exact r_MyoungBelow V V.root (fun v => d0 v)
  rw [if_neg c14]
  by_cases c15 : a = 15
  · rw [if_pos c15, show I.1 491 37 = zi (moR (sgC x)) from V.2.2.2.2.1.1]
    exact s_prints V (hR.gdw hv) V.root (fun J k q hk h80 => hK _ J (Qal_mo (Qpp_al q)) (hR.al hv (Qpp_al q)))
  rw [if_neg c15]
  by_cases c16 : a = 16
  · rw [if_pos c16]
    exact d0 _
  rw [if_neg c16]
  by_cases c17 : a = 17
  · rw [if_pos c17]
    exact m_ruled V (fun v => d0 v)
  rw [if_neg c17]
  by_cases c18 : a = 18
  · rw [if_pos c18]
    intro v41 e41 P298 h298
    refine up_plc V (P := P298) (fun p c d w hI ih => ?_) (fun w => ?_) _ 0 (Nat.zero_le _)
    · obtain ⟨i1, i2, i3, i4, -⟩ := V.inp hI
      refine h298 _ _ ?_
      have hin : vp_in (zi p) 700 := (zin_iff (by omega)).mpr (by omega)
      rw [l3, if_neg (fun u => by have := (zi_le (by omega) (by omega)).mp u; omega)]
      refine ⟨hin, ?_⟩
      intro P323 h323
      have nx : ∀ v, P323 v := fun v => h323 v (fun v' ev => by
        rw [ev, zi_succ]
        exact ih v)
      split
      · exact nx _
      · exact ⟨hin, fun v ev => nx v⟩
    · refine h298 _ _ ?_
      rw [l3, if_pos (Int32.le_refl _)]
      exact d0 _
  rw [if_neg c18]
  exact d0 _
