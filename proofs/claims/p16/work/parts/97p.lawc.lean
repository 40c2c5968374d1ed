/-! ===== the cases one by one ===== -/
theorem zcm {a : Int32} {P : Prop} (h : P) : (if a = a then P else False) := by
  rw [if_pos rfl]
  exact h
theorem lw_0 {L : Nat} {xs : Nat → Int32} {v3 : Int32} {I : zI} {x : Sg} {J : zI → Prop} (B : Bov I x) (he : sgE x < 512) (v1 : vp_in (v3 + 1) L) (v2 : vp_in (v3 + 2) L) (v3h : vp_in (v3 + 3) L) (v4 : vp_in (v3 + 4) L) (v5 : vp_in (v3 + 5) L) (hJ : ∀ I2 x2, Bov I2 x2 → sgE x2 ≤ sgE x + 1 → J I2) : w_lawc_0 L xs v3 I J := by
  unfold w_lawc_0
  have hl := B.2.2.1.1.1
  have qc : ∀ {A C : zI}, eqQ Qtx A C → eqQ Qcl A C := fun q => q.mono (fun a j h => by unfold Qtx at h; unfold Qcl; omega)
  have qm : ∀ {A C : zI}, eqQ Qtm A C → eqQ Qmo A C := fun q => q.mono (fun a j h => by unfold Qtm at h; unfold Qmo; omega)
  refine ⟨v1, v2, v3h, v4, v5, s_feed B.1.1 hl (fun h20 I2 q t => ?_) (fun h20 => ?_)⟩
  · refine ⟨v1, v2, v3h, v4, v5, s_Mfeed (B.2.1.cl B.2.2.1 (qc q)).1 hl (fun _ I4 q4 t4 => ?_) (fun h0 => absurd h20 h0)⟩
    have ls : Lsv (sgT x ++ by20 (xs (Int32.toNatClampNeg (v3 + 1))) (xs (Int32.toNatClampNeg (v3 + 2))) (xs (Int32.toNatClampNeg (v3 + 3))) (xs (Int32.toNatClampNeg (v3 + 4))) (xs (Int32.toNatClampNeg (v3 + 5))), x.2) := tape_ls B.2.2 (by rw [List.length_append]; exact h20) (fun b hb => by
      rcases List.mem_append.mp hb with hb | hb
      · exact B.2.2.1.1.2 b hb
      · exact by20_bt _ _ _ _ _ b hb)
    exact hJ I4 _ ⟨(B.1.tp B.2.2.1 q t).mo ls.1 (qm q4), (B.2.1.cl B.2.2.1 (qc q)).tp B.2.2.1 q4 t4, ls⟩ (Nat.le_succ _)
  · exact ⟨v1, v2, v3h, v4, v5, s_Mfeed B.2.1.1 hl (fun h0 => absurd h0 h20) (fun _ => hJ I x B (Nat.le_succ _))⟩
theorem lw_1 {L : Nat} {xs : Nat → Int32} {v3 : Int32} {I : zI} {x : Sg} {J : zI → Prop} (B : Bov I x) (he : sgE x < 512) (v1 : vp_in (v3 + 1) L) (v2 : vp_in (v3 + 2) L) (v3h : vp_in (v3 + 3) L) (v4 : vp_in (v3 + 4) L) (v5 : vp_in (v3 + 5) L) (hJ : ∀ I2 x2, Bov I2 x2 → sgE x2 ≤ sgE x + 1 → J I2) : w_lawc_1 L xs v3 I J := by
  unfold w_lawc_1
  have hl := B.2.2.1.1.1
  have qc : ∀ {A C : zI}, eqQ Qtx A C → eqQ Qcl A C := fun q => q.mono (fun a j h => by unfold Qtx at h; unfold Qcl; omega)
  have qm : ∀ {A C : zI}, eqQ Qtm A C → eqQ Qmo A C := fun q => q.mono (fun a j h => by unfold Qtm at h; unfold Qmo; omega)
  refine ⟨v1, s_back B.1.1 hl (fun k hk I2 q t => ⟨v1, ?_⟩) (fun hk => ⟨v1, ?_⟩)⟩
  · refine s_Mback (B.2.1.cl B.2.2.1 (qc q)).1 hl (fun k' hk' I4 q4 t4 => ?_) (fun hk' => ?_)
    · change backN (sgT x) _ = some k' at hk'
      rw [hk] at hk'
      cases hk'
      have ls : Lsv ((sgT x).take ((sgT x).length - k), x.2) := tape_ls B.2.2 (by rw [List.length_take]; omega) (fun b hb => B.2.2.1.1.2 b (List.mem_of_mem_take hb))
      exact hJ I4 _ ⟨(B.1.tp B.2.2.1 q t).mo ls.1 (qm q4), (B.2.1.cl B.2.2.1 (qc q)).tp B.2.2.1 q4 t4, ls⟩ (Nat.le_succ _)
    · change backN (sgT x) _ = none at hk'
      rw [hk] at hk'
      cases hk'
  · refine s_Mback B.2.1.1 hl (fun k' hk' I4 q4 t4 => ?_) (fun hk' => ?_)
    · change backN (sgT x) _ = some k' at hk'
      rw [hk] at hk'
      cases hk'
    · exact hJ I x B (Nat.le_succ _)
theorem lw_2 {L : Nat} {xs : Nat → Int32} {v3 : Int32} {I : zI} {x : Sg} {J : zI → Prop} (B : Bov I x) (he : sgE x < 512) (v1 : vp_in (v3 + 1) L) (v2 : vp_in (v3 + 2) L) (v3h : vp_in (v3 + 3) L) (v4 : vp_in (v3 + 4) L) (v5 : vp_in (v3 + 5) L) (hJ : ∀ I2 x2, Bov I2 x2 → sgE x2 ≤ sgE x + 1 → J I2) : w_lawc_2 L xs v3 I J := by
  unfold w_lawc_2
  exact ⟨v1, ⟨v2, s_edit B.2.2.1 B.1 he (fun I2 q rx => ⟨v1, ⟨v2, s_Medit B.2.2.1 (B.2.1.cl B.2.2.1 q) he (fun I4 q4 r4 => hJ I4 _ ⟨rx.mo (edit_ls B.2.2 he).1.1 q4, r4, (edit_ls B.2.2 he).1⟩ (edit_ls B.2.2 he).2)⟩⟩)⟩⟩
theorem lw_3 {L : Nat} {xs : Nat → Int32} {v3 : Int32} {I : zI} {x : Sg} {J : zI → Prop} (B : Bov I x) (he : sgE x < 512) (v1 : vp_in (v3 + 1) L) (v2 : vp_in (v3 + 2) L) (v3h : vp_in (v3 + 3) L) (v4 : vp_in (v3 + 4) L) (v5 : vp_in (v3 + 5) L) (hJ : ∀ I2 x2, Bov I2 x2 → sgE x2 ≤ sgE x + 1 → J I2) : w_lawc_3 L xs v3 I J := by
  unfold w_lawc_3
  exact ⟨v1, s_rename B.2.2.1 B.1 he (fun I2 q rx => ⟨v1, s_Mrename B.2.2.1 (B.2.1.cl B.2.2.1 q) he (fun I4 q4 r4 => hJ I4 _ ⟨rx.mo (ren_ls B.2.2 he).1.1 q4, r4, (ren_ls B.2.2 he).1⟩ (ren_ls B.2.2 he).2)⟩)⟩
theorem lw_4 {L : Nat} {xs : Nat → Int32} {v3 : Int32} {I : zI} {x : Sg} {J : zI → Prop} (B : Bov I x) (he : sgE x < 512) (v1 : vp_in (v3 + 1) L) (v2 : vp_in (v3 + 2) L) (v3h : vp_in (v3 + 3) L) (v4 : vp_in (v3 + 4) L) (v5 : vp_in (v3 + 5) L) (hJ : ∀ I2 x2, Bov I2 x2 → sgE x2 ≤ sgE x + 1 → J I2) : w_lawc_4 L xs v3 I J := by
  unfold w_lawc_4
  exact ⟨v1, s_cut B.2.2.1 B.1 he (fun I2 q rx => ⟨v1, s_Mcut B.2.2.1 (B.2.1.cl B.2.2.1 q) he (fun I4 q4 r4 => hJ I4 _ ⟨rx.mo (run_ls B.2.2 (fun k => ((tx_bt B.2.2.1).sg).app ((tx_bt B.2.2.1).sg)) he).1.1 q4, r4, (run_ls B.2.2 (fun k => ((tx_bt B.2.2.1).sg).app ((tx_bt B.2.2.1).sg)) he).1⟩ (run_ls B.2.2 (fun k => ((tx_bt B.2.2.1).sg).app ((tx_bt B.2.2.1).sg)) he).2)⟩)⟩
theorem lw_5 {L : Nat} {xs : Nat → Int32} {v3 : Int32} {I : zI} {x : Sg} {J : zI → Prop} (B : Bov I x) (he : sgE x < 512) (v1 : vp_in (v3 + 1) L) (v2 : vp_in (v3 + 2) L) (v3h : vp_in (v3 + 3) L) (v4 : vp_in (v3 + 4) L) (v5 : vp_in (v3 + 5) L) (hJ : ∀ I2 x2, Bov I2 x2 → sgE x2 ≤ sgE x + 1 → J I2) : w_lawc_5 L xs v3 I J := by
  unfold w_lawc_5
  exact ⟨v1, s_twin B.2.2.1 B.1 he (fun I2 q rx => ⟨v1, s_Mtwin B.2.2.1 (B.2.1.cl B.2.2.1 q) he (fun I4 q4 r4 => hJ I4 _ ⟨rx.mo (run_ls B.2.2 (fun k => ((tx_bt B.2.2.1).sg).app ((tx_bt B.2.2.1).sg)) he).1.1 q4, r4, (run_ls B.2.2 (fun k => ((tx_bt B.2.2.1).sg).app ((tx_bt B.2.2.1).sg)) he).1⟩ (run_ls B.2.2 (fun k => ((tx_bt B.2.2.1).sg).app ((tx_bt B.2.2.1).sg)) he).2)⟩)⟩
theorem lw_6 {L : Nat} {xs : Nat → Int32} {v3 : Int32} {I : zI} {x : Sg} {J : zI → Prop} (B : Bov I x) (he : sgE x < 512) (v1 : vp_in (v3 + 1) L) (v2 : vp_in (v3 + 2) L) (v3h : vp_in (v3 + 3) L) (v4 : vp_in (v3 + 4) L) (v5 : vp_in (v3 + 5) L) (hJ : ∀ I2 x2, Bov I2 x2 → sgE x2 ≤ sgE x + 1 → J I2) : w_lawc_6 L xs v3 I J := by
  unfold w_lawc_6
  exact ⟨v1, s_swap B.2.2.1 B.1 he (fun I2 q rx => ⟨v1, s_Mswap B.2.2.1 (B.2.1.cl B.2.2.1 q) he (fun I4 q4 r4 => hJ I4 _ ⟨rx.mo (swap_ls B.2.2 he).1.1 q4, r4, (swap_ls B.2.2 he).1⟩ (swap_ls B.2.2 he).2)⟩)⟩
theorem lw_7 {L : Nat} {xs : Nat → Int32} {v3 : Int32} {I : zI} {x : Sg} {J : zI → Prop} (B : Bov I x) (he : sgE x < 512) (v1 : vp_in (v3 + 1) L) (v2 : vp_in (v3 + 2) L) (v3h : vp_in (v3 + 3) L) (v4 : vp_in (v3 + 4) L) (v5 : vp_in (v3 + 5) L) (hJ : ∀ I2 x2, Bov I2 x2 → sgE x2 ≤ sgE x + 1 → J I2) : w_lawc_7 L xs v3 I J := by
  unfold w_lawc_7
  exact s_undo B.2.2.1 B.1 (fun I2 q rx => s_Mundo B.2.2.1 (B.2.1.cl B.2.2.1 q) (fun I4 q4 r4 => hJ I4 _ ⟨rx.mo (undo_ls B.2.2).1.1 q4, r4, (undo_ls B.2.2).1⟩ (undo_ls B.2.2).2))
theorem lw_8 {L : Nat} {xs : Nat → Int32} {v3 : Int32} {I : zI} {x : Sg} {J : zI → Prop} (B : Bov I x) (he : sgE x < 512) (v1 : vp_in (v3 + 1) L) (v2 : vp_in (v3 + 2) L) (v3h : vp_in (v3 + 3) L) (v4 : vp_in (v3 + 4) L) (v5 : vp_in (v3 + 5) L) (hJ : ∀ I2 x2, Bov I2 x2 → sgE x2 ≤ sgE x + 1 → J I2) : w_lawc_8 L xs v3 I J := by
  unfold w_lawc_8
  exact s_redo B.2.2.1 B.1 (fun I2 q rx => s_Mredo B.2.2.1 (B.2.1.cl B.2.2.1 q) (fun I4 q4 r4 => hJ I4 _ ⟨rx.mo (redo_ls B.2.2).1.1 q4, r4, (redo_ls B.2.2).1⟩ (redo_ls B.2.2).2))
theorem lw_9 {L : Nat} {xs : Nat → Int32} {v3 : Int32} {I : zI} {x : Sg} {J : zI → Prop} (B : Bov I x) (he : sgE x < 512) (v1 : vp_in (v3 + 1) L) (v2 : vp_in (v3 + 2) L) (v3h : vp_in (v3 + 3) L) (v4 : vp_in (v3 + 4) L) (v5 : vp_in (v3 + 5) L) (hJ : ∀ I2 x2, Bov I2 x2 → sgE x2 ≤ sgE x + 1 → J I2) : w_lawc_9 L xs v3 I J := by
  unfold w_lawc_9
  exact ⟨v1, q_text B.1 (fun _ => ⟨v1, m_text B.2.2.1 B.2.1 (fun _ => hJ I x B (Nat.le_succ _))⟩)⟩
theorem lw_10 {L : Nat} {xs : Nat → Int32} {v3 : Int32} {I : zI} {x : Sg} {J : zI → Prop} (B : Bov I x) (he : sgE x < 512) (v1 : vp_in (v3 + 1) L) (v2 : vp_in (v3 + 2) L) (v3h : vp_in (v3 + 3) L) (v4 : vp_in (v3 + 4) L) (v5 : vp_in (v3 + 5) L) (hJ : ∀ I2 x2, Bov I2 x2 → sgE x2 ≤ sgE x + 1 → J I2) : w_lawc_10 L xs v3 I J := by
  unfold w_lawc_10
  exact ⟨v1, ⟨v2, q_token B.1 (fun _ => ⟨v1, ⟨v2, m_token B.2.2.1 B.2.1 (fun _ => hJ I x B (Nat.le_succ _))⟩⟩)⟩⟩
theorem lw_11 {L : Nat} {xs : Nat → Int32} {v3 : Int32} {I : zI} {x : Sg} {J : zI → Prop} (B : Bov I x) (he : sgE x < 512) (v1 : vp_in (v3 + 1) L) (v2 : vp_in (v3 + 2) L) (v3h : vp_in (v3 + 3) L) (v4 : vp_in (v3 + 4) L) (v5 : vp_in (v3 + 5) L) (hJ : ∀ I2 x2, Bov I2 x2 → sgE x2 ≤ sgE x + 1 → J I2) : w_lawc_11 L xs v3 I J := by
  unfold w_lawc_11
  exact ⟨v1, q_good B.1 (fun _ => ⟨v1, m_good (B.2.1.view B.2.2.1) (fun _ => hJ I x B (Nat.le_succ _))⟩)⟩
theorem lw_12 {L : Nat} {xs : Nat → Int32} {v3 : Int32} {I : zI} {x : Sg} {J : zI → Prop} (B : Bov I x) (he : sgE x < 512) (v1 : vp_in (v3 + 1) L) (v2 : vp_in (v3 + 2) L) (v3h : vp_in (v3 + 3) L) (v4 : vp_in (v3 + 4) L) (v5 : vp_in (v3 + 5) L) (hJ : ∀ I2 x2, Bov I2 x2 → sgE x2 ≤ sgE x + 1 → J I2) : w_lawc_12 L xs v3 I J := by
  unfold w_lawc_12
  exact ⟨v1, ⟨v2, q_node B.1 (fun _ => ⟨v1, ⟨v2, m_node (B.2.1.view B.2.2.1) (fun _ => hJ I x B (Nat.le_succ _))⟩⟩)⟩⟩
theorem lw_13 {L : Nat} {xs : Nat → Int32} {v3 : Int32} {I : zI} {x : Sg} {J : zI → Prop} (B : Bov I x) (he : sgE x < 512) (v1 : vp_in (v3 + 1) L) (v2 : vp_in (v3 + 2) L) (v3h : vp_in (v3 + 3) L) (v4 : vp_in (v3 + 4) L) (v5 : vp_in (v3 + 5) L) (hJ : ∀ I2 x2, Bov I2 x2 → sgE x2 ≤ sgE x + 1 → J I2) : w_lawc_13 L xs v3 I J := by
  unfold w_lawc_13
  exact ⟨v1, ⟨v2, q_child  (fun _ => ⟨v1, ⟨v2, m_child (B.2.1.view B.2.2.1) (fun _ => hJ I x B (Nat.le_succ _))⟩⟩)⟩⟩
theorem lw_14 {L : Nat} {xs : Nat → Int32} {v3 : Int32} {I : zI} {x : Sg} {J : zI → Prop} (B : Bov I x) (he : sgE x < 512) (v1 : vp_in (v3 + 1) L) (v2 : vp_in (v3 + 2) L) (v3h : vp_in (v3 + 3) L) (v4 : vp_in (v3 + 4) L) (v5 : vp_in (v3 + 5) L) (hJ : ∀ I2 x2, Bov I2 x2 → sgE x2 ≤ sgE x + 1 → J I2) : w_lawc_14 L xs v3 I J := by
  unfold w_lawc_14
  exact ⟨v1, t_last B.1 ⟨v1, u_last B.2.1 (zcm (hJ I x B (Nat.le_succ _)))⟩⟩
theorem lw_15 {L : Nat} {xs : Nat → Int32} {v3 : Int32} {I : zI} {x : Sg} {J : zI → Prop} (B : Bov I x) (he : sgE x < 512) (v1 : vp_in (v3 + 1) L) (v2 : vp_in (v3 + 2) L) (v3h : vp_in (v3 + 3) L) (v4 : vp_in (v3 + 4) L) (v5 : vp_in (v3 + 5) L) (hJ : ∀ I2 x2, Bov I2 x2 → sgE x2 ≤ sgE x + 1 → J I2) : w_lawc_15 L xs v3 I J := by
  unfold w_lawc_15
  unfold w_Desk_fresh
  exact s_fresh B.2.2.1 B.2.1 (fun _ I2 q r => hJ I2 x ⟨B.1.mo B.2.2.1 q, r, B.2.2⟩ (Nat.le_succ _))
theorem lw_16 {L : Nat} {xs : Nat → Int32} {v3 : Int32} {I : zI} {x : Sg} {J : zI → Prop} (B : Bov I x) (he : sgE x < 512) (v1 : vp_in (v3 + 1) L) (v2 : vp_in (v3 + 2) L) (v3h : vp_in (v3 + 3) L) (v4 : vp_in (v3 + 4) L) (v5 : vp_in (v3 + 5) L) (hJ : ∀ I2 x2, Bov I2 x2 → sgE x2 ≤ sgE x + 1 → J I2) : w_lawc_16 L xs v3 I J := by
  unfold w_lawc_16
  exact ⟨v1, q_inTheWay B.2.2.1 B.1 (fun _ I2 q rx => ⟨v1, s_inTheWay B.2.2.1 (B.2.1.cl B.2.2.1 q) (fun _ I4 q4 r4 => hJ I4 x ⟨rx.mo B.2.2.1 q4, r4, B.2.2⟩ (Nat.le_succ _))⟩)⟩
theorem lw_17 {L : Nat} {xs : Nat → Int32} {v3 : Int32} {I : zI} {x : Sg} {J : zI → Prop} (B : Bov I x) (he : sgE x < 512) (v1 : vp_in (v3 + 1) L) (v2 : vp_in (v3 + 2) L) (v3h : vp_in (v3 + 3) L) (v4 : vp_in (v3 + 4) L) (v5 : vp_in (v3 + 5) L) (hJ : ∀ I2 x2, Bov I2 x2 → sgE x2 ≤ sgE x + 1 → J I2) : w_lawc_17 L xs v3 I J := by
  unfold w_lawc_17
  exact q_expected B.2.2.1 B.1 (fun _ I2 q rx => s_expected B.2.2.1 B.2.2.2.1 (B.2.1.cl B.2.2.1 q) (fun _ I4 q4 r4 => hJ I4 x ⟨rx.mo B.2.2.1 q4, r4, B.2.2⟩ (Nat.le_succ _)))
theorem lw_18 {L : Nat} {xs : Nat → Int32} {v3 : Int32} {I : zI} {x : Sg} {J : zI → Prop} (B : Bov I x) (he : sgE x < 512) (v1 : vp_in (v3 + 1) L) (v2 : vp_in (v3 + 2) L) (v3h : vp_in (v3 + 3) L) (v4 : vp_in (v3 + 4) L) (v5 : vp_in (v3 + 5) L) (hJ : ∀ I2 x2, Bov I2 x2 → sgE x2 ≤ sgE x + 1 → J I2) : w_lawc_18 L xs v3 I J := by
  unfold w_lawc_18
  exact ⟨v1, q_mend B.2.2.1 B.1 (fun _ I2 q rx => ⟨v1, s_mend B.2.2.1 (B.2.1.cl B.2.2.1 q) (fun _ I4 q4 r4 => hJ I4 x ⟨rx.mo B.2.2.1 q4, r4, B.2.2⟩ (Nat.le_succ _))⟩)⟩
theorem lw_19 {L : Nat} {xs : Nat → Int32} {v3 : Int32} {I : zI} {x : Sg} {J : zI → Prop} (B : Bov I x) (he : sgE x < 512) (v1 : vp_in (v3 + 1) L) (v2 : vp_in (v3 + 2) L) (v3h : vp_in (v3 + 3) L) (v4 : vp_in (v3 + 4) L) (v5 : vp_in (v3 + 5) L) (hJ : ∀ I2 x2, Bov I2 x2 → sgE x2 ≤ sgE x + 1 → J I2) : w_lawc_19 L xs v3 I J := by
  unfold w_lawc_19
  exact ⟨v1, q_print  (fun _ => ⟨v1, m_print B.2.2.1 B.2.1 (fun _ I2 q r => hJ I2 x ⟨B.1.mo B.2.2.1 q, r, B.2.2⟩ (Nat.le_succ _))⟩)⟩
theorem lw_20 {L : Nat} {xs : Nat → Int32} {v3 : Int32} {I : zI} {x : Sg} {J : zI → Prop} (B : Bov I x) (he : sgE x < 512) (v1 : vp_in (v3 + 1) L) (v2 : vp_in (v3 + 2) L) (v3h : vp_in (v3 + 3) L) (v4 : vp_in (v3 + 4) L) (v5 : vp_in (v3 + 5) L) (hJ : ∀ I2 x2, Bov I2 x2 → sgE x2 ≤ sgE x + 1 → J I2) : w_lawc_20 L xs v3 I J := by
  unfold w_lawc_20
  exact ⟨v1, q_ruled  (fun _ => ⟨v1, m_ruled (B.2.1.view B.2.2.1) (fun _ => hJ I x B (Nat.le_succ _))⟩)⟩
theorem lw_21 {L : Nat} {xs : Nat → Int32} {v3 : Int32} {I : zI} {x : Sg} {J : zI → Prop} (B : Bov I x) (he : sgE x < 512) (v1 : vp_in (v3 + 1) L) (v2 : vp_in (v3 + 2) L) (v3h : vp_in (v3 + 3) L) (v4 : vp_in (v3 + 4) L) (v5 : vp_in (v3 + 5) L) (hJ : ∀ I2 x2, Bov I2 x2 → sgE x2 ≤ sgE x + 1 → J I2) : w_lawc_21 L xs v3 I J := by
  unfold w_lawc_21
  exact ⟨v1, q_row B.1 (fun _ => ⟨v1, m_row B.2.2.1 B.2.2.2.2.1 B.2.1 (fun _ I2 q r => hJ I2 x ⟨B.1.mo B.2.2.1 q, r, B.2.2⟩ (Nat.le_succ _))⟩)⟩
theorem lw_22 {L : Nat} {xs : Nat → Int32} {v3 : Int32} {I : zI} {x : Sg} {J : zI → Prop} (B : Bov I x) (he : sgE x < 512) (v1 : vp_in (v3 + 1) L) (v2 : vp_in (v3 + 2) L) (v3h : vp_in (v3 + 3) L) (v4 : vp_in (v3 + 4) L) (v5 : vp_in (v3 + 5) L) (hJ : ∀ I2 x2, Bov I2 x2 → sgE x2 ≤ sgE x + 1 → J I2) : w_lawc_22 L xs v3 I J := by
  unfold w_lawc_22
  exact ⟨v1, ⟨v2, q_pair  (fun _ => ⟨v1, ⟨v2, m_pair B.2.2.1 B.2.1 (fun _ => hJ I x B (Nat.le_succ _))⟩⟩)⟩⟩
theorem lw_23 {L : Nat} {xs : Nat → Int32} {v3 : Int32} {I : zI} {x : Sg} {J : zI → Prop} (B : Bov I x) (he : sgE x < 512) (v1 : vp_in (v3 + 1) L) (v2 : vp_in (v3 + 2) L) (v3h : vp_in (v3 + 3) L) (v4 : vp_in (v3 + 4) L) (v5 : vp_in (v3 + 5) L) (hJ : ∀ I2 x2, Bov I2 x2 → sgE x2 ≤ sgE x + 1 → J I2) : w_lawc_23 L xs v3 I J := by
  unfold w_lawc_23
  exact ⟨v1, q_young  (fun _ => ⟨v1, m_young B.2.2.1 B.2.1 (fun _ => hJ I x B (Nat.le_succ _))⟩)⟩
theorem lw_24 {L : Nat} {xs : Nat → Int32} {v3 : Int32} {I : zI} {x : Sg} {J : zI → Prop} (B : Bov I x) (he : sgE x < 512) (v1 : vp_in (v3 + 1) L) (v2 : vp_in (v3 + 2) L) (v3h : vp_in (v3 + 3) L) (v4 : vp_in (v3 + 4) L) (v5 : vp_in (v3 + 5) L) (hJ : ∀ I2 x2, Bov I2 x2 → sgE x2 ≤ sgE x + 1 → J I2) : w_lawc_24 L xs v3 I J := by
  unfold w_lawc_24
  exact ⟨v1, q_beside  (fun _ => ⟨v1, m_besideOf (B.2.1.view B.2.2.1) (fun _ => hJ I x B (Nat.le_succ _))⟩)⟩
theorem lw_25 {L : Nat} {xs : Nat → Int32} {v3 : Int32} {I : zI} {x : Sg} {J : zI → Prop} (B : Bov I x) (he : sgE x < 512) (v1 : vp_in (v3 + 1) L) (v2 : vp_in (v3 + 2) L) (v3h : vp_in (v3 + 3) L) (v4 : vp_in (v3 + 4) L) (v5 : vp_in (v3 + 5) L) (hJ : ∀ I2 x2, Bov I2 x2 → sgE x2 ≤ sgE x + 1 → J I2) : w_lawc_25 L xs v3 I J := by
  unfold w_lawc_25
  exact ⟨v1, ⟨v2, q_span B.1 (fun _ => ⟨v1, ⟨v2, m_span (B.2.1.view B.2.2.1) (fun _ => hJ I x B (Nat.le_succ _))⟩⟩)⟩⟩
theorem lw_26 {L : Nat} {xs : Nat → Int32} {v3 : Int32} {I : zI} {x : Sg} {J : zI → Prop} (B : Bov I x) (he : sgE x < 512) (v1 : vp_in (v3 + 1) L) (v2 : vp_in (v3 + 2) L) (v3h : vp_in (v3 + 3) L) (v4 : vp_in (v3 + 4) L) (v5 : vp_in (v3 + 5) L) (hJ : ∀ I2 x2, Bov I2 x2 → sgE x2 ≤ sgE x + 1 → J I2) : w_lawc_26 L xs v3 I J := by
  unfold w_lawc_26
  exact ⟨v1, q_under B.1 (fun _ => ⟨v1, m_under B.2.2.1 B.2.1 (fun _ => hJ I x B (Nat.le_succ _))⟩)⟩
theorem lw_27 {L : Nat} {xs : Nat → Int32} {v3 : Int32} {I : zI} {x : Sg} {J : zI → Prop} (B : Bov I x) (he : sgE x < 512) (v1 : vp_in (v3 + 1) L) (v2 : vp_in (v3 + 2) L) (v3h : vp_in (v3 + 3) L) (v4 : vp_in (v3 + 4) L) (v5 : vp_in (v3 + 5) L) (hJ : ∀ I2 x2, Bov I2 x2 → sgE x2 ≤ sgE x + 1 → J I2) : w_lawc_27 L xs v3 I J := by
  unfold w_lawc_27
  exact ⟨v1, q_before  (fun _ => ⟨v1, m_besideOf (B.2.1.view B.2.2.1) (fun _ => hJ I x B (Nat.le_succ _))⟩)⟩
theorem lw_28 {L : Nat} {xs : Nat → Int32} {v3 : Int32} {I : zI} {x : Sg} {J : zI → Prop} (B : Bov I x) (he : sgE x < 512) (v1 : vp_in (v3 + 1) L) (v2 : vp_in (v3 + 2) L) (v3h : vp_in (v3 + 3) L) (v4 : vp_in (v3 + 4) L) (v5 : vp_in (v3 + 5) L) (hJ : ∀ I2 x2, Bov I2 x2 → sgE x2 ≤ sgE x + 1 → J I2) : w_lawc_28 L xs v3 I J := by
  unfold w_lawc_28
  exact hJ I x B (Nat.le_succ _)
theorem lw_29 {L : Nat} {xs : Nat → Int32} {v3 : Int32} {I : zI} {x : Sg} {J : zI → Prop} (B : Bov I x) (he : sgE x < 512) (v1 : vp_in (v3 + 1) L) (v2 : vp_in (v3 + 2) L) (v3h : vp_in (v3 + 3) L) (v4 : vp_in (v3 + 4) L) (v5 : vp_in (v3 + 5) L) (hJ : ∀ I2 x2, Bov I2 x2 → sgE x2 ≤ sgE x + 1 → J I2) : w_lawc_29 L xs v3 I J := by
  unfold w_lawc_29
  exact ⟨v1, q_run  (fun _ => ⟨v1, m_run B.2.2.1 B.2.1 (fun _ => hJ I x B (Nat.le_succ _))⟩)⟩
theorem lw_30 {L : Nat} {xs : Nat → Int32} {v3 : Int32} {I : zI} {x : Sg} {J : zI → Prop} (B : Bov I x) (he : sgE x < 512) (v1 : vp_in (v3 + 1) L) (v2 : vp_in (v3 + 2) L) (v3h : vp_in (v3 + 3) L) (v4 : vp_in (v3 + 4) L) (v5 : vp_in (v3 + 5) L) (hJ : ∀ I2 x2, Bov I2 x2 → sgE x2 ≤ sgE x + 1 → J I2) : w_lawc_30 L xs v3 I J := by
  unfold w_lawc_30
  exact ⟨v1, q_value B.1 (fun _ => ⟨v1, u_value B.2.2.1 B.2.1 (fun I2 q r => hJ I2 x ⟨B.1.mo B.2.2.1 q, r, B.2.2⟩ (Nat.le_succ _))⟩)⟩
theorem lw_31 {L : Nat} {xs : Nat → Int32} {v3 : Int32} {I : zI} {x : Sg} {J : zI → Prop} (B : Bov I x) (he : sgE x < 512) (v1 : vp_in (v3 + 1) L) (v2 : vp_in (v3 + 2) L) (v3h : vp_in (v3 + 3) L) (v4 : vp_in (v3 + 4) L) (v5 : vp_in (v3 + 5) L) (hJ : ∀ I2 x2, Bov I2 x2 → sgE x2 ≤ sgE x + 1 → J I2) : w_lawc_31 L xs v3 I J := by
  unfold w_lawc_31
  exact ⟨v1, q_worth  (fun _ => ⟨v1, u_worth B.2.2.1 B.2.1 (fun I2 q r => hJ I2 x ⟨B.1.mo B.2.2.1 q, r, B.2.2⟩ (Nat.le_succ _))⟩)⟩
theorem lw_32 {L : Nat} {xs : Nat → Int32} {v3 : Int32} {I : zI} {x : Sg} {J : zI → Prop} (B : Bov I x) (he : sgE x < 512) (v1 : vp_in (v3 + 1) L) (v2 : vp_in (v3 + 2) L) (v3h : vp_in (v3 + 3) L) (v4 : vp_in (v3 + 4) L) (v5 : vp_in (v3 + 5) L) (hJ : ∀ I2 x2, Bov I2 x2 → sgE x2 ≤ sgE x + 1 → J I2) : w_lawc_32 L xs v3 I J := by
  unfold w_lawc_32
  exact ⟨v1, ⟨v2, q_above B.1 (fun _ => ⟨v1, ⟨v2, m_above (B.2.1.view B.2.2.1) (fun _ => hJ I x B (Nat.le_succ _))⟩⟩)⟩⟩
theorem lw_33 {L : Nat} {xs : Nat → Int32} {v3 : Int32} {I : zI} {x : Sg} {J : zI → Prop} (B : Bov I x) (he : sgE x < 512) (v1 : vp_in (v3 + 1) L) (v2 : vp_in (v3 + 2) L) (v3h : vp_in (v3 + 3) L) (v4 : vp_in (v3 + 4) L) (v5 : vp_in (v3 + 5) L) (hJ : ∀ I2 x2, Bov I2 x2 → sgE x2 ≤ sgE x + 1 → J I2) : w_lawc_33 L xs v3 I J := by
  unfold w_lawc_33
  exact ⟨v1, ⟨v2, q_common B.1 (fun _ => ⟨v1, ⟨v2, m_common (B.2.1.view B.2.2.1) (fun _ => hJ I x B (Nat.le_succ _))⟩⟩)⟩⟩
theorem lw_34 {L : Nat} {xs : Nat → Int32} {v3 : Int32} {I : zI} {x : Sg} {J : zI → Prop} (B : Bov I x) (he : sgE x < 512) (v1 : vp_in (v3 + 1) L) (v2 : vp_in (v3 + 2) L) (v3h : vp_in (v3 + 3) L) (v4 : vp_in (v3 + 4) L) (v5 : vp_in (v3 + 5) L) (hJ : ∀ I2 x2, Bov I2 x2 → sgE x2 ≤ sgE x + 1 → J I2) : w_lawc_34 L xs v3 I J := by
  unfold w_lawc_34
  exact ⟨v1, q_uses B.1 (fun _ => ⟨v1, m_uses B.2.2.1 B.2.1 (fun _ => hJ I x B (Nat.le_succ _))⟩)⟩
theorem lw_35 {L : Nat} {xs : Nat → Int32} {v3 : Int32} {I : zI} {x : Sg} {J : zI → Prop} (B : Bov I x) (he : sgE x < 512) (v1 : vp_in (v3 + 1) L) (v2 : vp_in (v3 + 2) L) (v3h : vp_in (v3 + 3) L) (v4 : vp_in (v3 + 4) L) (v5 : vp_in (v3 + 5) L) (hJ : ∀ I2 x2, Bov I2 x2 → sgE x2 ≤ sgE x + 1 → J I2) : w_lawc_35 L xs v3 I J := by
  unfold w_lawc_35
  exact ⟨v1, q_idle  (fun _ => ⟨v1, m_idle (B.2.1.view B.2.2.1) (fun _ => hJ I x B (Nat.le_succ _))⟩)⟩
theorem lw_36 {L : Nat} {xs : Nat → Int32} {v3 : Int32} {I : zI} {x : Sg} {J : zI → Prop} (B : Bov I x) (he : sgE x < 512) (v1 : vp_in (v3 + 1) L) (v2 : vp_in (v3 + 2) L) (v3h : vp_in (v3 + 3) L) (v4 : vp_in (v3 + 4) L) (v5 : vp_in (v3 + 5) L) (hJ : ∀ I2 x2, Bov I2 x2 → sgE x2 ≤ sgE x + 1 → J I2) : w_lawc_36 L xs v3 I J := by
  unfold w_lawc_36
  exact ⟨v1, q_firm  (fun _ => ⟨v1, m_firm (B.2.1.view B.2.2.1) (fun _ => hJ I x B (Nat.le_succ _))⟩)⟩
theorem lw_37 {L : Nat} {xs : Nat → Int32} {v3 : Int32} {I : zI} {x : Sg} {J : zI → Prop} (B : Bov I x) (he : sgE x < 512) (v1 : vp_in (v3 + 1) L) (v2 : vp_in (v3 + 2) L) (v3h : vp_in (v3 + 3) L) (v4 : vp_in (v3 + 4) L) (v5 : vp_in (v3 + 5) L) (hJ : ∀ I2 x2, Bov I2 x2 → sgE x2 ≤ sgE x + 1 → J I2) : w_lawc_37 L xs v3 I J := by
  unfold w_lawc_37
  exact ⟨v1, ⟨v2, q_alike B.2.2.1 B.1 (fun _ I2 q rx => ⟨v1, ⟨v2, m_alike B.2.2.1 (B.2.1.cl B.2.2.1 q) (fun _ I4 q4 r4 => hJ I4 x ⟨rx.mo B.2.2.1 q4, r4, B.2.2⟩ (Nat.le_succ _))⟩⟩)⟩⟩
theorem lw_38 {L : Nat} {xs : Nat → Int32} {v3 : Int32} {I : zI} {x : Sg} {J : zI → Prop} (B : Bov I x) (he : sgE x < 512) (v1 : vp_in (v3 + 1) L) (v2 : vp_in (v3 + 2) L) (v3h : vp_in (v3 + 3) L) (v4 : vp_in (v3 + 4) L) (v5 : vp_in (v3 + 5) L) (hJ : ∀ I2 x2, Bov I2 x2 → sgE x2 ≤ sgE x + 1 → J I2) : w_lawc_38 L xs v3 I J := by
  unfold w_lawc_38
  exact ⟨v1, ⟨v2, q_path B.1 (fun _ => ⟨v1, ⟨v2, m_path (B.2.1.view B.2.2.1) (fun _ => hJ I x B (Nat.le_succ _))⟩⟩)⟩⟩
theorem lw_39 {L : Nat} {xs : Nat → Int32} {v3 : Int32} {I : zI} {x : Sg} {J : zI → Prop} (B : Bov I x) (he : sgE x < 512) (v1 : vp_in (v3 + 1) L) (v2 : vp_in (v3 + 2) L) (v3h : vp_in (v3 + 3) L) (v4 : vp_in (v3 + 4) L) (v5 : vp_in (v3 + 5) L) (hJ : ∀ I2 x2, Bov I2 x2 → sgE x2 ≤ sgE x + 1 → J I2) : w_lawc_39 L xs v3 I J := by
  unfold w_lawc_39
  exact ⟨v1, q_sets B.1 (fun _ => ⟨v1, m_sets B.2.2.1 B.2.1 (fun _ => hJ I x B (Nat.le_succ _))⟩)⟩
theorem lw_40 {L : Nat} {xs : Nat → Int32} {v3 : Int32} {I : zI} {x : Sg} {J : zI → Prop} (B : Bov I x) (he : sgE x < 512) (v1 : vp_in (v3 + 1) L) (v2 : vp_in (v3 + 2) L) (v3h : vp_in (v3 + 3) L) (v4 : vp_in (v3 + 4) L) (v5 : vp_in (v3 + 5) L) (hJ : ∀ I2 x2, Bov I2 x2 → sgE x2 ≤ sgE x + 1 → J I2) : w_lawc_40 L xs v3 I J := by
  unfold w_lawc_40
  exact ⟨v1, q_count B.1 (fun _ => ⟨v1, m_count B.2.2.1 B.2.1 (fun _ I2 q r => hJ I2 x ⟨B.1.mo B.2.2.1 q, r, B.2.2⟩ (Nat.le_succ _))⟩)⟩
