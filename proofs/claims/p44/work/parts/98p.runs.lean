/-! ===== a RUN cut, doubled, changed about ===== -/
theorem run_sp {x : Sg} (hv : Iv x) {i r : Nat} (hr : (rnR x)[i]? = some r) : vRun x (zi i) = zi r ∧ vSpan x (zi r) 1 = zi (rE x i - rS x i) := by
  have l99 := rnR_99 hv
  have hi : i < (rnR x).length := (List.getElem?_eq_some_iff.mp hr).1
  have hgd : (rnR x).getD i 0 = r := by
    rw [List.getD_eq_getElem?_getD, hr]
    rfl
  obtain ⟨c1, c2, c3, c4, ⟨p, y, hp, hy, hf⟩, c6, -, -⟩ := run_ok hv hr
  refine ⟨?_, ?_⟩
  · unfold vRun
    rw [ixI_some (by omega) hi]
    show zi ((rnR x).getD i 0) = zi r
    rw [hgd]
  · subst hy
    have e1 : fsT x p = fsR x i := by
      unfold fsT
      rw [ffA_at hp, hf, Int.toNat_natCast]
    have e2 : laT x p = lsR x i := by
      unfold laT lsR
      rw [e1, ffA_at hp, c4]
    unfold vSpan
    rw [show ixI 2 1 = some 1 from ixI_some (k := 1) (by decide) (by decide)]
    dsimp only
    rw [inT_at hv hp]
    dsimp only
    rw [ffA_at hp, if_neg (show ¬ ndT (sgN x y.1) = 0 by omega), if_neg (by decide)]
    show zi (spE x p) - zi (spS x p) = _
    rw [show spE x p = rE x i by unfold spE rE; rw [e2], show spS x p = rS x i by unfold spS rS; rw [e1], zi_sub c6]
theorem rnR_some {x : Sg} {i : Nat} (h : i < (rnR x).length) : (rnR x)[i]? = some ((rnR x).getD i 0) := rnR_at h
theorem runR_no {D : Sg → Nat → List Int32} {x : Sg} {i : Nat} (hv : Iv x) (hi : i ≤ (rnR x).length) (h : ¬ (moB (sgC x) = true ∧ i < (rnR x).length)) : runR D x (zi i) = (-1, x) := by
  have l99 := rnR_99 hv
  unfold runR
  rw [if_neg]
  rintro ⟨a, -, b⟩
  exact h ⟨a, (zi_lt (by omega) (show (rnR x).length < 2147483648 by omega)).mp b⟩
theorem runR_do {D : Sg → Nat → List Int32} {x : Sg} {i : Nat} (hv : Iv x) (hb : moB (sgC x) = true) (hi : i < (rnR x).length) : runR D x (zi i) = doC x (D x i) false := by
  have l99 := rnR_99 hv
  unfold runR
  rw [if_pos ⟨hb, zi_ge (by omega), (zi_lt (by omega) (show (rnR x).length < 2147483648 by omega)).mpr hi⟩, zi_tn (by omega)]
theorem doC_sT {x : Sg} {d : List Int32} : sgT (doC x d false).2 = sgT x := by
  by_cases hr : refu x d
  · rw [doC_ref hr]
  · rw [doC_do hr]
    rfl
theorem doC_nx {x : Sg} {d : List Int32} {S : List zC} {I J : zI} {c0 u0 : Nat} (h491 : 491 ≤ S.length) (hz : zZ I S.length) (q : eqQ Qcl I J) (hs : Lsv x) (hd : BtL d) (hE : sgE x ≤ 39) (hT : sgT x = []) (hp : Pb x) (hR : RX J (doC x d false).2) : Nxt x S c0 u0 (doC x d false).2 (doC x d false).1 S c0 u0 J :=
  cl_id h491 hz q (doC_ls hs hd (by omega)).1 hR (doC_sT.trans hT) (doC_pb hs.1 hd (by omega) hp) (doc_turn rfl hs.1 hd)
theorem run_bt {x : Sg} (hv : Iv x) (i : Nat) : BtL (cutD x i) ∧ BtL (twinD x i) ∧ BtL (swapD x i) := by
  obtain ⟨hB, -, -⟩ := good_bt hv
  exact ⟨(BtL.sg hB).app (BtL.sg hB), (BtL.sg hB).app (BtL.sg hB), (((BtL.sg hB).app (BtL.sg hB)).app (BtL.sg hB)).app (BtL.sg hB) |>.app (BtL.sg hB)⟩
theorem s_434 {x : Sg} {S : List zC} {I : zI} {c0 u0 k i : Nat} {v6 v7 v10 : Int32} {P1422 : Int32 → Int32 → List zC → Nat → Nat → zI → Prop} (hs : Lsv x) (hR : RX I x) (hz : zZ I S.length) (h491 : 491 ≤ S.length) (hT : sgT x = []) (hp : Pb x) (hE : sgE x ≤ 39) (hi : i ≤ (rnR x).length)
    (hP : ∀ x2 is S2 c2 u2 J, Nxt x S c0 u0 x2 is S2 c2 u2 J → P1422 1 is S2 c2 u2 J) : w_law_434 (zi k) (zi (moT (sgC x)).length) v6 v7 (b01 (moB (sgC x))) v10 (zi (sgM x)) (zi (rnR x).length) (zi i) P1422 c0 u0 S I := by
  have hv := hs.1
  have l99 := rnR_99 hv
  have hm := hv.2.2.2.1
  have z300 := (sz_300 hv).1
  intro P454 h454
  -- refused: whatever has been measured
  have no : ∀ t, ¬ (moB (sgC x) = true ∧ i < (rnR x).length ∧ sgM x < 3000) → P454 t := fun t hn => h454 t (by
    refine s_cut hv hR (by omega) (fun J q r => ?_)
    have e : runR cutD x (zi i) = (-1, x) := by
      by_cases u : moB (sgC x) = true ∧ i < (rnR x).length
      · rw [runR_do hv u.1 u.2]
        exact doC_ref ((cut_full hv hs.2.1 hp hE u.1 (rnR_some u.2)).1.mpr (by
          rcases Nat.lt_or_ge (sgM x) 3000 with w | w
          · exact absurd ⟨u.1, u.2, w⟩ hn
          · exact w))
      · exact runR_no hv hi u
    rw [e] at r ⊢
    intro P474 h474
    rw [if_neg (show ¬ (-1 : Int32) = 0 by decide)]
    refine h474 0 ?_
    intro P499 h499
    have go : P499 0 := h499 0 (by
      intro P536 h536 P535 _
      rw [if_pos rfl]
      intro P531 h531
      rw [if_pos (show (-1 : Int32) < 0 by decide)]
      exact h531 (h536 1 (hP _ _ _ _ _ _ (cl_id h491 hz q hs r hT hp (Or.inr (Or.inl ⟨rfl, rfl⟩))))))
    intro P498 h498
    cases hb : moB (sgC x) with
    | false =>
      rw [if_pos b01_f]
      exact h498 go
    | true =>
      rw [if_neg (show ¬ b01 true = 0 by decide)]
      by_cases u : (rnR x).length ≤ i
      · rw [if_pos (show zi (rnR x).length ≤ zi i from (zi_le (by omega) (by omega)).mpr u)]
        exact h498 go
      · rw [if_neg (show ¬ zi (rnR x).length ≤ zi i from fun w => u ((zi_le (by omega) (by omega)).mp w))]
        rw [if_pos (show (3000 : Int32) ≤ zi (sgM x) from (zi_le (a := 3000) (by decide) (by omega)).mpr (by
          rcases Nat.lt_or_ge (sgM x) 3000 with w | w
          · exact absurd ⟨hb, by omega, w⟩ hn
          · exact w))]
        exact h498 go)
  cases hb : moB (sgC x) with
  | false =>
    rw [if_pos b01_f]
    exact no 0 (fun q => by rw [hb] at q; cases q.1)
  | true =>
    rw [if_neg (show ¬ b01 true = 0 by decide)]
    by_cases hyes : i < (rnR x).length ∧ sgM x < 3000
    · obtain ⟨hi2, hM⟩ := hyes
      obtain ⟨s1, s2⟩ := run_sp hv (rnR_some hi2)
      refine t_run hv hR ?_
      rw [s1]
      refine t_span hv hR ?_
      rw [s2]
      refine h454 _ ?_
      obtain ⟨f1, f2, f3⟩ := cut_full hv hs.2.1 hp hE hb (rnR_some hi2)
      obtain ⟨g1, g2, g3⟩ := f3 (by omega)
      refine s_cut hv hR (by omega) (fun J q r => ?_)
      have e := runR_do (D := cutD) hv hb hi2
      rw [e] at r ⊢
      have nx := hP _ _ _ _ _ _ (doC_nx (c0 := c0) (u0 := u0) h491 hz q hs (run_bt hv i).1 hE hT hp r)
      rw [g1] at nx ⊢
      intro P474 h474
      rw [if_pos rfl]
      refine h474 1 ?_
      intro P499 h499 P498 _
      rw [hb, if_neg (show ¬ b01 true = 0 by decide)]
      rw [if_neg (show ¬ zi (rnR x).length ≤ zi i from nle_zi hi2 (by omega)), if_neg (show ¬ (3000 : Int32) ≤ zi (sgM x) from fun w => by have := (zi_le (a := 3000) (by decide) (by omega)).mp w; omega)]
      refine h499 1 ?_
      intro P536 h536 P535 _
      rw [if_pos rfl]
      intro P531 h531
      rw [if_neg (show ¬ (0 : Int32) < 0 by decide)]
      refine k_0 r ?_
      rw [if_pos (show zi (moT (sgC (doC x (cutD x i) false).2)).length = zi (moT (sgC x)).length - zi (rE x i - rS x i) by rw [zi_sub (by omega), g3, show (moT (sgC x)).length - (rE x i - rS x i) = (cutD x i).length by omega])]
      refine t_runs r ?_
      rw [if_pos (show vRuns (doC x (cutD x i) false).2 = zi (rnR x).length - 1 by
        unfold vRuns
        rw [show (1 : Int32) = zi 1 from rfl, zi_sub (by omega), show (rnR x).length - 1 = (rnR (doC x (cutD x i) false).2).length by omega])]
      exact h531 (h536 1 nx)
    · refine t_run hv hR (t_span hv hR (no _ (fun q => hyes q.2)))
set_option maxHeartbeats 4000000 in
theorem s_540 {x : Sg} {S : List zC} {I : zI} {c0 u0 k i : Nat} {v6 v7 v10 : Int32} {P1422 : Int32 → Int32 → List zC → Nat → Nat → zI → Prop} (hs : Lsv x) (hR : RX I x) (hz : zZ I S.length) (h491 : 491 ≤ S.length) (hT : sgT x = []) (hp : Pb x) (hE : sgE x ≤ 39) (hi : i ≤ (rnR x).length)
    (hP : ∀ x2 is S2 c2 u2 J, Nxt x S c0 u0 x2 is S2 c2 u2 J → P1422 1 is S2 c2 u2 J) : w_law_540 (zi k) (zi (moT (sgC x)).length) v6 v7 (b01 (moB (sgC x))) v10 (zi (sgM x)) (zi (rnR x).length) (zi i) P1422 c0 u0 S I := by
  have hv := hs.1
  have l99 := rnR_99 hv
  have hm := hv.2.2.2.1
  obtain ⟨z300, z100⟩ := sz_300 hv
  intro P560 h560
  -- where there is no such RUN
  have no : ∀ t, ¬ (moB (sgC x) = true ∧ i < (rnR x).length) → P560 t := fun t hn => h560 t (by
    refine s_twin hv hR (by omega) (fun J q r => ?_)
    rw [runR_no hv hi hn] at r ⊢
    intro P662 h662 P661 _ P611 h611
    rw [if_pos (show (-1 : Int32) < 0 by decide)]
    refine h611 ?_
    intro P657 h657
    have go : P657 := h657 (h662 1 (hP _ _ _ _ _ _ (cl_id h491 hz q hs r hT hp (Or.inr (Or.inl ⟨rfl, rfl⟩)))))
    rw [if_neg (show ¬ (0 : Int32) ≤ -1 by decide)]
    cases hb : moB (sgC x) with
    | false =>
      rw [if_pos b01_f]
      exact go
    | true =>
      rw [if_neg (show ¬ b01 true = 0 by decide)]
      have e : i = (rnR x).length := by
        rcases Nat.lt_or_ge i (rnR x).length with w | w
        · exact absurd ⟨hb, w⟩ hn
        · omega
      rw [if_pos (show zi i = zi (rnR x).length by rw [e])]
      exact go)
  cases hb : moB (sgC x) with
  | false =>
    rw [if_pos b01_f]
    exact no 0 (fun q => by rw [hb] at q; cases q.1)
  | true =>
    rw [if_neg (show ¬ b01 true = 0 by decide)]
    by_cases hi2 : i < (rnR x).length
    · obtain ⟨s1, s2⟩ := run_sp hv (rnR_some hi2)
      refine t_run hv hR ?_
      rw [s1]
      refine t_span hv hR ?_
      rw [s2]
      refine h560 _ ?_
      obtain ⟨f1, f2, f3⟩ := twin_full hv hs.2.1 hp hE hb (rnR_some hi2)
      have hle : rE x i - rS x i ≤ 300 := by
        have := (run_ok hv (rnR_some hi2)).2.2.2.2.2.2.1
        have := hv.2.2.2.2.2.2.2.1.2.1.1
        omega
      refine s_twin hv hR (by omega) (fun J q r => ?_)
      have e := runR_do (D := twinD) hv hb hi2
      rw [e] at r ⊢
      have nx := hP _ _ _ _ _ _ (doC_nx (c0 := c0) (u0 := u0) h491 hz q hs (run_bt hv i).2.1 hE hT hp r)
      by_cases hr : refu x (twinD x i)
      · rw [doC_ref hr] at nx r ⊢
        intro P662 h662 P661 _ P611 h611
        rw [if_pos (show (-1 : Int32) < 0 by decide)]
        refine h611 ?_
        intro P657 h657
        rw [if_neg (show ¬ (0 : Int32) ≤ -1 by decide), hb, if_neg (show ¬ b01 true = 0 by decide), if_neg (show ¬ zi i = zi (rnR x).length from zi_ne (by omega) (by omega) (by omega))]
        rw [zi_add]
        by_cases u : 300 < (moT (sgC x)).length + (rE x i - rS x i)
        · rw [if_pos (show (300 : Int32) < zi ((moT (sgC x)).length + (rE x i - rS x i)) from (zi_lt (a := 300) (by decide) (by omega)).mpr u)]
          exact h657 (h662 1 nx)
        rw [if_neg (show ¬ (300 : Int32) < zi ((moT (sgC x)).length + (rE x i - rS x i)) from fun w => u ((zi_lt (a := 300) (by decide) (by omega)).mp w))]
        by_cases u3 : 3000 ≤ sgM x
        · rw [if_pos (show (3000 : Int32) ≤ zi (sgM x) from (zi_le (a := 3000) (by decide) (by omega)).mpr u3)]
          exact h657 (h662 1 nx)
        rw [if_neg (show ¬ (3000 : Int32) ≤ zi (sgM x) from fun w => u3 ((zi_le (a := 3000) (by decide) (by omega)).mp w))]
        refine k_1 r ?_
        rw [if_neg (show ¬ zi (lexL (moT (sgC x))).length ≤ 50 from fun w => by
          have := (zi_le (b := 50) (by omega) (by decide)).mp w
          have := f1 hr
          omega)]
        exact h657 (h662 1 nx)
      · obtain ⟨g1, g2, g3⟩ := f3 hr
        rw [g1] at nx ⊢
        intro P662 h662 P661 _ P611 h611
        rw [if_neg (show ¬ (0 : Int32) < 0 by decide), hb, if_neg (show ¬ b01 true = 0 by decide), if_neg (show ¬ zi (rnR x).length ≤ zi i from nle_zi hi2 (by omega))]
        refine k_0 r ?_
        rw [if_pos (show zi (moT (sgC (doC x (twinD x i) false).2)).length = zi (moT (sgC x)).length + zi (rE x i - rS x i) by rw [zi_add, g3, f2])]
        refine t_runs r ?_
        rw [if_pos (show vRuns (doC x (twinD x i) false).2 = zi (rnR x).length + 1 by
          unfold vRuns
          rw [g2, zi_succ])]
        refine h611 ?_
        intro P657 h657
        rw [if_pos (show (0 : Int32) ≤ 0 by decide)]
        exact h657 (h662 1 nx)
    · exact t_run hv hR (t_span hv hR (no _ (fun q => hi2 q.2)))
theorem s_666 {x : Sg} {S : List zC} {I : zI} {c0 u0 k i : Nat} {v6 v7 v10 : Int32} {P1422 : Int32 → Int32 → List zC → Nat → Nat → zI → Prop} (hs : Lsv x) (hR : RX I x) (hz : zZ I S.length) (h491 : 491 ≤ S.length) (hT : sgT x = []) (hp : Pb x) (hE : sgE x ≤ 39) (hi : i ≤ (rnR x).length)
    (hP : ∀ x2 is S2 c2 u2 J, Nxt x S c0 u0 x2 is S2 c2 u2 J → P1422 1 is S2 c2 u2 J) : w_law_666 (zi k) (zi (moT (sgC x)).length) v6 v7 (b01 (moB (sgC x))) v10 (zi (sgM x)) (zi (rnR x).length) (zi i) P1422 c0 u0 S I := by
  have hv := hs.1
  have l99 := rnR_99 hv
  have hm := hv.2.2.2.1
  refine s_swap hv hR (by omega) (fun J q r => ?_)
  by_cases hyes : moB (sgC x) = true ∧ i + 1 < (rnR x).length ∧ sgM x < 3000
  · obtain ⟨hb, hi2, hM⟩ := hyes
    have e : swapR x (zi i) = doC x (swapD x i) false := by
      unfold swapR
      have z : ∀ j, j < (rnR x).length → 0 ≤ zi j ∧ zi j < zi (runsOf (sgN x) (moR (sgC x))).length := fun j hj => ⟨zi_ge (by omega), (zi_lt (by omega) (show (rnR x).length < 2147483648 by omega)).mpr hj⟩
      rw [zi_succ, if_pos ⟨hb, z i (by omega), z (i + 1) hi2⟩, zi_tn (by omega)]
    obtain ⟨f1, f2, f3⟩ := swap_full hv hs.2.1 hp hE hb (rnR_some (show i < (rnR x).length by omega)) (rnR_some hi2)
    obtain ⟨g1, g2, g3⟩ := f3 (by omega)
    rw [e] at r ⊢
    have nx := hP _ _ _ _ _ _ (doC_nx (c0 := c0) (u0 := u0) h491 hz q hs (run_bt hv i).2.2 hE hT hp r)
    rw [g1] at nx ⊢
    intro P684 h684
    rw [if_pos rfl]
    refine h684 1 ?_
    intro P711 h711 P710 _
    rw [hb, if_neg (show ¬ b01 true = 0 by decide), zi_succ, if_neg (show ¬ zi (rnR x).length ≤ zi (i + 1) from nle_zi hi2 (by omega)), if_neg (show ¬ (3000 : Int32) ≤ zi (sgM x) from fun w => by have := (zi_le (a := 3000) (by decide) (by omega)).mp w; omega)]
    refine h711 1 ?_
    intro P743 h743 P742 _
    rw [if_pos rfl]
    intro P738 h738
    rw [if_neg (show ¬ (0 : Int32) < 0 by decide)]
    refine k_0 r ?_
    rw [if_pos (show zi (moT (sgC (doC x (swapD x i) false).2)).length = zi (moT (sgC x)).length by rw [g3, f2])]
    refine t_runs r ?_
    rw [if_pos (show vRuns (doC x (swapD x i) false).2 = zi (rnR x).length by
      unfold vRuns
      rw [g2])]
    exact h738 (h743 1 nx)
  · have e : swapR x (zi i) = (-1, x) := by
      unfold swapR
      by_cases u : moB (sgC x) = true ∧ (0 ≤ zi i ∧ zi i < zi (runsOf (sgN x) (moR (sgC x))).length) ∧ (0 ≤ zi i + 1 ∧ zi i + 1 < zi (runsOf (sgN x) (moR (sgC x))).length)
      · rw [if_pos u, zi_tn (by omega)]
        have hi2 : i + 1 < (rnR x).length := by
          have h := u.2.2.2
          rw [zi_succ] at h
          exact (zi_lt (by omega) (show (rnR x).length < 2147483648 by omega)).mp h
        refine doC_ref ((swap_full hv hs.2.1 hp hE u.1 (rnR_some (show i < (rnR x).length by omega)) (rnR_some hi2)).1.mpr ?_)
        rcases Nat.lt_or_ge (sgM x) 3000 with w | w
        · exact absurd ⟨u.1, hi2, w⟩ hyes
        · exact w
      · rw [if_neg u]
    rw [e] at r ⊢
    intro P684 h684
    rw [if_neg (show ¬ (-1 : Int32) = 0 by decide)]
    refine h684 0 ?_
    intro P711 h711 P710 h710
    have go : P710 := h710 (h711 0 (by
      intro P743 h743 P742 _
      rw [if_pos rfl]
      intro P738 h738
      rw [if_pos (show (-1 : Int32) < 0 by decide)]
      exact h738 (h743 1 (hP _ _ _ _ _ _ (cl_id h491 hz q hs r hT hp (Or.inr (Or.inl ⟨rfl, rfl⟩)))))))
    cases hb : moB (sgC x) with
    | false =>
      rw [if_pos b01_f]
      exact go
    | true =>
      rw [if_neg (show ¬ b01 true = 0 by decide), zi_succ]
      by_cases u : (rnR x).length ≤ i + 1
      · rw [if_pos (show zi (rnR x).length ≤ zi (i + 1) from (zi_le (by omega) (by omega)).mpr u)]
        exact go
      · rw [if_neg (show ¬ zi (rnR x).length ≤ zi (i + 1) from fun w => u ((zi_le (by omega) (by omega)).mp w))]
        rw [if_pos (show (3000 : Int32) ≤ zi (sgM x) from (zi_le (a := 3000) (by decide) (by omega)).mpr (by
          rcases Nat.lt_or_ge (sgM x) 3000 with w | w
          · exact absurd ⟨hb, by omega, w⟩ hyes
          · exact w))]
        exact go
