/-! ===== the model at the start ===== -/
theorem newNode_long {a b : Int32} {I : zI} {K : Int32 → zI → Prop} (h : w_M_newNode a b I (fun v J => J.2 511 (Int32.toNatClampNeg v) = 0 → K v J)) : w_M_newNode a b I K := by
  intro v ev
  obtain ⟨p1, h1⟩ := h v ev
  refine ⟨p1, fun I2 e2 => ?_⟩
  obtain ⟨p2, h2⟩ := h1 I2 e2
  refine ⟨p2, fun I3 e3 => ?_⟩
  obtain ⟨p3, h3⟩ := h2 I3 e3
  refine ⟨p3, fun I4 e4 => ?_⟩
  obtain ⟨p4, h4⟩ := h3 I4 e4
  refine ⟨p4, fun I5 e5 => ?_⟩
  obtain ⟨p5, h5⟩ := h4 I5 e5
  refine ⟨p5, fun I6 e6 => ?_⟩
  obtain ⟨p6, h6⟩ := h5 I6 e6
  refine ⟨p6, fun I7 e7 => ?_⟩
  obtain ⟨p7, h7⟩ := h6 I7 e7
  refine ⟨p7, fun I8 e8 => ?_⟩
  obtain ⟨p8, h8⟩ := h7 I8 e8
  refine ⟨p8, fun I9 e9 I10 e10 => ?_⟩
  refine h8 I9 e9 I10 e10 ?_
  rw [e10, zu_2, e9, zu_2, e8, zu_2, e7, zu_2, e6, zu_2, e5, zu_2, e4]
  show (if _ then (0 : Int64) else _) = 0
  rw [if_pos ⟨rfl, rfl⟩]
theorem start_M {I : zI} {K : zI → Prop} (hX : RX I x0) (hz : zZ I 491) (hK : ∀ J, RX J x0 → RM J x0 → K J) : w_M_init I K := by
  have z1 : ∀ a j, 491 ≤ a → I.1 a j = 0 := fun a j h => (hz a h).1 j
  have z2 : ∀ a j, 491 ≤ a → I.2 a j = 0 := fun a j h => (hz a h).2 j
  unfold w_M_init
  have rep0 : RepNM I 0 (fun _ => nEnd) := ⟨z1 491 25 (by decide), fun k hk => absurd hk (Nat.not_lt_zero _)⟩
  have v0 : ∀ n, 0 < n → vp_in 0 n := fun n hn => by
    show vp_in (zi 0) n
    exact (zin_iff (by decide)).mpr hn
  show w_M_newNode (Int32.ofInt (-2)) (zi 0) I _
  refine newNode_long ?_
  refine s_newNode (m := 0) (tk := 0) (e := 0) (r := -2) (N := fun _ => nEnd) rep0 (fun k hk => absurd hk (Nat.not_lt_zero _)) (by decide) (z1 491 36 (by decide)) (fun I2 q2 m2 k2 n1 n2 n3 n4 n5 l511 => ?_)
  refine ⟨v0 _ (by decide), fun I3 e3 => ⟨v0 _ (by decide), fun I4 e4 => ⟨v0 _ (by decide), fun I5 e5 => ?_⟩⟩⟩
  have k5 : ∀ a j, ¬ (a = 508 ∧ j = 0) → ¬ (a = 510 ∧ j = 0) → ¬ (a = 515 ∧ j = 0) → I5.1 a j = I2.1 a j := fun a j u1 u2 u3 => by
    rw [e5, zu_at, if_neg u3, e4, zu_at, if_neg u2, e3, zu_at, if_neg u1]
  have k52 : I5.2 = I2.2 := by rw [e5, zu_2, e4, zu_2, e3, zu_2]
  have rep5 : RepNM I5 1 N00 := by
    refine ⟨(k5 491 25 (by decide) (by decide) (by decide)).trans m2, fun k hk => ?_⟩
    rw [show k = 0 by omega]
    refine ⟨(k5 _ _ (by decide) (by decide) (by decide)).trans n1, (k5 _ _ (by decide) (by decide) (by decide)).trans n2, ?_, (k5 _ _ (by decide) (by decide) (by decide)).trans n4, (k5 _ _ (by decide) (by decide) (by decide)).trans n5, fun i c hi => (by cases hi), fun _ => ⟨?_, ?_⟩⟩
    · rw [e5, zu_self]
      rfl
    · rw [e5, zu_oo (by decide), e4, zu_self]
      rfl
    · rw [k52]
      exact l511
  have o5 : ∀ a j, 491 ≤ a → ¬ Qnm 0 a j → ¬ (a = 508 ∧ j = 0) → I5.1 a j = 0 := fun a j h u v => by
    rw [k5 a j v (by unfold Qnm at u; omega) (by unfold Qnm at u; omega), q2.1 a j u]
    exact z1 a j h
  show w_M_newNode (Int32.ofInt ((0 : Nat) : Int)) (zi 0) I5 _
  refine s_newNode (m := 1) (tk := 0) (e := 0) (r := ((0 : Nat) : Int)) (N := N00) rep5 (fun k hk => by rw [show k = 0 by omega]; exact Nat.zero_le _) (by decide) (o5 491 36 (by decide) (by unfold Qnm; omega) (by decide)) (fun I7 q7 m7 k7 p1 p2 p3 p4 p5 => ?_)
  intro I8 e8
  refine ⟨show vp_in (zi 1) 3700 from (zin_iff (by decide)).mpr (by decide), fun I9 e9 I10 e10 => ?_⟩
  have e9' : I9 = zu I8 514 1 0 := e9
  have k10 : ∀ a j, ¬ (a = 491 ∧ j = 37) → ¬ (a = 491 ∧ j = 8) → ¬ (a = 514 ∧ j = 1) → I10.1 a j = I7.1 a j := fun a j u1 u2 u3 => by
    rw [e10, zu_at, if_neg u2, e9', zu_at, if_neg u3, e8, zu_at, if_neg u1]
  have k102 : I10.2 = I7.2 := by rw [e10, zu_2, e9', zu_2, e8, zu_2]
  have rep10 : RepNM I10 2 N01 := by
    refine ⟨(k10 491 25 (by decide) (by decide) (by decide)).trans m7, fun k hk => ?_⟩
    by_cases u : k = 0
    · rw [u]
      exact (k7 0 (by decide)).kept (Nat.zero_le _) (fun a h1 h2 _ => k10 a 0 (by omega) (by omega) (by omega)) (fun i hi => k10 513 _ (by omega) (by omega) (by omega)) (by rw [k102])
    · rw [show k = 1 by omega]
      refine ⟨(k10 _ _ (by decide) (by decide) (by decide)).trans p1, ?_, (k10 _ _ (by decide) (by decide) (by decide)).trans p3, (k10 _ _ (by decide) (by decide) (by decide)).trans p4, (k10 _ _ (by decide) (by decide) (by decide)).trans p5, fun i c hi => (by cases hi), fun w => absurd w (by decide)⟩
      rw [e10, zu_oo (by decide), e9', zu_self]
      rfl
  have o10 : ∀ a j, 491 ≤ a → ¬ Qnm 0 a j → ¬ (a = 508 ∧ j = 0) → ¬ (a = 491 ∧ j = 37) → ¬ (a = 491 ∧ j = 8) → I10.1 a j = 0 := fun a j h u v w1 w2 => by
    rw [k10 a j w1 w2 (by unfold Qnm at u; omega), q7.1 a j (by unfold Qnm at u ⊢; omega)]
    exact o5 a j h u v
  have g508 : I10.1 508 0 = zi 0 := by
    rw [k10 508 0 (by decide) (by decide) (by decide), q7.1 508 0 (by unfold Qnm; omega), e5, zu_oo (by decide), e4, zu_oo (by decide), e3, zu_self]
  have g37 : I10.1 491 37 = zi 1 := by
    rw [e10, zu_at, if_neg (by decide), e9', zu_oo (by decide), e8, zu_self]
  have g8 : I10.1 491 8 = b01 true := by
    rw [e10, zu_self]
    rfl
  show w_M_cutsUp (zi 0) I10 _
  refine s_cutsUp (n := 0) (t := txF []) (by decide) (fun j hj => absurd hj (Nat.not_lt_zero _)) (fun I11 q11 m11 u11 => ?_)
  have nt : NewT I11 [] := ⟨m11, fun j hj => absurd hj (Nat.not_lt_zero _), u11⟩
  refine s_keepsTokens (gd := true) tx0 nt (by rw [q11.1 491 8 (by unfold Qcut; omega)]; exact g8) (fun I12 q12 now12 good12 => ?_)
  have c12 : ∀ a j, ¬ Qcut a j → ¬ Qkt a j → ¬ Qkg a j → I12.1 a j = I10.1 a j := fun a j u1 u2 u3 => by
    rw [q12.1 a j (fun w => w.elim u2 (fun w => u3 w.2)), q11.1 a j u1]
  have c122 : ∀ a j, ¬ Qcut a j → ¬ Qkt a j → ¬ Qkg a j → I12.2 a j = I10.2 a j := fun a j u1 u2 u3 => by
    rw [q12.2 a j (fun w => w.elim u2 (fun w => u3 w.2)), q11.2 a j u1]
  have rep12 : RepNM I12 2 N01 := rep10.kp2 (c12 _ _ (by unfold Qcut; omega) (by unfold Qkt; omega) (by unfold Qkg; omega)) (fun a j h1 h2 => c12 a j (by unfold Qcut; omega) (by unfold Qkt; omega) (by unfold Qkg; omega)) (fun j => c122 511 j (by unfold Qcut; omega) (by unfold Qkt; omega) (by unfold Qkg; omega))
  have h37 : I12.1 491 37 = zi 1 := (c12 _ _ (by unfold Qcut; omega) (by unfold Qkt; omega) (by unfold Qkg; omega)).trans g37
  refine s_Mtree rep12 n01 x0_iv.2.2.1 (by decide) tr0 h37 (fun I13 q13 vi13 => ?_)
  refine ⟨show vp_in (zi 6) 10 from (zin_iff (by decide)).mpr (by decide), fun I14 e14 => ?_⟩
  have e14' : I14 = zu I13 538 6 (-2) := e14
  have c14 : ∀ a j, ¬ Qft a j → a ≠ 538 → I14.1 a j = I12.1 a j := fun a j u v => by
    rw [e14', zu_oo v, q13.1 a j u]
  have c142 : ∀ a j, ¬ Qft a j → I14.2 a j = I12.2 a j := fun a j u => by
    rw [e14', zu_2, q13.2 a j u]
  have t12 : GoodT I12 [] := good12 rfl
  have gd : GoodT I14 [] := t12.kp (c14 _ _ (by unfold Qft; omega) (by decide)) (c14 _ _ (by unfold Qft; omega) (by decide)) (fun a j u => c14 a j (by unfold Qft; omega) (by omega)) (fun j => c142 507 j (by unfold Qft; omega))
  have nw : NowT I14 [] := now12.kp (c14 _ _ (by unfold Qft; omega) (by decide)) (c14 _ _ (by unfold Qft; omega) (by decide)) (fun a j u => c14 a j (by unfold Qft; omega) (by omega))
  have all14 : ∀ a j, ¬ Qft a j → a ≠ 538 → ¬ Qcut a j → ¬ Qkt a j → ¬ Qkg a j → I14.1 a j = I10.1 a j := fun a j u1 u2 u3 u4 u5 => (c14 a j u1 u2).trans (c12 a j u3 u4 u5)
  have z14 : ∀ j, ¬ (j = 43 ∨ j = 51 ∨ j = 53) → ¬ (j = 9 ∨ j = 3) → ¬ (j = 5 ∨ j = 15) → ¬ (j = 7 ∨ j = 19) → j ≠ 25 → j ≠ 37 → j ≠ 8 → I14.1 491 j = 0 := fun j h1 h2 h3 h4 h5 h6 h7 => by
    rw [all14 491 j (by unfold Qft; omega) (by decide) (by unfold Qcut; omega) (by unfold Qkt; omega) (by unfold Qkg; omega)]
    exact o10 491 j (Nat.le_refl _) (by unfold Qnm; omega) (by omega) (by omega) (by omega)
  have now14 : NowM I14 mo0 := by
    obtain ⟨a1, a2, a3, a4⟩ := nw
    obtain ⟨b1, b2, b3⟩ := gd
    refine ⟨a1, a2, a3, a4, b1, b2, b3, fun j hj => ?_, ?_, ?_⟩
    · change j < 1 at hj
      rw [show j = 0 by omega, all14 508 0 (by unfold Qft; omega) (by decide) (by unfold Qcut; omega) (by unfold Qkt; omega) (by unfold Qkg; omega)]
      exact g508
    · rw [all14 491 8 (by unfold Qft; omega) (by decide) (by unfold Qcut; omega) (by unfold Qkt; omega) (by unfold Qkg; omega)]
      exact g8
    · rw [all14 491 37 (by unfold Qft; omega) (by decide) (by unfold Qcut; omega) (by unfold Qkt; omega) (by unfold Qkg; omega)]
      exact g37
  show w_M_keeps (zi 0) I14 _
  refine s_keeps (s := 0) (x := mo0) (by decide) tx0 tx0 now14 (fun J qJ mJ => ?_)
  have cJ : ∀ a j, a ≠ 542 → J.1 a j = I14.1 a j := fun a j u => qJ.1 a j (fun w => u w.1)
  have cJ2 : ∀ a j, a ≠ 542 → J.2 a j = I14.2 a j := fun a j u => qJ.2 a j (fun w => u w.1)
  have rep14 : RepNM I14 2 N01 := rep12.kp2 (c14 _ _ (by unfold Qft; omega) (by decide)) (fun a j h1 h2 => c14 a j (by unfold Qft; omega) (by omega)) (fun j => c142 511 j (by unfold Qft; omega))
  have vi14 : ViM I14 N01 1 1 := vi13.kp (fun a j u => by rw [e14', zu_oo (by omega)])
  refine hK J ?_ ⟨⟨(cJ _ _ (by decide)).trans (z14 0 (by decide) (by decide) (by decide) (by decide) (by decide) (by decide) (by decide)), fun j v hv => (by cases hv)⟩, rep14.kp2 (cJ _ _ (by decide)) (fun a j h1 h2 => cJ a j (by omega)) (fun j => cJ2 511 j (by decide)), vi14.kp (fun a j u => cJ a j (by omega)), ⟨(cJ _ _ (by decide)).trans (z14 59 (by decide) (by decide) (by decide) (by decide) (by decide) (by decide) (by decide)), fun i p hi => (by cases hi), fun i p hi => (by cases hi)⟩, ⟨(cJ _ _ (by decide)).trans (z14 36 (by decide) (by decide) (by decide) (by decide) (by decide) (by decide) (by decide)), fun j hj => by
    rw [cJ 538 j (by decide), e14', zu_at]
    show _ = if j = 6 then -2 else 0
    by_cases u : j = 6
    · rw [if_pos ⟨rfl, u⟩, if_pos u]
    · rw [if_neg (fun w => u w.2), if_neg u, q13.1 538 j (by unfold Qft; omega), c12 538 j (by unfold Qcut; omega) (by unfold Qkt; omega) (by unfold Qkg; omega)]
      exact o10 538 j (by decide) (by unfold Qnm; omega) (by omega) (by omega) (by omega), fun s l _ h => by
    have h : (none : Option (List Int32)) = some l := h
    cases h⟩, (cJ _ _ (by decide)).trans (z14 75 (by decide) (by decide) (by decide) (by decide) (by decide) (by decide) (by decide)), (cJ _ _ (by decide)).trans (z14 76 (by decide) (by decide) (by decide) (by decide) (by decide) (by decide) (by decide)), now14.kp (fun a j u => cJ a j (by omega)) (fun j => cJ2 507 j (by decide)), mJ, fun k y hk => (by cases hk), fun k y hk => (by cases hk)⟩
  refine hX.kp x0_iv (fun a j u => ?_)
  have ha : a < 491 := by omega
  rw [cJ a j (by omega), all14 a j (by unfold Qft; omega) (by omega) (by unfold Qcut; omega) (by unfold Qkt; omega) (by unfold Qkg; omega), k10 a j (by omega) (by omega) (by omega), q7.1 a j (by unfold Qnm; omega), k5 a j (by omega) (by omega) (by omega), q2.1 a j (by unfold Qnm; omega)]
