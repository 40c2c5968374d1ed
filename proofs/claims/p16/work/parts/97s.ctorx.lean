/-! ===== the class at the start ===== -/
theorem start_X {K : zI → Prop} (hK : ∀ I1, RX I1 x0 → zZ I1 491 → K I1) : w_Desk_init z00 K := by
  unfold w_Desk_init
  have rep0 : RepNX z00 0 (fun _ => nEnd) := ⟨rfl, fun k hk => absurd hk (Nat.not_lt_zero _)⟩
  refine s_makeToken (kd := 10) (e := 0) (bs := []) rep0 (fun k hk => absurd hk (Nat.not_lt_zero _)) (by decide) (fun I2 q2 rep2 => ?_)
  refine s_makeRuled (N := N00) (m := 1) (r := 0) (s := 0) (e := 0) rep2 (fun k hk => by rw [show k = 0 by omega]; exact Nat.zero_le _) (by decide) (by decide) (fun I4 q4 rep4 => ?_)
  have rep4' : RepNX I4 2 N01 := rep4
  have o4 : ∀ a j, ¬ Qnx 0 a j → I4.1 a j = 0 := fun a j u => by
    rw [q4.1 a j (by unfold Qnx at u ⊢; omega), q2.1 a j u]
    rfl
  have o42 : ∀ a j, ¬ Qnx 0 a j → I4.2 a j = 0 := fun a j u => by
    rw [q4.2 a j (by unfold Qnx at u ⊢; omega), q2.2 a j u]
    rfl
  have hlen0 : (lexF (txF []) 0 0 0).length = 0 := rfl
  refine s_readAll (k := 7) (a := 5) (an := 300) (n := 0) (t := txF []) (by decide) (Nat.zero_le _) (fun j hj => absurd hj (Nat.not_lt_zero _)) (by decide) (fun _ I6 q6 t6 => ?_) (fun h => absurd h (by rw [hlen0]; decide))
  have t6' : RepT I6 7 (txF []) [(10, 0, 0)] := t6
  refine s_beGood (R := 1) (c := 1) (by decide) t6'.1 (fun I7 q7 b1 b2 b3 b4 b5 => ?_)
  refine (w_set (by decide)).mpr ?_
  intro I9 e9
  refine (w_set (by decide)).mpr ?_
  have e8' : rs I7 (4 + 14 + 1) 100 0 (zi 0) = zu I7 19 0 (zi 0) := rs_in (i := 0) (by decide) (show 0 < 100 by decide)
  have e10' : rs I9 (22 + 1) 10 6 (-2) = zu I9 23 6 (-2) := rs_in (i := 6) (by decide) (show 6 < 10 by decide)
  rw [e8'] at e9
  rw [e10']
  generalize e10' : zu I9 23 6 (-2) = I10
  have k10 : ∀ a j, a ≠ 19 → a ≠ 23 → ¬ (a = 4 ∧ j = 8) → I10.1 a j = I7.1 a j := fun a j u1 u2 u3 => by
    rw [← e10', zu_oo u2, e9, zu_at, if_neg u3, zu_oo u1]
  have k102 : I10.2 = I7.2 := by rw [← e10', zu_2, e9, zu_2, zu_2]
  have o10 : ∀ a j, 22 ≤ a → a ≠ 23 → I10.1 a j = I4.1 a j := fun a j u v => by
    rw [k10 a j (by omega) v (by omega), (q7 a (Or.inr (by omega))).1, (q6 a (Or.inr (by omega))).1]
  have o10b : ∀ a j, a < 4 → I10.1 a j = I4.1 a j := fun a j u => by
    rw [k10 a j (by omega) (by omega) (by omega), (q7 a (Or.inl (by omega))).1, (q6 a (Or.inl (by omega))).1]
  have o102 : ∀ a j, 22 ≤ a → I10.2 a j = I4.2 a j := fun a j u => by
    rw [k102, (q7 a (Or.inr (by omega))).2, (q6 a (Or.inr (by omega))).2]
  have r23 : ∀ j, I10.1 23 j = if j = 6 then -2 else 0 := fun j => by
    rw [← e10', zu_at]
    by_cases u : j = 6
    · rw [if_pos ⟨rfl, u⟩, if_pos u]
    · rw [if_neg (fun w => u w.2), if_neg u, e9, zu_oo (by decide), zu_oo (by decide), (q7 23 (Or.inr (by decide))).1, (q6 23 (Or.inr (by decide))).1]
      exact o4 23 j (by unfold Qnx; omega)
  have h04 : I10.1 0 4 = zi 0 := by
    rw [o10b 0 4 (by decide)]
    exact o4 0 4 (by unfold Qnx; omega)
  have lx : lexL [] = [(10, 0, 0)] := rfl
  have mo4 : MoX I10 4 mo0 := by
    have tk : ∀ a j, 7 ≤ a → a < 18 → I10.1 a j = I6.1 a j := fun a j u1 u2 => by
      rw [k10 a j (by omega) (by omega) (by omega)]
      exact b5 a j (Or.inl (by omega))
    refine ⟨?_, fun j hj => absurd hj (Nat.not_lt_zero _), ⟨?_, fun j y hy => ?_⟩, ?_, ?_, fun j hj => ?_, fun j y hy => ?_, ?_, ?_⟩
    · rw [k10 4 1 (by decide) (by decide) (by decide), b5 4 1 (Or.inr ⟨rfl, by decide⟩), (q6 4 (Or.inl (by decide))).1]
      exact o4 4 1 (by unfold Qnx; omega)
    · rw [tk 7 5 (by decide) (by decide)]
      exact t6'.1
    · have := t6'.2 j y hy
      rw [tk (4 + 3 + 2) j (by decide) (by decide), tk (4 + 3 + 4) j (by decide) (by decide), tk (4 + 3 + 6) j (by decide) (by decide), tk (4 + 3 + 8) j (by decide) (by decide), tk (4 + 3 + 10) j (by decide) (by decide)]
      exact this
    · rw [k10 4 3 (by decide) (by decide) (by decide)]
      exact b1
    · rw [k10 4 6 (by decide) (by decide) (by decide)]
      exact b3
    · change j < 1 at hj
      rw [show j = 0 by omega, ← e10', zu_oo (by decide), e9, zu_oo (by decide), zu_self]
      rfl
    · have hj := (List.getElem?_eq_some_iff.mp hy).1
      change j < 1 at hj
      have hj0 : j = 0 := by omega
      subst hj0
      have hy' : ([(10, 0, 0)] : List (Nat × Nat × Nat))[0]? = some y := hy
      have h2 := (t6'.2 0 y hy').2.1
      rw [k10 (4 + 17) 0 (by decide) (by decide) (by decide), b4 0 (by decide)]
      exact h2
    · rw [k10 4 7 (by decide) (by decide) (by decide)]
      exact b2
    · rw [← e10', zu_oo (by decide), e9]
      exact zu_self
  refine s_now (s := 0) (by decide) h04 ?_
  refine s_momCopy (k := 113) (a := 4) (x := mo0) (Or.inr (by decide)) tx0 tx0 mo4 (fun I12 q12 m12 => ?_)
  have h04' : I12.1 0 4 = zi 0 := by rw [(q12 0 (Or.inl (by decide))).1]; exact h04
  refine s_now (s := 0) (by decide) h04' ?_
  have rep12 : RepNX I12 2 N01 := rep4'.kp n01.ch (fun a j h1 h2 h3 => by
    rw [(q12 a (Or.inl (by omega))).1]
    exact o10 a j (by omega) (by omega))
  have z12 : ∀ a j, 43 ≤ a → a < 113 → I12.1 a j = 0 := fun a j h1 h2 => by
    rw [(q12 a (Or.inl h2)).1, o10 a j (by omega) (by omega)]
    exact o4 a j (by unfold Qnx; omega)
  refine s_deskLook (a := 113) (ed := 0) (rc := fun _ => none) (n0 := 0) rep12 n01 x0_iv.2.2.1 (by decide) tr0 (fun c hc => by have := x0_iv.2.2.2.2.1 c hc; exact Nat.le_trans this (by decide)) (fun c hc => ⟨0, by decide, z12 47 c (by decide) (by decide)⟩) (prt_R n01 x0_iv.2.2.2.2.2.2.2.1).1 (prt_R n01 x0_iv.2.2.2.2.2.2.2.1).2 (Or.inr (by decide)) m12.2.2.2.2.2.2.2.1 ⟨m12.2.2.2.2.1, m12.2.2.2.2.2.1, tkz_R n01 x0_iv.2.2.2.2.2.2.2.1⟩ ⟨z12 69 11 (by decide) (by decide), Nat.zero_le _, fun _ => 0, fun s _ _ => z12 85 s (by decide) (by decide), fun s l _ h => (no_someZ h).elim, fun s t l l' _ _ _ h _ => (no_someZ h).elim⟩ (by decide) (fun c hc => Nat.lt_of_le_of_lt (x0_iv.2.2.2.2.2.2.1.2.2.1 c hc) (by decide)) (fun u => absurd rfl u) (fun J qJ vJ xJ _ => ?_)
  have kJ : ∀ a j, ¬ Qla a j → J.1 a j = I12.1 a j := fun a j u => qJ.1 a j u
  have z0c : ∀ j, j ≠ 18 → J.1 0 j = 0 := fun j hj => by
    rw [kJ 0 j (by unfold Qla Qvi Qrr Qpn; omega), (q12 0 (Or.inl (by decide))).1, o10b 0 j (by decide)]
    exact o4 0 j (by unfold Qnx; omega)
  refine hK J ⟨⟨z0c 1 (by decide), fun j v hv => (by cases hv)⟩, ?_, vJ, ⟨?_, fun i p hi => (by cases hi), fun v hv => ?_, fun i p hi => (by cases hi)⟩, ⟨z0c 7 (by decide), fun j hj => by rw [kJ 23 j (by unfold Qla Qvi Qrr Qpn; omega), (q12 23 (Or.inl (by decide))).1]; exact r23 j, 0, Nat.zero_le _, by rw [rcP_0 _ (Nat.le_refl _)] at xJ; exact xJ⟩, z0c 5 (by decide), z0c 6 (by decide), 0, by decide, z0c 4 (by decide), ?_, fun k y hk => (by cases hk), fun k y hk => (by cases hk)⟩ ?_
  · exact rep12.kp n01.ch (fun a j h1 h2 h3 => kJ a j (by unfold Qla Qvi Qrr Qpn; omega))
  · rw [kJ 88 4 (by unfold Qla Qvi Qrr Qpn; omega)]
    exact z12 88 4 (by decide) (by decide)
  · rw [kJ 96 _ (by unfold Qla Qvi Qrr Qpn; omega)]
    exact z12 96 _ (by decide) (by decide)
  · exact m12.kp (fun a j u1 u2 => kJ a j (by unfold Qla Qvi Qrr Qpn; have : zmom 0 = 113 := rfl; omega))
  · intro a ha
    refine ⟨fun j => ?_, fun j => ?_⟩
    · rw [kJ a j (by unfold Qla Qvi Qrr Qpn; omega), (q12 a (Or.inr (by omega))).1, o10 a j (by omega) (by omega)]
      exact o4 a j (by unfold Qnx; omega)
    · rw [qJ.2 a j (by unfold Qla Qvi Qrr Qpn; omega), (q12 a (Or.inr (by omega))).2, o102 a j (by omega)]
      exact o42 a j (by unfold Qnx; omega)
