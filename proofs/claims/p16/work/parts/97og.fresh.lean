/-! fresh -/
def vFresh (x : Sg) : Int32 := zi (FF x).length
theorem t_fresh {x : Sg} {I : zI} {K : Int32 → Prop} (hR : RX I x) (h : K (vFresh x)) : w_Desk_fresh I K := by
  unfold w_Desk_fresh
  rw [show I.1 43 12 = zi (FF x).length from hR.2.2.1.2.1.1]
  exact h
theorem u_fresh {x : Sg} {I : zI} {K : Int32 → zI → Prop} (hv : Iv x) (hf : Fr x) (hR : RM I x) (hK : ∀ J, eqQ Qmo I J → RM J x → K (vFresh x) J) : w_M_fresh I K := by
  unfold w_M_fresh
  have hk := kd_ok hv.2.2.2.2.2.2.2.1.2.1
  obtain ⟨k1, k2, k3, k4, k5⟩ := hk
  have hU := hR.2.2.2.2.2.2.2.1.2.2.2.2.2.2.1
  obtain ⟨u1, u2⟩ := hU
  intro P2 h2
  have main : ∀ (d i : Nat) (J : zI), i + d = (lexL (moG (sgC x))).length → eqQ Qwy I J → (∀ q, q < i → J.1 520 q = zi (kdF (lexL (moG (sgC x))) q)) → P2 (zi i) J := by
    intro d
    induction d with
    | zero =>
      intro i J hi q hkd
      refine h2 _ _ ?_
      rw [show J.1 491 19 = zi (lexL (moG (sgC x))).length by rw [q.1 491 19 (by unfold Qwy; omega)]; exact u1, if_pos ((zi_le (by omega) (by omega)).mpr (by omega))]
      refine s_wrongOf2 k3 (by omega) (fun p hp => hkd p (by omega)) (fun J2 i2 st d2 q2 z1 _ z2 z3 => ?_)
      have q3 := q.tr (Qwr_wy q2)
      have e1 : lIt (kdF (lexL (moG (sgC x)))) (sz (sgN x) (moR (sgC x))) (0, [(0, 0)]) = some ((lexL (moG (sgC x))).length - 1, [(0, 0), (0, 1)]) := hf.1
      have e2 : lNx (kdF (lexL (moG (sgC x)))) ((lexL (moG (sgC x))).length - 1) [(0, 0), (0, 1)] = none := by
        unfold lNx
        rw [k4, if_pos (show ldN (topS [(0, 0), (0, 1)]) (5 + 10) = 0 from end_fin 1 (by decide)), show rlN (topS [(0, 0), (0, 1)]) = none from by decide +kernel]
      have e3 : d2 = sz (sgN x) (moR (sgC x)) := RC.cnt z1 e1 z2 e2
      have e4 : (FF x).length = sz (sgN x) (moR (sgC x)) := fl_len hv.2.1 _ hv.tr.1 0 0 0 1
      have hK2 := hK J2 (Qwy_mo q3) (hR.wy hv q3)
      unfold vFresh at hK2
      rw [e4, ← e3] at hK2
      rw [z3]
      exact hK2
    | succ d ih =>
      intro i J hi q hkd
      refine h2 _ _ ?_
      rw [show J.1 491 19 = zi (lexL (moG (sgC x))).length by rw [q.1 491 19 (by unfold Qwy; omega)]; exact u1, if_neg (fun u => by have := (zi_le (by omega) (by omega)).mp u; omega)]
      refine ⟨(zin_iff (by omega)).mpr (by omega), (zin_iff (by omega)).mpr (by omega), fun I5 e5 v ev => ?_⟩
      have g : J.1 504 i = zi (kdF (lexL (moG (sgC x))) i) := by
        rw [q.1 504 i (by unfold Qwy; omega)]
        exact (u2 i _ (k5 i (by omega))).1
      rw [zi_tn (show i < 2147483648 by omega), g] at e5
      rw [ev, zi_succ]
      refine ih (i + 1) I5 (by omega) ?_ (fun p hp => ?_)
      · rw [e5]
        exact q.zu (Or.inr (Or.inl rfl))
      · rw [e5]
        by_cases u : p = i
        · rw [u, zu_self]
        · rw [zu_at, if_neg (by omega)]
          exact hkd p (by omega)
  exact main (lexL (moG (sgC x))).length 0 I (by omega) eqQ.rf (fun q hq => by omega)
