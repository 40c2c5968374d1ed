/-! ===== KINDS tried: the model ===== -/
theorem in_idx {a : Int32} {n : Nat} (hn : n < 2147483648) (h : 0 ≤ a ∧ a ≤ zi n - 1) : ∃ k, k < n ∧ a = zi k := by
  obtain ⟨k, hk, rfl⟩ := zi_of h.1
  refine ⟨k, ?_, rfl⟩
  by_cases u : n = 0
  · subst u
    exfalso
    have h1 := Int32.le_trans h.1 h.2
    revert h1
    decide
  · have e : zi n - 1 = zi (n - 1) := zi_sub (b := 1) (by omega)
    rw [e] at h
    have := (zi_le hk (by omega)).mp h.2
    omega
def Qlt (a j : Nat) : Prop := a = 520 ∨ (a = 491 ∧ j = 41)
theorem s_laysTry {n : Nat} {a b c k : Int32} {I : zI} {K : zI → Prop} (h15 : I.1 491 15 = zi n) (hn : 1 ≤ n ∧ n ≤ 100) (h1 : ∀ i, i < n → ∃ y : Nat, y < 12 ∧ I.1 501 i = zi y) (hlast : I.1 501 (n - 1) = zi 10) (hL : zi (n - 1) < a ∨ a + b ≤ zi (n - 1)) (hc : (∀ i, i < n → zi i ≠ c) ∨ ∃ k' : Nat, k' < 12 ∧ k = zi k')
    (hK : ∀ J kd e, eqQ Qlt I J → KdO kd e → e < 110 → (∀ i, i ≤ e → J.1 520 i = zi (kd i)) → K J) : w_M_laysTry a b c k I K := by
  unfold w_M_laysTry
  intro I1 e1
  intro P8 h8
  have q1 : eqQ Qlt I I1 := by rw [e1]; exact eqQ.rf.zu (Or.inr ⟨rfl, rfl⟩)
  have push : ∀ (J I7 I8 : zI) (m y : Nat) (kd : Nat → Nat), m < 120 → y < 12 → eqQ Qlt I J → J.1 491 41 = zi m → (∀ q, q < m → J.1 520 q = zi (kd q) ∧ kd q < 12) → I7 = zu J 520 (Int32.toNatClampNeg (J.1 491 41)) (zi y) → I8 = zu I7 491 41 ((I7.1 491 41) + 1) → eqQ Qlt I I8 ∧ I8.1 491 41 = zi (m + 1) ∧ ∀ q, q < m + 1 → I8.1 520 q = zi ((fun q => if q = m then y else kd q) q) ∧ (fun q => if q = m then y else kd q) q < 12 := by
    intro J I7 I8 m y kd hm hy q h41 hkd e7 e8
    rw [h41, zi_tn (show m < 2147483648 by omega)] at e7
    have g7 : I7.1 491 41 = zi m := by rw [e7, zu_oo (by decide)]; exact h41
    rw [g7, zi_succ] at e8
    refine ⟨?_, by rw [e8, zu_self], fun p hp => ?_⟩
    · rw [e8, e7]
      exact (q.zu (Or.inl rfl)).zu (Or.inr ⟨rfl, rfl⟩)
    · rw [e8, zu_oo (by decide), e7]
      dsimp only
      by_cases u : p = m
      · rw [if_pos u, u, zu_self]
        exact ⟨rfl, hy⟩
      · rw [if_neg u, zu_at, if_neg (by omega)]
        exact hkd p (by omega)
  have main : ∀ (d i m : Nat) (kd : Nat → Nat) (J : zI), i + d = n → eqQ Qlt I J → J.1 491 41 = zi m → (m ≤ i ∨ (m ≤ i + 1 ∧ ∀ j, i ≤ j → j < n → zi j ≠ c)) → (∀ q, q < m → J.1 520 q = zi (kd q) ∧ kd q < 12) → (i = n → 1 ≤ m ∧ kd (m - 1) = 10) → P8 (zi i) J := by
    intro d
    induction d with
    | zero =>
      intro i m kd J hi q h41 hm hkd hend
      refine h8 _ _ ?_
      have hin : i = n := by omega
      obtain ⟨m1, m2⟩ := hend hin
      rw [show J.1 491 15 = zi n by rw [q.1 491 15 (by unfold Qlt; omega)]; exact h15, if_pos ((zi_le (by omega) (by omega)).mpr (by omega))]
      refine hK J kd (m - 1) q ⟨fun p hp => (hkd p (by omega)).2, fun s hs => ?_⟩ (by omega) (fun p hp => (hkd p (by omega)).1)
      rw [m2]
      exact end_fin s hs
    | succ d ih =>
      intro i m kd J hi q h41 hm hkd hend
      refine h8 _ _ ?_
      rw [show J.1 491 15 = zi n by rw [q.1 491 15 (by unfold Qlt; omega)]; exact h15, if_neg (fun u => by have := (zi_le (by omega) (by omega)).mp u; omega)]
      intro P44 h44
      have two : ∀ (J' : zI) (m' : Nat) (kd' : Nat → Nat), eqQ Qlt I J' → J'.1 491 41 = zi m' → (m' ≤ i ∨ (m' ≤ i + 1 ∧ ∀ j, i + 1 ≤ j → j < n → zi j ≠ c)) → (∀ q, q < m' → J'.1 520 q = zi (kd' q) ∧ kd' q < 12) → P44 J' := by
        intro J' m' kd' q' h41' hm' hkd'
        refine h44 J' ?_
        intro P87 h87 P61 h61
        have put : P61 := by
          refine h61 ⟨(zin_iff (by omega)).mpr (by omega), ?_⟩
          obtain ⟨y, hy, ey⟩ := h1 i (by omega)
          rw [h41', zi_tn (show i < 2147483648 by omega), show J'.1 501 i = zi y by rw [q'.1 501 i (by unfold Qlt; omega)]; exact ey]
          refine ⟨(zin_iff (by omega)).mpr (by omega), fun I7 e7 I8 e8 => ?_⟩
          rw [← h41'] at e7
          obtain ⟨p1, p2, p3⟩ := push J' I7 I8 m' y kd' (by omega) hy q' h41' hkd' e7 e8
          refine h87 I8 (fun v ev => ?_)
          rw [ev, zi_succ]
          refine ih (i + 1) (m' + 1) _ I8 (by omega) p1 p2 ?_ p3 (fun u => ⟨by omega, ?_⟩)
          · rcases hm' with h | h
            · exact Or.inl (by omega)
            · exact Or.inr ⟨by omega, h.2⟩
          · rw [Nat.add_sub_cancel, if_pos rfl]
            have : i = n - 1 := by omega
            rw [this, hlast] at ey
            exact ((zi_eq (by omega) (by omega)).mp ey).symm
        split
        · exact put
        · rename_i n1
          split
          · exact put
          · rename_i n2
            refine h87 J' (fun v ev => ?_)
            rw [ev, zi_succ]
            refine ih (i + 1) m' kd' J' (by omega) q' h41' (Or.inl (by omega)) hkd' (fun u => ?_)
            have : i = n - 1 := by omega
            rw [this] at n1 n2
            rcases hL with h | h
            · exact absurd h n1
            · exact absurd h n2
      by_cases hic : zi i = c
      · rw [if_pos hic]
        have hmi : m ≤ i := by
          rcases hm with h | h
          · exact h
          · exact absurd hic (h.2 i (Nat.le_refl _) (by omega))
        rcases hc with h | ⟨k', hk', ek⟩
        · exact absurd hic (h i (by omega))
        · rw [h41]
          refine ⟨(zin_iff (by omega)).mpr (by omega), fun I11 e11 I12 e12 => ?_⟩
          rw [← h41, ek] at e11
          obtain ⟨p1, p2, p3⟩ := push J I11 I12 m k' kd (by omega) hk' q h41 hkd e11 e12
          refine two I12 (m + 1) _ p1 p2 (Or.inr ⟨by omega, fun j hj1 hj2 u => ?_⟩) p3
          rw [← hic] at u
          have := (zi_eq (by omega) (by omega)).mp u
          omega
      · rw [if_neg hic]
        refine two J m kd q h41 ?_ hkd
        rcases hm with h | h
        · exact Or.inl h
        · exact Or.inr ⟨h.1, fun j hj1 hj2 => h.2 j (by omega) hj2⟩
  exact main n 0 0 (fun _ => 0) I1 (by omega) q1 (by rw [e1, zu_self]; rfl) (Or.inl (Nat.le_refl _)) (fun q hq => by omega) (fun u => by omega)
/-- all of them as they are -/
theorem s_laysAllK {n : Nat} {kd : Nat → Nat} {I : zI} {K : zI → Prop} (h15 : I.1 491 15 = zi n) (hn : n ≤ 100) (h1 : ∀ i, i < n → I.1 501 i = zi (kd i)) (hK : ∀ J, eqQ Qlt I J → (∀ i, i < n → J.1 520 i = zi (kd i)) → K J) : w_M_laysTry (-1) 0 (-1) (-1) I K := by
  unfold w_M_laysTry
  intro I1 e1
  intro P8 h8
  have q1 : eqQ Qlt I I1 := by rw [e1]; exact eqQ.rf.zu (Or.inr ⟨rfl, rfl⟩)
  have main : ∀ (d i : Nat) (J : zI), i + d = n → eqQ Qlt I J → J.1 491 41 = zi i → (∀ q, q < i → J.1 520 q = zi (kd q)) → P8 (zi i) J := by
    intro d
    induction d with
    | zero =>
      intro i J hi q h41 hkd
      refine h8 _ _ ?_
      rw [show J.1 491 15 = zi n by rw [q.1 491 15 (by unfold Qlt; omega)]; exact h15, if_pos ((zi_le (by omega) (by omega)).mpr (by omega))]
      exact hK J q (fun p hp => hkd p (by omega))
    | succ d ih =>
      intro i J hi q h41 hkd
      refine h8 _ _ ?_
      rw [show J.1 491 15 = zi n by rw [q.1 491 15 (by unfold Qlt; omega)]; exact h15, if_neg (fun u => by have := (zi_le (by omega) (by omega)).mp u; omega)]
      intro P44 h44
      have hneg : ∀ w : Int32, 0 ≤ w → ¬ w < -1 ∧ w ≠ -1 ∧ -1 + 0 ≤ w := fun w hw => by
        refine ⟨fun u => ?_, fun u => ?_, ?_⟩
        · have := Int32.lt_of_le_of_lt hw u
          revert this
          decide
        · rw [u] at hw
          revert hw
          decide
        · exact Int32.le_trans (by decide) hw
      obtain ⟨w1, w2, w3⟩ := hneg (zi i) (zi_ge (by omega))
      rw [if_neg w2]
      refine h44 J ?_
      intro P87 h87 P61 h61
      rw [if_neg w1, if_pos w3]
      refine h61 ⟨(zin_iff (by omega)).mpr (by omega), ?_⟩
      rw [h41, zi_tn (show i < 2147483648 by omega), show J.1 501 i = zi (kd i) by rw [q.1 501 i (by unfold Qlt; omega)]; exact h1 i (by omega)]
      refine ⟨(zin_iff (by omega)).mpr (by omega), fun I7 e7 I8 e8 => h87 I8 (fun v ev => ?_)⟩
      have g7 : I7.1 491 41 = zi i := by rw [e7, zu_oo (by decide)]; exact h41
      rw [g7, zi_succ] at e8
      rw [ev, zi_succ]
      refine ih (i + 1) I8 (by omega) ?_ (by rw [e8, zu_self]) (fun p hp => ?_)
      · rw [e8, e7]
        exact (q.zu (Or.inl rfl)).zu (Or.inr ⟨rfl, rfl⟩)
      · rw [e8, zu_oo (by decide), e7]
        by_cases u : p = i
        · rw [u, zu_self]
        · rw [zu_at, if_neg (by omega)]
          exact hkd p (by omega)
  exact main n 0 I1 (by omega) q1 (by rw [e1, zu_self]; rfl) (fun q hq => by omega)
