/-! ===== row: the class ===== -/
theorem dp_fin : ∀ n, n < 100 → dpF 9 n ≤ 7 ∧ n ≤ 2 ^ dpF 9 n ∧ ∀ d, d < dpF 9 n → 2 ^ d < n := by decide +kernel
theorem sh1_fin : ∀ d, d < 8 → (1 : Int32) <<< (zi d &&& 31) = zi (2 ^ d) ∧ 2 ^ d ≤ 128 := by decide +kernel
theorem t_depthOf {n : Nat} {I : zI} {K : Int32 → Prop} (hn : n < 100) (h : K (zi (dpF 9 n))) : w_Pairs_depthOf (zi n) I K := by
  obtain ⟨d1, d2, d3⟩ := dp_fin n hn
  intro P2 h2
  have main : ∀ (e d : Nat), d + e = dpF 9 n → P2 (zi d) := by
    intro e
    induction e with
    | zero =>
      intro d hd
      obtain ⟨s1, s2⟩ := sh1_fin d (by omega)
      have hd' : d = dpF 9 n := by omega
      refine h2 _ ?_
      rw [if_neg (show ¬ (30 : Int32) ≤ zi d from nle_zi (n := 30) (by omega) (by decide)), s1, if_pos ((zi_le (by omega) (by omega)).mpr (by rw [hd']; exact d2)), hd']
      exact h
    | succ e ih =>
      intro d hd
      obtain ⟨s1, s2⟩ := sh1_fin d (by omega)
      have := d3 d (by omega)
      refine h2 _ ?_
      rw [if_neg (show ¬ (30 : Int32) ≤ zi d from nle_zi (n := 30) (by omega) (by decide)), s1, if_neg (nle_zi this (by omega))]
      intro v ev
      rw [ev, zi_succ]
      exact ih (d + 1) (by omega)
  exact main (dpF 9 n) 0 (Nat.zero_add _)
theorem t_row {x : Sg} {a : Int32} {I : zI} {K : Int32 → Prop} (hv : Iv x) (hp : Pc x) (hR : RX I x) (h : K (vRow x a)) : w_Desk_row a I K := by
  obtain ⟨s, hA⟩ := hR.now
  have l99 := rnR_99 hv
  unfold w_Desk_row
  unfold vRow at h
  by_cases a0 : a = 0
  · rw [if_pos a0] at h ⊢
    refine s_now hA.1 hA.2.1 ?_
    rw [show I.1 (zmom s) 8 = moW (sgC x) from hA.2.2.2.2.2.2.2.2.2.2, hp.1.2]
    exact h
  · rw [if_neg a0] at h ⊢
    by_cases a1 : a = 1
    · rw [if_pos a1] at h ⊢
      rw [show I.1 43 11 = zi (rnR x).length from hR.2.2.1.2.2.2.1.1]
      exact t_depthOf (by omega) h
    · rw [if_neg a1] at h ⊢
      exact h
