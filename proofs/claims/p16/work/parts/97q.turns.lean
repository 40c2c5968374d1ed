/-! ===== the law's turns ===== -/
theorem lw_sw {L : Nat} {xs : Nat → Int32} {a v3 : Int32} {I : zI} {x : Sg} {J : zI → Prop} (B : Bov I x) (he : sgE x < 512) (v1 : vp_in (v3 + 1) L) (v2 : vp_in (v3 + 2) L) (v3h : vp_in (v3 + 3) L) (v4 : vp_in (v3 + 4) L) (v5 : vp_in (v3 + 5) L) (hJ : ∀ I2 x2, Bov I2 x2 → sgE x2 ≤ sgE x + 1 → J I2) : w_law_sw L xs a v3 I J := by
  unfold w_law_sw
  by_cases c0 : a = 0
  · rw [if_pos c0]
    exact lw_0 B he v1 v2 v3h v4 v5 hJ
  rw [if_neg c0]
  by_cases c1 : a = 1
  · rw [if_pos c1]
    exact lw_1 B he v1 v2 v3h v4 v5 hJ
  rw [if_neg c1]
  by_cases c2 : a = 2
  · rw [if_pos c2]
    exact lw_2 B he v1 v2 v3h v4 v5 hJ
  rw [if_neg c2]
  by_cases c3 : a = 3
  · rw [if_pos c3]
    exact lw_3 B he v1 v2 v3h v4 v5 hJ
  rw [if_neg c3]
  by_cases c4 : a = 4
  · rw [if_pos c4]
    exact lw_4 B he v1 v2 v3h v4 v5 hJ
  rw [if_neg c4]
  by_cases c5 : a = 5
  · rw [if_pos c5]
    exact lw_5 B he v1 v2 v3h v4 v5 hJ
  rw [if_neg c5]
  by_cases c6 : a = 6
  · rw [if_pos c6]
    exact lw_6 B he v1 v2 v3h v4 v5 hJ
  rw [if_neg c6]
  by_cases c7 : a = 7
  · rw [if_pos c7]
    exact lw_7 B he v1 v2 v3h v4 v5 hJ
  rw [if_neg c7]
  by_cases c8 : a = 8
  · rw [if_pos c8]
    exact lw_8 B he v1 v2 v3h v4 v5 hJ
  rw [if_neg c8]
  by_cases c9 : a = 9
  · rw [if_pos c9]
    exact lw_9 B he v1 v2 v3h v4 v5 hJ
  rw [if_neg c9]
  by_cases c10 : a = 10
  · rw [if_pos c10]
    exact lw_10 B he v1 v2 v3h v4 v5 hJ
  rw [if_neg c10]
  by_cases c11 : a = 11
  · rw [if_pos c11]
    exact lw_11 B he v1 v2 v3h v4 v5 hJ
  rw [if_neg c11]
  by_cases c12 : a = 12
  · rw [if_pos c12]
    exact lw_12 B he v1 v2 v3h v4 v5 hJ
  rw [if_neg c12]
  by_cases c13 : a = 13
  · rw [if_pos c13]
    exact lw_13 B he v1 v2 v3h v4 v5 hJ
  rw [if_neg c13]
  by_cases c14 : a = 14
  · rw [if_pos c14]
    exact lw_14 B he v1 v2 v3h v4 v5 hJ
  rw [if_neg c14]
  by_cases c15 : a = 15
  · rw [if_pos c15]
    exact lw_15 B he v1 v2 v3h v4 v5 hJ
  rw [if_neg c15]
  by_cases c16 : a = 16
  · rw [if_pos c16]
    exact lw_16 B he v1 v2 v3h v4 v5 hJ
  rw [if_neg c16]
  by_cases c17 : a = 17
  · rw [if_pos c17]
    exact lw_17 B he v1 v2 v3h v4 v5 hJ
  rw [if_neg c17]
  by_cases c18 : a = 18
  · rw [if_pos c18]
    exact lw_18 B he v1 v2 v3h v4 v5 hJ
  rw [if_neg c18]
  by_cases c19 : a = 19
  · rw [if_pos c19]
    exact lw_19 B he v1 v2 v3h v4 v5 hJ
  rw [if_neg c19]
  by_cases c20 : a = 20
  · rw [if_pos c20]
    exact lw_20 B he v1 v2 v3h v4 v5 hJ
  rw [if_neg c20]
  by_cases c21 : a = 21
  · rw [if_pos c21]
    exact lw_21 B he v1 v2 v3h v4 v5 hJ
  rw [if_neg c21]
  by_cases c22 : a = 22
  · rw [if_pos c22]
    exact lw_22 B he v1 v2 v3h v4 v5 hJ
  rw [if_neg c22]
  by_cases c23 : a = 23
  · rw [if_pos c23]
    exact lw_23 B he v1 v2 v3h v4 v5 hJ
  rw [if_neg c23]
  by_cases c24 : a = 24
  · rw [if_pos c24]
    exact lw_24 B he v1 v2 v3h v4 v5 hJ
  rw [if_neg c24]
  by_cases c25 : a = 25
  · rw [if_pos c25]
    exact lw_25 B he v1 v2 v3h v4 v5 hJ
  rw [if_neg c25]
  by_cases c26 : a = 26
  · rw [if_pos c26]
    exact lw_26 B he v1 v2 v3h v4 v5 hJ
  rw [if_neg c26]
  by_cases c27 : a = 27
  · rw [if_pos c27]
    exact lw_27 B he v1 v2 v3h v4 v5 hJ
  rw [if_neg c27]
  by_cases c28 : a = 28
  · rw [if_pos c28]
    exact lw_28 B he v1 v2 v3h v4 v5 hJ
  rw [if_neg c28]
  by_cases c29 : a = 29
  · rw [if_pos c29]
    exact lw_29 B he v1 v2 v3h v4 v5 hJ
  rw [if_neg c29]
  by_cases c30 : a = 30
  · rw [if_pos c30]
    exact lw_30 B he v1 v2 v3h v4 v5 hJ
  rw [if_neg c30]
  by_cases c31 : a = 31
  · rw [if_pos c31]
    exact lw_31 B he v1 v2 v3h v4 v5 hJ
  rw [if_neg c31]
  by_cases c32 : a = 32
  · rw [if_pos c32]
    exact lw_32 B he v1 v2 v3h v4 v5 hJ
  rw [if_neg c32]
  by_cases c33 : a = 33
  · rw [if_pos c33]
    exact lw_33 B he v1 v2 v3h v4 v5 hJ
  rw [if_neg c33]
  by_cases c34 : a = 34
  · rw [if_pos c34]
    exact lw_34 B he v1 v2 v3h v4 v5 hJ
  rw [if_neg c34]
  by_cases c35 : a = 35
  · rw [if_pos c35]
    exact lw_35 B he v1 v2 v3h v4 v5 hJ
  rw [if_neg c35]
  by_cases c36 : a = 36
  · rw [if_pos c36]
    exact lw_36 B he v1 v2 v3h v4 v5 hJ
  rw [if_neg c36]
  by_cases c37 : a = 37
  · rw [if_pos c37]
    exact lw_37 B he v1 v2 v3h v4 v5 hJ
  rw [if_neg c37]
  by_cases c38 : a = 38
  · rw [if_pos c38]
    exact lw_38 B he v1 v2 v3h v4 v5 hJ
  rw [if_neg c38]
  by_cases c39 : a = 39
  · rw [if_pos c39]
    exact lw_39 B he v1 v2 v3h v4 v5 hJ
  rw [if_neg c39]
  by_cases c40 : a = 40
  · rw [if_pos c40]
    exact lw_40 B he v1 v2 v3h v4 v5 hJ
  rw [if_neg c40]
  exact hJ I x B (Nat.le_succ _)
theorem lw_small : ∀ L, L < 6 → zi L - 6 < zi 0 := by decide
theorem lw_body {L : Nat} (hL : L ≤ 3072) {xs : Nat → Int32} {I : zI} {x : Sg} (B : Bov I x) (h0 : sgE x = 0) : w_law_body L xs I := by
  intro P hP
  have main : ∀ (d k : Nat) (I : zI) (x : Sg), L < 6 * (k + d) + 6 → 6 * k ≤ L → Bov I x → sgE x ≤ k → P (zi (6 * k)) I := by
    intro d
    induction d with
    | zero =>
      intro k I x h1 h2 B he
      refine hP _ _ ?_
      have : Int32.ofNat L - 6 < zi (6 * k) := by
        show zi L - 6 < zi (6 * k)
        by_cases u : L < 6
        · rw [show 6 * k = 0 by omega]
          exact lw_small L u
        · rw [show zi L - 6 = zi (L - 6) from zi_sub (b := 6) (by omega)]
          exact (zi_lt (by omega) (by omega)).mpr (by omega)
      rw [if_pos this]
      trivial
    | succ d ih =>
      intro k I x h1 h2 B he
      refine hP _ _ ?_
      by_cases w : L < 6 * k + 6
      · have : Int32.ofNat L - 6 < zi (6 * k) := by
          show zi L - 6 < zi (6 * k)
          by_cases u : L < 6
          · rw [show 6 * k = 0 by omega]
            exact lw_small L u
          · rw [show zi L - 6 = zi (L - 6) from zi_sub (b := 6) (by omega)]
            exact (zi_lt (by omega) (by omega)).mpr (by omega)
        rw [if_pos this]
        trivial
      · rw [if_neg (show ¬ Int32.ofNat L - 6 < zi (6 * k) from fun u => by
          have e : Int32.ofNat L - 6 = zi (L - 6) := zi_sub (a := L) (b := 6) (by omega)
          rw [e] at u
          have := (zi_lt (by omega) (by omega)).mp u
          omega)]
        have vin : ∀ j : Nat, j < 6 → vp_in (zi (6 * k) + zi j) L := fun j hj => by
          rw [zi_add]
          exact (zin_iff (by omega)).mpr (by omega)
        refine ⟨(zin_iff (by omega)).mpr (by omega), fun a _ => lw_sw B (by omega) (vin 1 (by decide)) (vin 2 (by decide)) (vin 3 (by decide)) (vin 4 (by decide)) (vin 5 (by decide)) (fun I2 x2 B2 he2 => ?_)⟩
        rw [show zi (6 * k) + 6 = zi (6 * (k + 1)) from zi_add (6 * k) 6]
        exact ih (k + 1) I2 x2 (by omega) (by omega) B2 (by omega)
  exact main (L + 1) 0 I x (by omega) (by omega) B (by omega)
