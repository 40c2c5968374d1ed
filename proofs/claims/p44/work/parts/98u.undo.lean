/-! ===== undone all the way, done again ===== -/
theorem undo_keep {x : Sg} (hs : Lsv x) (hp : Pb x) : Lsv (undoR x).2 ∧ Pb (undoR x).2 ∧ sgT (undoR x).2 = sgT x ∧ sgE (undoR x).2 = sgE x := by
  refine ⟨(undo_ls hs).1, undo_pb hp, ?_, (undo_iv hs.1).2⟩
  unfold undoR
  cases sgA x <;> rfl
theorem undK_keep {x : Sg} (hs : Lsv x) (hp : Pb x) : ∀ k, Lsv (undK k x) ∧ Pb (undK k x) ∧ sgT (undK k x) = sgT x ∧ sgE (undK k x) = sgE x
  | 0 => ⟨hs, hp, rfl, rfl⟩
  | k + 1 => by
    obtain ⟨a, b, c, d⟩ := undK_keep hs hp k
    obtain ⟨e, f, g, h⟩ := undo_keep a b
    rw [undK_s]
    exact ⟨e, f, g.trans c, h.trans d⟩
theorem mod4 {k : Nat} (hk : k < 2147483648) : zi k - zi k / (4 : Int32) * (4 : Int32) = zi (k % 4) := by
  rw [show zi k / (4 : Int32) = zi (k / 4) from zi_div (b := 4) hk (by decide), show zi (k / 4) * (4 : Int32) = zi (k / 4 * 4) from zi_mul _ 4, zi_sub (Nat.div_mul_le_self k 4)]
  congr 1
  omega
theorem s_1615 {x : Sg} {S : List zC} {I : zI} {c0 u0 : Nat} (hs : Lsv x) (hR : RX I x) (hz : zZ I S.length) (h491 : 491 ≤ S.length) (hp : Pb x) (hS : S.length ≤ 50000) (hc : c0 ≤ 50000) (hu : u0 ≤ 1000000)
    (hP : ∀ S2 c2 u2 J, RX J (undK (sgA x).length x) → zZ J S2.length → 491 ≤ S2.length → S2.length ≤ 70000 → c2 ≤ 70000 → u2 ≤ 1100000 → w_law_1692 1 (zi (moR (sgC x))) (zi (moT (sgC x)).length) (zi (sgA x).length) (zi (sgZ x).length) c2 u2 S2 J) : w_law_1615 1 c0 u0 S I := by
  have hv := hs.1
  have hAZ := hv.2.2.2.2.2.2.2.2.2.2
  refine k_4 hR (k_0 hR (k_8 hR (k_9 hR ?_)))
  intro P1648 h1648
  have key : ∀ (d k : Nat) (S2 : List zC) (c2 u2 : Nat) (J : zI), d + k = (sgA x).length → RX J (undK k x) → zZ J S2.length → 491 ≤ S2.length → S2.length ≤ 50000 + 500 * k → c2 ≤ 50000 + 500 * k → u2 ≤ 1000000 + 3000 * k → P1648 1 (zi k) S2 c2 u2 J := by
    intro d
    induction d with
    | zero =>
      intro k S2 c2 u2 J hd r z1 z2 z3 z4 z5
      refine h1648 _ _ _ _ _ _ ?_
      intro P1692 h1692
      rw [if_pos (show zi (sgA x).length ≤ zi k from (zi_le (by omega) (by omega)).mpr (by omega))]
      rw [show k = (sgA x).length by omega] at r
      exact h1692 (hP S2 c2 u2 J r z1 z2 (by omega) (by omega) (by omega))
    | succ d ih =>
      intro k S2 c2 u2 J hd r z1 z2 z3 z4 z5
      obtain ⟨ks, kp, kT, kE⟩ := undK_keep hs hp k
      obtain ⟨kl, -⟩ := undK_len (x := x) k (by omega)
      refine h1648 _ _ _ _ _ _ ?_
      intro P1692 _
      rw [if_neg (show ¬ zi (sgA x).length ≤ zi k from nle_zi (by omega) (by omega)), if_neg (show ¬ (1 : Int32) = 0 by decide)]
      refine s_undo ks.1 r (fun L q r2 => ?_)
      obtain ⟨b1, -⟩ := undo_red (x := undK k x) (by omega)
      have ls2 := (undo_keep ks kp).1
      rw [← undK_s] at r2 ls2
      rw [b1]
      intro P1685 h1685 P1684 _
      rw [if_neg (show ¬ (1 : Int32) = 0 by decide)]
      intro P1680 h1680
      have on : ∀ S3 c3 u3 L3, RX L3 (undK (k + 1) x) → zZ L3 S3.length → S2.length ≤ S3.length → S3.length ≤ S2.length + 500 → c3 ≤ c2 + 500 → u3 ≤ u2 + 3000 → P1680 S3 c3 u3 L3 := fun S3 c3 u3 L3 w1 w2 w3 w4 w5 w6 => h1680 _ _ _ _ (h1685 _ _ _ _ _ (fun v8 e8 => by
        subst e8
        rw [zi_succ]
        exact ih (k + 1) S3 c3 u3 L3 (by omega) w1 w2 (by omega) (up_k z3 w4) (up_k z4 w5) (up_k z5 w6)))
      have zL : zZ L S2.length := cl_zZ z1 z2 q
      rw [mod4 (show k < 2147483648 by omega)]
      by_cases m0 : 0 < k % 4
      · rw [if_pos (show (0 : Int32) < zi (k % 4) from (zi_lt (a := 0) (by decide) (by omega)).mpr m0)]
        exact on _ _ _ _ r2 zL (Nat.le_refl _) (by omega) (by omega) (by omega)
      · rw [if_neg (show ¬ (0 : Int32) < zi (k % 4) from fun w => m0 ((zi_lt (a := 0) (by decide) (by omega)).mp w))]
        refine ⟨⟨by omega, by omega⟩, s_stands ls2 r2 zL z2 (fun S3 L3 n3 => ?_)⟩
        rw [if_neg (show ¬ (1 : Int32) = 0 by decide)]
        exact on _ _ _ _ (n3.rx z2 ls2.1 r2) n3.2.2.2 n3.len n3.2.1 (Nat.le_refl _) (Nat.le_refl _)
  exact key (sgA x).length 0 S c0 u0 I rfl hR hz h491 (by omega) (by omega) (by omega)
theorem redK {x : Sg} {k : Nat} (h : k + 1 ≤ (sgA x).length) : redoR (undK (k + 1) x) = (1, undK k x) := undK_redo h
/-- the desk at the end, whatever is there -/
theorem s_2064 {x : Sg} {S : List zC} {I : zI} {c0 u0 : Nat} (hs : Lsv x) (hR : RX I x) (hz : zZ I S.length) (h491 : 491 ≤ S.length) (hp : Pb x) (hT : sgT x = []) (hE : sgE x ≤ 31)
    (hP : ∀ x2 J, Lsv x2 → RX J x2 → sgT x2 = [] → sgE x2 ≤ 31 → zZ J S.length → w_law_2093 1 c0 u0 S J) : w_law_2064 1 c0 u0 S I := by
  intro P2067 h2067
  have key : ∀ (d k : Nat) (y : Sg) (J : zI), d + k = 21 → Lsv y → Pb y → RX J y → sgT y = [] → sgE y ≤ 31 → zZ J S.length → P2067 (zi k) J := by
    intro d
    induction d with
    | zero =>
      intro k y J hd y1 y2 y3 y4 y5 y6
      refine h2067 _ _ ?_
      intro P2093 h2093
      rw [if_pos (show (21 : Int32) ≤ zi k from (zi_le (a := 21) (by decide) (by omega)).mpr (by omega))]
      exact h2093 (hP y J y1 y3 y4 y5 y6)
    | succ d ih =>
      intro k y J hd y1 y2 y3 y4 y5 y6
      refine h2067 _ _ ?_
      intro P2093 h2093
      rw [if_neg (show ¬ (21 : Int32) ≤ zi k from fun w => by have := (zi_le (a := 21) (by decide) (by omega)).mp w; omega)]
      refine k_2 y3 ?_
      split
      · refine s_undo y1.1 y3 (fun L q r v8 e8 => ?_)
        subst e8
        rw [zi_succ]
        obtain ⟨a, b, c, e⟩ := undo_keep y1 y2
        exact ih (k + 1) _ L (by omega) a b r (c.trans y4) (by omega) (cl_zZ y6 h491 q)
      · exact h2093 (hP y J y1 y3 y4 y5 y6)
  exact key 21 0 x I rfl hs hp hR hT hE hz
