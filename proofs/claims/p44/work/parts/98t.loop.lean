/-! ===== the thirty turns ===== -/
theorem turn_E {x x2 : Sg} {is : Int32} (h : Turn x x2 is) : sgE x2 ≤ sgE x + 1 := by
  rcases h with ⟨-, e⟩ | ⟨-, e⟩ | ⟨xT, d, tp, e, -, -, rfl, -⟩
  · omega
  · rw [(sg_same e).1]
    omega
  · rw [chg_cnt.2.1, (sg_same e).1]
    exact Nat.le_refl _
theorem s_55 {x : Sg} {S : List zC} {I : zI} {c0 u0 k : Nat} {P44 : Int32 → Int32 → List zC → Nat → Nat → zI → Prop} (hs : Lsv x) (hR : RX I x) (hz : zZ I S.length) (h491 : 491 ≤ S.length) (hk : k < 44) (hT : sgT x = []) (hp : Pb x) (hE : sgE x ≤ 39) (hS : S.length ≤ 590000) (hc : c0 ≤ 590000) (hu : u0 ≤ 7100000)
    (hP : ∀ x2 S2 c2 u2 J, Lsv x2 → RX J x2 → sgT x2 = [] → Pb x2 → sgE x2 ≤ sgE x + 1 → zZ J S2.length → 491 ≤ S2.length → S2.length ≤ S.length + 1200 → c2 ≤ c0 + 1200 → u2 ≤ u0 + 20000 → P44 1 (zi (k + 1)) S2 c2 u2 J) : w_law_55 (zi k) P44 c0 u0 S I := by
  have hv := hs.1
  have l99 := rnR_99 hv
  have h44 : vp_in (zi k) 44 := (zin_iff (by omega)).mpr hk
  refine k_0 hR (k_6 hR (k_8 hR (k_9 hR (k_2 hR ?_))))
  intro P100 h100
  have go : P100 (b01 (moB (sgC x))) := by
    refine h100 _ ?_
    refine k_4 hR (k_5 hR (t_runs hR ?_))
    rw [show vRuns x = zi (rnR x).length from rfl, zi_succ]
    refine ⟨h44, fun v271 => ⟨zi_ne (b := 0) (by omega) (by decide) (by omega), fun v13 e13 => ?_⟩⟩
    obtain ⟨i, hi, ei⟩ := rem_zi (v := v271 >>> ((9 : Int32) &&& (31 : Int32))) (c := 255) (n := (rnR x).length + 1) (by decide) (by omega) (by omega)
    have e13 : v13 = zi i := e13.trans ei
    subst e13
    refine ⟨⟨by omega, by omega⟩, ?_⟩
    refine s_ltext hv hR hz h491 (fun S1 J1 n1 r1 a1 => ?_)
    have l1 := n1.len
    have u1 := n1.2.1
    refine ⟨h44, fun v278 x279 _ P1422 h1422 => ?_⟩
    have nx : ∀ x2 is S2 c2 u2 J, Nxt x S1 (c0 + 1) (u0 + 400) x2 is S2 c2 u2 J → P1422 1 is S2 c2 u2 J := fun x2 is S2 c2 u2 J h => by
      obtain ⟨y1, y2, y3, y4, y5, y6, y7, y8, y9, y10⟩ := h
      refine h1422 _ _ _ _ _ _ (s_1422 hv y1 y2 y6 (by omega) y5 (by omega) (by omega) (fun S3 J3 n3 => ?_))
      have l3 := n3.len
      have u3 := n3.2.1
      exact hP x2 S3 _ _ J3 y1 (n3.rx (by omega) y1.1 y2) y3 y4 (turn_E y5) n3.2.2.2 (by omega) (by omega) (by omega) (by omega)
    by_cases c0 : x279 = 0
    · rw [if_pos c0]
      exact s_196 hs r1 n1.2.2.2 (by omega) hk hT hp a1 h491 nx
    rw [if_neg c0]
    by_cases c1 : x279 = 1
    · rw [if_pos c1]
      exact s_382 hs r1 n1.2.2.2 (by omega) hT hp nx
    rw [if_neg c1]
    by_cases c2 : x279 = 2
    · rw [if_pos c2]
      exact s_434 hs r1 n1.2.2.2 (by omega) hT hp hE (by omega) nx
    rw [if_neg c2]
    by_cases c3 : x279 = 3
    · rw [if_pos c3]
      exact s_540 hs r1 n1.2.2.2 (by omega) hT hp hE (by omega) nx
    rw [if_neg c3]
    by_cases c4 : x279 = 4
    · rw [if_pos c4]
      exact s_666 hs r1 n1.2.2.2 (by omega) hT hp hE (by omega) nx
    rw [if_neg c4]
    by_cases c5 : x279 = 5
    · rw [if_pos c5]
      exact s_747 hs r1 n1.2.2.2 (by omega) hk hT hp hE a1 (by omega) (by omega) (by omega) nx
    rw [if_neg c5]
    exact s_1090 hs r1 n1.2.2.2 (by omega) hk hT hp hE a1 (by omega) (by omega) (by omega) nx
  cases hb : moB (sgC x) with
  | true =>
    rw [hb] at go
    rw [if_pos b01_t]
    exact go
  | false =>
    rw [hb] at go
    rw [if_neg (show ¬ b01 false = 1 by decide)]
    exact go
theorem up_k {a b c d k : Nat} (h1 : a ≤ c + d * k) (h2 : b ≤ a + d) : b ≤ c + d * (k + 1) := by
  rw [Nat.mul_succ]
  omega
theorem s_39 {x : Sg} {S : List zC} {I : zI} {c0 u0 : Nat} (hs : Lsv x) (hR : RX I x) (hz : zZ I S.length) (h491 : 491 ≤ S.length) (hT : sgT x = []) (hp : Pb x) (hE : sgE x = 0) (hS : S.length ≤ 500) (hc : c0 ≤ 500) (hu : u0 ≤ 130000)
    (hP : ∀ x2 S2 c2 u2 J, Lsv x2 → RX J x2 → sgT x2 = [] → Pb x2 → sgE x2 ≤ 30 → zZ J S2.length → 491 ≤ S2.length → S2.length ≤ 40000 → c2 ≤ 40000 → u2 ≤ 900000 → w_law_1615 1 c2 u2 S2 J) : w_law_39 c0 u0 S I := by
  intro P44 h44
  have key : ∀ (d k : Nat) (y : Sg) (S2 : List zC) (c2 u2 : Nat) (J : zI), d + k = 30 → Lsv y → RX J y → sgT y = [] → Pb y → sgE y ≤ k → zZ J S2.length → 491 ≤ S2.length → S2.length ≤ 500 + 1200 * k → c2 ≤ 500 + 1200 * k → u2 ≤ 130000 + 20000 * k → P44 1 (zi k) S2 c2 u2 J := by
    intro d
    induction d with
    | zero =>
      intro k y S2 c2 u2 J hd y1 y2 y3 y4 y5 y6 y7 y8 y9 y10
      refine h44 _ _ _ _ _ _ ?_
      intro P1615 h1615
      rw [if_pos (show (30 : Int32) ≤ zi k from (zi_le (a := 30) (by decide) (by omega)).mpr (by omega))]
      exact h1615 (hP y S2 c2 u2 J y1 y2 y3 y4 (by omega) y6 y7 (by omega) (by omega) (by omega))
    | succ d ih =>
      intro k y S2 c2 u2 J hd y1 y2 y3 y4 y5 y6 y7 y8 y9 y10
      refine h44 _ _ _ _ _ _ ?_
      intro P1615 _
      rw [if_neg (show ¬ (30 : Int32) ≤ zi k from fun w => by have := (zi_le (a := 30) (by decide) (by omega)).mp w; omega), if_neg (show ¬ (1 : Int32) = 0 by decide)]
      refine s_55 y1 y2 y6 y7 (by omega) y3 y4 (by omega) (by omega) (by omega) (by omega) (fun x2 S3 c3 u3 J3 z1 z2 z3 z4 z5 z6 z7 z8 z9 z10 => ?_)
      exact ih (k + 1) x2 S3 c3 u3 J3 (by omega) z1 z2 z3 z4 (by omega) z6 z7 (up_k y8 z8) (up_k y9 z9) (up_k y10 z10)
  exact key 30 0 x S c0 u0 I rfl hs hR hT hp (by omega) hz h491 (by omega) (by omega) (by omega)
