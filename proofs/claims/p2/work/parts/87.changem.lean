theorem TapM.kp {I J : zI} {t : List Int32} (h : TapM I t) (e1 : J.1 491 0 = I.1 491 0) (e2 : ∀ j, J.1 492 j = I.1 492 j) : TapM J t := ⟨e1.trans h.1, fun j v hj => by rw [e2]; exact h.2 j v hj⟩
theorem ViM.kp {I J : zI} {N : Nat → Nd} {R n : Nat} (h : ViM I N R n) (e : ∀ a j, (a = 491 ∧ (j = 37 ∨ j = 43 ∨ j = 51 ∨ j = 53)) ∨ (521 ≤ a ∧ a ≤ 526) ∨ a = 528 ∨ a = 529 → J.1 a j = I.1 a j) : ViM J N R n := by
  obtain ⟨v1, ⟨v2, v3, v4⟩, v5, v6, v7, v8, v9⟩ := h
  refine ⟨by rw [e _ _ (by omega)]; exact v1, ⟨by rw [e _ _ (by omega)]; exact v2, fun i x hi hx => ?_, fun c hc hno => by rw [e _ _ (by omega)]; exact v4 c hc hno⟩, fun i x hx => ?_, by rw [e _ _ (by omega)]; exact v6, by rw [e _ _ (by omega)]; exact v7, fun i r hi => by rw [e _ _ (by omega)]; exact v8 i r hi, fun i r hi => by rw [e _ _ (by omega)]; exact v9 i r hi⟩
  · obtain ⟨b1, b2, o, b3, b4, b5⟩ := v3 i x hi hx
    rw [e 521 _ (by omega), e 523 _ (by omega)]
    exact ⟨b1, b2, o, b3, by rw [e 526 _ (by omega)]; exact b4, b5⟩
  · obtain ⟨b1, b2, b3⟩ := v5 i x hx
    rw [e 522 _ (by omega)]
    refine ⟨b1, fun u => by rw [e 524 _ (by omega)]; exact b2 u, fun u => ?_⟩
    obtain ⟨y, j, c1, c2, c3, c4⟩ := b3 u
    exact ⟨y, j, c1, c2, by rw [e 524 _ (by omega)]; exact c3, by rw [e 525 _ (by omega)]; exact c4⟩
theorem PrM.kp {I J : zI} {pl : List (Nat × Nat)} (h : PrM I pl) (e : ∀ a j, (a = 491 ∧ j = 59) ∨ a = 533 ∨ a = 534 → J.1 a j = I.1 a j) : PrM J pl :=
  ⟨by rw [e _ _ (by omega)]; exact h.1, fun i p hi => by rw [e 533 _ (by omega), e 534 _ (by omega)]; exact h.2.1 i p hi, h.2.2⟩
theorem ViM.fm {m R n : Nat} {og : Nat → Nat} {I : zI} {N : Nat → Nd} (hN : NdOk m N) (hu : UqE m N) (t : TreeI m N R n og) (h : ViM I N R n) : FlM I (flR N R) := fun p x hx => by
  have fg := t.flG hN hu
  obtain ⟨b1, b2, o, b3, b4, b5⟩ := h.2.1.2.1 p x (List.getElem?_eq_some_iff.mp hx).1 hx
  obtain ⟨c1, c2, c3⟩ := h.2.2.1 p x hx
  refine ⟨c2, fun u y hy => ?_, fun u => ?_⟩
  · obtain ⟨y', j, d1, d2, d3, d4⟩ := c3 u
    rw [hy] at d1
    cases d1
    exact d3
  · rw [b4, b5 u, zi_int]
theorem r_ruleNodes {m R n : Nat} {og : Nat → Nat} {I : zI} {N : Nat → Nd} {K : Int32 → Prop} (hN : NdOk m N) (hu : UqE m N) (hm : m ≤ 3700) (t : TreeI m N R n og) (h : ViM I N R n) (hK : ∀ v, K v) : w_M_ruleNodes I K := by
  have fg := t.flG hN hu
  have hl := t.few hN
  have hlen : (flR N R).length = sz N R := fl_len hN R t.1 _ _ _ _
  intro P4 h4
  have main : ∀ (d k : Nat) (v : Int32), k + d = (flR N R).length → P4 v (zi k) := by
    intro d
    induction d with
    | zero =>
      intro k v hk
      refine h4 _ _ ?_
      rw [h.2.1.1, if_pos ((zi_le (by omega) (by omega)).mpr (by omega))]
      exact hK v
    | succ d ih =>
      intro k v hk
      refine h4 _ _ ?_
      have hx : (flR N R)[k]? = some ((flR N R)[k]'(by omega)) := List.getElem?_eq_getElem (by omega)
      generalize (flR N R)[k]'(by omega) = x at hx
      have hxm := (fg.1.2 k x hx).1
      rw [h.2.1.1, if_neg (fun u => by have := (zi_le (by omega) (by omega)).mp u; omega), zi_tn (show k < 2147483648 by omega), (h.2.1.2.1 k x (by omega) hx).1]
      refine ⟨(zin_iff (by omega)).mpr (by omega), (zin_iff (by omega)).mpr (by omega), ?_⟩
      intro P29 h29
      have nx : ∀ w, P29 w := fun w => h29 w (fun v' ev => by
        rw [ev, zi_succ]
        exact ih (k + 1) w (by omega))
      split
      · exact nx _
      · intro v' ev
        exact nx _
  exact main (flR N R).length 0 0 (by omega)
/-- what a change of the model may touch -/
def Qmo (a j : Nat) : Prop := 491 ≤ a ∧ a < 546
theorem s_edited {x : Sg} {d tp : List Int32} {I : zI} {K : Int32 → zI → Prop} (hv : Iv x) (hR : RM I (tp, x.2)) (hd : txOk d) (hnr : ¬ refu x d) (hn : NewT I d) (he : sgE x < 100000)
    (h1 : ∀ J, eqQ Qmo I J → RM J (chg x d tp) → K (if (regY x d).1 + 1 = (lexL d).length ∧ topS (regY x d).2.2.2.1 = 1 then 0 else 1) J) : w_M_edited I K := by
  obtain ⟨r1, r2, r3, r4, r5, r6, r7, nw, sC, sA, sZ⟩ := hR
  change RepNM I (sgM x) (sgN x) at r2
  change ViM I (sgN x) (moR (sgC x)) (lexL (moG (sgC x))).length at r3
  change PrM I (sgP x) at r4
  change I.1 491 36 = zi (sgE x) at r5
  change I.1 491 75 = zi (sgA x).length at r6
  change NowM I (sgC x) at nw
  change MoM I (sgA x).length (sgC x) at sC
  change ∀ (k : Nat) (y : Mo), (sgA x)[k]? = some y → MoM I ((sgA x).length - 1 - k) y at sA
  obtain ⟨m1, g, N1, k, y, hreg, hnm, hrun, ⟨ge, gi, hog, hm0, hm1⟩, g1, g2, g3, g4, g5, g6, g7, g8⟩ := reg_ok hv hd
  obtain ⟨hTp, hN, hu, hm, hTk, ⟨hP1, hP2⟩, hE, hC, hA, hZ, hAZ⟩ := id hv
  obtain ⟨oT, oG, oB, oR, oK⟩ := id hC
  have hY : regY x d = y := by
    unfold regY
    rw [hreg]
  have hgN : (reg x d).1.2.1 = g := by rw [hreg]
  unfold refu at hnr
  have lxd := lex_lxo hd
  have lxg := lex_lxo oG
  obtain ⟨kl1, kl2, kl3⟩ := kept_le (t := txF d) (t' := txF (moG (sgC x))) lxd.2.1 lxg.2.1
  obtain ⟨nw1, nw2, nw3, nw4, nw5, nw6, nw7, nw8, nw9, nw10⟩ := id nw
  have hl100 := lxd.2.2.1
  unfold w_M_edited
  intro v1 ev1 v2 ev2
  rw [r2.1] at ev1
  subst ev1
  refine r_ruleNodes hN hu (by omega) oR r3 (fun _ => ?_)
  intro I4 e4
  rw [r5, zi_succ] at e4
  have o4 : ∀ a j, ¬ (a = 491 ∧ j = 36) → I4.1 a j = I.1 a j := fun a j u => by rw [e4, zu_at, if_neg u]
  have o42 : I4.2 = I.2 := by rw [e4, zu_2]
  have hn4 : NewT I4 d := hn.kp (o4 _ _ (by omega)) (o4 _ _ (by omega)) (fun a j u => o4 a j (by omega)) (fun j => by rw [o42])
  have old4 : OldU I4 (txF (moG (sgC x))) (lexL (moG (sgC x))) := (GoodT.kp (J := I4) (d := moG (sgC x)) ⟨nw5, nw6, nw7⟩ (o4 _ _ (by omega)) (o4 _ _ (by omega)) (fun a j u => o4 a j (by omega)) (fun j => by rw [o42])).2.2
  refine s_fillsKept hn4.2.2 old4 lxd.2.1 lxg.2.1 lxd.2.2.1 lxg.2.2.1 lxd.1 lxg.1 (fun I5 q5 A5 B5 => ?_)
  have o5 : ∀ a j, ¬ (a = 491 ∧ (j = 36 ∨ j = 66 ∨ j = 67)) → I5.1 a j = I.1 a j := fun a j u => by rw [q5.1 a j (by omega), o4 a j (by omega)]
  have o52 : ∀ a j, a ≠ 491 → I5.2 a j = I.2 a j := fun a j u => by rw [q5.2 a j (by omega), o42]
  have g36 : I5.1 491 36 = zi (sgE x + 1) := by rw [q5.1 _ _ (by omega), e4, zu_self]
  have hn5 : NewT I5 d := hn.kp (o5 _ _ (by omega)) (o5 _ _ (by omega)) (fun a j u => o5 a j (by omega)) (fun j => o52 499 j (by decide))
  have rep5 : RepNM I5 (sgM x) (sgN x) := r2.kp2 (o5 _ _ (by omega)) (fun a j u1 u2 => o5 a j (by omega)) (fun j => o52 511 j (by decide))
  refine s_makesTokens (g := fun _ => 0) rep5 hN.ch hn5.2.2 lxd.1 g36 (by rw [o5 _ _ (by omega)]; exact nw7.1) A5 B5 (by omega) (by omega) (by omega) (by omega) lxd.2.2.1 lxg.2.2.1 (fun j hj => by rw [o5 _ _ (by omega)]; exact nw8 j hj) (by omega) (fun m' g' N' I7 hn' q7 rep7 _ _ gn7 => ?_)
  rw [hnm] at hn'
  cases hn'
  have o7 : ∀ a j, ¬ (a = 491 ∧ (j = 25 ∨ j = 36 ∨ j = 66 ∨ j = 67)) → ¬ (509 ≤ a ∧ a ≤ 517) → a ≠ 500 → I7.1 a j = I.1 a j := fun a j u1 u2 u3 => by rw [q7.1 a j (by unfold Qnu Qnm; omega), o5 a j (by omega)]
  have o72 : ∀ a j, a ≠ 491 → ¬ (509 ≤ a ∧ a ≤ 517) → a ≠ 500 → I7.2 a j = I.2 a j := fun a j u1 u2 u3 => by rw [q7.2 a j (by unfold Qnu Qnm; omega), o52 a j u1]
  have k7 : ∀ j, j ≠ 25 → I7.1 491 j = I5.1 491 j := fun j u => q7.1 491 j (by unfold Qnu Qnm; omega)
  have vi7 : ViM I7 (sgN x) (moR (sgC x)) (lexL (moG (sgC x))).length := r3.kp (fun a j u => o7 a j (by omega) (by omega) (by omega))
  refine s_grows (kd := fun i => ((lexL d).getD i (10, 0, 0)).1) ge gi (by omega) rep7 (vi7.fm hN hu oR) (by rw [k7 _ (by decide)]; exact g36) (by rw [o7 _ _ (by omega) (by omega) (by omega)]; exact hn.2.2.1) (by rw [o7 _ _ (by omega) (by omega) (by omega)]; exact nw7.1) (by rw [k7 _ (by decide)]; exact A5) (by rw [k7 _ (by decide)]; exact B5) (fun i hi => ?_) gn7 (fun i hi j hj => ?_) (fun I9 k' y' hrun' gi' gm' => ?_)
  · have hx : (lexL d)[i]? = some ((lexL d).getD i (10, 0, 0)) := by
      rw [List.getD_eq_getElem?_getD, List.getElem?_eq_getElem hi]
      rfl
    rw [o7 _ _ (by omega) (by omega) (by omega)]
    exact (hn.2.2.2 i _ hx).1
  · have hjn := wasN_lt hi (by omega) (by omega) (by omega) hj
    rw [o7 _ _ (by omega) (by omega) (by omega), nw8 j hjn, hog i hi j hj]
  rw [hrun] at hrun'
  cases hrun'
  obtain ⟨x1, x2, x3, x4, x5⟩ := gm'
  have o9 : ∀ a j, ¬ (a = 491 ∧ (j = 25 ∨ j = 36 ∨ j = 66 ∨ j = 67 ∨ (71 ≤ j ∧ j ≤ 73))) → ¬ (509 ≤ a ∧ a ≤ 517) → a ≠ 500 → a ≠ 539 → a ≠ 540 → I9.1 a j = I.1 a j := fun a j u1 u2 u3 u4 u5 => by rw [x1.1 a j (by unfold Qgm Qnm; omega), o7 a j (by omega) u2 u3]
  have o92 : ∀ a j, a ≠ 491 → ¬ (509 ≤ a ∧ a ≤ 517) → a ≠ 500 → a ≠ 539 → a ≠ 540 → I9.2 a j = I.2 a j := fun a j u1 u2 u3 u4 u5 => by rw [x1.2 a j (by unfold Qgm Qnm; omega), o72 a j u1 u2 u3]
  have g936 : I9.1 491 36 = zi (sgE x + 1) := by rw [x1.1 _ _ (by unfold Qgm Qnm; omega), k7 _ (by decide)]; exact g36
  have q9 : eqQ Qmo I I9 := by
    have a4 : eqQ Qmo I I4 := by
      rw [e4]
      exact eqQ.rf.zu ⟨by decide, by decide⟩
    exact ((a4.tr (q5.mono (fun a j h => by unfold Qmo; omega))).tr (q7.mono (fun a j h => by unfold Qnu Qnm at h; unfold Qmo; omega))).tr (x1.mono (fun a j h => by unfold Qgm Qnm at h; unfold Qmo; omega))
  have hn9 : NewT I9 d := hn.kp (o9 _ _ (by omega) (by omega) (by omega) (by omega) (by omega)) (o9 _ _ (by omega) (by omega) (by omega) (by omega) (by omega)) (fun a j u => o9 a j (by omega) (by omega) (by omega) (by omega) (by omega)) (fun j => o92 499 j (by omega) (by omega) (by omega) (by omega) (by omega))
  have gn9 : ∀ j, j < (lexL d).length → I9.1 500 j = zi (g j) := fun j hj => by rw [x1.1 500 j (by unfold Qgm Qnm; omega)]; exact gn7 j hj
  have vx : ∀ i : Nat, i < 10 → vp_in (zi i) 10 := fun i hi => (zin_iff (by omega)).mpr hi
  have hAo : ∀ z ∈ sgC x :: sgA x, txOk (moT z) ∧ txOk (moG z) := fun z hz => by
    rcases List.mem_cons.mp hz with rfl | hz
    · exact ⟨oT, oG⟩
    · exact ⟨(hA z hz).1, (hA z hz).2.1⟩
  rw [hY] at h1
  intro P52 h52
  -- what is told of it and kept, with the answer as a Bool
  have both : ∀ gd : Bool, (gd = true ↔ (y.1 + 1 = (lexL d).length ∧ topS y.2.2.2.1 = 1)) → P52 (b01 gd) := by
    intro gd hgd
    refine h52 _ ⟨by cases gd; exact Or.inl rfl; exact Or.inr rfl, fun I11 e11 => ⟨vx 0 (by decide), fun I12 e12 => ⟨vx 1 (by decide), fun I13 e13 => ⟨vx 2 (by decide), fun I14 e14 => ⟨vx 5 (by decide), fun I15 e15 => ?_⟩⟩⟩⟩⟩
    intro P113 h113
    have lst : ∀ t16 : Int32, P113 t16 := by
      intro t16
      refine h113 t16 ⟨vx 6 (by decide), fun I17 e17 => ⟨vx 7 (by decide), fun I18 e18 => ?_⟩⟩
      have o18 : ∀ a j, a ≠ 538 → I18.1 a j = I11.1 a j := fun a j u => by rw [e18, zu_oo u, e17, zu_oo u, e15, zu_oo u, e14, zu_oo u, e13, zu_oo u, e12, zu_oo u]
      have c18 : ∀ a j, a ≠ 538 → ¬ (a = 491 ∧ j = 8) → I18.1 a j = I9.1 a j := fun a j u v => by rw [o18 a j u, e11, zu_at, if_neg v]
      have c182 : I18.2 = I9.2 := by rw [e18, zu_2, e17, zu_2, e15, zu_2, e14, zu_2, e13, zu_2, e12, zu_2, e11, zu_2]
      have g8' := g8
      have g8 : I18.1 491 8 = b01 gd := by rw [o18 _ _ (by decide), e11, zu_self]
      have q18 : eqQ Qmo I I18 := by
        have z : ∀ (A : zI) (j : Nat) (v : Int32), eqQ Qmo I A → eqQ Qmo I (zu A 538 j v) := fun A j v h => h.zu ⟨by decide, by decide⟩
        rw [e18, e17, e15, e14, e13, e12, e11]
        exact z _ _ _ (z _ _ _ (z _ _ _ (z _ _ _ (z _ _ _ (z _ _ _ (q9.zu ⟨by decide, by decide⟩))))))
      have hn18 : NewT I18 d := hn9.kp (c18 _ _ (by omega) (by omega)) (c18 _ _ (by omega) (by omega)) (fun a j u => c18 a j (by omega) (by omega)) (fun j => by rw [c182])
      intro P346 h346
      -- the end: all is remembered
      have fin : ∀ L : zI, eqQ Qmo I L → TapM L tp → RepNM L (sgM (chg x d tp)) (sgN (chg x d tp)) → ViM L (sgN (chg x d tp)) (moR (newC x d)) (lexL (moG (newC x d))).length → PrM L (sgP (chg x d tp)) → L.1 491 36 = zi (sgE x + 1) → NowM L (newC x d) → (∀ j, L.1 542 j = I.1 542 j) → L.1 491 75 = zi (sgA x).length → P346 L := by
        intro L qL l1 l2 l3 l4 l5 l6 l7 l8
        refine h346 L ⟨vx 9 (by decide), fun I20 e20 => ?_⟩
        have o20 : ∀ a j, a ≠ 538 → I20.1 a j = L.1 a j := fun a j u => by rw [e20, zu_oo u]
        have nc : txOk (moT (newC x d)) ∧ txOk (moG (newC x d)) ∧ moB (newC x d) = gd := by
          unfold newC
          rw [hY]
          by_cases hg : y.1 + 1 = (lexL d).length ∧ topS y.2.2.2.1 = 1
          · rw [if_pos hg]
            exact ⟨hd, hd, (hgd.mpr hg).symm⟩
          · rw [if_neg hg]
            refine ⟨hd, oG, ?_⟩
            cases gd
            · rfl
            · exact absurd (hgd.mp rfl) hg
        refine s_remembers (A := sgA x) (c0 := sgC x) (c := newC x d) (by omega) hAo ⟨nc.1, nc.2.1⟩ (by rw [o20 _ _ (by decide)]; exact l8) (sC.kp oT oG (fun j _ _ => by rw [o20 _ _ (by decide)]; exact l7 j)) (fun kk yy hy => (sA kk yy hy).kp (hAo yy (List.mem_cons_of_mem _ (List.mem_of_getElem? hy))).1 (hAo yy (List.mem_cons_of_mem _ (List.mem_of_getElem? hy))).2 (fun j _ _ => by rw [o20 _ _ (by decide)]; exact l7 j)) (l6.kp (fun a j u => o20 a j (by omega)) (fun j => by rw [e20, zu_2])) (fun M qM t1 t2 t3 t4 => ?_)
        have oM : ∀ a j, a ≠ 538 → a ≠ 542 → ¬ (a = 491 ∧ (j = 75 ∨ j = 76)) → M.1 a j = L.1 a j := fun a j u1 u2 u3 => by rw [qM.1 a j (by omega), o20 a j u1]
        have oM2 : ∀ a j, a ≠ 542 → a ≠ 491 → M.2 a j = L.2 a j := fun a j u v => by rw [qM.2 a j (by omega), e20, zu_2]
        have l6M : NowM M (newC x d) := l6.kp (fun a j u => oM a j (by omega) (by omega) (by omega)) (fun j => oM2 507 j (by decide) (by decide))
        have key := h1 M (by
          refine eqQ.tr ?_ (qM.mono (fun a j h => by unfold Qmo; omega))
          rw [e20]
          exact qL.zu ⟨by decide, by decide⟩) ⟨l1.kp (oM _ _ (by decide) (by decide) (by decide)) (fun j => oM _ _ (by decide) (by decide) (by omega)), l2.kp2 (oM _ _ (by decide) (by decide) (by decide)) (fun a j u1 u2 => oM a j (by omega) (by omega) (by omega)) (fun j => oM2 511 j (by decide) (by decide)), l3.kp (fun a j u => oM a j (by omega) (by omega) (by omega)), l4.kp (fun a j u => oM a j (by omega) (by omega) (by omega)), by rw [oM _ _ (by decide) (by decide) (by decide)]; exact l5, t1, t2, l6M, t3, t4, fun kk yy hy => (by cases hy)⟩
        rw [show M.1 491 8 = b01 gd by rw [← nc.2.2]; exact l6M.2.2.2.2.2.2.2.2.1]
        cases gd with
        | false =>
          rw [if_pos (show b01 false = 0 by decide)]
          rw [if_neg (fun hg => by have := hgd.mpr hg; cases this)] at key
          exact key
        | true =>
          rw [if_neg (show ¬ b01 true = 0 by decide)]
          rw [if_pos (hgd.mp rfl)] at key
          exact key
      rw [g8]
      cases gd with
      | false =>
        rw [if_pos (show b01 false = 0 by decide)]
        have hg : ¬ (y.1 + 1 = (lexL d).length ∧ topS y.2.2.2.1 = 1) := fun hg => by have := hgd.mpr hg; cases this
        intro I23 e23
        have c23 : ∀ a j, ¬ (a = 491 ∧ j = 25) → I23.1 a j = I18.1 a j := fun a j u => by rw [e23, zu_at, if_neg u]
        refine s_keepsTokens (gd := false) hd (hn18.kp (c23 _ _ (by omega)) (c23 _ _ (by omega)) (fun a j u => c23 a j (by omega)) (fun j => by rw [e23, zu_2])) (by rw [c23 _ _ (by omega)]; exact g8) (fun I24 q24 nt24 _ => ?_)
        have q24 : eqQ Qkt I23 I24 := q24.mono (fun a j h => by rcases h with h | ⟨h, -⟩; exact h; cases h)
        refine ⟨vx 3 (by decide), fun I25 e25 => ⟨vx 4 (by decide), fun I26 e26 => ⟨vx 8 (by decide), fun I27 e27 => ?_⟩⟩⟩
        have o27 : ∀ a j, a ≠ 538 → I27.1 a j = I24.1 a j := fun a j u => by rw [e27, zu_oo u, e26, zu_oo u, e25, zu_oo u]
        have o272 : I27.2 = I24.2 := by rw [e27, zu_2, e26, zu_2, e25, zu_2]
        -- against I9
        have c27 : ∀ a j, a ≠ 538 → ¬ Qkt a j → ¬ (a = 491 ∧ (j = 25 ∨ j = 8)) → I27.1 a j = I9.1 a j := fun a j u1 u2 u3 => by rw [o27 a j u1, q24.1 a j u2, c23 a j (by omega), c18 a j u1 (by omega)]
        have f27 : ∀ a j, a ≠ 538 → ¬ Qkt a j → ¬ (a = 491 ∧ (j = 25 ∨ j = 8 ∨ j = 36 ∨ j = 66 ∨ j = 67 ∨ (71 ≤ j ∧ j ≤ 73))) → ¬ (509 ≤ a ∧ a ≤ 517) → a ≠ 500 → a ≠ 539 → a ≠ 540 → I27.1 a j = I.1 a j := fun a j u1 u2 u3 u4 u5 u6 u7 => by rw [c27 a j u1 u2 (by omega), o9 a j (by omega) u4 u5 u6 u7]
        have nce : newC x d = (d, moG (sgC x), false, moR (sgC x), moO (sgC x)) := by
          unfold newC
          rw [hY, if_neg hg]
        have hcm : (chg x d tp).2.1 = (sgM x, sgN x) := by
          unfold chg
          rw [hY, if_neg hg]
        have hcN : sgN (chg x d tp) = sgN x := congrArg Prod.snd hcm
        have hcM : sgM (chg x d tp) = sgM x := congrArg Prod.fst hcm
        have hcP : sgP (chg x d tp) = sgP x := by
          unfold chg sgP
          rw [hY]
          exact if_neg hg
        rw [hcN, hcM, hcP, nce] at fin
        refine fin I27 ?_ (r1.kp (f27 _ _ (by decide) (by unfold Qkt; decide) (by decide) (by decide) (by decide) (by decide) (by decide)) (fun j => f27 _ _ (by decide) (by unfold Qkt; omega) (by omega) (by omega) (by omega) (by omega) (by omega))) ⟨?_, fun kk hk => ?_⟩ (r3.kp (fun a j u => f27 a j (by omega) (by unfold Qkt; omega) (by omega) (by omega) (by omega) (by omega) (by omega))) (r4.kp (fun a j u => f27 a j (by omega) (by unfold Qkt; omega) (by omega) (by omega) (by omega) (by omega) (by omega))) (by rw [c27 _ _ (by decide) (by unfold Qkt; decide) (by decide)]; exact g936) ?_ (fun j => f27 542 j (by decide) (by unfold Qkt; omega) (by omega) (by omega) (by omega) (by omega) (by omega)) (by rw [f27 _ _ (by decide) (by unfold Qkt; decide) (by decide) (by decide) (by decide) (by decide) (by decide)]; exact r6)
        · rw [e27, e26, e25]
          refine (((eqQ.tr ?_ (q24.mono (fun a j h => by unfold Qkt at h; unfold Qmo; omega))).zu ⟨by decide, by decide⟩).zu ⟨by decide, by decide⟩).zu ⟨by decide, by decide⟩
          rw [e23]
          exact q18.zu ⟨by decide, by decide⟩
        · rw [o27 _ _ (by decide), q24.1 _ _ (by unfold Qkt; decide), e23, zu_self]
        · rw [← g1 kk hk]
          obtain ⟨n1, n2, n3, n4, n5, n6, n7⟩ := x2.2 kk (by omega)
          have cc : ∀ a j, 509 ≤ a → a ≤ 516 → I27.1 a j = I9.1 a j := fun a j u1 u2 => c27 a j (by omega) (by unfold Qkt; omega) (by omega)
          refine ⟨by rw [cc _ _ (by decide) (by decide)]; exact n1, by rw [cc _ _ (by decide) (by decide)]; exact n2, by rw [cc _ _ (by decide) (by decide)]; exact n3, by rw [cc _ _ (by decide) (by decide)]; exact n4, by rw [cc _ _ (by decide) (by decide)]; exact n5, fun i c hi => by rw [cc _ _ (by decide) (by decide)]; exact n6 i c hi, fun q => ?_⟩
          obtain ⟨w1, w2⟩ := n7 q
          exact ⟨by rw [cc _ _ (by decide) (by decide)]; exact w1, by rw [o272, q24.2 511 kk (by unfold Qkt; omega), e23, zu_2, c182]; exact w2⟩
        · obtain ⟨a1, a2, a3, a4⟩ := nt24.kp (J := I27) (o27 _ _ (by decide)) (o27 _ _ (by decide)) (fun a j u => o27 a j (by omega))
          obtain ⟨a5, a6, a7⟩ := GoodT.kp (J := I27) (d := moG (sgC x)) ⟨nw5, nw6, nw7⟩ (f27 _ _ (by decide) (by unfold Qkt; decide) (by decide) (by decide) (by decide) (by decide) (by decide)) (f27 _ _ (by decide) (by unfold Qkt; decide) (by decide) (by decide) (by decide) (by decide) (by decide)) (fun a j u => f27 a j (by omega) (by unfold Qkt; omega) (by omega) (by omega) (by omega) (by omega) (by omega)) (fun j => by rw [o272, q24.2 507 j (by unfold Qkt; omega), e23, zu_2, c182]; exact o92 507 j (by decide) (by decide) (by decide) (by decide) (by decide))
          refine ⟨a1, a2, a3, a4, a5, a6, a7, fun j hj => ?_, ?_, ?_⟩
          · rw [f27 508 j (by decide) (by unfold Qkt; omega) (by omega) (by omega) (by omega) (by omega) (by omega)]
            exact nw8 j hj
          · rw [o27 _ _ (by decide), q24.1 _ _ (by unfold Qkt; decide), c23 _ _ (by decide)]
            exact g8
          · rw [f27 _ _ (by decide) (by unfold Qkt; decide) (by decide) (by decide) (by decide) (by decide) (by decide)]
            exact nw10
      | true =>
        rw [if_neg (show ¬ b01 true = 0 by decide)]
        have hg := hgd.mp rfl
        obtain ⟨b, hst, tr⟩ := g8' hg.1 hg.2
        have fg := oR.flG hN hu
        have hFl := oR.few hN
        have hFlen : (flR (sgN x) (moR (sgC x))).length = sz (sgN x) (moR (sgC x)) := fl_len hN _ oR.1 _ _ _ _
        intro P133 h133
        have cp : ∀ (dd v : Nat) (A : zI), v + dd = (lexL d).length → eqQ (fun a _ => a = 508) I18 A → (∀ j, j < v → A.1 508 j = zi (g j)) → P133 (zi v) A := by
          intro dd
          induction dd with
          | succ dd ih =>
            intro v A hvd qA hA'
            refine h133 _ _ ?_
            rw [qA.1 491 9 (by omega), hn18.2.2.1, if_neg (fun u => by have := (zi_le (by omega) (by omega)).mp u; omega), zi_tn (show v < 2147483648 by omega)]
            refine ⟨(zin_iff (by omega)).mpr (by omega), (zin_iff (by omega)).mpr (by omega), fun I54 e54 w ew => ?_⟩
            rw [qA.1 500 v (by omega), c18 500 v (by decide) (by omega), gn9 v (by omega)] at e54
            rw [ew, zi_succ]
            refine ih (v + 1) I54 (by omega) (by rw [e54]; exact qA.zu rfl) (fun j hj => ?_)
            rw [e54, zu_at]
            by_cases u : j = v
            · rw [if_pos ⟨rfl, u⟩, u]
            · rw [if_neg (fun z => u z.2)]
              exact hA' j (by omega)
          | zero =>
            intro v A hvd qA hA'
            refine h133 _ _ ?_
            rw [qA.1 491 9 (by omega), hn18.2.2.1, if_pos ((zi_le (by omega) (by omega)).mpr (by omega))]
            have hst2 : y.2.2.2.1.length = 2 := by rw [hst]; rfl
            have a71 : A.1 491 71 - 1 = zi 1 := by
              rw [qA.1 491 71 (by omega), c18 491 71 (by decide) (by decide), x3.2.1, hst2]
              rfl
            rw [a71, zi_tn (by decide)]
            refine ⟨(zin_iff (by omega)).mpr (by decide), fun I30 e30 => ?_⟩
            rw [qA.1 540 1 (by omega), c18 540 1 (by decide) (by decide), (x3.2.2 1 (regR x d, 1) (by rw [hst]; rfl)).2 (Nat.le_refl 1)] at e30
            have c30 : ∀ a j, a ≠ 508 → ¬ (a = 491 ∧ j = 37) → I30.1 a j = I18.1 a j := fun a j u1 u2 => by rw [e30, zu_at, if_neg u2, qA.1 a j u1]
            have q30 : eqQ Qmo I I30 := by
              rw [e30]
              exact (q18.tr (qA.mono (fun a j h => by unfold Qmo; omega))).zu ⟨by decide, by decide⟩
            intro P180 h180
            have vi30 : ∀ (B : zI), eqQ (fun a _ => a = 541) I30 B → B.1 491 43 = zi (flR (sgN x) (moR (sgC x))).length ∧ ∀ (i : Nat) (z : Fl), (flR (sgN x) (moR (sgC x)))[i]? = some z → B.1 521 i = zi z.1 := fun B qB => by
              refine ⟨?_, fun i z hz => ?_⟩
              · rw [qB.1 491 43 (by omega), c30 _ _ (by decide) (by decide), c18 _ _ (by decide) (by decide), o9 _ _ (by decide) (by decide) (by decide) (by decide) (by decide)]
                exact r3.2.1.1
              · rw [qB.1 521 i (by omega), c30 _ _ (by decide) (by omega), c18 _ _ (by decide) (by omega), o9 _ _ (by omega) (by omega) (by decide) (by decide) (by decide)]
                exact (r3.2.1.2.1 i z (List.getElem?_eq_some_iff.mp hz).1 hz).1
            have oo : ∀ (d2 v : Nat) (B : zI), v + d2 = (flR (sgN x) (moR (sgC x))).length → eqQ (fun a _ => a = 541) I30 B → (∀ (j : Nat) (z : Fl), j < v → (flR (sgN x) (moR (sgC x)))[j]? = some z → B.1 541 j = zi z.1) → P180 (zi v) B := by
              intro d2
              induction d2 with
              | succ d2 ih2 =>
                intro v B hvd2 qB hB
                obtain ⟨w1, w2⟩ := vi30 B qB
                refine h180 _ _ ?_
                rw [w1, if_neg (fun u => by have := (zi_le (by omega) (by omega)).mp u; omega), zi_tn (show v < 2147483648 by omega)]
                have hz : (flR (sgN x) (moR (sgC x)))[v]? = some ((flR (sgN x) (moR (sgC x)))[v]'(by omega)) := List.getElem?_eq_getElem (by omega)
                generalize (flR (sgN x) (moR (sgC x)))[v]'(by omega) = z at hz
                refine ⟨(zin_iff (by omega)).mpr (by omega), (zin_iff (by omega)).mpr (by omega), fun I51 e51 w ew => ?_⟩
                rw [w2 v z hz] at e51
                rw [ew, zi_succ]
                refine ih2 (v + 1) I51 (by omega) (by rw [e51]; exact qB.zu rfl) (fun j z' hj hz' => ?_)
                rw [e51, zu_at]
                by_cases u : j = v
                · subst u
                  rw [hz] at hz'
                  cases hz'
                  rw [if_pos ⟨rfl, rfl⟩]
                · rw [if_neg (fun q => u q.2)]
                  exact hB j z' (by omega) hz'
              | zero =>
                intro v B hvd2 qB hB
                obtain ⟨w1, w2⟩ := vi30 B qB
                refine h180 _ _ ?_
                rw [w1, if_pos ((zi_le (by omega) (by omega)).mpr (by omega))]
                intro v6 ev6
                subst ev6
                have cB : ∀ a j, a ≠ 508 → a ≠ 541 → ¬ (a = 491 ∧ j = 37) → B.1 a j = I18.1 a j := fun a j u1 u2 u3 => by rw [qB.1 a j u2, c30 a j u1 u3]
                have cB2 : ∀ a j, a ≠ 508 → a ≠ 541 → B.2 a j = I18.2 a j := fun a j u1 u2 => by rw [qB.2 a j u2, e30, zu_2, qA.2 a j u1]
                refine s_keepsTokens (gd := true) hd (hn18.kp (cB _ _ (by decide) (by decide) (by decide)) (cB _ _ (by decide) (by decide) (by decide)) (fun a j u => cB a j (by omega) (by omega) (by omega)) (fun j => cB2 499 j (by decide) (by decide))) (by rw [cB _ _ (by decide) (by decide) (by decide)]; exact g8) (fun I34 q34 nt34 gt34 => ?_)
                have q34' : eqQ (fun a j => Qkt a j ∨ Qkg a j) B I34 := q34.mono (fun a j h => by rcases h with h | ⟨-, h⟩; exact Or.inl h; exact Or.inr h)
                -- against I9, no texts
                have c34 : ∀ a j, a ≠ 538 → a ≠ 508 → a ≠ 541 → ¬ Qkt a j → ¬ Qkg a j → ¬ (a = 491 ∧ (j = 8 ∨ j = 37)) → I34.1 a j = I9.1 a j := fun a j u1 u2 u3 u4 u5 u6 => by
                  rw [q34'.1 a j (fun h => by rcases h with h | h; exact u4 h; exact u5 h), cB a j u2 u3 (by omega), c18 a j u1 (by omega)]
                have c342 : ∀ a j, a ≠ 508 → a ≠ 541 → ¬ Qkt a j → ¬ Qkg a j → I34.2 a j = I9.2 a j := fun a j u2 u3 u4 u5 => by
                  rw [q34'.2 a j (fun h => by rcases h with h | h; exact u4 h; exact u5 h), cB2 a j u2 u3, c182]
                have rep34 : RepNM I34 y.2.1 y.2.2.1 := x2.kp2 (c34 _ _ (by decide) (by decide) (by decide) (by unfold Qkt; decide) (by unfold Qkg; decide) (by decide)) (fun a j u1 u2 => c34 a j (by omega) (by omega) (by omega) (by unfold Qkt; omega) (by unfold Qkg; omega) (by omega)) (fun j => c342 511 j (by decide) (by decide) (by unfold Qkt; omega) (by unfold Qkg; omega))
                have g37 : I34.1 491 37 = zi (regR x d) := by rw [q34'.1 491 37 (by unfold Qkt Qkg; decide), qB.1 491 37 (by decide), e30, zu_self]
                refine s_Mtree rep34 g4 g5 (by omega) tr g37 (fun I35 q35 vi35 => ?_)
                have n541 : ∀ (j : Nat) (z : Fl), (flR (sgN x) (moR (sgC x)))[j]? = some z → I35.1 541 j = zi z.1 := fun j z hz => by
                  rw [q35.1 541 j (by unfold Qft; omega), q34'.1 541 j (by unfold Qkt Qkg; omega)]
                  exact hB j z (by have := (List.getElem?_eq_some_iff.mp hz).1; omega) hz
                intro P229 h229
                have brk : ∀ (d3 v : Nat) (w : Int32), v + d3 = (flR (sgN x) (moR (sgC x))).length → P229 w (zi v) := by
                  intro d3
                  induction d3 with
                  | succ d3 ih3 =>
                    intro v w hvd3
                    refine h229 _ _ ?_
                    rw [if_neg (fun u => by have := (zi_le (by omega) (by omega)).mp u; omega), zi_tn (show v < 2147483648 by omega)]
                    have hz : (flR (sgN x) (moR (sgC x)))[v]? = some ((flR (sgN x) (moR (sgC x)))[v]'(by omega)) := List.getElem?_eq_getElem (by omega)
                    generalize (flR (sgN x) (moR (sgC x)))[v]'(by omega) = z at hz
                    have hzm := (fg.1.2 v z hz).1
                    have i1 : vp_in (zi v) 700 := (zin_iff (by omega)).mpr (by omega)
                    have i2 : vp_in (zi z.1) 3700 := (zin_iff (by omega)).mpr (by omega)
                    rw [n541 v z hz]
                    refine ⟨i1, i2, ?_⟩
                    intro P269 h269
                    have nx : ∀ w, P269 w := fun w => h269 w (fun v' ev => by
                      rw [ev, zi_succ]
                      exact ih3 (v + 1) w (by omega))
                    split
                    · exact nx _
                    · refine ⟨i1, i2, ?_⟩
                      split
                      · exact nx _
                      · intro v' ev
                        exact nx _
                  | zero =>
                    intro v w hvd3
                    refine h229 _ _ ?_
                    rw [if_pos ((zi_le (by omega) (by omega)).mpr (by omega))]
                    obtain ⟨rr1, rr2⟩ := runs_ok g4 g5 tr
                    have pr35 : PrM I35 (sgP x) := r4.kp (fun a j u => by
                      rw [q35.1 a j (by unfold Qft; omega), c34 a j (by omega) (by omega) (by omega) (by unfold Qkt; omega) (by unfold Qkg; omega) (by omega), o9 a j (by omega) (by omega) (by omega) (by omega) (by omega)])
                    refine s_rowNow (fun r hr => by have := rr1 r hr; omega) rr2 (by omega) hP1 pr35 vi35.2.2.2.1 vi35.2.2.2.2.2.1 (fun rv I39 q39 pr39 => ⟨vx 3 (by decide), fun I40 e40 => ⟨vx 4 (by decide), fun I41 e41 => ?_⟩⟩)
                    have c41 : ∀ a j, a ≠ 538 → ¬ Qro a j → I41.1 a j = I35.1 a j := fun a j u1 u2 => by rw [e41, zu_oo u1, e40, zu_oo u1, q39.1 a j u2]
                    have c412 : ∀ a j, ¬ Qro a j → I41.2 a j = I35.2 a j := fun a j u => by rw [e41, zu_2, e40, zu_2, q39.2 a j u]
                    have vi41 : ViM I41 y.2.2.1 (regR x d) (lexL d).length := vi35.kp (fun a j u => c41 a j (by omega) (by unfold Qro; omega))
                    have rep35 : RepNM I35 y.2.1 y.2.2.1 := rep34.kp2 (q35.1 _ _ (by unfold Qft; decide)) (fun a j u1 u2 => q35.1 a j (by unfold Qft; omega)) (fun j => q35.2 511 j (by unfold Qft; omega))
                    have rep41 : RepNM I41 y.2.1 y.2.2.1 := rep35.kp2 (c41 _ _ (by decide) (by unfold Qro; decide)) (fun a j u1 u2 => c41 a j (by omega) (by unfold Qro; omega)) (fun j => c412 511 j (by unfold Qro; omega))
                    refine r_runsAll (e := true) rep41 g4 (by omega) tr vi41 (fun rv2 I43 q43 => ⟨vx 8 (by decide), fun I44 e44 => ?_⟩)
                    have c44 : ∀ a j, a ≠ 538 → ¬ Qra a j → I44.1 a j = I41.1 a j := fun a j u1 u2 => by rw [e44, zu_oo u1, q43.1 a j u2]
                    have c442 : ∀ a j, ¬ Qra a j → I44.2 a j = I41.2 a j := fun a j u => by rw [e44, zu_2, q43.2 a j u]
                    -- against I35, I34
                    have b35 : ∀ a j, a ≠ 538 → ¬ Qra a j → ¬ Qro a j → I44.1 a j = I35.1 a j := fun a j u1 u2 u3 => by rw [c44 a j u1 u2, c41 a j u1 u3]
                    have b34 : ∀ a j, a ≠ 538 → ¬ Qra a j → ¬ Qro a j → ¬ Qft a j → I44.1 a j = I34.1 a j := fun a j u1 u2 u3 u4 => by rw [b35 a j u1 u2 u3, q35.1 a j u4]
                    have b342 : ∀ a j, ¬ Qra a j → ¬ Qro a j → ¬ Qft a j → I44.2 a j = I34.2 a j := fun a j u2 u3 u4 => by rw [c442 a j u2, c412 a j u3, q35.2 a j u4]
                    have b9 : ∀ a j, a ≠ 538 → a ≠ 508 → a ≠ 541 → ¬ Qkt a j → ¬ Qkg a j → ¬ (a = 491 ∧ (j = 8 ∨ j = 37)) → ¬ Qra a j → ¬ Qro a j → ¬ Qft a j → I44.1 a j = I9.1 a j := fun a j u1 u2 u3 u4 u5 u6 u7 u8 u9 => by rw [b34 a j u1 u7 u8 u9, c34 a j u1 u2 u3 u4 u5 u6]
                    have nce : newC x d = (d, d, true, regR x d, g) := by
                      unfold newC
                      rw [hY, if_pos hg, hgN]
                    have hcm : (chg x d tp).2.1 = (y.2.1, y.2.2.1) := by
                      unfold chg
                      rw [hY, if_pos hg]
                    have hcN : sgN (chg x d tp) = y.2.2.1 := congrArg Prod.snd hcm
                    have hcM : sgM (chg x d tp) = y.2.1 := congrArg Prod.fst hcm
                    have hcP : sgP (chg x d tp) = layAllR (runsOf y.2.2.1 (regR x d)) (sgP x) := by
                      unfold chg sgP
                      rw [hY]
                      exact if_pos hg
                    rw [hcN, hcM, hcP, nce] at fin
                    refine fin I44 ?_ (r1.kp ?_ (fun j => ?_)) (rep41.kp2 (c44 _ _ (by decide) (by unfold Qra Qrk Qna; decide)) (fun a j u1 u2 => c44 a j (by omega) (by unfold Qra Qrk Qna; omega)) (fun j => c442 511 j (by unfold Qra Qrk Qna; omega))) (vi41.kp (fun a j u => c44 a j (by omega) (by unfold Qra Qrk Qna; omega))) (pr39.kp (fun a j u => by rw [c44 a j (by omega) (by unfold Qra Qrk Qna; omega), e41, zu_oo (by omega), e40, zu_oo (by omega)])) ?_ ?_ (fun j => ?_) ?_
                    · rw [e44]
                      refine eqQ.zu (eqQ.tr ?_ (q43.mono (fun a j h => by unfold Qra Qrk Qna at h; unfold Qmo; omega))) ⟨by decide, by decide⟩
                      rw [e41, e40]
                      refine eqQ.zu (eqQ.zu (eqQ.tr ?_ (q39.mono (fun a j h => by unfold Qro at h; unfold Qmo; omega))) ⟨by decide, by decide⟩) ⟨by decide, by decide⟩
                      exact ((q30.tr (qB.mono (fun a j h => by unfold Qmo; omega))).tr (q34'.mono (fun a j h => by unfold Qkt Qkg at h; unfold Qmo; omega))).tr (q35.mono (fun a j h => by unfold Qft at h; unfold Qmo; omega))
                    · rw [b9 _ _ (by decide) (by decide) (by decide) (by unfold Qkt; decide) (by unfold Qkg; decide) (by decide) (by unfold Qra Qrk Qna; decide) (by unfold Qro; decide) (by unfold Qft; decide), o9 _ _ (by decide) (by decide) (by decide) (by decide) (by decide)]
                    · rw [b9 492 j (by decide) (by decide) (by decide) (by unfold Qkt; omega) (by unfold Qkg; omega) (by omega) (by unfold Qra Qrk Qna; omega) (by unfold Qro; omega) (by unfold Qft; omega), o9 492 j (by omega) (by omega) (by decide) (by decide) (by decide)]
                    · rw [b9 _ _ (by decide) (by decide) (by decide) (by unfold Qkt; decide) (by unfold Qkg; decide) (by decide) (by unfold Qra Qrk Qna; decide) (by unfold Qro; decide) (by unfold Qft; decide)]
                      exact g936
                    · obtain ⟨a1, a2, a3, a4⟩ := nt34.kp (J := I44) (b34 _ _ (by decide) (by unfold Qra Qrk Qna; decide) (by unfold Qro; decide) (by unfold Qft; decide)) (b34 _ _ (by decide) (by unfold Qra Qrk Qna; decide) (by unfold Qro; decide) (by unfold Qft; decide)) (fun a j u => b34 a j (by omega) (by unfold Qra Qrk Qna; omega) (by unfold Qro; omega) (by unfold Qft; omega))
                      obtain ⟨a5, a6, a7⟩ := (gt34 rfl).kp (J := I44) (b34 _ _ (by decide) (by unfold Qra Qrk Qna; decide) (by unfold Qro; decide) (by unfold Qft; decide)) (b34 _ _ (by decide) (by unfold Qra Qrk Qna; decide) (by unfold Qro; decide) (by unfold Qft; decide)) (fun a j u => b34 a j (by omega) (by unfold Qra Qrk Qna; omega) (by unfold Qro; omega) (by unfold Qft; omega)) (fun j => b342 507 j (by unfold Qra Qrk Qna; omega) (by unfold Qro; omega) (by unfold Qft; omega))
                      refine ⟨a1, a2, a3, a4, a5, a6, a7, fun j hj => ?_, ?_, ?_⟩
                      · change j < (lexL d).length at hj
                        rw [b34 508 j (by decide) (by unfold Qra Qrk Qna; omega) (by unfold Qro; omega) (by unfold Qft; omega), q34'.1 508 j (by unfold Qkt Qkg; omega), qB.1 508 j (by omega), e30, zu_oo (by decide)]
                        exact hA' j (by omega)
                      · rw [b34 _ _ (by decide) (by unfold Qra Qrk Qna; decide) (by unfold Qro; decide) (by unfold Qft; decide), q34'.1 491 8 (by unfold Qkt Qkg; decide), cB _ _ (by decide) (by decide) (by decide)]
                        exact g8
                      · rw [b34 _ _ (by decide) (by unfold Qra Qrk Qna; decide) (by unfold Qro; decide) (by unfold Qft; decide)]
                        exact g37
                    · rw [b9 542 j (by decide) (by decide) (by decide) (by unfold Qkt; omega) (by unfold Qkg; omega) (by omega) (by unfold Qra Qrk Qna; omega) (by unfold Qro; omega) (by unfold Qft; omega), o9 542 j (by omega) (by omega) (by decide) (by decide) (by decide)]
                    · rw [b9 _ _ (by decide) (by decide) (by decide) (by unfold Qkt; decide) (by unfold Qkg; decide) (by decide) (by unfold Qra Qrk Qna; decide) (by unfold Qro; decide) (by unfold Qft; decide), o9 _ _ (by decide) (by decide) (by decide) (by decide) (by decide)]
                      exact r6
                exact brk (flR (sgN x) (moR (sgC x))).length 0 0 (by omega)
            exact oo (flR (sgN x) (moR (sgC x))).length 0 I30 (by omega) eqQ.rf (fun j z hj => by omega)
        exact cp (lexL d).length 0 I18 (by omega) eqQ.rf (fun j hj => by omega)
    repeat' split
    all_goals exact lst _
  by_cases hg : y.1 + 1 = (lexL d).length ∧ topS y.2.2.2.1 = 1
  · rw [if_pos hg, if_neg (show ¬ (0 : Int32) ≤ -1 by decide)]
    exact both true ⟨fun _ => hg, fun _ => rfl⟩
  · rw [if_neg hg, if_pos (zi_ge (by have := gi'.1; omega))]
    exact both false ⟨(fun u => by cases u), (fun u => absurd u hg)⟩
