theorem TapM.kp {I J : zI} {t : List Int32} (h : TapM I t) (e1 : J.1 491 0 = I.1 491 0) (e2 : ∀ j, J.1 492 j = I.1 492 j) : TapM J t := ⟨e1.trans h.1, fun j v hj => by rw [e2]; exact h.2 j v hj⟩
theorem ViM.kp {I J : zI} {N : Nat → Nd} {R n : Nat} (h : ViM I N R n) (e : ∀ a j, (a = 491 ∧ (j = 37 ∨ j = 43 ∨ j = 51 ∨ j = 53)) ∨ (521 ≤ a ∧ a ≤ 526) ∨ a = 528 ∨ a = 529 → J.1 a j = I.1 a j) : ViM J N R n := by
  obtain ⟨v1, ⟨v2, v3, v4⟩, v5, v6, v7, v8, v9⟩ := h
  refine ⟨by rw [e _ _ (by omega)]; exact v1, ⟨by rw [e _ _ (by omega)]; exact v2, fun i x hi hx => ?_, fun c hc hno => by rw [e _ _ (by omega)]; exact v4 c hc hno⟩, fun i x hx => ?_, by rw [e _ _ (by omega)]; exact v6, by rw [e _ _ (by omega)]; exact v7, fun i r hi => by rw [e _ _ (by omega)]; exact v8 i r hi, fun i r hi => by rw [e _ _ (by omega)]; exact v9 i r hi⟩
  · obtain ⟨b1, b2, o, b3, b4, b5⟩ := v3 i x hi hx
    rw [e 521 _ (by omega), e 523 _ (by omega)]
    exact ⟨b1, b2, o, b3, by rw [e 526 _ (by omega)]; exact b4, b5⟩
  · obtain ⟨b1, b2, b3⟩ := v5 i x hx
    rw [e 522 _ (by omega)]
    refine ⟨b1, fun u => by rw [e 524 _ (by omega)]; exact b2 u, fun u => ?_⟩
    obtain ⟨y, j, c1, c2, c3, c4⟩ := b3 u
    exact ⟨y, j, c1, c2, by rw [e 524 _ (by omega)]; exact c3, by rw [e 525 _ (by omega)]; exact c4⟩
theorem PrM.kp {I J : zI} {pl : List (Nat × Nat)} (h : PrM I pl) (e : ∀ a j, (a = 491 ∧ j = 59) ∨ a = 533 ∨ a = 534 → J.1 a j = I.1 a j) : PrM J pl :=
  ⟨by rw [e _ _ (by omega)]; exact h.1, fun i p hi => by rw [e 533 _ (by omega), e 534 _ (by omega)]; exact h.2.1 i p hi, h.2.2⟩
theorem ViM.fm {m R n : Nat} {og : Nat → Nat} {I : zI} {N : Nat → Nd} (hN : NdOk m N) (hu : UqE m N) (t : TreeI m N R n og) (h : ViM I N R n) : FlM I (flR N R) := fun p x hx => by
  have fg := t.flG hN hu
  obtain ⟨b1, b2, o, b3, b4, b5⟩ := h.2.1.2.1 p x (List.getElem?_eq_some_iff.mp hx).1 hx
  obtain ⟨c1, c2, c3⟩ := h.2.2.1 p x hx
  refine ⟨c2, fun u y hy => ?_, fun u => ?_⟩
  · obtain ⟨y', j, d1, d2, d3, d4⟩ := c3 u
    rw [hy] at d1
    cases d1
    exact d3
  · rw [b4, b5 u, zi_int]
theorem r_ruleNodes {m R n : Nat} {og : Nat → Nat} {I : zI} {N : Nat → Nd} {K : Int32 → Prop} (hN : NdOk m N) (hu : UqE m N) (hm : m ≤ 3700) (t : TreeI m N R n og) (h : ViM I N R n) (hK : ∀ v, K v) : w_M_ruleNodes I K := by
  have fg := t.flG hN hu
  have hl := t.few hN
  have hlen : (flR N R).length = sz N R := fl_len hN R t.1 _ _ _ _
  intro P4 h4
  have main : ∀ (d k : Nat) (v : Int32), k + d = (flR N R).length → P4 v (zi k) := by
    intro d
    induction d with
    | zero =>
      intro k v hk
      refine h4 _ _ ?_
      rw [h.2.1.1, if_pos ((zi_le (by omega) (by omega)).mpr (by omega))]
      exact hK v
    | succ d ih =>
      intro k v hk
      refine h4 _ _ ?_
      have hx : (flR N R)[k]? = some ((flR N R)[k]'(by omega)) := List.getElem?_eq_getElem (by omega)
      generalize (flR N R)[k]'(by omega) = x at hx
      have hxm := (fg.1.2 k x hx).1
      rw [h.2.1.1, if_neg (fun u => by have := (zi_le (by omega) (by omega)).mp u; omega), zi_tn (show k < 2147483648 by omega), (h.2.1.2.1 k x (by omega) hx).1]
      refine ⟨(zin_iff (by omega)).mpr (by omega), (zin_iff (by omega)).mpr (by omega), ?_⟩
      intro P29 h29
      have nx : ∀ w, P29 w := fun w => h29 w (fun v' ev => by
        rw [ev, zi_succ]
        exact ih (k + 1) w (by omega))
      split
      · exact nx _
      · intro v' ev
        exact nx _
  exact main (flR N R).length 0 0 (by omega)
/-- what a change of the model may touch -/
def Qmo (a j : Nat) : Prop := 491 ≤ a ∧ a < 546
theorem s_edited {x : Sg} {d tp : List Int32} {I : zI} {K : Int32 → zI → Prop} (hv : Iv x) (hR : RM I (tp, x.2)) (hd : txOk d) (hnr : ¬ refu x d) (hn : NewT I d) (he : sgE x < 512)
    (h1 : ∀ J, eqQ Qmo I J → RM J (chg x d tp) → K (if (regY x d).1 + 1 = (lexL d).length ∧ topS (regY x d).2.2.2.1 = 1 then 0 else 1) J) : w_M_edited I K := by
  obtain ⟨r1, r2, r3, r4, r5, r6, r7, nw, sC, sA, sZ⟩ := hR
  change RepNM I (sgM x) (sgN x) at r2
  change ViM I (sgN x) (moR (sgC x)) (lexL (moG (sgC x))).length at r3
  change PrM I (sgP x) at r4
  change EdM I x at r5
  obtain ⟨r5, r5r, rm0⟩ := r5
  change I.1 491 75 = zi (sgA x).length at r6
  change NowM I (sgC x) at nw
  change MoM I (sgA x).length (sgC x) at sC
  change ∀ (k : Nat) (y : Mo), (sgA x)[k]? = some y → MoM I ((sgA x).length - 1 - k) y at sA
  obtain ⟨m1, g, N1, k, y, hreg, hnm, hrun, ⟨ge, gi, hog, hm0, hm1⟩, g1, g2, g3, g4, g5, g6, g7, g8⟩ := reg_ok hv hd
  obtain ⟨hTp, hN, hu, hm, hTk, ⟨hP1, hP2⟩, ⟨hE, hWr⟩, hC, hA, hZ, hAZ⟩ := id hv
  obtain ⟨oT, oG, oB, oR, oK⟩ := id hC
  have hY : regY x d = y := by
    unfold regY
    rw [hreg]
  have hgN : (reg x d).1.2.1 = g := by rw [hreg]
  have hM1 : (reg x d).1.1 = m1 := by rw [hreg]
  have hK1 : (reg x d).2.1 = k := by rw [hreg]
  unfold refu at hnr
  have lxd := lex_lxo hd
  have lxg := lex_lxo oG
  obtain ⟨kl1, kl2, kl3⟩ := kept_le (t := txF d) (t' := txF (moG (sgC x))) lxd.2.1 lxg.2.1
  obtain ⟨nw1, nw2, nw3, nw4, nw5, nw6, nw7, nw8, nw9, nw10⟩ := id nw
  have hl100 := lxd.2.2.1
  unfold w_M_edited
  intro v1 ev1 v2 ev2
  rw [r2.1] at ev1
  subst ev1
  rw [r4.1] at ev2
  subst ev2
  refine r_ruleNodes hN hu (by omega) oR r3 (fun _ => ?_)
  intro I4 e4
  rw [r5, zi_succ] at e4
  have o4 : ∀ a j, ¬ (a = 491 ∧ j = 36) → I4.1 a j = I.1 a j := fun a j u => by rw [e4, zu_at, if_neg u]
  have o42 : I4.2 = I.2 := by rw [e4, zu_2]
  have hn4 : NewT I4 d := hn.kp (o4 _ _ (by omega)) (o4 _ _ (by omega)) (fun a j u => o4 a j (by omega)) (fun j => by rw [o42])
  have old4 : OldU I4 (txF (moG (sgC x))) (lexL (moG (sgC x))) := (GoodT.kp (J := I4) (d := moG (sgC x)) ⟨nw5, nw6, nw7⟩ (o4 _ _ (by omega)) (o4 _ _ (by omega)) (fun a j u => o4 a j (by omega)) (fun j => by rw [o42])).2.2
  refine s_fillsKept hn4.2.2 old4 lxd.2.1 lxg.2.1 lxd.2.2.1 lxg.2.2.1 lxd.1 lxg.1 (fun I5 q5 A5 B5 => ?_)
  have o5 : ∀ a j, ¬ (a = 491 ∧ (j = 36 ∨ j = 66 ∨ j = 67)) → I5.1 a j = I.1 a j := fun a j u => by rw [q5.1 a j (by omega), o4 a j (by omega)]
  have o52 : ∀ a j, a ≠ 491 → I5.2 a j = I.2 a j := fun a j u => by rw [q5.2 a j (by omega), o42]
  have g36 : I5.1 491 36 = zi (sgE x + 1) := by rw [q5.1 _ _ (by omega), e4, zu_self]
  have hn5 : NewT I5 d := hn.kp (o5 _ _ (by omega)) (o5 _ _ (by omega)) (fun a j u => o5 a j (by omega)) (fun j => o52 499 j (by decide))
  have rep5 : RepNM I5 (sgM x) (sgN x) := r2.kp2 (o5 _ _ (by omega)) (fun a j u1 u2 => o5 a j (by omega)) (fun j => o52 511 j (by decide))
  refine s_makesTokens (g := fun _ => 0) rep5 hN.ch hn5.2.2 lxd.1 g36 (by rw [o5 _ _ (by omega)]; exact nw7.1) A5 B5 (by omega) (by omega) (by omega) (by omega) lxd.2.2.1 lxg.2.2.1 (fun j hj => by rw [o5 _ _ (by omega)]; exact nw8 j hj) (by omega) (fun m' g' N' I7 hn' q7 rep7 _ _ gn7 => ?_)
  rw [hnm] at hn'
  cases hn'
  have o7 : ∀ a j, ¬ (a = 491 ∧ (j = 25 ∨ j = 36 ∨ j = 66 ∨ j = 67)) → ¬ (509 ≤ a ∧ a ≤ 517) → a ≠ 500 → I7.1 a j = I.1 a j := fun a j u1 u2 u3 => by rw [q7.1 a j (by unfold Qnu Qnm; omega), o5 a j (by omega)]
  have o72 : ∀ a j, a ≠ 491 → ¬ (509 ≤ a ∧ a ≤ 517) → a ≠ 500 → I7.2 a j = I.2 a j := fun a j u1 u2 u3 => by rw [q7.2 a j (by unfold Qnu Qnm; omega), o52 a j u1]
  have k7 : ∀ j, j ≠ 25 → I7.1 491 j = I5.1 491 j := fun j u => q7.1 491 j (by unfold Qnu Qnm; omega)
  have vi7 : ViM I7 (sgN x) (moR (sgC x)) (lexL (moG (sgC x))).length := r3.kp (fun a j u => o7 a j (by omega) (by omega) (by omega))
  refine s_grows (kd := fun i => ((lexL d).getD i (10, 0, 0)).1) ge gi (by omega) rep7 (vi7.fm hN hu oR) (by rw [k7 _ (by decide)]; exact g36) (by rw [o7 _ _ (by omega) (by omega) (by omega)]; exact hn.2.2.1) (by rw [o7 _ _ (by omega) (by omega) (by omega)]; exact nw7.1) (by rw [k7 _ (by decide)]; exact A5) (by rw [k7 _ (by decide)]; exact B5) (fun i hi => ?_) gn7 (fun i hi j hj => ?_) (fun I9 k' y' hrun' gi' gm' => ?_)
  · have hx : (lexL d)[i]? = some ((lexL d).getD i (10, 0, 0)) := by
      rw [List.getD_eq_getElem?_getD, List.getElem?_eq_getElem hi]
      rfl
    rw [o7 _ _ (by omega) (by omega) (by omega)]
    exact (hn.2.2.2 i _ hx).1
  · have hjn := wasN_lt hi (by omega) (by omega) (by omega) hj
    rw [o7 _ _ (by omega) (by omega) (by omega), nw8 j hjn, hog i hi j hj]
  rw [hrun] at hrun'
  cases hrun'
  obtain ⟨x1, x2, x3, x4, x5⟩ := gm'
  have o9 : ∀ a j, ¬ (a = 491 ∧ (j = 25 ∨ j = 36 ∨ j = 66 ∨ j = 67 ∨ (71 ≤ j ∧ j ≤ 73))) → ¬ (509 ≤ a ∧ a ≤ 517) → a ≠ 500 → a ≠ 539 → a ≠ 540 → I9.1 a j = I.1 a j := fun a j u1 u2 u3 u4 u5 => by rw [x1.1 a j (by unfold Qgm Qnm; omega), o7 a j (by omega) u2 u3]
  have o92 : ∀ a j, a ≠ 491 → ¬ (509 ≤ a ∧ a ≤ 517) → a ≠ 500 → a ≠ 539 → a ≠ 540 → I9.2 a j = I.2 a j := fun a j u1 u2 u3 u4 u5 => by rw [x1.2 a j (by unfold Qgm Qnm; omega), o72 a j u1 u2 u3]
  have o517 : ∀ s, s < sgM x → I9.1 517 s = I.1 517 s := fun s hs => by rw [x1.1 517 s (by unfold Qgm Qnm; omega), q7.1 517 s (by unfold Qnu Qnm; omega), o5 517 s (by omega)]
  have k66 : I9.1 491 66 = zi (kAhead (txF (moG (sgC x))) (lexL (moG (sgC x))) (txF d) (lexL d)) := by
    rw [x1.1 491 66 (by unfold Qgm Qnm; omega), k7 _ (by decide)]
    exact A5
  have k67 : I9.1 491 67 = zi (kBehind (txF (moG (sgC x))) (lexL (moG (sgC x))) (txF d) (lexL d)) := by
    rw [x1.1 491 67 (by unfold Qgm Qnm; omega), k7 _ (by decide)]
    exact B5
  have g936 : I9.1 491 36 = zi (sgE x + 1) := by rw [x1.1 _ _ (by unfold Qgm Qnm; omega), k7 _ (by decide)]; exact g36
  have q9 : eqQ Qmo I I9 := by
    have a4 : eqQ Qmo I I4 := by
      rw [e4]
      exact eqQ.rf.zu ⟨by decide, by decide⟩
    exact ((a4.tr (q5.mono (fun a j h => by unfold Qmo; omega))).tr (q7.mono (fun a j h => by unfold Qnu Qnm at h; unfold Qmo; omega))).tr (x1.mono (fun a j h => by unfold Qgm Qnm at h; unfold Qmo; omega))
  have hn9 : NewT I9 d := hn.kp (o9 _ _ (by omega) (by omega) (by omega) (by omega) (by omega)) (o9 _ _ (by omega) (by omega) (by omega) (by omega) (by omega)) (fun a j u => o9 a j (by omega) (by omega) (by omega) (by omega) (by omega)) (fun j => o92 499 j (by omega) (by omega) (by omega) (by omega) (by omega))
  have gn9 : ∀ j, j < (lexL d).length → I9.1 500 j = zi (g j) := fun j hj => by rw [x1.1 500 j (by unfold Qgm Qnm; omega)]; exact gn7 j hj
  have vx : ∀ i : Nat, i < 10 → vp_in (zi i) 10 := fun i hi => (zin_iff (by omega)).mpr hi
  have hAo : ∀ z ∈ sgC x :: sgA x, txOk (moT z) ∧ txOk (moG z) := fun z hz => by
    rcases List.mem_cons.mp hz with rfl | hz
    · exact ⟨oT, oG⟩
    · exact ⟨(hA z hz).1, (hA z hz).2.1⟩
  rw [hY] at h1
  intro P52 h52
  -- what is told of it and kept, with the answer as a Bool
  have both : ∀ gd : Bool, (gd = true ↔ (y.1 + 1 = (lexL d).length ∧ topS y.2.2.2.1 = 1)) → P52 (b01 gd) := by
    intro gd hgd
    refine h52 _ ⟨by cases gd; exact Or.inl rfl; exact Or.inr rfl, fun I11 e11 => ⟨vx 0 (by decide), fun I12 e12 => ⟨vx 1 (by decide), fun I13 e13 => ⟨vx 2 (by decide), fun I14 e14 => ⟨vx 5 (by decide), fun I15 e15 => ?_⟩⟩⟩⟩⟩
    intro P113 h113
    have lst : ∀ t16 : Int32, t16 = (if gd = true then -2 else zi y.1) → P113 t16 := by
      intro t16 et16
      refine h113 t16 ⟨vx 6 (by decide), fun I17 e17 => ⟨vx 7 (by decide), fun I18 e18 => ?_⟩⟩
      have o18 : ∀ a j, a ≠ 538 → I18.1 a j = I11.1 a j := fun a j u => by rw [e18, zu_oo u, e17, zu_oo u, e15, zu_oo u, e14, zu_oo u, e13, zu_oo u, e12, zu_oo u]
      have c18 : ∀ a j, a ≠ 538 → ¬ (a = 491 ∧ j = 8) → I18.1 a j = I9.1 a j := fun a j u v => by rw [o18 a j u, e11, zu_at, if_neg v]
      have c182 : I18.2 = I9.2 := by rw [e18, zu_2, e17, zu_2, e15, zu_2, e14, zu_2, e13, zu_2, e12, zu_2, e11, zu_2]
      have w180 : I18.1 538 0 = zi (kAhead (txF (moG (sgC x))) (lexL (moG (sgC x))) (txF d) (lexL d)) := by
        rw [e18, zu_i (by decide), e17, zu_i (by decide), e15, zu_i (by decide), e14, zu_i (by decide), e13, zu_i (by decide), e12, zu_self, e11, zu_i (by decide)]
        exact k66
      have w181 : I18.1 538 1 = zi (kBehind (txF (moG (sgC x))) (lexL (moG (sgC x))) (txF d) (lexL d)) := by
        rw [e18, zu_i (by decide), e17, zu_i (by decide), e15, zu_i (by decide), e14, zu_i (by decide), e13, zu_self, e12, zu_oo (by decide), e11, zu_i (by decide)]
        exact k67
      have w182 : I18.1 538 2 = zi y.2.2.2.2 := by
        rw [e18, zu_i (by decide), e17, zu_i (by decide), e15, zu_i (by decide), e14, zu_self, e13, zu_oo (by decide), e12, zu_oo (by decide), e11, zu_i (by decide)]
        exact x4
      have w185 : I18.1 538 5 = zi k := by
        rw [e18, zu_i (by decide), e17, zu_i (by decide), e15, zu_self, e14, zu_oo (by decide), e13, zu_oo (by decide), e12, zu_oo (by decide), e11, zu_i (by decide)]
        exact x5
      have w186 : I18.1 538 6 = t16 := by rw [e18, zu_i (by decide), e17, zu_self]
      have w187 : I18.1 538 7 = zi (m1 - sgM x) := by rw [e18, zu_self]
      have g8' := g8
      have g8 : I18.1 491 8 = b01 gd := by rw [o18 _ _ (by decide), e11, zu_self]
      have q18 : eqQ Qmo I I18 := by
        have z : ∀ (A : zI) (j : Nat) (v : Int32), eqQ Qmo I A → eqQ Qmo I (zu A 538 j v) := fun A j v h => h.zu ⟨by decide, by decide⟩
        rw [e18, e17, e15, e14, e13, e12, e11]
        exact z _ _ _ (z _ _ _ (z _ _ _ (z _ _ _ (z _ _ _ (z _ _ _ (q9.zu ⟨by decide, by decide⟩))))))
      have hn18 : NewT I18 d := hn9.kp (c18 _ _ (by omega) (by omega)) (c18 _ _ (by omega) (by omega)) (fun a j u => c18 a j (by omega) (by omega)) (fun j => by rw [c182])
      intro P346 h346
      -- the end: all is remembered
      have fin : ∀ L : zI, eqQ Qmo I L → TapM L tp → RepNM L (sgM (chg x d tp)) (sgN (chg x d tp)) → ViM L (sgN (chg x d tp)) (moR (newC x d)) (lexL (moG (newC x d))).length → PrM L (sgP (chg x d tp)) → L.1 491 36 = zi (sgE x + 1) → NowM L (newC x d) → (∀ j, L.1 542 j = I.1 542 j) → L.1 491 75 = zi (sgA x).length → (∀ j, j < 10 → j ≠ 9 → L.1 538 j = (sgLs (chg x d tp)).1 j) → L.1 491 59 - zi (sgP x).length = (sgLs (chg x d tp)).1 9 → RcM L (sgLs (chg x d tp)).2 → P346 L := by
        intro L qL l1 l2 l3 l4 l5 l6 l7 l8 l9 l10 l11
        refine h346 L ⟨vx 9 (by decide), fun I20 e20 => ?_⟩
        have o20 : ∀ a j, a ≠ 538 → I20.1 a j = L.1 a j := fun a j u => by rw [e20, zu_oo u]
        have nc : txOk (moT (newC x d)) ∧ txOk (moG (newC x d)) ∧ moB (newC x d) = gd := by
          unfold newC
          rw [hY]
          by_cases hg : y.1 + 1 = (lexL d).length ∧ topS y.2.2.2.1 = 1
          · rw [if_pos hg]
            exact ⟨hd, hd, (hgd.mpr hg).symm⟩
          · rw [if_neg hg]
            refine ⟨hd, oG, ?_⟩
            cases gd
            · rfl
            · exact absurd (hgd.mp rfl) hg
        refine s_remembers (A := sgA x) (c0 := sgC x) (c := newC x d) (by omega) hAo ⟨nc.1, nc.2.1⟩ (by rw [o20 _ _ (by decide)]; exact l8) (sC.kp oT oG (fun j _ _ => by rw [o20 _ _ (by decide)]; exact l7 j)) (fun kk yy hy => (sA kk yy hy).kp (hAo yy (List.mem_cons_of_mem _ (List.mem_of_getElem? hy))).1 (hAo yy (List.mem_cons_of_mem _ (List.mem_of_getElem? hy))).2 (fun j _ _ => by rw [o20 _ _ (by decide)]; exact l7 j)) (l6.kp (fun a j u => o20 a j (by omega)) (fun j => by rw [e20, zu_2])) (fun M qM t1 t2 t3 t4 => ?_)
        have oM : ∀ a j, a ≠ 538 → a ≠ 542 → ¬ (a = 491 ∧ (j = 75 ∨ j = 76)) → M.1 a j = L.1 a j := fun a j u1 u2 u3 => by rw [qM.1 a j (by omega), o20 a j u1]
        have oM2 : ∀ a j, a ≠ 542 → a ≠ 491 → M.2 a j = L.2 a j := fun a j u v => by rw [qM.2 a j (by omega), e20, zu_2]
        have l6M : NowM M (newC x d) := l6.kp (fun a j u => oM a j (by omega) (by omega) (by omega)) (fun j => oM2 507 j (by decide) (by decide))
        have key := h1 M (by
          refine eqQ.tr ?_ (qM.mono (fun a j h => by unfold Qmo; omega))
          rw [e20]
          exact qL.zu ⟨by decide, by decide⟩) ⟨l1.kp (oM _ _ (by decide) (by decide) (by decide)) (fun j => oM _ _ (by decide) (by decide) (by omega)), l2.kp2 (oM _ _ (by decide) (by decide) (by decide)) (fun a j u1 u2 => oM a j (by omega) (by omega) (by omega)) (fun j => oM2 511 j (by decide) (by decide)), l3.kp (fun a j u => oM a j (by omega) (by omega) (by omega)), l4.kp (fun a j u => oM a j (by omega) (by omega) (by omega)), ⟨by rw [oM _ _ (by decide) (by decide) (by decide)]; exact l5, fun j hj => by
            rw [qM.1 538 j (by omega), e20]
            by_cases u : j = 9
            · rw [u, zu_self]
              exact l10
            · rw [zu_i u]
              exact l9 j hj u, l11.kp (fun a j h => oM a j (by omega) (by omega) (by omega))⟩, t1, t2, l6M, t3, t4, fun kk yy hy => (by cases hy)⟩
        rw [show M.1 491 8 = b01 gd by rw [← nc.2.2]; exact l6M.2.2.2.2.2.2.2.2.1]
        cases gd with
        | false =>
          rw [if_pos (show b01 false = 0 by decide)]
          rw [if_neg (fun hg => by have := hgd.mpr hg; cases this)] at key
          exact key
        | true =>
          rw [if_neg (show ¬ b01 true = 0 by decide)]
          rw [if_pos (hgd.mp rfl)] at key
          exact key
      rw [g8]
      cases gd with
      | false =>
        rw [if_pos (show b01 false = 0 by decide)]
        have hg : ¬ (y.1 + 1 = (lexL d).length ∧ topS y.2.2.2.1 = 1) := fun hg => by have := hgd.mpr hg; cases this
        intro I23 e23
        have c23 : ∀ a j, ¬ (a = 491 ∧ j = 25) → I23.1 a j = I18.1 a j := fun a j u => by rw [e23, zu_at, if_neg u]
        refine s_keepsTokens (gd := false) hd (hn18.kp (c23 _ _ (by omega)) (c23 _ _ (by omega)) (fun a j u => c23 a j (by omega)) (fun j => by rw [e23, zu_2])) (by rw [c23 _ _ (by omega)]; exact g8) (fun I24 q24 nt24 _ => ?_)
        have q24 : eqQ Qkt I23 I24 := q24.mono (fun a j h => by rcases h with h | ⟨h, -⟩; exact h; cases h)
        refine ⟨vx 3 (by decide), fun I25 e25 => ⟨vx 4 (by decide), fun I26 e26 => ⟨vx 8 (by decide), fun I27 e27 => ?_⟩⟩⟩
        have o27 : ∀ a j, a ≠ 538 → I27.1 a j = I24.1 a j := fun a j u => by rw [e27, zu_oo u, e26, zu_oo u, e25, zu_oo u]
        have o272 : I27.2 = I24.2 := by rw [e27, zu_2, e26, zu_2, e25, zu_2]
        -- against I9
        have c27 : ∀ a j, a ≠ 538 → ¬ Qkt a j → ¬ (a = 491 ∧ (j = 25 ∨ j = 8)) → I27.1 a j = I9.1 a j := fun a j u1 u2 u3 => by rw [o27 a j u1, q24.1 a j u2, c23 a j (by omega), c18 a j u1 (by omega)]
        have f27 : ∀ a j, a ≠ 538 → ¬ Qkt a j → ¬ (a = 491 ∧ (j = 25 ∨ j = 8 ∨ j = 36 ∨ j = 66 ∨ j = 67 ∨ (71 ≤ j ∧ j ≤ 73))) → ¬ (509 ≤ a ∧ a ≤ 517) → a ≠ 500 → a ≠ 539 → a ≠ 540 → I27.1 a j = I.1 a j := fun a j u1 u2 u3 u4 u5 u6 u7 => by rw [c27 a j u1 u2 (by omega), o9 a j (by omega) u4 u5 u6 u7]
        have nce : newC x d = (d, moG (sgC x), false, moR (sgC x), moO (sgC x), moW (sgC x)) := by
          unfold newC
          rw [hY, if_neg hg]
        have hcm : (chg x d tp).2.1 = (sgM x, sgN x) := by
          unfold chg
          rw [hY, if_neg hg]
        have hcN : sgN (chg x d tp) = sgN x := congrArg Prod.snd hcm
        have hcM : sgM (chg x d tp) = sgM x := congrArg Prod.fst hcm
        have hcP : sgP (chg x d tp) = sgP x := by
          unfold chg sgP
          rw [hY]
          exact if_neg hg
        have hcL : sgLs (chg x d tp) = (laW x d, (sgLs x).2) := by
          show (if (regY x d).1 + 1 = (lexL d).length ∧ topS (regY x d).2.2.2.1 = 1 then (laG x d, (rcR x d).1) else (laW x d, (sgLs x).2)) = _
          rw [hY, if_neg hg]
        rw [hcN, hcM, hcP, nce, hcL] at fin
        refine fin I27 ?_ (r1.kp (f27 _ _ (by decide) (by unfold Qkt; decide) (by decide) (by decide) (by decide) (by decide) (by decide)) (fun j => f27 _ _ (by decide) (by unfold Qkt; omega) (by omega) (by omega) (by omega) (by omega) (by omega))) ⟨?_, fun kk hk => ?_⟩ (r3.kp (fun a j u => f27 a j (by omega) (by unfold Qkt; omega) (by omega) (by omega) (by omega) (by omega) (by omega))) (r4.kp (fun a j u => f27 a j (by omega) (by unfold Qkt; omega) (by omega) (by omega) (by omega) (by omega) (by omega))) (by rw [c27 _ _ (by decide) (by unfold Qkt; decide) (by decide)]; exact g936) ?_ (fun j => f27 542 j (by decide) (by unfold Qkt; omega) (by omega) (by omega) (by omega) (by omega) (by omega)) (by rw [f27 _ _ (by decide) (by unfold Qkt; decide) (by decide) (by decide) (by decide) (by decide) (by decide)]; exact r6) (fun j hj h9 => ?_) ?_ ?_
        · rw [e27, e26, e25]
          refine (((eqQ.tr ?_ (q24.mono (fun a j h => by unfold Qkt at h; unfold Qmo; omega))).zu ⟨by decide, by decide⟩).zu ⟨by decide, by decide⟩).zu ⟨by decide, by decide⟩
          rw [e23]
          exact q18.zu ⟨by decide, by decide⟩
        · rw [o27 _ _ (by decide), q24.1 _ _ (by unfold Qkt; decide), e23, zu_self]
        · rw [← g1 kk hk]
          obtain ⟨n1, n2, n3, n4, n5, n6, n7⟩ := x2.2 kk (by omega)
          have cc : ∀ a j, 509 ≤ a → a ≤ 516 → I27.1 a j = I9.1 a j := fun a j u1 u2 => c27 a j (by omega) (by unfold Qkt; omega) (by omega)
          refine ⟨by rw [cc _ _ (by decide) (by decide)]; exact n1, by rw [cc _ _ (by decide) (by decide)]; exact n2, by rw [cc _ _ (by decide) (by decide)]; exact n3, by rw [cc _ _ (by decide) (by decide)]; exact n4, by rw [cc _ _ (by decide) (by decide)]; exact n5, fun i c hi => by rw [cc _ _ (by decide) (by decide)]; exact n6 i c hi, fun q => ?_⟩
          obtain ⟨w1, w2⟩ := n7 q
          exact ⟨by rw [cc _ _ (by decide) (by decide)]; exact w1, by rw [o272, q24.2 511 kk (by unfold Qkt; omega), e23, zu_2, c182]; exact w2⟩
        · obtain ⟨a1, a2, a3, a4⟩ := nt24.kp (J := I27) (o27 _ _ (by decide)) (o27 _ _ (by decide)) (fun a j u => o27 a j (by omega))
          obtain ⟨a5, a6, a7⟩ := GoodT.kp (J := I27) (d := moG (sgC x)) ⟨nw5, nw6, nw7⟩ (f27 _ _ (by decide) (by unfold Qkt; decide) (by decide) (by decide) (by decide) (by decide) (by decide)) (f27 _ _ (by decide) (by unfold Qkt; decide) (by decide) (by decide) (by decide) (by decide) (by decide)) (fun a j u => f27 a j (by omega) (by unfold Qkt; omega) (by omega) (by omega) (by omega) (by omega) (by omega)) (fun j => by rw [o272, q24.2 507 j (by unfold Qkt; omega), e23, zu_2, c182]; exact o92 507 j (by decide) (by decide) (by decide) (by decide) (by decide))
          refine ⟨a1, a2, a3, a4, a5, a6, a7, fun j hj => ?_, ?_, ?_⟩
          · rw [f27 508 j (by decide) (by unfold Qkt; omega) (by omega) (by omega) (by omega) (by omega) (by omega)]
            exact nw8 j hj
          · rw [o27 _ _ (by decide), q24.1 _ _ (by unfold Qkt; decide), c23 _ _ (by decide)]
            exact g8
          · rw [f27 _ _ (by decide) (by unfold Qkt; decide) (by decide) (by decide) (by decide) (by decide) (by decide)]
            exact nw10
        · have z : ∀ i, i ≠ 3 → i ≠ 4 → i ≠ 8 → I27.1 538 i = I18.1 538 i := fun i u1 u2 u3 => by
            rw [e27, zu_i u3, e26, zu_i u2, e25, zu_i u1, q24.1 538 i (by unfold Qkt; omega), c23 538 i (by omega)]
          match j, hj, h9 with
          | 0, _, _ =>
            rw [z 0 (by decide) (by decide) (by decide)]
            exact w180
          | 1, _, _ =>
            rw [z 1 (by decide) (by decide) (by decide)]
            exact w181
          | 2, _, _ =>
            rw [z 2 (by decide) (by decide) (by decide)]
            show _ = zi (regY x d).2.2.2.2
            rw [hY]
            exact w182
          | 3, _, _ =>
            rw [e27, zu_i (by decide), e26, zu_i (by decide), e25, zu_self]
            rfl
          | 4, _, _ =>
            rw [e27, zu_i (by decide), e26, zu_self]
            rfl
          | 5, _, _ =>
            rw [z 5 (by decide) (by decide) (by decide)]
            show _ = zi (reg x d).2.1
            rw [hK1]
            exact w185
          | 6, _, _ =>
            rw [z 6 (by decide) (by decide) (by decide)]
            show _ = zi (regY x d).1
            rw [hY, w186, et16, if_neg (by decide)]
          | 7, _, _ =>
            rw [z 7 (by decide) (by decide) (by decide)]
            show _ = zi ((reg x d).1.1 - sgM x)
            rw [hM1]
            exact w187
          | 8, _, _ =>
            rw [e27, zu_self]
            rfl
          | 9, _, h9 => exact absurd rfl h9
          | n + 10, h, _ => exact absurd h (by omega)
        · rw [f27 491 59 (by decide) (by unfold Qkt; decide) (by decide) (by decide) (by decide) (by decide) (by decide), r4.1, zi_sub (Nat.le_refl _), Nat.sub_self]
          rfl
        · exact rm0.kpm hWr.1 (fun s hs => by rw [c27 517 s (by omega) (by unfold Qkt; omega) (by omega)]; exact o517 s hs) (fun j => by rw [c27 518 j (by omega) (by unfold Qkt; omega) (by omega)]; exact o9 518 j (by omega) (by omega) (by omega) (by omega) (by omega))
      | true =>
        rw [if_neg (show ¬ b01 true = 0 by decide)]
        have hg := hgd.mp rfl
        obtain ⟨b, hst, tr⟩ := g8' hg.1 hg.2
        have fg := oR.flG hN hu
        have hFl := oR.few hN
        have hFlen : (flR (sgN x) (moR (sgC x))).length = sz (sgN x) (moR (sgC x)) := fl_len hN _ oR.1 _ _ _ _
        intro P133 h133
        have cp : ∀ (dd v : Nat) (A : zI), v + dd = (lexL d).length → eqQ (fun a _ => a = 508) I18 A → (∀ j, j < v → A.1 508 j = zi (g j)) → P133 (zi v) A := by
          intro dd
          induction dd with
          | succ dd ih =>
            intro v A hvd qA hA'
            refine h133 _ _ ?_
            rw [qA.1 491 9 (by omega), hn18.2.2.1, if_neg (fun u => by have := (zi_le (by omega) (by omega)).mp u; omega), zi_tn (show v < 2147483648 by omega)]
            refine ⟨(zin_iff (by omega)).mpr (by omega), (zin_iff (by omega)).mpr (by omega), fun I54 e54 w ew => ?_⟩
            rw [qA.1 500 v (by omega), c18 500 v (by decide) (by omega), gn9 v (by omega)] at e54
            rw [ew, zi_succ]
            refine ih (v + 1) I54 (by omega) (by rw [e54]; exact qA.zu rfl) (fun j hj => ?_)
            rw [e54, zu_at]
            by_cases u : j = v
            · rw [if_pos ⟨rfl, u⟩, u]
            · rw [if_neg (fun z => u z.2)]
              exact hA' j (by omega)
          | zero =>
            intro v A hvd qA hA'
            refine h133 _ _ ?_
            rw [qA.1 491 9 (by omega), hn18.2.2.1, if_pos ((zi_le (by omega) (by omega)).mpr (by omega))]
            have hst2 : y.2.2.2.1.length = 2 := by rw [hst]; rfl
            have a71 : A.1 491 71 - 1 = zi 1 := by
              rw [qA.1 491 71 (by omega), c18 491 71 (by decide) (by decide), x3.2.1, hst2]
              rfl
            rw [a71, zi_tn (by decide)]
            refine ⟨(zin_iff (by omega)).mpr (by decide), fun I30 e30 => ?_⟩
            rw [qA.1 540 1 (by omega), c18 540 1 (by decide) (by decide), (x3.2.2 1 (regR x d, 1) (by rw [hst]; rfl)).2 (Nat.le_refl 1)] at e30
            have c30 : ∀ a j, a ≠ 508 → ¬ (a = 491 ∧ j = 37) → I30.1 a j = I18.1 a j := fun a j u1 u2 => by rw [e30, zu_at, if_neg u2, qA.1 a j u1]
            have q30 : eqQ Qmo I I30 := by
              rw [e30]
              exact (q18.tr (qA.mono (fun a j h => by unfold Qmo; omega))).zu ⟨by decide, by decide⟩
            intro P180 h180
            have vi30 : ∀ (B : zI), eqQ (fun a _ => a = 541) I30 B → B.1 491 43 = zi (flR (sgN x) (moR (sgC x))).length ∧ ∀ (i : Nat) (z : Fl), (flR (sgN x) (moR (sgC x)))[i]? = some z → B.1 521 i = zi z.1 := fun B qB => by
              refine ⟨?_, fun i z hz => ?_⟩
              · rw [qB.1 491 43 (by omega), c30 _ _ (by decide) (by decide), c18 _ _ (by decide) (by decide), o9 _ _ (by decide) (by decide) (by decide) (by decide) (by decide)]
                exact r3.2.1.1
              · rw [qB.1 521 i (by omega), c30 _ _ (by decide) (by omega), c18 _ _ (by decide) (by omega), o9 _ _ (by omega) (by omega) (by decide) (by decide) (by decide)]
                exact (r3.2.1.2.1 i z (List.getElem?_eq_some_iff.mp hz).1 hz).1
            have oo : ∀ (d2 v : Nat) (B : zI), v + d2 = (flR (sgN x) (moR (sgC x))).length → eqQ (fun a _ => a = 541) I30 B → (∀ (j : Nat) (z : Fl), j < v → (flR (sgN x) (moR (sgC x)))[j]? = some z → B.1 541 j = zi z.1) → P180 (zi v) B := by
              intro d2
              induction d2 with
              | succ d2 ih2 =>
                intro v B hvd2 qB hB
                obtain ⟨w1, w2⟩ := vi30 B qB
                refine h180 _ _ ?_
                rw [w1, if_neg (fun u => by have := (zi_le (by omega) (by omega)).mp u; omega), zi_tn (show v < 2147483648 by omega)]
                have hz : (flR (sgN x) (moR (sgC x)))[v]? = some ((flR (sgN x) (moR (sgC x)))[v]'(by omega)) := List.getElem?_eq_getElem (by omega)
                generalize (flR (sgN x) (moR (sgC x)))[v]'(by omega) = z at hz
                refine ⟨(zin_iff (by omega)).mpr (by omega), (zin_iff (by omega)).mpr (by omega), fun I51 e51 w ew => ?_⟩
                rw [w2 v z hz] at e51
                rw [ew, zi_succ]
                refine ih2 (v + 1) I51 (by omega) (by rw [e51]; exact qB.zu rfl) (fun j z' hj hz' => ?_)
                rw [e51, zu_at]
                by_cases u : j = v
                · subst u
                  rw [hz] at hz'
                  cases hz'
                  rw [if_pos ⟨rfl, rfl⟩]
                · rw [if_neg (fun q => u q.2)]
                  exact hB j z' (by omega) hz'
              | zero =>
                intro v B hvd2 qB hB
                obtain ⟨w1, w2⟩ := vi30 B qB
                refine h180 _ _ ?_
                rw [w1, if_pos ((zi_le (by omega) (by omega)).mpr (by omega))]
                intro v6 ev6
                subst ev6
                have cB : ∀ a j, a ≠ 508 → a ≠ 541 → ¬ (a = 491 ∧ j = 37) → B.1 a j = I18.1 a j := fun a j u1 u2 u3 => by rw [qB.1 a j u2, c30 a j u1 u3]
                have cB2 : ∀ a j, a ≠ 508 → a ≠ 541 → B.2 a j = I18.2 a j := fun a j u1 u2 => by rw [qB.2 a j u2, e30, zu_2, qA.2 a j u1]
                refine s_keepsTokens (gd := true) hd (hn18.kp (cB _ _ (by decide) (by decide) (by decide)) (cB _ _ (by decide) (by decide) (by decide)) (fun a j u => cB a j (by omega) (by omega) (by omega)) (fun j => cB2 499 j (by decide) (by decide))) (by rw [cB _ _ (by decide) (by decide) (by decide)]; exact g8) (fun I34 q34 nt34 gt34 => ?_)
                have q34' : eqQ (fun a j => Qkt a j ∨ Qkg a j) B I34 := q34.mono (fun a j h => by rcases h with h | ⟨-, h⟩; exact Or.inl h; exact Or.inr h)
                -- against I9, no texts
                have c34 : ∀ a j, a ≠ 538 → a ≠ 508 → a ≠ 541 → ¬ Qkt a j → ¬ Qkg a j → ¬ (a = 491 ∧ (j = 8 ∨ j = 37)) → I34.1 a j = I9.1 a j := fun a j u1 u2 u3 u4 u5 u6 => by
                  rw [q34'.1 a j (fun h => by rcases h with h | h; exact u4 h; exact u5 h), cB a j u2 u3 (by omega), c18 a j u1 (by omega)]
                have c342 : ∀ a j, a ≠ 508 → a ≠ 541 → ¬ Qkt a j → ¬ Qkg a j → I34.2 a j = I9.2 a j := fun a j u2 u3 u4 u5 => by
                  rw [q34'.2 a j (fun h => by rcases h with h | h; exact u4 h; exact u5 h), cB2 a j u2 u3, c182]
                have rep34 : RepNM I34 y.2.1 y.2.2.1 := x2.kp2 (c34 _ _ (by decide) (by decide) (by decide) (by unfold Qkt; decide) (by unfold Qkg; decide) (by decide)) (fun a j u1 u2 => c34 a j (by omega) (by omega) (by omega) (by unfold Qkt; omega) (by unfold Qkg; omega) (by omega)) (fun j => c342 511 j (by decide) (by decide) (by unfold Qkt; omega) (by unfold Qkg; omega))
                have g37 : I34.1 491 37 = zi (regR x d) := by rw [q34'.1 491 37 (by unfold Qkt Qkg; decide), qB.1 491 37 (by decide), e30, zu_self]
                refine s_Mtree rep34 g4 g5 (by omega) tr g37 (fun I35 q35 vi35 => ?_)
                have n541 : ∀ (j : Nat) (z : Fl), (flR (sgN x) (moR (sgC x)))[j]? = some z → I35.1 541 j = zi z.1 := fun j z hz => by
                  rw [q35.1 541 j (by unfold Qft; omega), q34'.1 541 j (by unfold Qkt Qkg; omega)]
                  exact hB j z (by have := (List.getElem?_eq_some_iff.mp hz).1; omega) hz
                have rep35 : RepNM I35 y.2.1 y.2.2.1 := rep34.kp2 (q35.1 _ _ (by unfold Qft; decide)) (fun a j u1 u2 => q35.1 a j (by unfold Qft; omega)) (fun j => q35.2 511 j (by unfold Qft; omega))
                intro P229 h229
                have brk : ∀ (d3 v : Nat) (w : Int32), v + d3 = (flR (sgN x) (moR (sgC x))).length → w = zi (((flR (sgN x) (moR (sgC x))).take v).filter (fun z => decide (0 ≤ ndR (sgN x z.1) ∧ z.1 ∉ po y.2.2.1 (regR x d)))).length → P229 w (zi v) := by
                  intro d3
                  induction d3 with
                  | succ d3 ih3 =>
                    intro v w hvd3 ew
                    refine h229 _ _ ?_
                    rw [if_neg (fun u => by have := (zi_le (by omega) (by omega)).mp u; omega), zi_tn (show v < 2147483648 by omega)]
                    have hz : (flR (sgN x) (moR (sgC x)))[v]? = some ((flR (sgN x) (moR (sgC x)))[v]'(by omega)) := List.getElem?_eq_getElem (by omega)
                    generalize (flR (sgN x) (moR (sgC x)))[v]'(by omega) = z at hz
                    have hzm := (fg.1.2 v z hz).1
                    have i1 : vp_in (zi v) 700 := (zin_iff (by omega)).mpr (by omega)
                    have i2 : vp_in (zi z.1) 3700 := (zin_iff (by omega)).mpr (by omega)
                    have e509 : I35.1 509 z.1 = Int32.ofInt (ndR (sgN x z.1)) := by
                      rw [← g1 z.1 hzm]
                      exact (rep35.2 z.1 (by omega)).1
                    have tk1 : ((flR (sgN x) (moR (sgC x))).take (v + 1)).filter (fun z => decide (0 ≤ ndR (sgN x z.1) ∧ z.1 ∉ po y.2.2.1 (regR x d))) = ((flR (sgN x) (moR (sgC x))).take v).filter (fun z => decide (0 ≤ ndR (sgN x z.1) ∧ z.1 ∉ po y.2.2.1 (regR x d))) ++ [z].filter (fun z => decide (0 ≤ ndR (sgN x z.1) ∧ z.1 ∉ po y.2.2.1 (regR x d))) := by
                      rw [List.take_add_one, hz, List.filter_append]
                      rfl
                    rw [n541 v z hz, zi_tn (show z.1 < 2147483648 by omega), e509]
                    refine ⟨i1, i2, ?_⟩
                    intro P269 h269
                    have nx : ∀ w', w' = zi (((flR (sgN x) (moR (sgC x))).take (v + 1)).filter (fun z => decide (0 ≤ ndR (sgN x z.1) ∧ z.1 ∉ po y.2.2.1 (regR x d)))).length → P269 w' := fun w' ew' => h269 w' (fun v' ev => by
                      rw [ev, zi_succ]
                      exact ih3 (v + 1) w' (by omega) ew')
                    rw [tk1] at nx
                    have no : ¬ (0 ≤ ndR (sgN x z.1) ∧ z.1 ∉ po y.2.2.1 (regR x d)) → P269 w := fun u => nx w (by
                      rw [List.filter_cons, if_neg (fun q => u (of_decide_eq_true q)), List.filter_nil, List.append_nil]
                      exact ew)
                    rcases hN z.1 hzm with ⟨f1, -⟩ | ⟨r, s', f1, -, f3, -⟩
                    · rw [f1, if_pos (show Int32.ofInt (-2) < 0 by decide)]
                      exact no (fun w => by
                        have := w.1
                        omega)
                    · rw [f3, zi_int r, if_neg (zi_pos (by omega))]
                      refine ⟨i1, i2, ?_⟩
                      by_cases up : z.1 ∈ po y.2.2.1 (regR x d)
                      · have up' := up
                        rw [← fl_map g4 (regR x d) tr.1 0 0 0 1] at up'
                        obtain ⟨z', hz', ez⟩ := List.mem_map.mp up'
                        have ez : z'.1 = z.1 := ez
                        obtain ⟨i, hi⟩ := List.mem_iff_getElem?.mp hz'
                        have hil := (List.getElem?_eq_some_iff.mp hi).1
                        have e523 := (vi35.2.1.2.1 i z' hil hi).2.1
                        rw [ez] at e523
                        have hl3 : (flR y.2.2.1 (regR x d)).length = sz y.2.2.1 (regR x d) := fl_len g4 _ tr.1 _ _ _ _
                        have hl4 := tr.few g4
                        have hil : i < (flR y.2.2.1 (regR x d)).length := hil
                        rw [e523, if_pos (zi_ge (by omega))]
                        exact no (fun w => w.2 up)
                      · have e523 : I35.1 523 z.1 = -1 := vi35.2.1.2.2 z.1 (by omega) (fun i z' _ hi e => up (by rw [← e]; exact fl_po g4 tr.1 hi))
                        rw [e523, if_neg (show ¬ (0 : Int32) ≤ -1 by decide)]
                        intro v' ev
                        refine nx v' ?_
                        rw [ev, ew, zi_succ, List.filter_cons, if_pos (decide_eq_true (show 0 ≤ ndR (sgN x z.1) ∧ z.1 ∉ po y.2.2.1 (regR x d) from ⟨by omega, up⟩)), List.length_append]
                        rfl
                  | zero =>
                    intro v w hvd3 ew
                    rw [show v = (flR (sgN x) (moR (sgC x))).length by omega, List.take_length] at ew
                    have ew : w = zi (brkN x d) := by
                      unfold brkN
                      rw [hY]
                      exact ew
                    refine h229 _ _ ?_
                    rw [if_pos ((zi_le (by omega) (by omega)).mpr (by omega))]
                    obtain ⟨rr1, rr2⟩ := runs_ok g4 g5 tr
                    have pr35 : PrM I35 (sgP x) := r4.kp (fun a j u => by
                      rw [q35.1 a j (by unfold Qft; omega), c34 a j (by omega) (by omega) (by omega) (by unfold Qkt; omega) (by unfold Qkg; omega) (by omega), o9 a j (by omega) (by omega) (by omega) (by omega) (by omega)])
                    refine s_rowNow (fun r hr => by have := rr1 r hr; omega) rr2 (by omega) hP1 pr35 vi35.2.2.2.1 vi35.2.2.2.2.2.1 (fun I39 q39 pr39 _ _ => ⟨vx 3 (by decide), fun I40 e40 => ⟨vx 4 (by decide), fun I41 e41 => ?_⟩⟩)
                    have c41 : ∀ a j, a ≠ 538 → ¬ Qro a j → I41.1 a j = I35.1 a j := fun a j u1 u2 => by rw [e41, zu_oo u1, e40, zu_oo u1, q39.1 a j u2]
                    have c412 : ∀ a j, ¬ Qro a j → I41.2 a j = I35.2 a j := fun a j u => by rw [e41, zu_2, e40, zu_2, q39.2 a j u]
                    have vi41 : ViM I41 y.2.2.1 (regR x d) (lexL d).length := vi35.kp (fun a j u => c41 a j (by omega) (by unfold Qro; omega))
                    have rep35 : RepNM I35 y.2.1 y.2.2.1 := rep34.kp2 (q35.1 _ _ (by unfold Qft; decide)) (fun a j u1 u2 => q35.1 a j (by unfold Qft; omega)) (fun j => q35.2 511 j (by unfold Qft; omega))
                    have rep41 : RepNM I41 y.2.1 y.2.2.1 := rep35.kp2 (c41 _ _ (by decide) (by unfold Qro; decide)) (fun a j u1 u2 => c41 a j (by omega) (by unfold Qro; omega)) (fun j => c412 511 j (by unfold Qro; omega))
                    obtain ⟨hwB, hwR, -⟩ := reg_wr hv hd (by rw [hY]; exact hg)
                    rw [hY] at hwB hwR
                    have hcm0 : (chg x d []).2.1 = (y.2.1, y.2.2.1) := by
                      unfold chg
                      rw [hY, if_pos hg]
                    have oN2 : MoOk (sgM (chg x d [])) (sgN (chg x d [])) (newC x d) := (chg_ok (tp := []) hv hd (show ¬ refu x d from hnr) ⟨Nat.zero_le _, fun b hb => by cases hb⟩ he).2.2.2.2.2.2.2.1
                    rw [show sgM (chg x d []) = y.2.1 from congrArg Prod.fst hcm0, show sgN (chg x d []) = y.2.2.1 from congrArg Prod.snd hcm0] at oN2
                    have wz := (tkz_R g4 oN2).2
                    rw [show moR (newC x d) = regR x d by unfold newC; rw [hY, if_pos hg]; rfl] at wz
                    have c49 : ∀ a j, a ≠ 538 → a ≠ 508 → a ≠ 541 → ¬ Qkt a j → ¬ Qkg a j → ¬ (a = 491 ∧ (j = 8 ∨ j = 37)) → ¬ Qro a j → ¬ Qft a j → I41.1 a j = I9.1 a j := fun a j u1 u2 u3 u4 u5 u6 u7 u8 => by rw [c41 a j u1 u7, q35.1 a j u8, c34 a j u1 u2 u3 u4 u5 u6]
                    have rm41 : RcM I41 (sgLs x).2 := rm0.kpm hWr.1 (fun s hs => by rw [c49 517 s (by omega) (by omega) (by omega) (by unfold Qkt; omega) (by unfold Qkg; omega) (by omega) (by unfold Qro; omega) (by unfold Qft; omega)]; exact o517 s hs) (fun j => by rw [c49 518 j (by omega) (by omega) (by omega) (by unfold Qkt; omega) (by unfold Qkg; omega) (by omega) (by unfold Qro; omega) (by unfold Qft; omega)]; exact o9 518 j (by omega) (by omega) (by omega) (by omega) (by omega))
                    refine u_runsAllR (e := sgE x + 1) (rc := (sgLs x).2) rep41 g4 (by omega) tr (tr.flG g4 g5).2.1 wz vi41 rm41 (by omega) (by rw [c49 491 36 (by decide) (by decide) (by decide) (by unfold Qkt; decide) (by unfold Qkg; decide) (by decide) (by unfold Qro; decide) (by unfold Qft; decide)]; exact g936) (fun c hc => by
                      by_cases u : c < sgM x
                      · rw [g1 c u]
                        have := hWr.2.1 c u
                        omega
                      · rw [hwB c (by omega) hc]
                        omega) (fun s h1 h2 h3 => by
                      obtain ⟨z, z1, z2, -⟩ := st2_mem h3
                      have := hwR z z1 (by rw [z2]; exact h2)
                      rw [z2] at this
                      exact this) (fun I43 q43 rm43 => ⟨vx 8 (by decide), fun I44 e44 => ?_⟩)
                    have eRc : rcR x d = rcL y.2.2.1 (sgE x + 1) (setsOf y.2.2.1 (regR x d)) (fun _ => 0) ((sgLs x).2, 0, 0) := by
                      unfold rcR
                      rw [hY, rcP_l (Nat.succ_ne_zero _) _ (Nat.le_refl _), List.take_length]
                      rfl
                    have c44 : ∀ a j, a ≠ 538 → ¬ Qra a j → I44.1 a j = I41.1 a j := fun a j u1 u2 => by rw [e44, zu_oo u1, q43.1 a j u2]
                    have c442 : ∀ a j, ¬ Qra a j → I44.2 a j = I41.2 a j := fun a j u => by rw [e44, zu_2, q43.2 a j u]
                    -- against I35, I34
                    have b35 : ∀ a j, a ≠ 538 → ¬ Qra a j → ¬ Qro a j → I44.1 a j = I35.1 a j := fun a j u1 u2 u3 => by rw [c44 a j u1 u2, c41 a j u1 u3]
                    have b34 : ∀ a j, a ≠ 538 → ¬ Qra a j → ¬ Qro a j → ¬ Qft a j → I44.1 a j = I34.1 a j := fun a j u1 u2 u3 u4 => by rw [b35 a j u1 u2 u3, q35.1 a j u4]
                    have b342 : ∀ a j, ¬ Qra a j → ¬ Qro a j → ¬ Qft a j → I44.2 a j = I34.2 a j := fun a j u2 u3 u4 => by rw [c442 a j u2, c412 a j u3, q35.2 a j u4]
                    have b9 : ∀ a j, a ≠ 538 → a ≠ 508 → a ≠ 541 → ¬ Qkt a j → ¬ Qkg a j → ¬ (a = 491 ∧ (j = 8 ∨ j = 37)) → ¬ Qra a j → ¬ Qro a j → ¬ Qft a j → I44.1 a j = I9.1 a j := fun a j u1 u2 u3 u4 u5 u6 u7 u8 u9 => by rw [b34 a j u1 u7 u8 u9, c34 a j u1 u2 u3 u4 u5 u6]
                    have nce : newC x d = (d, d, true, regR x d, g, rowI (runsOf y.2.2.1 (regR x d)) (sgP x)) := by
                      unfold newC
                      rw [hY, if_pos hg, hgN]
                    have hcm : (chg x d tp).2.1 = (y.2.1, y.2.2.1) := by
                      unfold chg
                      rw [hY, if_pos hg]
                    have hcN : sgN (chg x d tp) = y.2.2.1 := congrArg Prod.snd hcm
                    have hcM : sgM (chg x d tp) = y.2.1 := congrArg Prod.fst hcm
                    have hcP : sgP (chg x d tp) = layAllR (runsOf y.2.2.1 (regR x d)) (sgP x) := by
                      unfold chg sgP
                      rw [hY]
                      exact if_pos hg
                    have hcL : sgLs (chg x d tp) = (laG x d, (rcR x d).1) := by
                      show (if (regY x d).1 + 1 = (lexL d).length ∧ topS (regY x d).2.2.2.1 = 1 then (laG x d, (rcR x d).1) else (laW x d, (sgLs x).2)) = _
                      rw [hY, if_pos hg]
                    rw [hcN, hcM, hcP, nce, hcL] at fin
                    refine fin I44 ?_ (r1.kp ?_ (fun j => ?_)) (rep41.kp2 (c44 _ _ (by decide) (by unfold Qra Qrk Qna; decide)) (fun a j u1 u2 => c44 a j (by omega) (by unfold Qra Qrk Qna; omega)) (fun j => c442 511 j (by unfold Qra Qrk Qna; omega))) (vi41.kp (fun a j u => c44 a j (by omega) (by unfold Qra Qrk Qna; omega))) (pr39.kp (fun a j u => by rw [c44 a j (by omega) (by unfold Qra Qrk Qna; omega), e41, zu_oo (by omega), e40, zu_oo (by omega)])) ?_ ?_ (fun j => ?_) ?_ (fun j hj h9 => ?_) ?_ ?_
                    · rw [e44]
                      refine eqQ.zu (eqQ.tr ?_ (q43.mono (fun a j h => by unfold Qra Qrk Qna at h; unfold Qmo; omega))) ⟨by decide, by decide⟩
                      rw [e41, e40]
                      refine eqQ.zu (eqQ.zu (eqQ.tr ?_ (q39.mono (fun a j h => by unfold Qro at h; unfold Qmo; omega))) ⟨by decide, by decide⟩) ⟨by decide, by decide⟩
                      exact ((q30.tr (qB.mono (fun a j h => by unfold Qmo; omega))).tr (q34'.mono (fun a j h => by unfold Qkt Qkg at h; unfold Qmo; omega))).tr (q35.mono (fun a j h => by unfold Qft at h; unfold Qmo; omega))
                    · rw [b9 _ _ (by decide) (by decide) (by decide) (by unfold Qkt; decide) (by unfold Qkg; decide) (by decide) (by unfold Qra Qrk Qna; decide) (by unfold Qro; decide) (by unfold Qft; decide), o9 _ _ (by decide) (by decide) (by decide) (by decide) (by decide)]
                    · rw [b9 492 j (by decide) (by decide) (by decide) (by unfold Qkt; omega) (by unfold Qkg; omega) (by omega) (by unfold Qra Qrk Qna; omega) (by unfold Qro; omega) (by unfold Qft; omega), o9 492 j (by omega) (by omega) (by decide) (by decide) (by decide)]
                    · rw [b9 _ _ (by decide) (by decide) (by decide) (by unfold Qkt; decide) (by unfold Qkg; decide) (by decide) (by unfold Qra Qrk Qna; decide) (by unfold Qro; decide) (by unfold Qft; decide)]
                      exact g936
                    · obtain ⟨a1, a2, a3, a4⟩ := nt34.kp (J := I44) (b34 _ _ (by decide) (by unfold Qra Qrk Qna; decide) (by unfold Qro; decide) (by unfold Qft; decide)) (b34 _ _ (by decide) (by unfold Qra Qrk Qna; decide) (by unfold Qro; decide) (by unfold Qft; decide)) (fun a j u => b34 a j (by omega) (by unfold Qra Qrk Qna; omega) (by unfold Qro; omega) (by unfold Qft; omega))
                      obtain ⟨a5, a6, a7⟩ := (gt34 rfl).kp (J := I44) (b34 _ _ (by decide) (by unfold Qra Qrk Qna; decide) (by unfold Qro; decide) (by unfold Qft; decide)) (b34 _ _ (by decide) (by unfold Qra Qrk Qna; decide) (by unfold Qro; decide) (by unfold Qft; decide)) (fun a j u => b34 a j (by omega) (by unfold Qra Qrk Qna; omega) (by unfold Qro; omega) (by unfold Qft; omega)) (fun j => b342 507 j (by unfold Qra Qrk Qna; omega) (by unfold Qro; omega) (by unfold Qft; omega))
                      refine ⟨a1, a2, a3, a4, a5, a6, a7, fun j hj => ?_, ?_, ?_⟩
                      · change j < (lexL d).length at hj
                        rw [b34 508 j (by decide) (by unfold Qra Qrk Qna; omega) (by unfold Qro; omega) (by unfold Qft; omega), q34'.1 508 j (by unfold Qkt Qkg; omega), qB.1 508 j (by omega), e30, zu_oo (by decide)]
                        exact hA' j (by omega)
                      · rw [b34 _ _ (by decide) (by unfold Qra Qrk Qna; decide) (by unfold Qro; decide) (by unfold Qft; decide), q34'.1 491 8 (by unfold Qkt Qkg; decide), cB _ _ (by decide) (by decide) (by decide)]
                        exact g8
                      · rw [b34 _ _ (by decide) (by unfold Qra Qrk Qna; decide) (by unfold Qro; decide) (by unfold Qft; decide)]
                        exact g37
                    · rw [b9 542 j (by decide) (by decide) (by decide) (by unfold Qkt; omega) (by unfold Qkg; omega) (by omega) (by unfold Qra Qrk Qna; omega) (by unfold Qro; omega) (by unfold Qft; omega), o9 542 j (by omega) (by omega) (by decide) (by decide) (by decide)]
                    · rw [b9 _ _ (by decide) (by decide) (by decide) (by unfold Qkt; decide) (by unfold Qkg; decide) (by decide) (by unfold Qra Qrk Qna; decide) (by unfold Qro; decide) (by unfold Qft; decide), o9 _ _ (by decide) (by decide) (by decide) (by decide) (by decide)]
                      exact r6
                    · have z : ∀ i, i ≠ 3 → i ≠ 4 → i ≠ 8 → I44.1 538 i = I18.1 538 i := fun i u1 u2 u3 => by
                        rw [e44, zu_i u3, q43.1 538 i (by unfold Qra Qrk Qna; omega), e41, zu_i u2, e40, zu_i u1, q39.1 538 i (by unfold Qro; omega), q35.1 538 i (by unfold Qft; omega), q34'.1 538 i (by unfold Qkt Qkg; omega), cB 538 i (by omega) (by omega) (by omega)]
                      match j, hj, h9 with
                      | 0, _, _ =>
                        rw [z 0 (by decide) (by decide) (by decide)]
                        exact w180
                      | 1, _, _ =>
                        rw [z 1 (by decide) (by decide) (by decide)]
                        exact w181
                      | 2, _, _ =>
                        rw [z 2 (by decide) (by decide) (by decide)]
                        show _ = zi (regY x d).2.2.2.2
                        rw [hY]
                        exact w182
                      | 3, _, _ =>
                        rw [e44, zu_i (by decide), q43.1 538 3 (by unfold Qra Qrk Qna; omega), e41, zu_i (by decide), e40, zu_self, q39.1 491 25 (by unfold Qro; omega), rep35.1, zi_sub (by omega)]
                        show _ = zi ((regY x d).2.1 - sgM x)
                        rw [hY]
                      | 4, _, _ =>
                        rw [e44, zu_i (by decide), q43.1 538 4 (by unfold Qra Qrk Qna; omega), e41, zu_self]
                        exact ew
                      | 5, _, _ =>
                        rw [z 5 (by decide) (by decide) (by decide)]
                        show _ = zi (reg x d).2.1
                        rw [hK1]
                        exact w185
                      | 6, _, _ =>
                        rw [z 6 (by decide) (by decide) (by decide), w186, et16, if_pos rfl]
                        rfl
                      | 7, _, _ =>
                        rw [z 7 (by decide) (by decide) (by decide)]
                        show _ = zi ((reg x d).1.1 - sgM x)
                        rw [hM1]
                        exact w187
                      | 8, _, _ =>
                        rw [e44, zu_self]
                        show _ = zi (rcR x d).2.1
                        rw [eRc]
                      | 9, _, h9 => exact absurd rfl h9
                      | n + 10, h, _ => exact absurd h (by omega)
                    · have hle := (layAllR_ok (pl := sgP x) (rs := runsOf y.2.2.1 (regR x d)) (fun r hr => by have := rr1 r hr; omega) hP1).2.1
                      rw [c44 491 59 (by decide) (by unfold Qra Qrk Qna; decide), e41, zu_oo (by decide), e40, zu_oo (by decide), pr39.1, zi_sub hle]
                      show _ = zi ((layAllR (runsOf (regY x d).2.2.1 (regR x d)) (sgP x)).length - (sgP x).length)
                      rw [hY]
                    · show RcM I44 (rcR x d).1
                      rw [eRc]
                      exact rm43.kp (fun a j h => by rw [e44, zu_oo (by omega)])
                exact brk (flR (sgN x) (moR (sgC x))).length 0 0 (by omega) (by rw [List.take_zero]; rfl)
            exact oo (flR (sgN x) (moR (sgC x))).length 0 I30 (by omega) eqQ.rf (fun j z hj => by omega)
        exact cp (lexL d).length 0 I18 (by omega) eqQ.rf (fun j hj => by omega)
    cases gd with
    | true =>
      rw [if_pos (hgd.mp rfl), if_neg (show ¬ (0 : Int32) ≤ -1 by decide)]
      exact lst (-2) rfl
    | false =>
      have hg : ¬ (y.1 + 1 = (lexL d).length ∧ topS y.2.2.2.1 = 1) := fun hg => by have := hgd.mpr hg; cases this
      rw [if_neg hg, if_pos (zi_ge (by have := gi'.1; omega))]
      exact lst (zi y.1) rfl
  by_cases hg : y.1 + 1 = (lexL d).length ∧ topS y.2.2.2.1 = 1
  · rw [if_pos hg, if_neg (show ¬ (0 : Int32) ≤ -1 by decide)]
    exact both true ⟨fun _ => hg, fun _ => rfl⟩
  · rw [if_neg hg, if_pos (zi_ge (by have := gi'.1; omega))]
    exact both false ⟨(fun u => by cases u), (fun u => absurd u hg)⟩
/-! ===== texts laid together ===== -/
def seg (l : List Int32) (a b : Nat) : List Int32 := (l.drop a).take (b - a)
theorem seg_len {l : List Int32} {a b : Nat} (h : b ≤ l.length) : (seg l a b).length = b - a := by
  unfold seg
  rw [List.length_take, List.length_drop]
  omega
theorem seg_at {l : List Int32} {a b j : Nat} (h : a + j < b) (hb : b ≤ l.length) : txF (seg l a b) j = txF l (a + j) := by
  unfold seg txF
  rw [List.getD_eq_getElem?_getD, List.getD_eq_getElem?_getD, List.getElem?_take, if_pos (by omega), List.getElem?_drop]
theorem seg_succ {l : List Int32} {a b : Nat} (h : a ≤ b) (hb : b < l.length) : seg l a (b + 1) = seg l a b ++ [txF l b] := by
  unfold seg
  rw [show b + 1 - a = (b - a) + 1 by omega, List.take_add_one, List.getElem?_drop, show a + (b - a) = b by omega, List.getElem?_eq_getElem hb]
  show _ ++ [l[b]] = _ ++ [txF l b]
  rw [txF_at (List.getElem?_eq_getElem hb)]
theorem seg_nil {l : List Int32} {a : Nat} : seg l a a = [] := by
  unfold seg
  rw [Nat.sub_self, List.take_zero]
theorem txF_snoc {l : List Int32} {v : Int32} {j : Nat} : txF (l ++ [v]) j = if j < l.length then txF l j else if j = l.length then v else 0 := by
  unfold txF
  rw [List.getD_eq_getElem?_getD, List.getD_eq_getElem?_getD]
  by_cases u : j < l.length
  · rw [if_pos u, List.getElem?_append_left u]
  · rw [if_neg u]
    by_cases w : j = l.length
    · rw [if_pos w, w, List.getElem?_append_right (Nat.le_refl _), Nat.sub_self]
      rfl
    · rw [if_neg w, List.getElem?_eq_none (by rw [List.length_append]; show l.length + 1 ≤ j; omega)]
      rfl
/-! the class's draft -/
def DrX (I : zI) (d : List Int32) : Prop := I.1 4 1 = zi d.length ∧ ∀ j, j < d.length → j < 300 → I.1 6 j = txF d j
def Qap (a j : Nat) : Prop := (a = 4 ∧ j = 1) ∨ a = 6
theorem s_mAppend {kr n a b : Nat} {t d : List Int32} {I : zI} {K : zI → Prop} (hkr : kr + 1 ≠ 4 ∧ kr + 1 ≠ 6) (hn : n < 2147483648) (ht : t.length ≤ n) (hsrc : ∀ j, j < t.length → I.1 (kr + 1) j = txF t j) (hab : a ≤ b) (hb : b ≤ t.length) (hbn : b ≤ 1000) (hd : d.length ≤ 10000) (hD : DrX I d)
    (hK : ∀ J, eqQ Qap I J → DrX J (d ++ seg t a b) → K J) : w_Moment_append 4 kr n (zi a) (zi b) I K := by
  intro P3 h3
  have main : ∀ (f i : Nat) (J : zI), i + f = b → a ≤ i → eqQ Qap I J → DrX J (d ++ seg t a i) → P3 (zi i) J := by
    intro f
    induction f with
    | zero =>
      intro i J hi ha q dJ
      refine h3 _ _ ?_
      rw [if_pos ((zi_le (by omega) (by omega)).mpr (by omega))]
      exact hK J q (by rw [show b = i by omega]; exact dJ)
    | succ f ih =>
      intro i J hi ha q dJ
      refine h3 _ _ ?_
      rw [if_neg (fun u => by have := (zi_le (by omega) (by omega)).mp u; omega)]
      refine (w_get hn).mpr ?_
      rw [rg_in hn (show i < n by omega), q.1 (kr + 1) i (by unfold Qap; omega), hsrc i (by omega)]
      have hl : (d ++ seg t a i).length = d.length + (i - a) := by rw [List.length_append, seg_len (by omega)]
      refine (w_set (by decide)).mpr ?_
      rw [dJ.1]
      have hnx : d ++ seg t a (i + 1) = (d ++ seg t a i) ++ [txF t i] := by rw [seg_succ ha (by omega), List.append_assoc]
      have hln : ((d ++ seg t a i) ++ [txF t i]).length = (d ++ seg t a i).length + 1 := List.length_append
      by_cases u : (d ++ seg t a i).length < 300
      · rw [rs_in (by decide) u]
        intro I5 e5 v ev
        rw [show (zu J (4 + 1 + 1) (d ++ seg t a i).length (txF t i)).1 4 1 = zi (d ++ seg t a i).length by rw [zu_oo (by decide)]; exact dJ.1, zi_succ] at e5
        rw [ev, zi_succ]
        refine ih (i + 1) I5 (by omega) (by omega) (by rw [e5]; exact (q.zu (Or.inr rfl)).zu (Or.inl ⟨rfl, rfl⟩)) ?_
        rw [hnx]
        refine ⟨by rw [e5, zu_self, hln], fun j hj h300 => ?_⟩
        rw [e5, zu_oo (by decide), zu_at, txF_snoc]
        by_cases w : j = (d ++ seg t a i).length
        · rw [if_pos ⟨rfl, w⟩, if_neg (by omega), if_pos w]
        · rw [if_neg (fun z => w z.2), if_pos (by omega)]
          exact dJ.2 j (by omega) h300
      · rw [rs_out (by decide) (by omega) (by omega)]
        intro I5 e5 v ev
        rw [dJ.1, zi_succ] at e5
        rw [ev, zi_succ]
        refine ih (i + 1) I5 (by omega) (by omega) (by rw [e5]; exact q.zu (Or.inl ⟨rfl, rfl⟩)) ?_
        rw [hnx]
        refine ⟨by rw [e5, zu_self, hln], fun j hj h300 => ?_⟩
        rw [e5, zu_oo (by decide), txF_snoc, if_pos (by omega)]
        exact dJ.2 j (by omega) h300
  exact main (b - a) a I (by omega) (Nat.le_refl _) eqQ.rf (by rw [seg_nil, List.append_nil]; exact hD)
/-! the model's new bytes -/
def NwM (I : zI) (d : List Int32) : Prop := ∀ j, j < d.length → I.1 493 j = txF d j
theorem s_copies {a b : Nat} {t d : List Int32} {I : zI} {K : Int32 → zI → Prop} (ht : t.length ≤ 300) (hsrc : ∀ j, j < t.length → I.1 495 j = txF t j) (hab : a ≤ b) (hb : b ≤ t.length) (hd : d.length + (b - a) ≤ 700) (hD : NwM I d)
    (hK : ∀ J, eqQ (fun a _ => a = 493) I J → NwM J (d ++ seg t a b) → K (zi (d ++ seg t a b).length) J) : w_M_copies (zi d.length) (zi a) (zi b) I K := by
  intro P3 h3
  have main : ∀ (f i : Nat) (J : zI), i + f = b → a ≤ i → eqQ (fun a _ => a = 493) I J → NwM J (d ++ seg t a i) → P3 (zi i) J := by
    intro f
    induction f with
    | zero =>
      intro i J hi ha q dJ
      refine h3 _ _ ?_
      rw [if_pos ((zi_le (by omega) (by omega)).mpr (by omega))]
      have hib : i = b := by omega
      subst hib
      have key := hK J q dJ
      rw [List.length_append, seg_len hb] at key
      rw [zi_add, zi_sub (by omega), show d.length + i - a = d.length + (i - a) by omega]
      exact key
    | succ f ih =>
      intro i J hi ha q dJ
      refine h3 _ _ ?_
      have hl : (d ++ seg t a i).length = d.length + (i - a) := by rw [List.length_append, seg_len (by omega)]
      rw [if_neg (fun u => by have := (zi_le (by omega) (by omega)).mp u; omega), zi_add, zi_sub (by omega), zi_tn (show i < 2147483648 by omega), zi_tn (show d.length + i - a < 2147483648 by omega)]
      refine ⟨(zin_iff (by omega)).mpr (by omega), (zin_iff (by omega)).mpr (by omega), fun I3 e3 v ev => ?_⟩
      rw [q.1 495 i (by omega), hsrc i (by omega)] at e3
      rw [ev, zi_succ]
      refine ih (i + 1) I3 (by omega) (by omega) (by rw [e3]; exact q.zu rfl) ?_
      have hnx : d ++ seg t a (i + 1) = (d ++ seg t a i) ++ [txF t i] := by rw [seg_succ ha (by omega), List.append_assoc]
      rw [hnx]
      intro j hj
      rw [List.length_append] at hj
      change j < (d ++ seg t a i).length + 1 at hj
      rw [e3, zu_at, txF_snoc]
      by_cases w : j = (d ++ seg t a i).length
      · rw [if_pos ⟨rfl, by omega⟩, if_neg (by omega), if_pos w]
      · rw [if_neg (fun z => w (by omega)), if_pos (by omega)]
        exact dJ j (by omega)
  exact main (b - a) a I (by omega) (Nat.le_refl _) eqQ.rf (by rw [seg_nil, List.append_nil]; exact hD)
/-! the tokens lie one behind the other -/
theorem lexF_sorted {t : Nat → Int32} {n : Nat} (hb : ∀ j, j < n → byt (t j)) : ∀ (f i a b : Nat) (x y : Nat × Nat × Nat), a < b → (lexF t n f i)[a]? = some x → (lexF t n f i)[b]? = some y → x.2.1 + x.2.2 ≤ y.2.1
  | 0, i, a, b, x, y, hab, hx, hy => by cases hx
  | f + 1, i, a, b, x, y, hab, hx, hy => by
    rw [lexF] at hx hy
    by_cases h1 : n ≤ i
    · rw [if_pos h1] at hx
      cases hx
    · rw [if_neg h1] at hx hy
      by_cases h2 : isB (t i) = true
      · rw [if_pos h2] at hx hy
        exact lexF_sorted hb f (i + 1) a b x y hab hx hy
      · rw [if_neg h2] at hx hy
        obtain ⟨b', rfl⟩ : ∃ b', b = b' + 1 := ⟨b - 1, by omega⟩
        rw [List.getElem?_cons_succ] at hy
        cases a with
        | zero =>
          cases hx
          have := (lexF_ok hb f _ y (List.mem_of_getElem? hy)).2.2.1
          exact this
        | succ a =>
          rw [List.getElem?_cons_succ] at hx
          exact lexF_sorted hb f _ a b' x y (by omega) hx hy
theorem lexL_sorted {l : List Int32} (h : txOk l) {a b : Nat} {x y : Nat × Nat × Nat} (hab : a < b) (hx : (lexL l)[a]? = some x) (hy : (lexL l)[b]? = some y) : x.2.1 + x.2.2 ≤ y.2.1 := by
  have hx' : (lexF (txF l) l.length l.length 0 ++ [(10, l.length, 0)])[a]? = some x := hx
  have hy' : (lexF (txF l) l.length l.length 0 ++ [(10, l.length, 0)])[b]? = some y := hy
  rcases snoc_at hx' with hx2 | ⟨e1, -⟩
  · rcases snoc_at hy' with hy2 | ⟨-, e2⟩
    · exact lexF_sorted h.2.1 _ _ a b x y hab hx2 hy2
    · rw [e2]
      exact (lexF_ok h.2.1 _ _ x (List.mem_of_getElem? hx2)).2.2.2.2
  · have := (List.getElem?_eq_some_iff.mp hy').1
    rw [List.length_append] at this
    change b < _ + 1 at this
    omega
theorem lexL_in {l : List Int32} (h : txOk l) {a : Nat} {x : Nat × Nat × Nat} (hx : (lexL l)[a]? = some x) : x.2.1 + x.2.2 ≤ l.length := (lex_ok h.2.1 x (List.mem_of_getElem? hx)).2
/-! where RUNS are -/
def fstF (F : List Fl) (r : Nat) : Nat := match F.find? (fun x => x.1 == r) with
  | some x => x.2.2.1.toNat
  | none => 0
theorem fstF_at {F : List Fl} {p : Nat} {x : Fl} (hu : ∀ (p q : Nat) (x y : Fl), F[p]? = some x → F[q]? = some y → x.1 = y.1 → p = q) (hp : F[p]? = some x) : fstF F x.1 = x.2.2.1.toNat := by
  have h : F.find? (fun y => y.1 == x.1) = some x := by
    obtain ⟨hl, hx⟩ := List.getElem?_eq_some_iff.mp hp
    refine List.find?_eq_some_iff_getElem.mpr ⟨beq_self_eq_true _, p, hl, hx, fun j hj => ?_⟩
    have hj2 : F[j]? = some (F[j]'(by omega)) := List.getElem?_eq_getElem (by omega)
    have ne : (F[j]'(by omega)).1 ≠ x.1 := fun e => by
      have := hu j p _ _ hj2 hp e
      omega
    rw [Bool.not_eq_true', beq_eq_false_iff_ne]
    exact ne
  unfold fstF
  rw [h]
theorem rn_ok {m : Nat} {N : Nat → Nd} {F : List Fl} (h : NdOk m N) : ∀ (d p t : Nat) (w : List (Nat × Nat × Nat)), (∀ y ∈ w, y.1 < m) → F.drop p = flS N w p t → ∀ (i r : Nat), (rnL N F d p)[i]? = some r → ∃ (q f : Nat) (x : Fl), F[q]? = some x ∧ x.1 = r ∧ x.2.2.1 = (f : Int) ∧ t ≤ f ∧ r < m ∧ 1 ≤ ndT (N r) ∧
    ∀ r', (rnL N F d p)[i + 1]? = some r' → ∃ (q' f' : Nat) (x' : Fl), F[q']? = some x' ∧ x'.1 = r' ∧ x'.2.2.1 = (f' : Int) ∧ f + ndT (N r) ≤ f'
  | 0, _, _, _, _, _, i, r, hr => by cases hr
  | d + 1, p, t, w, hw, hdr, i, r, hr => by
    cases hx : F[p]? with
    | none =>
      rw [rnL_no (List.getElem?_eq_none_iff.mp hx)] at hr
      cases hr
    | some x =>
      obtain ⟨c, q, dd, w', rfl, hc, rfl, h1, h2⟩ := flS_hd h hw hdr hx
      have hw' : ∀ y ∈ w', y.1 < m := fun y hy => hw y (List.mem_cons_of_mem _ hy)
      rw [rnL_at hx] at hr ⊢
      by_cases u : ndM (N c) = 1
      · rw [if_pos (show ndM (N (flH N c q t dd).1) = 1 from u)] at hr ⊢
        have hT := tok1 h c hc (Or.inl (by omega))
        have hf : (flH N c q t dd).2.2.1 = (t : Int) := if_neg (by omega)
        cases i with
        | zero =>
          cases hr
          refine ⟨p, t, _, hx, rfl, hf, Nat.le_refl _, hc, hT, fun r' hr' => ?_⟩
          rw [List.getElem?_cons_succ] at hr'
          obtain ⟨q', f', x', a1, a2, a3, a4, -⟩ := rn_ok h d (p + sz N c) (t + ndT (N c)) w' hw' h2 0 r' hr'
          exact ⟨q', f', x', a1, a2, a3, a4⟩
        | succ i =>
          rw [List.getElem?_cons_succ] at hr
          obtain ⟨q', f', x', a1, a2, a3, a4, a5, a6, a7⟩ := rn_ok h d (p + sz N c) (t + ndT (N c)) w' hw' h2 i r hr
          refine ⟨q', f', x', a1, a2, a3, by omega, a5, a6, fun r' hr' => ?_⟩
          rw [List.getElem?_cons_succ] at hr'
          exact a7 r' hr'
      · rw [if_neg (show ¬ ndM (N (flH N c q t dd).1) = 1 from u)] at hr ⊢
        obtain ⟨q', f', x', a1, a2, a3, a4, a5, a6, a7⟩ := rn_ok h d (p + 1) _ _ (fun y hy => by
          rcases List.mem_append.mp hy with hy | hy
          · obtain ⟨z, hz, rfl⟩ := List.mem_map.mp hy
            have := h.lt hc hz
            show z < m
            omega
          · exact hw' y hy) h1 i r hr
        exact ⟨q', f', x', a1, a2, a3, by omega, a5, a6, a7⟩
def fsR (x : Sg) (i : Nat) : Nat := fstF (flR (sgN x) (moR (sgC x))) ((runsOf (sgN x) (moR (sgC x))).getD i 0)
def lsR (x : Sg) (i : Nat) : Nat := fsR x i + ndT (sgN x ((runsOf (sgN x) (moR (sgC x))).getD i 0)) - 1
def tkG (x : Sg) (k : Nat) : Nat × Nat × Nat := (lexL (moG (sgC x))).getD k (10, 0, 0)
/-- where the i-th RUN begins, and where it ends -/
def rS (x : Sg) (i : Nat) : Nat := (tkG x (fsR x i)).2.1
def rE (x : Sg) (i : Nat) : Nat := (tkG x (lsR x i)).2.1 + (tkG x (lsR x i)).2.2
theorem run_ok {x : Sg} (hv : Iv x) {i r : Nat} (hr : (runsOf (sgN x) (moR (sgC x)))[i]? = some r) : r < sgM x ∧ 1 ≤ ndT (sgN x r) ∧ fsR x i + ndT (sgN x r) < (lexL (moG (sgC x))).length ∧ (runsOf (sgN x) (moR (sgC x))).getD i 0 = r ∧ (∃ (p : Nat) (y : Fl), (flR (sgN x) (moR (sgC x)))[p]? = some y ∧ y.1 = r ∧ y.2.2.1 = (fsR x i : Int)) ∧
    rS x i ≤ rE x i ∧ rE x i ≤ (moG (sgC x)).length ∧ ((runsOf (sgN x) (moR (sgC x)))[i + 1]? ≠ none → rE x i ≤ rS x (i + 1)) := by
  obtain ⟨hTp, hN, hu, hm, hTk, ⟨hP1, hP2⟩, hE, hC, hA, hZ, hAZ⟩ := hv
  obtain ⟨oT, oG, oB, oR, oK⟩ := hC
  have fg := oR.flG hN hu
  have hst : (flR (sgN x) (moR (sgC x))).drop 0 = flS (sgN x) [(moR (sgC x), 0, 1)] 0 0 := by
    rw [List.drop_zero]
    show fl (sgN x) (moR (sgC x)) 0 0 0 1 = fl (sgN x) (moR (sgC x)) 0 0 0 1 ++ []
    rw [List.append_nil]
  have hw0 : ∀ y ∈ [(moR (sgC x), 0, 1)], y.1 < sgM x := fun y hy => by cases List.mem_singleton.mp hy; exact oR.1
  have hgd : ∀ (i r : Nat), (runsOf (sgN x) (moR (sgC x)))[i]? = some r → (runsOf (sgN x) (moR (sgC x))).getD i 0 = r := fun i r h => by
    rw [List.getD_eq_getElem?_getD, h]
    rfl
  have hfs : ∀ (i r q f : Nat) (z : Fl), (runsOf (sgN x) (moR (sgC x)))[i]? = some r → (flR (sgN x) (moR (sgC x)))[q]? = some z → z.1 = r → z.2.2.1 = (f : Int) → fsR x i = f := fun i r q f z h1 h2 h3 h4 => by
    unfold fsR
    rw [hgd i r h1, ← h3, fstF_at fg.2.1 h2, h4, Int.toNat_natCast]
  obtain ⟨q, f, y, a1, a2, a3, -, a5, a6, a7⟩ := rn_ok hN 400 0 0 _ hw0 hst i r hr
  have e1 := hfs i r q f y hr a1 a2 a3
  have hbd : f + ndT (sgN x r) < (lexL (moG (sgC x))).length := by
    rcases (fg.2.2 q y a1).1 with u | ⟨f', u1, u2, u3⟩
    · omega
    · rw [a2] at u3
      omega
  have hat : ∀ k, k < (lexL (moG (sgC x))).length → (lexL (moG (sgC x)))[k]? = some (tkG x k) := fun k hk => by
    unfold tkG
    rw [List.getD_eq_getElem?_getD, List.getElem?_eq_getElem hk]
    rfl
  have hls : lsR x i = f + ndT (sgN x r) - 1 := by
    unfold lsR
    rw [e1, hgd i r hr]
  refine ⟨a5, a6, by rw [e1]; exact hbd, hgd i r hr, ⟨q, y, a1, a2, by rw [a3, e1]⟩, ?_, ?_, fun hn => ?_⟩
  · unfold rS rE
    rw [e1, hls]
    by_cases u : ndT (sgN x r) = 1
    · rw [u, Nat.add_sub_cancel]
      omega
    · have := lexL_sorted oG (show f < f + ndT (sgN x r) - 1 by omega) (hat f (by omega)) (hat _ (by omega))
      omega
  · unfold rE
    rw [hls]
    exact lexL_in oG (hat _ (by omega))
  · obtain ⟨r', hr'⟩ := Option.ne_none_iff_exists'.mp hn
    obtain ⟨q', f', y', b1, b2, b3, b4⟩ := a7 r' hr'
    have e2 := hfs (i + 1) r' q' f' y' hr' b1 b2 b3
    have hf' : f' < (lexL (moG (sgC x))).length := by
      rcases (fg.2.2 q' y' b1).1 with u | ⟨f'', u1, u2, u3⟩
      · omega
      · omega
    unfold rS rE
    rw [hls, e2]
    exact lexL_sorted oG (by omega) (hat _ (by omega)) (hat _ hf')
