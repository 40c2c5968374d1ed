/-! ===== a change: the class ===== -/
theorem TapX.kp {I J : zI} {t : List Int32} (h : TapX I t) (e1 : J.1 0 1 = I.1 0 1) (e2 : ∀ j, J.1 2 j = I.1 2 j) : TapX J t := ⟨e1.trans h.1, fun j v hj => by rw [e2]; exact h.2 j v hj⟩
theorem ViX.kp {I J : zI} {N : Nat → Nd} {R : Nat} (h : ViX I N R) (e : ∀ a j, 43 ≤ a → a ≤ 63 → J.1 a j = I.1 a j) : ViX J N R := by
  obtain ⟨v1, v2, v3, v4, v5⟩ := h
  refine ⟨by rw [e _ _ (by decide) (by decide)]; exact v1, v2.kp (fun a j h1 h2 => e a j (by omega) (by omega)), fun p x hx => by rw [e 53 _ (by decide) (by decide), e 55 _ (by decide) (by decide)]; exact v3 p x hx, ⟨by rw [e _ _ (by decide) (by decide)]; exact v4.1, fun i r hi => by rw [e _ _ (by decide) (by decide)]; exact v4.2 i r hi⟩, fun c hc => ?_⟩
  obtain ⟨p, p1, p2⟩ := v5 c hc
  exact ⟨p, p1, by rw [e 47 c (by decide) (by decide)]; exact p2⟩
theorem PrX.kp {I J : zI} {pl : List (Nat × Nat)} (h : PrX I pl) (e : ∀ a j, 88 ≤ a → a ≤ 96 → (a = 88 → j = 4) → J.1 a j = I.1 a j) : PrX J pl := by
  obtain ⟨h1, h2, h3, h4⟩ := h
  refine ⟨by rw [e 88 4 (by decide) (by decide) (fun _ => rfl)]; exact h1, fun i p hi => ?_, fun v hv => by rw [e 96 _ (by decide) (by decide) (by omega)]; exact h3 v hv, h4⟩
  rw [e 90 _ (by decide) (by decide) (by omega), e 92 _ (by decide) (by decide) (by omega), e 94 _ (by decide) (by decide) (by omega)]
  exact h2 i p hi
theorem RX.kp {I J : zI} {x : Sg} (hv : Iv x) (h : RX I x) (e : ∀ a j, ((a = 0 ∧ (j = 1 ∨ (4 ≤ j ∧ j ≤ 7))) ∨ a = 2 ∨ (a = 24 ∧ j = 9) ∨ (25 ≤ a ∧ a ≤ 63) ∨ (a = 88 ∧ j = 4) ∨ (89 ≤ a ∧ a ≤ 96) ∨ (113 ≤ a ∧ a < 491)) → J.1 a j = I.1 a j) : RX J x := by
  obtain ⟨r1, r2, r3, r4, r5, r6, r7, s, hs, s4, sC, sA, sZ⟩ := h
  have zm : ∀ i, zmom i = 113 + 18 * i := fun i => rfl
  have mk : ∀ i y, i < 21 → MoX I (zmom i) y → MoX J (zmom i) y := fun i y hi hm => hm.kp (fun a j u1 u2 => e a j (by have := zm i; omega))
  exact ⟨r1.kp (e _ _ (by omega)) (fun j => e _ _ (by omega)), r2.kp hv.2.1.ch (fun a j h1 h2 h3 => e a j (by omega)), r3.kp (fun a j h1 h2 => e a j (by omega)), r4.kp (fun a j h1 h2 h3 => e a j (by omega)), by rw [e _ _ (by omega)]; exact r5, by rw [e _ _ (by omega)]; exact r6, by rw [e _ _ (by omega)]; exact r7, s, hs, by rw [e _ _ (by omega)]; exact s4, mk _ _ hs sC, fun k y hy => mk _ _ (by omega) (sA k y hy), fun k y hy => mk _ _ (by omega) (sZ k y hy)⟩
theorem oldX_of {m k : Nat} {N : Nat → Nd} {c : Mo} {I : zI} (rep : RepNX I m N) (hm : m ≤ 3400) (o : MoOk m N c) (h : MoX I k c) : OldX I k (txF (moG c)) (lexL (moG c)) := by
  obtain ⟨o1, o2, o3, o4, o5⟩ := o
  obtain ⟨h1, h2, h3, h5, h6, h7, h8, h9⟩ := h
  refine ⟨h6, fun j y hy => ?_⟩
  have hj := (List.getElem?_eq_some_iff.mp hy).1
  obtain ⟨t1, t2⟩ := o4.2.2.2.2.1 j hj
  obtain ⟨k1, k2⟩ := o5 j y hy
  obtain ⟨n1, n2, n3, n4, n5, n6, n7⟩ := rep.2 _ t1
  obtain ⟨l1, l2, l3⟩ := n7 (by omega)
  rw [k2] at l1 l2 l3
  refine ⟨moO c j, by omega, h7 j hj, ?_, ?_, ?_, ?_⟩
  · rw [n2]
    unfold ndM
    rw [t2, if_pos (by decide), k1]
  · rw [l1, tkBs_len]
  · rw [l2, hdT_bs]
  · rw [l3, tlT_bs]
theorem r_tellGrowth {v : Int32} {I : zI} {K : zI → Prop} (hK : ∀ J, eqQ (fun a _ => a = 23) I J → K J) : w_Desk_tellGrowth v I K := by
  unfold w_Desk_tellGrowth
  refine (w_set (by decide)).mpr ((w_set (by decide)).mpr ((w_set (by decide)).mpr ((w_set (by decide)).mpr ((w_set (by decide)).mpr ((w_set (by decide)).mpr ((w_set (by decide)).mpr ((w_set (by decide)).mpr ((w_set (by decide)).mpr ((w_set (by decide)).mpr (hK _ ?_))))))))))
  exact (((((((((eqQ.rf.rs (fun _ => rfl)).rs (fun _ => rfl)).rs (fun _ => rfl)).rs (fun _ => rfl)).rs (fun _ => rfl)).rs (fun _ => rfl)).rs (fun _ => rfl)).rs (fun _ => rfl)).rs (fun _ => rfl)).rs (fun _ => rfl)
theorem r_tellGood {v : Int32} {I : zI} {K : zI → Prop} (hK : ∀ J, eqQ (fun a _ => a = 23) I J → K J) : w_Desk_tellGood v I K := by
  unfold w_Desk_tellGood
  exact r_ruledSize (fun w => (w_set (by decide)).mpr ((w_set (by decide)).mpr (hK _ ((eqQ.rf.rs (fun _ => rfl)).rs (fun _ => rfl)))))
/-- what a change of the class may touch -/
def Qcl (a j : Nat) : Prop := a < 491
theorem s_change {x : Sg} {d : List Int32} {bt : Bool} {I : zI} {K : Int32 → zI → Prop} (hv : Iv x) (hR : RX I x) (hdb : ∀ j, j < d.length → byt (txF d j)) (hd1 : I.1 4 1 = zi d.length) (hd2 : d.length ≤ 300 → ∀ j, j < d.length → I.1 6 j = txF d j) (hdl : d.length < 100000) (he : sgE x < 100000)
    (h0 : refu x d → ∀ J, eqQ Qcl I J → RX J x → K (-1) J)
    (h1 : ¬ refu x d → ∀ J, eqQ Qcl I J → RX J (chg x d (if bt = true then [] else sgT x)) → K (if (regY x d).1 + 1 = (lexL d).length ∧ topS (regY x d).2.2.2.1 = 1 then 0 else 1) J) : w_Desk_change (b01 bt) I K := by
  obtain ⟨r1, r2, r3, r4, r5, r6, r7, s, hs, s4, sC, sA, sZ⟩ := id hR
  obtain ⟨hTp, hN, hu, hm, hTk, ⟨hP1, hP2⟩, hE, hC, hA, hZ, hAZ⟩ := id hv
  unfold w_Desk_change
  rw [hd1, r2.1, r4.1]
  by_cases c1 : 300 < d.length
  · rw [if_pos (show (300 : Int32) < zi d.length from (zi_lt (a := 300) (by decide) (by omega)).mpr c1)]
    exact h0 (Or.inl c1) I eqQ.rf hR
  rw [if_neg (show ¬ (300 : Int32) < zi d.length from fun u => c1 ((zi_lt (a := 300) (by decide) (by omega)).mp u))]
  by_cases c2 : 3000 ≤ sgM x
  · rw [if_pos (show (3000 : Int32) ≤ zi (sgM x) from (zi_le (a := 3000) (by decide) (by omega)).mpr c2)]
    exact h0 (Or.inr (Or.inl c2)) I eqQ.rf hR
  rw [if_neg (show ¬ (3000 : Int32) ≤ zi (sgM x) from fun u => c2 ((zi_le (a := 3000) (by decide) (by omega)).mp u))]
  by_cases c3 : 3900 ≤ (sgP x).length
  · rw [if_neg (show ¬ zi (sgP x).length < 3900 from fun u => by have := (zi_lt (b := 3900) (by omega) (by decide)).mp u; omega)]
    exact h0 (Or.inr (Or.inr (Or.inl c3))) I eqQ.rf hR
  rw [if_pos (show zi (sgP x).length < 3900 from (zi_lt (b := 3900) (by omega) (by decide)).mpr (by omega))]
  have hlx : (lexL d).length = (lexF (txF d) d.length d.length 0).length + 1 := by
    show (lexF (txF d) d.length d.length 0 ++ [(10, d.length, 0)]).length = _
    rw [List.length_append]
    rfl
  refine s_readAll (by decide) (by omega) (hd2 (by omega)) (by decide) (fun c4 I2 q2 tk2 => ?_) (fun c4 I2 q2 => ?_)
  rotate_left
  · rw [if_pos rfl]
    refine h0 (Or.inr (Or.inr (Or.inr (by omega)))) I2 (eqX.q eqQ.rf q2 (fun a j u1 u2 => by unfold Qcl; omega)) (hR.kp hv (fun a j u => q2.at (by omega)))
  rw [if_neg (by decide)]
  have hd : txOk d := ⟨by omega, hdb, by omega⟩
  have hnr : ¬ refu x d := by
    unfold refu
    omega
  have h1 := h1 hnr
  obtain ⟨m1, g, N1, k, y, hreg, hn, hrun, ⟨ge, gi, hog, hm0, hm1⟩, g1, g2, g3, g4, g5, g6, g7, g8⟩ := reg_ok hv hd
  have hY : regY x d = y := by
    unfold regY
    rw [hreg]
  have hgN : (reg x d).1.2.1 = g := by rw [hreg]
  obtain ⟨oT, oG, oB, oR, oK⟩ := id hC
  have zm : ∀ i, zmom i = 113 + 18 * i := fun i => rfl
  have zms := zm s
  have lxd := lex_lxo hd
  have lxg := lex_lxo oG
  obtain ⟨kl1, kl2, kl3⟩ := kept_le (t := txF d) (t' := txF (moG (sgC x))) lxd.2.1 lxg.2.1
  intro P83 h83
  -- the tape then
  have tape : ∀ t3 : Int32, t3 = (if bt = true then 0 else zi (sgT x).length) → P83 t3 := by
    intro t3 et3
    refine h83 t3 ?_
    intro I4 e4 I5 e5 v2 ev2
    have o2 : ∀ a j, ¬ (7 ≤ a ∧ a < 18) → I2.1 a j = I.1 a j := fun a j u => q2.at (by omega)
    rw [e4, zu_i (by decide), o2 0 7 (by omega), r5, zi_succ, ← e4] at e5
    have o5 : ∀ a j, ¬ (a = 0 ∧ (j = 1 ∨ j = 7)) → ¬ (7 ≤ a ∧ a < 18) → I5.1 a j = I.1 a j := fun a j u v => by
      rw [e5, zu_at, if_neg (by omega), e4, zu_at, if_neg (by omega), o2 a j v]
    have g07 : I5.1 0 7 = zi (sgE x + 1) := by rw [e5, zu_self]
    have g01 : I5.1 0 1 = t3 := by rw [e5, zu_i (by decide), e4, zu_self]
    rw [o5 24 9 (by omega) (by omega), r2.1] at ev2
    subst ev2
    refine r_ruledSize (fun r7' => ?_)
    refine s_now hs (by rw [o5 0 4 (by omega) (by omega)]; exact s4) ?_
    rw [g07]
    unfold w_Grower_regrow
    intro Ia ea Ib eb
    have oab : ∀ a j, ¬ (a = 64 ∧ (j = 5 ∨ j = 6)) → Ib.1 a j = I5.1 a j := fun a j u => by rw [eb, zu_at, if_neg (by omega), ea, zu_at, if_neg (by omega)]
    have ob : ∀ a j, ¬ (a = 64 ∧ (j = 5 ∨ j = 6)) → ¬ (a = 0 ∧ (j = 1 ∨ j = 7)) → ¬ (7 ≤ a ∧ a < 18) → Ib.1 a j = I.1 a j := fun a j u v w => by rw [oab a j u, o5 a j v w]
    have b5 : Ib.1 64 5 = zi (lexL (moG (sgC x))).length := by
      rw [eb, zu_i (by decide), ea, zu_self, o5 _ _ (by omega) (by omega)]
      exact sC.2.2.2.2.1
    have ot : ∀ a j, 7 ≤ a → a < 18 → I5.1 a j = I2.1 a j := fun a j u v => by rw [e5, zu_oo (by omega), e4, zu_oo (by omega)]
    have b6 : Ib.1 64 6 = zi (lexL d).length := by
      rw [eb, zu_self, ea, zu_oo (by decide), ot 7 5 (by decide) (by decide)]
      exact tk2.1
    have tkb : RepT Ib 7 (txF d) (lexL d) := ⟨by rw [oab _ _ (by omega), ot 7 5 (by decide) (by decide)]; exact tk2.1, fun j y hy => by
      rw [oab _ _ (by omega), oab _ _ (by omega), oab _ _ (by omega), oab _ _ (by omega), oab _ _ (by omega), ot _ _ (by decide) (by decide), ot _ _ (by decide) (by decide), ot _ _ (by decide) (by decide), ot _ _ (by decide) (by decide), ot _ _ (by decide) (by decide)]
      exact tk2.2 j y hy⟩
    have repb : RepNX Ib (sgM x) (sgN x) := r2.kp hN.ch (fun a j u1 u2 u3 => ob a j (by omega) (by omega) (by omega))
    have sCb : MoX Ib (zmom s) (sgC x) := sC.kp (fun a j u1 u2 => ob a j (by omega) (by omega) (by omega))
    refine s_keepAlike (by omega) (Or.inl rfl) tkb (oldX_of repb (by omega) hC sCb) b5 b6 lxd.2.1 lxg.2.1 lxd.2.2.1 lxg.2.2.1 lxd.1 lxg.1 (fun J3 q3 A3 B3 => ?_)
    have rep3 : RepNX J3 (sgM x) (sgN x) := repb.kp hN.ch (fun a j u1 u2 u3 => q3.1 a j (by omega))
    have tk3 : RepT J3 7 (txF d) (lexL d) := ⟨by rw [q3.1 _ _ (by omega)]; exact tkb.1, fun j y hy => by
      rw [q3.1 _ _ (by omega), q3.1 _ _ (by omega), q3.1 _ _ (by omega), q3.1 _ _ (by omega), q3.1 _ _ (by omega)]
      exact tkb.2 j y hy⟩
    refine s_nameTokens (g := fun _ => 0) (by omega) (by omega) (Or.inl (by decide)) rep3 hN.ch tk3 (by rw [q3.1 _ _ (by omega)]; exact b5) (by rw [q3.1 _ _ (by omega)]; exact b6) A3 B3 (by omega) (by omega) (by omega) (by omega) lxd.2.2.1 lxg.2.2.1 (fun j hj => by rw [q3.1 _ _ (by omega)]; exact sCb.2.2.2.2.2.1 j hj) (by omega) (fun m' g' N' J4 hn' q4 rep4 _ _ _ gn4 => ?_)
    rw [hn] at hn'
    cases hn'
    -- what lies elsewhere stays
    have o4 : ∀ a j, ¬ (a = 64) → ¬ (a = 0 ∧ (j = 1 ∨ j = 7)) → ¬ (7 ≤ a ∧ a < 18) → a ≠ 19 → ¬ Qnx (sgM x) a j → J4.1 a j = I.1 a j := fun a j u1 u2 u3 u4 u5 => by
      rw [q4.1 a j (fun w => by
        rcases w with w | w | w
        · exact u5 w
        · omega
        · omega), q3.1 a j (by omega), ob a j (by omega) u2 u3]
    have n4 : ∀ a j, ¬ (24 ≤ a ∧ a ≤ 42) → a ≠ 64 → ¬ (a = 0 ∧ (j = 1 ∨ j = 7)) → ¬ (7 ≤ a ∧ a < 18) → a ≠ 19 → J4.1 a j = I.1 a j := fun a j u0 u1 u2 u3 u4 => o4 a j u1 u2 u3 u4 (by unfold Qnx; omega)
    have k4 : ∀ j, J4.1 64 j = if j = 9 then J4.1 64 9 else J3.1 64 j := fun j => by
      by_cases w : j = 9
      · rw [if_pos w, w]
      · rw [if_neg w, q4.1 64 j (by unfold Qnt Qnx; omega)]
    obtain ⟨f1, f2, f3, f4, f5⟩ := r3
    refine s_growAll (R := moR (sgC x)) (Or.inl (by decide)) ge gi (by omega) rep4 (f2.kp (fun a j u1 u2 => n4 a j (by omega) (by omega) (by omega) (by omega) (by omega))) (by rw [n4 _ _ (by omega) (by omega) (by omega) (by omega) (by omega)]; exact f1) ⟨_, fl_0 hN oR.1, rfl⟩ (fun c hc => by obtain ⟨p, p1, p2⟩ := f5 c hc; exact ⟨p, p1, by rw [n4 47 c (by omega) (by omega) (by omega) (by omega) (by omega)]; exact p2⟩) (by rw [k4, if_neg (by decide), q3.1 _ _ (by omega)]; exact b5) (by rw [k4, if_neg (by decide), q3.1 _ _ (by omega)]; exact b6) (by rw [k4, if_neg (by decide)]; exact A3) (by rw [k4, if_neg (by decide)]; exact B3) gn4 (fun J5 k' y' hrun' gi' gx' w13 => ?_)
    rw [hrun] at hrun'
    cases hrun'
    obtain ⟨x1, x2, x3, x4, x5, x6⟩ := gx'
    have c5 : ∀ a j, ¬ (24 ≤ a ∧ a ≤ 42) → ¬ (64 ≤ a ∧ a ≤ 68) → ¬ (a = 0 ∧ (j = 1 ∨ j = 7)) → ¬ (7 ≤ a ∧ a < 18) → a ≠ 19 → J5.1 a j = I.1 a j := fun a j u0 u1 u2 u3 u4 => by
      rw [x1.1 a j (by unfold Qgx Qnx; omega), n4 a j u0 (by omega) u2 u3 u4]
    have d5 : ∀ a j, (a = 0 ∧ (j = 1 ∨ j = 7)) ∨ (7 ≤ a ∧ a < 18) → J5.1 a j = Ib.1 a j := fun a j u => by
      rw [x1.1 a j (by unfold Qgx Qnx; omega), q4.1 a j (by unfold Qnt Qnx; omega), q3.1 a j (by omega)]
    have tk5 : RepT J5 7 (txF d) (lexL d) := ⟨by rw [d5 _ _ (by omega)]; exact tkb.1, fun j y hy => by
      rw [d5 _ _ (by omega), d5 _ _ (by omega), d5 _ _ (by omega), d5 _ _ (by omega), d5 _ _ (by omega)]
      exact tkb.2 j y hy⟩
    have g501 : J5.1 0 1 = t3 := by rw [d5 _ _ (by omega), oab _ _ (by omega)]; exact g01
    have g507 : J5.1 0 7 = zi (sgE x + 1) := by rw [d5 _ _ (by omega), oab _ _ (by omega)]; exact g07
    have gn5 : ∀ j, j < (lexL d).length → J5.1 19 j = zi (g j) := fun j hj => by rw [x1.1 19 j (by unfold Qgx Qnx; omega)]; exact gn4 j hj
    have q5 : eqQ Qcl I J5 := by
      have a2 : eqQ Qcl I I2 := eqX.q eqQ.rf q2 (fun a j u1 u2 => by unfold Qcl; omega)
      have a5 : eqQ Qcl I I5 := by
        rw [e5, e4]
        exact (a2.zu (by unfold Qcl; decide)).zu (by unfold Qcl; decide)
      have ab : eqQ Qcl I Ib := by
        rw [eb, ea]
        exact (a5.zu (by unfold Qcl; decide)).zu (by unfold Qcl; decide)
      exact ((ab.tr (q3.mono (fun a j h => by unfold Qcl; omega))).tr (q4.mono (fun a j h => by unfold Qnt Qnx at h; unfold Qcl; omega))).tr (x1.mono (fun a j h => by unfold Qgx Qnx at h; unfold Qcl; omega))
    -- the rest of it, of what is told of it
    have tapeT : ∀ J : zI, J.1 0 1 = t3 → (∀ j, J.1 2 j = I.1 2 j) → TapX J (if bt = true then [] else sgT x) := by
      intro J u1 u2
      by_cases ub : bt = true
      · rw [if_pos ub]
        rw [if_pos ub] at et3
        exact ⟨by rw [u1, et3]; rfl, fun j v hj => by cases hj⟩
      · rw [if_neg ub]
        rw [if_neg ub] at et3
        exact ⟨by rw [u1, et3], fun j v hj => by rw [u2]; exact r1.2 j v hj⟩
    rw [hY] at h1
    by_cases hg : y.1 + 1 = (lexL d).length ∧ topS y.2.2.2.1 = 1
    · rw [if_pos hg]
      rw [if_pos hg] at h1
      refine ⟨Or.inr rfl, ?_⟩
      obtain ⟨b, hst, tr⟩ := g8 hg.1 hg.2
      intro P174 h174
      rw [if_neg (by decide)]
      unfold w_Grower_onTop
      have hst2 : y.2.2.2.1.length = 2 := by rw [hst]; rfl
      have hstR : J5.1 68 1 = zi (regR x d) := (x3.2.2 1 (regR x d, 1) (by rw [hst]; rfl)).2 (Nat.le_refl 1)
      refine (w_get (by decide)).mpr ?_
      rw [x3.2.1, hst2, rg_in (by decide) (show 2 - 1 < 300 by decide), show J5.1 (67 + 1) (2 - 1) = zi (regR x d) from hstR]
      refine s_beGood (c := (lexL d).length) hd.2.2 tk5.1 (fun I26 q6 z1 z2 z3 z4 z5 => ?_)
      have mc : MoX I26 4 (newC x d) := by
        unfold newC
        rw [hY, if_pos hg]
        refine ⟨?_, fun j hj => ?_, ⟨?_, fun j w hw => ?_⟩, ?_, ?_, fun j hj => ?_, fun j w hw => ?_, ?_⟩
        · rw [z5 _ _ (by omega), c5 _ _ (by omega) (by omega) (by omega) (by omega) (by omega)]
          exact hd1
        · rw [z5 _ _ (by omega), c5 _ _ (by omega) (by omega) (by omega) (by omega) (by omega)]
          exact hd2 (by omega) j hj
        · rw [z5 _ _ (by omega)]
          exact tk5.1
        · rw [z5 _ _ (by omega), z5 _ _ (by omega), z5 _ _ (by omega), z5 _ _ (by omega), z5 _ _ (by omega)]
          exact tk5.2 j w hw
        · rw [z1]
          rfl
        · exact z3
        · rw [z5 _ _ (by omega)]
          show J5.1 19 j = zi ((reg x d).1.2.1 j)
          rw [hgN]
          exact gn5 j hj
        · rw [show (4 + 17 : Nat) = 21 from rfl, z4 j (List.getElem?_eq_some_iff.mp hw).1]
          exact (tk5.2 j w hw).2.1
        · rw [z2]
          rfl
      have o6 : ∀ a j, ¬ (4 ≤ a ∧ a < 22) → I26.1 a j = J5.1 a j := fun a j u => q6.at (by omega)
      refine h174 I26 ?_
      intro P193 h193
      rw [if_neg (by decide)]
      refine h193 _ (r_tellGrowth (fun I13 q13 => ?_))
      intro P222 h222
      rw [if_neg (by decide)]
      have p13 : ∀ a j, ¬ (4 ≤ a ∧ a < 22) → a ≠ 23 → I13.1 a j = J5.1 a j := fun a j u1 u2 => by rw [q13.1 a j u2, o6 a j u1]
      refine s_deskLook (R := regR x d) (rep := x2.kp g4.ch (fun a j u1 u2 u3 => p13 a j (by omega) (by omega))) g4 g5 (by omega) tr (fun c hc => by have := g7 c hc; omega) (fun c hc => by obtain ⟨p, p1, p2⟩ := f5 c hc; exact ⟨p, p1, by rw [p13 47 c (by omega) (by omega), c5 47 c (by omega) (by omega) (by omega) (by omega) (by omega)]; exact p2⟩) (Or.inl (by decide)) (by rw [q13.1 _ _ (by decide)]; exact z2) (fun I17 q17 vi17 => ?_)
      have p17 : ∀ a j, ¬ (4 ≤ a ∧ a < 22) → a ≠ 23 → ¬ Qla a j → I17.1 a j = J5.1 a j := fun a j u1 u2 u3 => by rw [q17.1 a j u3, p13 a j u1 u2]
      unfold w_Desk_layRow
      intro v1 ev1
      obtain ⟨rr1, rr2⟩ := runs_ok g4 g5 tr
      have pr17 : PrX I17 (sgP x) := r4.kp (fun a j u1 u2 u3 => by rw [p17 a j (by omega) (by omega) (by unfold Qla Qvi Qrr Qpn; omega), c5 a j (by omega) (by omega) (by omega) (by omega) (by omega)])
      rw [vi17.2.2.2.1.1]
      refine s_layAll (fun r hr => by have := rr1 r hr; omega) rr2 (by omega) hP1 pr17 vi17.2.2.2.1.2 (fun rv I18 q18 pr18 I19 e19 => (w_set (by decide)).mpr (r_tellGood (fun I14 q14 => ?_)))
      have p14 : ∀ a j, a ≠ 23 → ¬ (a = 4 ∧ j = 8) → ¬ Qpr a j → I14.1 a j = I17.1 a j := fun a j u1 u2 u3 => by
        rw [q14.1 a j u1, rs_o (by omega), e19, zu_at, if_neg u2, q18.1 a j u3]
      have pr14 : PrX I14 (layAllR (runsOf y.2.2.1 (regR x d)) (sgP x)) := pr18.kp (fun a j u1 u2 u3 => by rw [q14.1 a j (by omega), rs_o (by omega), e19, zu_at, if_neg (by omega)])
      refine h222 I14 ?_
      have w14 : ∀ a j, ¬ (4 ≤ a ∧ a < 22) → a ≠ 23 → ¬ Qla a j → ¬ Qpr a j → I14.1 a j = J5.1 a j := fun a j u1 u2 u3 u4 => by rw [p14 a j u2 (by omega) u4, p17 a j u1 u2 u3]
      have q14J : eqQ Qcl I I14 := by
        refine (((q5.tr ?_).tr (q13.mono (fun a j h => by unfold Qcl; omega))).tr (q17.mono (fun a j h => by unfold Qla Qvi Qrr Qpn at h; unfold Qcl; omega))).tr ?_
        · exact eqX.q eqQ.rf q6 (fun a j u1 u2 => by unfold Qcl; omega)
        · refine eqQ.tr ?_ (q14.mono (fun a j h => by unfold Qcl; omega))
          refine eqQ.rs ?_ (fun _ => by unfold Qcl; decide)
          rw [e19]
          exact (q18.mono (fun a j h => by unfold Qpr at h; unfold Qcl; omega)).zu (by unfold Qcl; decide)
      refine s_turn (x := x) (c := newC x d) hs (by rw [w14 _ _ (by omega) (by omega) (by unfold Qla Qvi Qrr Qpn; omega) (by unfold Qpr; omega), c5 _ _ (by omega) (by omega) (by omega) (by omega) (by omega)]; exact s4) (by rw [w14 _ _ (by omega) (by omega) (by unfold Qla Qvi Qrr Qpn; omega) (by unfold Qpr; omega), c5 _ _ (by omega) (by omega) (by omega) (by omega) (by omega)]; exact r6) (by omega) ?_ ?_ ?_ (sC.kp (fun a j u1 u2 => by rw [w14 a j (by omega) (by omega) (by unfold Qla Qvi Qrr Qpn; omega) (by unfold Qpr; omega), c5 a j (by omega) (by omega) (by omega) (by omega) (by omega)])) (fun kk yy hy => (sA kk yy hy).kp (fun a j u1 u2 => by
          have := zm ((s + 20 - kk) % 21)
          rw [w14 a j (by omega) (by omega) (by unfold Qla Qvi Qrr Qpn; omega) (by unfold Qpr; omega), c5 a j (by omega) (by omega) (by omega) (by omega) (by omega)])) (fun J qJ t1 t2 t3' => ?_)
      · have mcc : MoX I14 4 (newC x d) := by
          obtain ⟨a1, a2, ⟨a3, a4⟩, a5, a6, a7, a8, a9⟩ := mc
          have kk : ∀ a j, 4 ≤ a → a < 22 → ¬ (a = 4 ∧ j = 8) → I14.1 a j = I26.1 a j := fun a j u1 u2 u3 => by
            rw [p14 a j (by omega) u3 (by unfold Qpr; omega), q17.1 a j (by unfold Qla Qvi Qrr Qpn; omega), q13.1 a j (by omega)]
          refine ⟨by rw [kk _ _ (by decide) (by decide) (by decide)]; exact a1, fun j hj => by rw [kk _ _ (by decide) (by decide) (by omega)]; exact a2 j hj, ⟨by rw [kk _ _ (by decide) (by decide) (by decide)]; exact a3, fun j w hw => ?_⟩, by rw [kk _ _ (by decide) (by decide) (by decide)]; exact a5, by rw [kk _ _ (by decide) (by decide) (by decide)]; exact a6, fun j hj => by rw [kk _ _ (by decide) (by decide) (by omega)]; exact a7 j hj, fun j w hw => by rw [kk _ _ (by decide) (by decide) (by omega)]; exact a8 j w hw, by rw [kk _ _ (by decide) (by decide) (by decide)]; exact a9⟩
          rw [kk _ _ (by decide) (by decide) (by omega), kk _ _ (by decide) (by decide) (by omega), kk _ _ (by decide) (by decide) (by omega), kk _ _ (by decide) (by decide) (by omega), kk _ _ (by decide) (by decide) (by omega)]
          exact a4 j w hw
        exact mcc
      · unfold newC
        rw [hY, if_pos hg]
        exact hd
      · unfold newC
        rw [hY, if_pos hg]
        exact hd
      · rw [if_neg (by decide)]
        have wJ : ∀ a j, ¬ (a = 0 ∧ 4 ≤ j ∧ j ≤ 6) → ¬ (113 ≤ a ∧ a < 491) → J.1 a j = I14.1 a j := fun a j u1 u2 => qJ.1 a j (by omega)
        refine h1 J (q14J.tr (qJ.mono (fun a j h => by unfold Qcl; omega))) ?_
        obtain ⟨s', hs', b1, b2, b3⟩ := t3'
        have hcm : (chg x d (if bt = true then [] else sgT x)).2.1 = (y.2.1, y.2.2.1) := by
          unfold chg
          rw [hY, if_pos hg]
        have hcN : sgN (chg x d (if bt = true then [] else sgT x)) = y.2.2.1 := congrArg Prod.snd hcm
        have hcM : sgM (chg x d (if bt = true then [] else sgT x)) = y.2.1 := congrArg Prod.fst hcm
        have hcP : sgP (chg x d (if bt = true then [] else sgT x)) = layAllR (runsOf y.2.2.1 (regR x d)) (sgP x) := by
          unfold chg sgP
          rw [hY]
          exact if_pos hg
        have hcR : moR (sgC (chg x d (if bt = true then [] else sgT x))) = regR x d := by
          show moR (newC x d) = _
          unfold newC
          rw [hY, if_pos hg]
          rfl
        refine ⟨tapeT J ?_ (fun j => ?_), ?_, ?_, ?_, ?_, t1, t2, s', hs', b1, b2, b3, fun kk yy hy => (by cases hy)⟩
        · rw [wJ _ _ (by omega) (by omega), w14 _ _ (by omega) (by omega) (by unfold Qla Qvi Qrr Qpn; omega) (by unfold Qpr; omega)]
          exact g501
        · rw [wJ _ _ (by omega) (by omega), w14 _ _ (by omega) (by omega) (by unfold Qla Qvi Qrr Qpn; omega) (by unfold Qpr; omega), c5 _ _ (by omega) (by omega) (by omega) (by omega) (by omega)]
        · rw [hcM, hcN]
          exact x2.kp g4.ch (fun a j u1 u2 u3 => by rw [wJ _ _ (by omega) (by omega), w14 _ _ (by omega) (by omega) (by unfold Qla Qvi Qrr Qpn; omega) (by unfold Qpr; omega)])
        · rw [hcN, hcR]
          exact vi17.kp (fun a j u1 u2 => by rw [wJ _ _ (by omega) (by omega), p14 a j (by omega) (by omega) (by unfold Qpr; omega)])
        · rw [hcP]
          exact pr14.kp (fun a j u1 u2 u3 => by rw [wJ _ _ (by omega) (by omega)])
        · rw [wJ _ _ (by omega) (by omega), w14 _ _ (by omega) (by omega) (by unfold Qla Qvi Qrr Qpn; omega) (by unfold Qpr; omega)]
          exact g507
    · rw [if_neg hg]
      rw [if_neg hg] at h1
      refine ⟨Or.inl rfl, ?_⟩
      intro P174 h174
      rw [if_pos rfl]
      intro I22 e22
      have o22 : ∀ a j, ¬ (a = 24 ∧ j = 9) → I22.1 a j = J5.1 a j := fun a j u => by rw [e22, zu_at, if_neg u]
      refine s_now hs (by rw [o22 _ _ (by omega), c5 _ _ (by omega) (by omega) (by omega) (by omega) (by omega)]; exact s4) ?_
      have sC22 : MoX I22 (zmom s) (sgC x) := sC.kp (fun a j u1 u2 => by rw [o22 _ _ (by omega), c5 a j (by omega) (by omega) (by omega) (by omega) (by omega)])
      refine s_keepGood (c := (lexL (moG (sgC x))).length) (by omega) oG.2.2 sC22.2.2.2.2.1 (fun I24 q24 z1 z2 z3 z4 z5 z6 => ?_)
      have o24 : ∀ a j, ¬ (4 ≤ a ∧ a < 22) → I24.1 a j = I22.1 a j := fun a j u => q24.at (by omega)
      have nc : newC x d = (d, moG (sgC x), false, moR (sgC x), moO (sgC x)) := by
        unfold newC
        rw [hY, if_neg hg]
      have mc : MoX I24 4 (newC x d) := by
        rw [nc]
        refine ⟨?_, fun j hj => ?_, ⟨?_, fun j w hw => ?_⟩, ?_, ?_, fun j hj => ?_, fun j w hw => ?_, ?_⟩
        · rw [z6 _ _ (by omega), o22 _ _ (by omega), c5 _ _ (by omega) (by omega) (by omega) (by omega) (by omega)]
          exact hd1
        · rw [z6 _ _ (by omega), o22 _ _ (by omega), c5 _ _ (by omega) (by omega) (by omega) (by omega) (by omega)]
          exact hd2 (by omega) j hj
        · rw [z6 _ _ (by omega), o22 _ _ (by omega)]
          exact tk5.1
        · rw [z6 _ _ (by omega), z6 _ _ (by omega), z6 _ _ (by omega), z6 _ _ (by omega), z6 _ _ (by omega), o22 _ _ (by omega), o22 _ _ (by omega), o22 _ _ (by omega), o22 _ _ (by omega), o22 _ _ (by omega)]
          exact tk5.2 j w hw
        · rw [z1]
          rfl
        · exact z3
        · rw [z4 j hj]
          exact sC22.2.2.2.2.2.1 j hj
        · rw [z5 j (List.getElem?_eq_some_iff.mp hw).1]
          exact sC22.2.2.2.2.2.2.1 j w hw
        · rw [z2]
          exact sC22.2.2.2.2.2.2.2
      refine h174 I24 ?_
      intro P193 h193
      rw [if_pos rfl]
      refine h193 _ (r_tellGrowth (fun I13 q13 => ?_))
      intro P222 h222
      rw [if_pos rfl]
      refine h222 I13 ?_
      have w13' : ∀ a j, ¬ (4 ≤ a ∧ a < 22) → a ≠ 23 → ¬ (a = 24 ∧ j = 9) → I13.1 a j = J5.1 a j := fun a j u1 u2 u3 => by rw [q13.1 a j u2, o24 a j u1, o22 a j u3]
      have q13J : eqQ Qcl I I13 := by
        refine eqQ.tr ?_ (q13.mono (fun a j h => by unfold Qcl; omega))
        refine eqX.q ?_ q24 (fun a j u1 u2 => by unfold Qcl; omega)
        rw [e22]
        exact q5.zu (by unfold Qcl; decide)
      refine s_turn (x := x) (c := newC x d) hs (by rw [w13' _ _ (by omega) (by omega) (by omega), c5 _ _ (by omega) (by omega) (by omega) (by omega) (by omega)]; exact s4) (by rw [w13' _ _ (by omega) (by omega) (by omega), c5 _ _ (by omega) (by omega) (by omega) (by omega) (by omega)]; exact r6) (by omega) (mc.kp (fun a j u1 u2 => q13.1 a j (by omega))) (by rw [nc]; exact hd) (by rw [nc]; exact oG) (sC.kp (fun a j u1 u2 => by rw [w13' a j (by omega) (by omega) (by omega), c5 a j (by omega) (by omega) (by omega) (by omega) (by omega)])) (fun kk yy hy => (sA kk yy hy).kp (fun a j u1 u2 => by
          have := zm ((s + 20 - kk) % 21)
          rw [w13' a j (by omega) (by omega) (by omega), c5 a j (by omega) (by omega) (by omega) (by omega) (by omega)])) (fun J qJ t1 t2 t3' => ?_)
      rw [if_pos rfl]
      have wJ : ∀ a j, ¬ (a = 0 ∧ 4 ≤ j ∧ j ≤ 6) → ¬ (113 ≤ a ∧ a < 491) → J.1 a j = I13.1 a j := fun a j u1 u2 => qJ.1 a j (by omega)
      refine h1 J (q13J.tr (qJ.mono (fun a j h => by unfold Qcl; omega))) ?_
      obtain ⟨s', hs', b1, b2, b3⟩ := t3'
      have hcm : (chg x d (if bt = true then [] else sgT x)).2.1 = (sgM x, sgN x) := by
        unfold chg
        rw [hY, if_neg hg]
      have hcN : sgN (chg x d (if bt = true then [] else sgT x)) = sgN x := congrArg Prod.snd hcm
      have hcM : sgM (chg x d (if bt = true then [] else sgT x)) = sgM x := congrArg Prod.fst hcm
      have hcP : sgP (chg x d (if bt = true then [] else sgT x)) = sgP x := by
        unfold chg sgP
        rw [hY]
        exact if_neg hg
      have hcR : moR (sgC (chg x d (if bt = true then [] else sgT x))) = moR (sgC x) := by
        show moR (newC x d) = _
        rw [nc]
        rfl
      refine ⟨tapeT J ?_ (fun j => ?_), ?_, ?_, ?_, ?_, t1, t2, s', hs', b1, b2, b3, fun kk yy hy => (by cases hy)⟩
      · rw [wJ _ _ (by omega) (by omega), w13' _ _ (by omega) (by omega) (by omega)]
        exact g501
      · rw [wJ _ _ (by omega) (by omega), w13' _ _ (by omega) (by omega) (by omega), c5 _ _ (by omega) (by omega) (by omega) (by omega) (by omega)]
      · rw [hcM, hcN]
        refine ⟨?_, fun kk hk => ?_⟩
        · rw [wJ _ _ (by omega) (by omega), q13.1 _ _ (by omega), o24 _ _ (by omega), e22, zu_self]
        · rw [← g1 kk hk]
          exact (x2.2 kk (by omega)).kept (g4.ch kk (by omega)) (fun a u1 u2 => by rw [wJ _ _ (by omega) (by omega), w13' _ _ (by omega) (by omega) (by omega)]) (fun i hi => by rw [wJ _ _ (by omega) (by omega), w13' _ _ (by omega) (by omega) (by omega)])
      · rw [hcN, hcR]
        exact ViX.kp ⟨f1, f2, f3, f4, f5⟩ (fun a j u1 u2 => by rw [wJ _ _ (by omega) (by omega), w13' _ _ (by omega) (by omega) (by omega)]; exact (c5 a j (by omega) (by omega) (by omega) (by omega) (by omega)))
      · rw [hcP]
        exact r4.kp (fun a j u1 u2 u3 => by rw [wJ _ _ (by omega) (by omega), w13' _ _ (by omega) (by omega) (by omega), c5 a j (by omega) (by omega) (by omega) (by omega) (by omega)])
      · rw [wJ _ _ (by omega) (by omega), w13' _ _ (by omega) (by omega) (by omega)]
        exact g507
  by_cases ub : bt = true
  · rw [ub, if_neg (show ¬ b01 true = 0 by decide)]
    exact tape 0 (by rw [if_pos ub])
  · have hbf : bt = false := by
      cases bt
      · rfl
      · exact absurd rfl ub
    rw [hbf, if_pos (show b01 false = 0 by decide)]
    exact tape _ (by rw [if_neg ub, q2.at (by omega)]; exact r1.1)
