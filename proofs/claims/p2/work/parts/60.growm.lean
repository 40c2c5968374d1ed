/-! ===== growing: the model ===== -/
theorem RepNM.kp {I J : zI} {m : Nat} {N : Nat → Nd} (rep : RepNM I m N) (hc : ∀ k, k < m → (ndC (N k)).length ≤ 4) (e1 : J.1 491 25 = I.1 491 25) (e : ∀ a j, 509 ≤ a → a ≤ 517 → J.1 a j = I.1 a j) (e2 : ∀ j, J.2 511 j = I.2 511 j) : RepNM J m N :=
  ⟨e1.trans rep.1, fun k hk => (rep.2 k hk).kept (hc k hk) (fun a h1 h2 _ => e a k h1 h2) (fun i hi => e 513 _ (by decide) (by decide)) (e2 k)⟩
theorem StM.kp {I J : zI} {st : List (Nat × Nat)} (h : StM I st) (e1 : J.1 491 71 = I.1 491 71) (e2 : ∀ j, J.1 539 j = I.1 539 j) (e3 : ∀ j, J.1 540 j = I.1 540 j) : StM J st :=
  ⟨h.1, e1.trans h.2.1, fun j p hp => by rw [e2, e3]; exact h.2.2 j p hp⟩
def Qgm (m1 a j : Nat) : Prop := Qnm m1 a j ∨ a = 514 ∨ (a = 491 ∧ 71 ≤ j ∧ j ≤ 73) ∨ a = 539 ∨ a = 540
def GM (I0 I : zI) (m1 k : Nat) (x : Gs) : Prop :=
  eqQ (Qgm m1) I0 I ∧ RepNM I x.2.1 x.2.2.1 ∧ StM I x.2.2.2.1 ∧ I.1 491 73 = zi x.2.2.2.2 ∧ I.1 491 72 = zi k
theorem FlM.kp {I J : zI} {F : List Fl} (h : FlM I F) (e : ∀ a j, 524 ≤ a → a ≤ 526 → J.1 a j = I.1 a j) : FlM J F := fun p x hp => by
  obtain ⟨h1, h2, h3⟩ := h p x hp
  rw [e 524 _ (by decide) (by decide), e 526 _ (by decide) (by decide)]
  exact ⟨h1, h2, h3⟩
theorem s_grows {A B n n' e m1 : Nat} {g kd : Nat → Nat} {F : List Fl} {N : Nat → Nd} {I : zI} {K : Int32 → zI → Prop} (ge : GE F A B n n' g kd) (hi : GI F n n' g kd m1 0 m1 N [(0, 0)] 0) (hm1 : m1 ≤ 3200) (rep : RepNM I m1 N) (hF : FlM I F) (he : I.1 491 36 = zi e)
    (h9 : I.1 491 9 = zi n) (h19 : I.1 491 19 = zi n') (h66 : I.1 491 66 = zi A) (h67 : I.1 491 67 = zi B) (hkd : ∀ i, i < n → I.1 496 i = zi (kd i)) (hg : ∀ i, i < n → I.1 500 i = zi (g i)) (hgo : ∀ i, i < n → ∀ j, wasN A B n n' i = some j → I.1 508 j = zi (g i))
    (hK : ∀ J k y, gRun F A B n n' g e 2000 0 (0, m1, N, [(0, 0)], 0) = (k, y) → GI F n n' g kd m1 y.1 y.2.1 y.2.2.1 y.2.2.2.1 k → GM I J m1 k y → K (if y.1 + 1 = n ∧ topS y.2.2.2.1 = 1 then -1 else zi y.1) J) : w_M_grows I K := by
  unfold w_M_grows
  intro I1 e1 I2 e2 I3 e3
  have g3 : I3.1 491 71 = zi 0 := by
    rw [e3, zu_at, if_neg (by decide), e2, zu_at, if_neg (by decide), e1, zu_self]
    rfl
  refine ⟨by rw [g3]; exact (zin_iff (by decide)).mpr (by decide), fun I4 e4 => ?_⟩
  rw [g3, zi_tn (by decide)] at e4
  have g4 : I4.1 491 71 = zi 0 := by rw [e4, zu_oo (by decide)]; exact g3
  refine ⟨by rw [g4]; exact (zin_iff (by decide)).mpr (by decide), fun I5 e5 I6 e6 I7 e7 I8 e8 => ?_⟩
  rw [g4, zi_tn (by decide)] at e5
  have g5 : I5.1 491 71 = zi 0 := by rw [e5, zu_oo (by decide)]; exact g4
  rw [g5, zi_succ] at e6
  have q8 : eqQ (Qgm m1) I I8 := by
    have hq : ∀ j, 71 ≤ j → j ≤ 73 → Qgm m1 491 j := fun j h1 h2 => Or.inr (Or.inr (Or.inl ⟨rfl, h1, h2⟩))
    rw [e8, e7, e6, e5, e4, e3, e2, e1]
    exact (((((((eqQ.rf.zu (hq _ (by decide) (by decide))).zu (hq _ (by decide) (by decide))).zu (hq _ (by decide) (by decide))).zu (Or.inr (Or.inr (Or.inr (Or.inr rfl))))).zu (Or.inr (Or.inr (Or.inr (Or.inl rfl))))).zu (hq _ (by decide) (by decide))).zu (hq _ (by decide) (by decide))).zu (hq _ (by decide) (by decide))
  have o8 : ∀ a j, ¬ (a = 491 ∧ 71 ≤ j ∧ j ≤ 73) → a ≠ 539 → a ≠ 540 → I8.1 a j = I.1 a j := fun a j u v w => by
    rw [e8, zu_at, if_neg (by omega), e7, zu_at, if_neg (by omega), e6, zu_at, if_neg (by omega), e5, zu_oo v, e4, zu_oo w, e3, zu_at, if_neg (by omega), e2, zu_at, if_neg (by omega), e1, zu_at, if_neg (by omega)]
  have o82 : I8.2 = I.2 := by rw [e8, zu_2, e7, zu_2, e6, zu_2, e5, zu_2, e4, zu_2, e3, zu_2, e2, zu_2, e1, zu_2]
  have X0 : GM I I8 m1 0 (0, m1, N, [(0, 0)], 0) := by
    refine ⟨q8, rep.kp hi.2.2.2.2.1.ch (o8 _ _ (by omega) (by decide) (by decide)) (fun a j h1 h2 => o8 a j (by omega) (by omega) (by omega)) (fun j => by rw [o82]), ⟨Nat.le_refl 1, ?_, fun j p hp => ?_⟩, ?_, ?_⟩
    · rw [e8, zu_at, if_neg (by decide), e7, zu_at, if_neg (by decide), e6, zu_self]
      rfl
    · have hj := (List.getElem?_eq_some_iff.mp hp).1
      have hj0 : j = 0 := by
        change j < 1 at hj
        omega
      subst hj0
      cases hp
      refine ⟨?_, fun u => by omega⟩
      rw [e8, zu_oo (by decide), e7, zu_oo (by decide), e6, zu_oo (by decide), e5, zu_self]
      rfl
    · rw [e8, zu_at, if_neg (by decide), e7, zu_at, if_neg (by decide), e6, zu_at, if_neg (by decide), e5, zu_oo (by decide), e4, zu_oo (by decide), e3, zu_self]
      rfl
    · rw [e8, zu_self]
      rfl
  intro P28 h28
  have main : ∀ (d k : Nat) (x : Gs) (J : zI), GI F n n' g kd m1 x.1 x.2.1 x.2.2.1 x.2.2.2.1 k → 1900 < d + k → GM I J m1 k x → gRun F A B n n' g e 2000 0 (0, m1, N, [(0, 0)], 0) = gRun F A B n n' g e d k x → P28 (zi x.1) J := by
    intro d
    induction d with
    | zero =>
      intro k x J hx hk
      have := (hx.bd ge.1).2.2.2
      omega
    | succ d ih =>
      intro k x J hx hk hX hrun
      obtain ⟨i, m, M, st, tk⟩ := x
      dsimp only at hx ⊢
      obtain ⟨b1, b2, b3, b4⟩ := hx.bd ge.1
      refine h28 _ _ ?_
      obtain ⟨x1, x2, x3, x4, x5⟩ := id hX
      dsimp only at x2 x3 x4 x5
      obtain ⟨v1, ⟨s1, s2, s3, s4⟩, v3, v4, v5, v6, v7⟩ := id hx
      obtain ⟨g1, g2, g3, g4, g5, g6, g7⟩ := id ge
      obtain ⟨p0, t1, t2⟩ := top_at s1
      have hs21 : topS st < 21 := t2 ▸ (s3 _ p0 t1).1
      rw [gRun_at (d := d)] at hrun
      dsimp only at hrun
      have ch := v5.ch
      have cst : ∀ a j, ¬ Qgm m1 a j → J.1 a j = I.1 a j := fun a j u => x1.1 a j u
      obtain ⟨w1, w2, w3⟩ := v7 i v1
      obtain ⟨k1, k2⟩ := g6 i v1
      have hM : ndM (M (g i)) = 5 + kd i := by
        unfold ndM
        rw [w2, if_pos (by decide), w3]
      have nxt : ∀ (y : Gs) (I' : zI), gNx F A B n n' g e i m M st tk = some y → GM I I' m1 (k + 1) y → P28 (zi y.1) I' := by
        intro y I' hy hX'
        exact ih (k + 1) y I' (hx.nx ge hy) (by omega) hX' (by rw [hrun, hy])
      have gp : J.1 491 71 - 1 = zi (st.length - 1) := by
        rw [x3.2.1]
        exact zi_sub (b := 1) (by omega)
      rw [gp, zi_tn (show st.length - 1 < 2147483648 by omega)]
      refine ⟨(zin_iff (by omega)).mpr (by omega), fun v2 ev2 => ?_⟩
      rw [show J.1 539 (st.length - 1) = zi (topS st) from t2 ▸ (x3.2.2 _ p0 t1).1] at ev2
      subst ev2
      refine s_Mbest (n := n) (A := A) (B := B) (c := g i) x2 (by omega) (hF.kp (fun a j h1 h2 => cst a j (by unfold Qgm Qnm; omega))) v6 hs21 (by rw [cst _ _ (by unfold Qgm Qnm; omega)]; exact h9) (by rw [cst _ _ (by unfold Qgm Qnm; omega)]; exact h19) (by rw [cst _ _ (by unfold Qgm Qnm; omega)]; exact h66) (by rw [cst _ _ (by unfold Qgm Qnm; omega)]; exact h67) (by omega) (by omega) (by omega) (by omega) g1 g2 v1 ?_ ?_
      · intro j hj
        obtain ⟨a1, a2⟩ := g7 i v1 j hj
        refine ⟨by rw [cst _ _ (by unfold Qgm Qnm; omega)]; exact hgo i v1 j hj, a1, fun u => ?_⟩
        obtain ⟨p, x, r1, r2, r3, r4⟩ := a2 u
        exact ⟨p, x, r1, r2, r3, by omega⟩
      · refine ⟨(zin_iff (by omega)).mpr (by omega), ?_⟩
        rw [zi_tn (show i < 2147483648 by omega), show J.1 496 i = zi (kd i) by rw [cst _ _ (by unfold Qgm Qnm; omega)]; exact hkd i v1]
        refine s_shifts hs21 k1 ?_
        refine s_ruleOf hs21 ?_
        cases hb : bestOf F M A B n n' i (topS st) (g i) with
        | none =>
          rw [if_pos (show oI (-1) none < 0 by show (-1 : Int32) < 0; decide)]
          unfold shI
          by_cases hz : ldN (topS st) (5 + kd i) = 0
          · rw [if_pos hz, if_pos (show (-1 : Int32) < 0 by decide)]
            unfold rlI
            cases hr : rlN (topS st) with
            | none =>
              rw [if_pos (show (-1 : Int32) < 0 by decide)]
              refine ⟨(zin_iff (by omega)).mpr (by omega), ?_⟩
              have hy : gNx F A B n n' g e i m M st tk = none := by
                unfold gNx
                rw [hb]
                dsimp only
                rw [hM, if_pos hz, hr]
              rw [hy] at hrun
              have hK2 := hK J k (i, m, M, st, tk) hrun hx hX
              dsimp only at hK2
              by_cases c1 : i + 1 = n
              · rw [if_pos (show zi (kd i) = 10 by rw [k2.mpr c1]; rfl)]
                by_cases c2 : topS st = 1
                · rw [if_pos (show zi (topS st) = 1 by rw [c2]; rfl)]
                  rw [if_pos ⟨c1, c2⟩] at hK2
                  exact hK2
                · rw [if_neg (show ¬ zi (topS st) = 1 from fun u => c2 ((zi_eq (b := 1) (by omega) (by decide)).mp u))]
                  rw [if_neg (fun u => c2 u.2)] at hK2
                  exact hK2
              · rw [if_neg (show ¬ zi (kd i) = 10 from fun u => c1 (k2.mp ((zi_eq (b := 10) (by omega) (by decide)).mp u)))]
                rw [if_neg (fun u => c1 u.1)] at hK2
                exact hK2
            | some r =>
              have hr11 := rlN_lt hs21 hr
              obtain ⟨f1, f2⟩ := st_fits s2 s3 s1 t1 t2 hr
              dsimp only
              rw [if_neg (zi_pos (by omega))]
              have hy : gNx F A B n n' g e i m M st tk = some (i, m + 1, upN M m (byN M st r e), byT m st r, tk) := by
                unfold gNx
                rw [hb]
                dsimp only
                rw [hM, if_pos hz, hr]
              refine s_makesBy x2 ch (by omega) (by rw [cst _ _ (by unfold Qgm Qnm; omega)]; exact he) x3 s3 (by omega) hr11 f1 f2 (fun J2 q2 rp2 sx2 c72 => ?_)
              refine nxt _ J2 hy ⟨x1.tr (q2.mono (fun a j h => by unfold Qbm Qnm at h; unfold Qgm Qnm; omega)), rp2, sx2, ?_, ?_⟩
              · rw [q2.1 _ _ (by unfold Qbm Qnm; omega)]
                exact x4
              · rw [c72, x5, zi_succ]
          · rw [if_neg hz, if_neg (zi_pos (by have := ldN_lt (s := topS st) (y := 5 + kd i) hs21 (by omega); omega))]
            refine ⟨(zin_iff (by omega)).mpr (by omega), fun v7' ev7 => ?_⟩
            rw [show J.1 500 i = zi (g i) by rw [cst _ _ (by unfold Qgm Qnm; omega)]; exact hg i v1] at ev7
            subst ev7
            have hy : gNx F A B n n' g e i m M st tk = some (i + 1, m, upN M (g i) (stNd (M (g i)) (topS st)), st ++ [(g i, ldN (topS st) (5 + kd i))], tk) := by
              unfold gNx
              rw [hb]
              dsimp only
              rw [hM, if_neg hz]
            refine s_Mshift x2 ch (by omega) w1 x3 (by omega) (v5.sta _ w1) (fun J2 q2 rp2 sx2 c72 => ?_)
            intro v ev
            rw [ev, zi_succ]
            refine nxt _ J2 hy ⟨x1.tr (q2.mono (fun a j h => by unfold Qmt at h; unfold Qgm Qnm; omega)), rp2, sx2, ?_, ?_⟩
            · rw [q2.1 _ _ (by unfold Qmt; omega)]
              exact x4
            · rw [c72, x5, zi_succ]
        | some b =>
          obtain ⟨hbm, r, b4', b5, hsy, hld, hf1, hin⟩ := hx.taken ge hb
          rw [if_neg (show ¬ oI (-1) (some b) < 0 from zi_pos (by omega))]
          intro I24 e24
          have o24 : ∀ a j, ¬ (a = 491 ∧ j = 73) → I24.1 a j = J.1 a j := fun a j u => by rw [e24, zu_at, if_neg u]
          have nd := x2.2 b hbm
          have hsy5 : syN r < 5 := (sy_fin r b4').2
          refine ⟨(zin_iff (by omega)).mpr (by omega), ?_⟩
          show w_M_symbolOf (I24.1 509 (Int32.toNatClampNeg (zi b))) I24 _
          rw [zi_tn (show b < 2147483648 by omega), o24 _ _ (by omega), show J.1 509 b = Int32.ofInt (ndR (M b)) from nd.1, b5, zi_int r]
          refine s_MsymbolOf b4' ?_
          refine s_leads hs21 hsy5 hld ?_
          have hy : gNx F A B n n' g e i m M st tk = some (i + ndT (M b), m, M, st ++ [(b, ldN (topS st) (ndM (M b)))], tk + 1) := by
            unfold gNx
            rw [hb]
          rw [hsy] at hy
          refine s_laysOn (c := b) (x3.kp (o24 _ _ (by omega)) (fun j => o24 _ _ (by omega)) (fun j => o24 _ _ (by omega))) (by omega) (fun J2 q2 sx2 c72 => ?_)
          refine ⟨(zin_iff (by omega)).mpr (by omega), fun v ev => ?_⟩
          have o2 : ∀ a j, ¬ Qlo st.length a j → J2.1 a j = I24.1 a j := fun a j u => q2.1 a j u
          change v = zi i + J2.1 515 (Int32.toNatClampNeg (zi b)) at ev
          rw [zi_tn (show b < 2147483648 by omega), o2 _ _ (by unfold Qlo; omega), o24 _ _ (by omega), show J.1 515 b = zi (ndT (M b)) from nd.2.2.1, zi_add] at ev
          subst ev
          refine nxt _ J2 hy ⟨?_, ?_, sx2, ?_, ?_⟩
          · refine eqQ.tr ?_ (q2.mono (fun a j h => by unfold Qlo at h; unfold Qgm Qnm; omega))
            rw [e24]
            exact x1.zu (Or.inr (Or.inr (Or.inl (by omega))))
          · refine x2.kp ch ?_ (fun a j h1 h2 => ?_) (fun j => ?_)
            · rw [o2 _ _ (by unfold Qlo; omega), o24 _ _ (by omega)]
            · rw [o2 _ _ (by unfold Qlo; omega), o24 _ _ (by omega)]
            · rw [q2.2 511 j (by unfold Qlo; omega), e24, zu_2]
          · rw [o2 _ _ (by unfold Qlo; omega), e24, zu_self, x4, zi_succ]
          · rw [c72, o24 _ _ (by omega), x5, zi_succ]
  exact main 2000 0 (0, m1, N, [(0, 0)], 0) I8 hi (by omega) X0 rfl
