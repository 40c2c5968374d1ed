/-! ===== growing: the class ===== -/
theorem GI.bd {F : List Fl} {n n' m1 i m k : Nat} {g kd : Nat → Nat} {N : Nat → Nd} {st : List (Nat × Nat)} (hn : n ≤ 100) (h : GI F n n' g kd m1 i m N st k) : st.length < 300 ∧ m1 ≤ m ∧ m ≤ m1 + 149 ∧ k ≤ 1892 := by
  obtain ⟨hi, ⟨s1, s2, s3, s4⟩, hf, ⟨hm1, hmk⟩, hN, hF, hg⟩ := h
  have := wSum_le2 s2 s3 s1
  refine ⟨by omega, hm1, by omega, by omega⟩
theorem gRun_end {F : List Fl} {A B n n' e m1 : Nat} {g kd : Nat → Nat} (ge : GE F A B n n' g kd) : ∀ (d k : Nat) (x : Gs), GI F n n' g kd m1 x.1 x.2.1 x.2.2.1 x.2.2.2.1 k → 1900 < d + k → ∃ (k' : Nat) (y : Gs), gRun F A B n n' g e d k x = (k', y) ∧ GI F n n' g kd m1 y.1 y.2.1 y.2.2.1 y.2.2.2.1 k' ∧ gNx F A B n n' g e y.1 y.2.1 y.2.2.1 y.2.2.2.1 y.2.2.2.2 = none
  | 0, k, x, h, hk => by
    have := (h.bd ge.1).2.2.2
    omega
  | d + 1, k, x, h, hk => by
    show ∃ (k' : Nat) (y : Gs), (match gNx F A B n n' g e x.1 x.2.1 x.2.2.1 x.2.2.2.1 x.2.2.2.2 with
      | none => (k, x)
      | some y => gRun F A B n n' g e d (k + 1) y) = (k', y) ∧ _
    cases e1 : gNx F A B n n' g e x.1 x.2.1 x.2.2.1 x.2.2.2.1 x.2.2.2.2 with
    | none => exact ⟨k, x, rfl, h, e1⟩
    | some y => exact gRun_end ge d (k + 1) y (h.nx ge e1) (by omega)
theorem gRun_at {F : List Fl} {A B n n' e d k : Nat} {g : Nat → Nat} {x : Gs} : gRun F A B n n' g e (d + 1) k x = match gNx F A B n n' g e x.1 x.2.1 x.2.2.1 x.2.2.2.1 x.2.2.2.2 with
      | none => (k, x)
      | some y => gRun F A B n n' g e d (k + 1) y := rfl
theorem RepNX.kp {I J : zI} {m : Nat} {N : Nat → Nd} (rep : RepNX I m N) (hc : ∀ k, k < m → (ndC (N k)).length ≤ 4) (e : ∀ a j, 24 ≤ a → a ≤ 42 → (a = 24 → j = 9) → J.1 a j = I.1 a j) : RepNX J m N :=
  ⟨by rw [e 24 9 (by decide) (by decide) (fun _ => rfl)]; exact rep.1, fun k hk => (rep.2 k hk).kept (hc k hk) (fun a h1 h2 => e a k (by omega) (by omega) (by omega)) (fun i hi => e 42 _ (by decide) (by decide) (by omega))⟩
theorem StX.kp {I J : zI} {st : List (Nat × Nat)} (h : StX I st) (e1 : J.1 64 4 = I.1 64 4) (e2 : ∀ j, J.1 66 j = I.1 66 j) (e3 : ∀ j, J.1 68 j = I.1 68 j) : StX J st :=
  ⟨h.1, e1.trans h.2.1, fun j p hp => by rw [e2, e3]; exact h.2.2 j p hp⟩
def Qgx (m1 a j : Nat) : Prop := Qnx m1 a j ∨ a = 30 ∨ (a = 64 ∧ (j = 4 ∨ (10 ≤ j ∧ j ≤ 13))) ∨ a = 66 ∨ a = 68
def GX (I0 I : zI) (m1 k : Nat) (x : Gs) : Prop :=
  eqQ (Qgx m1) I0 I ∧ RepNX I x.2.1 x.2.2.1 ∧ StX I x.2.2.2.1 ∧ I.1 64 10 = zi (x.2.1 - m1) ∧ I.1 64 11 = zi x.2.2.2.2 ∧ I.1 64 12 = zi k
theorem FlX.kp {I J : zI} {F : List Fl} (h : FlX I F) (e : ∀ a j, 43 ≤ a → a ≤ 51 → J.1 a j = I.1 a j) : FlX J F :=
  ⟨by rw [e _ _ (by decide) (by decide)]; exact h.1, fun p x hp => by
    obtain ⟨h1, h2, h3, h4⟩ := h.2 p x hp
    rw [e 45 _ (by decide) (by decide), e 47 _ (by decide) (by decide), e 49 _ (by decide) (by decide), e 51 _ (by decide) (by decide)]
    exact ⟨h1, h2, h3, h4⟩⟩
theorem s_growAll {a1 A B n n' e m1 R : Nat} {g kd : Nat → Nat} {F : List Fl} {N : Nat → Nd} {I : zI} {K : Int32 → zI → Prop} (ha1 : a1 + 15 < 24 ∨ 113 ≤ a1) (ge : GE F A B n n' g kd) (hi : GI F n n' g kd m1 0 m1 N [(0, 0)] 0) (hm1 : m1 ≤ 3200) (rep : RepNX I m1 N) (hF : FlX I F) (hR : I.1 43 13 = zi R) (hR0 : ∃ x : Fl, F[0]? = some x ∧ x.1 = R) (hpl : ∀ c, c < 3400 → ∃ p, p < 400 ∧ I.1 47 c = zi p)
    (h5 : I.1 64 5 = zi n') (h6 : I.1 64 6 = zi n) (h7 : I.1 64 7 = zi A) (h8 : I.1 64 8 = zi B) (hg : ∀ i, i < n → I.1 (a1 + 15) i = zi (g i))
    (hK : ∀ J k y, gRun F A B n n' g e 2000 0 (0, m1, N, [(0, 0)], 0) = (k, y) → GI F n n' g kd m1 y.1 y.2.1 y.2.2.1 y.2.2.2.1 k → GX (I := J) I m1 k y → J.1 64 13 = (if y.1 + 1 = n ∧ topS y.2.2.2.1 = 1 then -2 else zi y.1) → K (if y.1 + 1 = n ∧ topS y.2.2.2.1 = 1 then 1 else 0) J) : w_Grower_growAll a1 (zi e) I K := by
  unfold w_Grower_growAll
  intro I1 e1 I2 e2 I3 e3 I4 e4 I5 e5
  refine (w_set (by decide)).mpr ?_
  rw [show rs I5 (65 + 1) 300 0 0 = zu I5 66 0 (zi 0) from rs_in (i := 0) (by decide) (by decide)]
  generalize e6 : zu I5 66 0 (zi 0) = I6
  have q6 : eqQ (Qgx m1) I I6 := by
    rw [← e6, e5, e4, e3, e2, e1]
    exact ((((((eqQ.rf.zu (Or.inr (Or.inr (Or.inl (by omega))))).zu (Or.inr (Or.inr (Or.inl (by omega))))).zu (Or.inr (Or.inr (Or.inl (by omega))))).zu (Or.inr (Or.inr (Or.inl (by omega))))).zu (Or.inr (Or.inr (Or.inl (by omega))))).zu (Or.inr (Or.inr (Or.inr (Or.inl rfl)))))
  have o6 : ∀ a j, a ≠ 64 → a ≠ 66 → I6.1 a j = I.1 a j := fun a j u v => by rw [← e6, zu_oo v, e5, zu_oo u, e4, zu_oo u, e3, zu_oo u, e2, zu_oo u, e1, zu_oo u]
  have X0 : GX I I6 m1 0 (0, m1, N, [(0, 0)], 0) := by
    refine ⟨q6, rep.kp hi.2.2.2.2.1.ch (fun a j h1 h2 _ => o6 a j (by omega) (by omega)), ⟨Nat.le_refl 1, ?_, fun j p hp => ?_⟩, ?_, ?_, ?_⟩
    · rw [← e6, zu_oo (by decide), e5, zu_self]
      rfl
    · have hj := (List.getElem?_eq_some_iff.mp hp).1
      have hj0 : j = 0 := by
        change j < 1 at hj
        omega
      subst hj0
      cases hp
      refine ⟨by rw [← e6, zu_self], fun u => by omega⟩
    · rw [← e6, zu_oo (by decide), e5, zu_at, if_neg (by decide), e4, zu_at, if_neg (by decide), e3, zu_at, if_neg (by decide), e2, zu_at, if_neg (by decide), e1, zu_self, Nat.sub_self]
      rfl
    · rw [← e6, zu_oo (by decide), e5, zu_at, if_neg (by decide), e4, zu_at, if_neg (by decide), e3, zu_at, if_neg (by decide), e2, zu_self]
      rfl
    · rw [← e6, zu_oo (by decide), e5, zu_at, if_neg (by decide), e4, zu_at, if_neg (by decide), e3, zu_self]
      rfl
  intro P40 h40
  have main : ∀ (d k : Nat) (x : Gs) (J : zI), GI F n n' g kd m1 x.1 x.2.1 x.2.2.1 x.2.2.2.1 k → 1900 < d + k → GX I J m1 k x → gRun F A B n n' g e 2000 0 (0, m1, N, [(0, 0)], 0) = gRun F A B n n' g e d k x → P40 (zi x.1) (zi k) J := by
    intro d
    induction d with
    | zero =>
      intro k x J hx hk
      have := (hx.bd ge.1).2.2.2
      omega
    | succ d ih =>
      intro k x J hx hk hX hrun
      obtain ⟨i, m, M, st, tk⟩ := x
      dsimp only at hx ⊢
      obtain ⟨b1, b2, b3, b4⟩ := hx.bd ge.1
      refine h40 _ _ _ ?_
      rw [if_neg (show ¬ (10000 : Int32) ≤ zi k from fun u => by have := (zi_le (a := 10000) (by decide) (by omega)).mp u; omega)]
      obtain ⟨x1, x2, x3, x4, x5, x6⟩ := id hX
      dsimp only at x2 x3 x4 x5
      obtain ⟨v1, ⟨s1, s2, s3, s4⟩, v3, v4, v5, v6, v7⟩ := id hx
      obtain ⟨g1, g2, g3, g4, g5, g6, g7⟩ := id ge
      obtain ⟨p0, t1, t2⟩ := top_at s1
      have hs21 : topS st < 21 := t2 ▸ (s3 _ p0 t1).1
      rw [gRun_at (d := d)] at hrun
      dsimp only at hrun
      have ch := v5.ch
      have cst : ∀ a j, ¬ Qgx m1 a j → J.1 a j = I.1 a j := fun a j u => x1.1 a j u
      obtain ⟨w1, w2, w3⟩ := v7 i v1
      -- what follows a step
      have nxt : ∀ (y : Gs) (I' : zI), gNx F A B n n' g e i m M st tk = some y → GX I I' m1 k y → ∀ I18, I18 = zu I' 64 12 (I'.1 64 12 + 1) → ∀ v4_19, v4_19 = zi k + 1 → P40 (zi y.1) v4_19 I18 := by
        intro y I' hy hX' I18 e18 v ev
        rw [ev, zi_succ]
        have hy2 := hx.nx ge hy
        obtain ⟨y1, y2, y3, y4, y5, y6⟩ := hX'
        have o : ∀ a j, ¬ (a = 64 ∧ j = 12) → I18.1 a j = I'.1 a j := fun a j u => by rw [e18, zu_at, if_neg u]
        refine ih (k + 1) y I18 hy2 (by omega) ⟨?_, y2.kp hy2.2.2.2.2.1.ch (fun a j h1 h2 _ => o a j (by omega)), y3.kp (o _ _ (by omega)) (fun j => o _ _ (by omega)) (fun j => o _ _ (by omega)), by rw [o _ _ (by omega)]; exact y4, by rw [o _ _ (by omega)]; exact y5, ?_⟩ ?_
        · rw [e18]
          exact y1.zu (Or.inr (Or.inr (Or.inl (by omega))))
        · rw [e18, zu_self, y6, zi_succ]
        · rw [hrun, hy]
      refine (w_get (by decide)).mpr ?_
      rw [rg_in (by decide) (show i < 100 by omega), show J.1 (a1 + 14 + 1) i = zi (g i) by rw [cst _ _ (by unfold Qgx Qnx; omega)]; exact hg i v1]
      refine s_putSound x2 (by omega) w1 (hF.kp (fun a j h1 h2 => cst a j (by unfold Qgx Qnx; omega))) v6 (by rw [cst _ _ (by unfold Qgx Qnx; omega)]; exact hR) hR0 (by obtain ⟨p, p1, p2⟩ := hpl (g i) (by omega); exact ⟨p, p1, by rw [cst _ _ (by unfold Qgx Qnx; omega)]; exact p2⟩) x3 s3 b1 t1 t2 (by rw [cst _ _ (by unfold Qgx Qnx; omega)]; exact h5) (by rw [cst _ _ (by unfold Qgx Qnx; omega)]; exact h6) (by rw [cst _ _ (by unfold Qgx Qnx; omega)]; exact h7) (by rw [cst _ _ (by unfold Qgx Qnx; omega)]; exact h8) (by omega) (by omega) (by omega) (by omega) g1 g2 v1 (ge.cw v6 v1) ?_ ?_
      · intro hb P80 h80
        rw [if_pos rfl]
        refine s_putToken x2 ch (by omega) w1 x3 s3 b1 t1 t2 (v5.sym _ w1) (v5.sta _ w1) ?_ ?_
        · intro hz
          refine h80 _ _ ?_
          intro v ev P148 h148
          rw [if_pos rfl]
          have ev2 : v = zi i := by rw [ev]; exact Int32.add_zero _
          subst ev2
          refine s_makeByRule x2 ch (by omega) x3 s3 b1 t1 t2 (fun r hr => (st_fits s2 s3 s1 t1 t2 hr).1) ?_ ?_
          · intro hr
            rw [if_pos rfl]
            have hy : gNx F A B n n' g e i m M st tk = none := by
              unfold gNx
              rw [hb]
              dsimp only
              rw [if_pos hz, hr]
            rw [hy] at hrun
            have hK2 := fun J' => hK J' k (i, m, M, st, tk) hrun hx
            dsimp only at hK2
            have exit : ∀ (t : Int32), t = (if i + 1 = n ∧ topS st = 1 then 1 else 0) → ∀ (P142 : Int32 → Prop), (∀ (t_23 : Int32), (∀ I_24, I_24 = (zu J 64 13 t_23) → zb t ∧ K t I_24) → P142 t_23) → (if t = 0 then P142 (zi i) else (P142 (-2))) := by
              intro t ht P142 h142
              have hfin : ∀ w : Int32, w = (if i + 1 = n ∧ topS st = 1 then -2 else zi i) → P142 w := by
                intro w hw
                refine h142 w (fun I24 e24 => ⟨?_, ?_⟩)
                · rw [ht]
                  by_cases c : i + 1 = n ∧ topS st = 1
                  · rw [if_pos c]; exact Or.inr rfl
                  · rw [if_neg c]; exact Or.inl rfl
                · have o : ∀ a j, ¬ (a = 64 ∧ j = 13) → I24.1 a j = J.1 a j := fun a j u => by rw [e24, zu_at, if_neg u]
                  rw [ht]
                  refine hK2 I24 ⟨?_, x2.kp ch (fun a j h1 h2 _ => o a j (by omega)), x3.kp (o _ _ (by omega)) (fun j => o _ _ (by omega)) (fun j => o _ _ (by omega)), by rw [o _ _ (by omega)]; exact x4, by rw [o _ _ (by omega)]; exact x5, by rw [o _ _ (by omega)]; exact x6⟩ (by rw [e24, zu_self, hw])
                  rw [e24]
                  exact x1.zu (Or.inr (Or.inr (Or.inl (by omega))))
              by_cases c : i + 1 = n ∧ topS st = 1
              · rw [if_pos c] at ht
                rw [ht, if_neg (by decide)]
                exact hfin _ (by rw [if_pos c])
              · rw [if_neg c] at ht
                rw [ht, if_pos rfl]
                exact hfin _ (by rw [if_neg c])
            intro P128 h128 P127 h127
            rw [show J.1 64 6 = zi n by rw [cst _ _ (by unfold Qgx Qnx; omega)]; exact h6, show zi n - 1 = zi (n - 1) from zi_sub (b := 1) (by omega)]
            by_cases c1 : i + 1 = n
            · rw [if_pos (show zi i = zi (n - 1) by rw [← c1]; rfl), x3.2.1]
              refine (w_get (by decide)).mpr ?_
              rw [rg_in (by decide) (show st.length - 1 < 300 by omega), show J.1 (65 + 1) (st.length - 1) = zi (topS st) from t2 ▸ (x3.2.2 _ p0 t1).1]
              by_cases c2 : topS st = 1
              · rw [if_pos (show zi (topS st) = 1 by rw [c2]; rfl)]
                exact h128 _ (exit 1 (by rw [if_pos ⟨c1, c2⟩]))
              · rw [if_neg (show ¬ zi (topS st) = 1 from fun u => c2 ((zi_eq (b := 1) (by omega) (by decide)).mp u))]
                exact h127 (h128 _ (exit 0 (by rw [if_neg (fun u => c2 u.2)])))
            · rw [if_neg (fun u => c1 (by have := (zi_eq (by omega) (by omega)).mp u; omega))]
              exact h127 (h128 _ (exit 0 (by rw [if_neg (fun u => c1 u.1)])))
          · intro r J2 hr q2 rp2 sx2 c10
            rw [if_neg (by decide)]
            refine h148 _ ?_
            have hy : gNx F A B n n' g e i m M st tk = some (i, m + 1, upN M m (byN M st r e), byT m st r, tk) := by
              unfold gNx
              rw [hb]
              dsimp only
              rw [if_pos hz, hr]
            refine nxt _ J2 hy ⟨x1.tr (q2.mono (fun a j h => by unfold Qby Qnx at h; unfold Qgx Qnx; omega)), rp2, sx2, ?_, ?_, ?_⟩
            · rw [c10, x4, zi_succ]
              dsimp only
              rw [show m - m1 + 1 = m + 1 - m1 by omega]
            · rw [q2.1 _ _ (by unfold Qby Qnx; omega)]
              exact x5
            · rw [q2.1 _ _ (by unfold Qby Qnx; omega)]
              exact x6
        · intro J2 hz q2 rp2 sx2
          refine h80 _ _ ?_
          intro v ev P148 h148
          rw [if_neg (by decide)]
          refine h148 _ ?_
          have ev2 : v = zi (i + 1) := by rw [ev]; exact zi_succ i
          subst ev2
          have hy : gNx F A B n n' g e i m M st tk = some (i + 1, m, upN M (g i) (stNd (M (g i)) (topS st)), st ++ [(g i, ldN (topS st) (ndM (M (g i))))], tk) := by
            unfold gNx
            rw [hb]
            dsimp only
            rw [if_neg hz]
          refine nxt _ J2 hy ⟨x1.tr (q2.mono (fun a j h => by unfold Qpt at h; unfold Qgx; omega)), rp2, sx2, ?_, ?_, ?_⟩
          · rw [q2.1 _ _ (by unfold Qpt; omega)]
            exact x4
          · rw [q2.1 _ _ (by unfold Qpt; omega)]
            exact x5
          · rw [q2.1 _ _ (by unfold Qpt; omega)]
            exact x6
      · intro b J2 hb q2 sx2 c11 P80 h80
        obtain ⟨hbm, r, b4', b5, hsy, hld, hf1, hin⟩ := hx.taken ge hb
        have hne : ¬ zi (ndT (M b)) = 0 := fun u => by
          have := (zi_eq (b := 0) (by omega) (by decide)).mp u
          omega
        rw [if_neg hne]
        refine h80 _ _ ?_
        intro v ev P148 h148
        rw [if_neg hne]
        refine h148 _ ?_
        have ev2 : v = zi (i + ndT (M b)) := by rw [ev]; exact zi_add _ _
        subst ev2
        have hy : gNx F A B n n' g e i m M st tk = some (i + ndT (M b), m, M, st ++ [(b, ldN (topS st) (ndM (M b)))], tk + 1) := by
          unfold gNx
          rw [hb]
        refine nxt _ J2 hy ⟨x1.tr (q2.mono (fun a j h => by unfold Qps at h; unfold Qgx; omega)), x2.kp ch (fun a j h1 h2 _ => q2.1 a j (by unfold Qps; omega)), sx2, ?_, ?_, ?_⟩
        · rw [q2.1 _ _ (by unfold Qps; omega)]
          exact x4
        · rw [c11, x5, zi_succ]
        · rw [q2.1 _ _ (by unfold Qps; omega)]
          exact x6
  exact main 2000 0 (0, m1, N, [(0, 0)], 0) I6 hi (by omega) X0 rfl
