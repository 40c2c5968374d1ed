/-! ===== fresh, in the way, expected, mend: the model ===== -/
def Qwy (a j : Nat) : Prop := a = 519 ∨ a = 520 ∨ (a = 491 ∧ (j = 39 ∨ j = 41 ∨ j = 42))
theorem Qlt_wy {I J : zI} (q : eqQ Qlt I J) : eqQ Qwy I J := q.mono (fun a j h => by unfold Qlt at h; unfold Qwy; omega)
theorem Qwr_wy {I J : zI} (q : eqQ Qwr I J) : eqQ Qwy I J := q.mono (fun a j h => by unfold Qwr at h; unfold Qwy; omega)
theorem Qwy_mo {I J : zI} (q : eqQ Qwy I J) : eqQ Qmo I J := q.mono (fun a j h => by unfold Qwy at h; unfold Qmo; omega)
theorem RM.wy {I J : zI} {x : Sg} (hv : Iv x) (h : RM I x) (q : eqQ Qwy I J) : RM J x := RM.kp (tp := x.1) hv h (fun a j u => q.1 a j (by unfold Qwy; omega)) (fun a j u => q.2 a j (by unfold Qwy; omega))
/-- what holds of the tokens as they are now -/
theorem kd_ok {l : List Int32} (h : txOk l) : 1 ≤ (lexL l).length ∧ (lexL l).length ≤ 100 ∧ KdO (kdF (lexL l)) ((lexL l).length - 1) ∧ kdF (lexL l) ((lexL l).length - 1) = 10 ∧ ∀ i, i < (lexL l).length → (lexL l)[i]? = some ((lexL l).getD i (10, 0, 0)) := by
  obtain ⟨o1, o2, o3, o4⟩ := lex_lxo h
  have hat : ∀ i, i < (lexL l).length → (lexL l)[i]? = some ((lexL l).getD i (10, 0, 0)) := fun i hi => by
    rw [List.getD_eq_getElem?_getD, List.getElem?_eq_getElem hi]
    rfl
  have hlast : kdF (lexL l) ((lexL l).length - 1) = 10 := (o4 _ _ (hat _ (by omega))).mpr (by omega)
  refine ⟨o2, o3, ⟨fun i hi => ?_, fun s hs => ?_⟩, hlast, hat⟩
  · exact (o1 _ (List.mem_of_getElem? (hat i (by omega)))).1
  · rw [hlast]
    exact end_fin s hs
theorem kd_end {l : List Int32} (h : txOk l) {i : Nat} (hi : i < (lexL l).length) (e : kdF (lexL l) i = 10) : i = (lexL l).length - 1 := by
  obtain ⟨o1, o2, o3, o4⟩ := lex_lxo h
  have := (o4 _ _ ((kd_ok h).2.2.2.2 i hi)).mp e
  omega
theorem now_kd {I : zI} {x : Sg} (hv : Iv x) (h : RM I x) : I.1 491 15 = zi (lexL (moT (sgC x))).length ∧ ∀ i, i < (lexL (moT (sgC x))).length → I.1 501 i = zi (kdF (lexL (moT (sgC x))) i) := by
  have hN := h.2.2.2.2.2.2.2.1
  have hk := kd_ok hv.2.2.2.2.2.2.2.1.1
  exact ⟨hN.2.2.1, fun i hi => (hN.2.2.2.1 i _ (hk.2.2.2.2 i hi)).1⟩
theorem s_fresh {x : Sg} {I : zI} {K : Int32 → zI → Prop} (hv : Iv x) (hR : RM I x) (hK : ∀ v J, eqQ Qmo I J → RM J x → K v J) : w_M_fresh I K := by
  unfold w_M_fresh
  have hk := kd_ok hv.2.2.2.2.2.2.2.1.2.1
  obtain ⟨k1, k2, k3, k4, k5⟩ := hk
  have hU := hR.2.2.2.2.2.2.2.1.2.2.2.2.2.2.1
  obtain ⟨u1, u2⟩ := hU
  intro P2 h2
  have main : ∀ (d i : Nat) (J : zI), i + d = (lexL (moG (sgC x))).length → eqQ Qwy I J → (∀ q, q < i → J.1 520 q = zi (kdF (lexL (moG (sgC x))) q)) → P2 (zi i) J := by
    intro d
    induction d with
    | zero =>
      intro i J hi q hkd
      refine h2 _ _ ?_
      rw [show J.1 491 19 = zi (lexL (moG (sgC x))).length by rw [q.1 491 19 (by unfold Qwy; omega)]; exact u1, if_pos ((zi_le (by omega) (by omega)).mpr (by omega))]
      refine s_wrongOf k3 (by omega) (fun p hp => hkd p (by omega)) (fun J2 i2 st d2 q2 _ _ _ => ?_)
      have q3 := q.tr (Qwr_wy q2)
      exact hK _ J2 (Qwy_mo q3) (hR.wy hv q3)
    | succ d ih =>
      intro i J hi q hkd
      refine h2 _ _ ?_
      rw [show J.1 491 19 = zi (lexL (moG (sgC x))).length by rw [q.1 491 19 (by unfold Qwy; omega)]; exact u1, if_neg (fun u => by have := (zi_le (by omega) (by omega)).mp u; omega)]
      refine ⟨(zin_iff (by omega)).mpr (by omega), (zin_iff (by omega)).mpr (by omega), fun I5 e5 v ev => ?_⟩
      have g : J.1 504 i = zi (kdF (lexL (moG (sgC x))) i) := by
        rw [q.1 504 i (by unfold Qwy; omega)]
        exact (u2 i _ (k5 i (by omega))).1
      rw [zi_tn (show i < 2147483648 by omega), g] at e5
      rw [ev, zi_succ]
      refine ih (i + 1) I5 (by omega) ?_ (fun p hp => ?_)
      · rw [e5]
        exact q.zu (Or.inr (Or.inl rfl))
      · rw [e5]
        by_cases u : p = i
        · rw [u, zu_self]
        · rw [zu_at, if_neg (by omega)]
          exact hkd p (by omega)
  exact main (lexL (moG (sgC x))).length 0 I (by omega) eqQ.rf (fun q hq => by omega)
/-- some KINDS tried: wherever it ends -/
theorem try_then {x : Sg} {a b c k : Int32} {I : zI} {K : Int32 → zI → Prop} (hv : Iv x) (hR : RM I x) (hL : zi ((lexL (moT (sgC x))).length - 1) < a ∨ a + b ≤ zi ((lexL (moT (sgC x))).length - 1)) (hc : (∀ i, i < (lexL (moT (sgC x))).length → zi i ≠ c) ∨ ∃ k' : Nat, k' < 12 ∧ k = zi k') (hK : ∀ v J, eqQ Qwy I J → K v J) : w_M_laysTry a b c k I (fun J => w_M_wrongOf J K) := by
  obtain ⟨k1, k2, k3, k4, k5⟩ := kd_ok hv.2.2.2.2.2.2.2.1.1
  obtain ⟨n1, n2⟩ := now_kd hv hR
  refine s_laysTry n1 ⟨k1, k2⟩ (fun i hi => ⟨_, k3.1 i (by omega), n2 i hi⟩) (by rw [n2 _ (by omega), k4]) hL hc (fun J kd e q hkd he h520 => ?_)
  exact s_wrongOf hkd he h520 (fun J2 i2 st d2 q2 _ _ _ => hK _ J2 ((Qlt_wy q).tr (Qwr_wy q2)))
theorem s_inTheWay {x : Sg} {a : Int32} {I : zI} {K : Int32 → zI → Prop} (hv : Iv x) (hR : RM I x) (hK : ∀ v J, eqQ Qmo I J → RM J x → K v J) : w_M_inTheWay a I K := by
  unfold w_M_inTheWay
  obtain ⟨k1, k2, k3, k4, k5⟩ := kd_ok hv.2.2.2.2.2.2.2.1.1
  have done : ∀ v J, eqQ Qwy I J → K v J := fun v J q => hK v J (Qwy_mo q) (hR.wy hv q)
  have g15 : ∀ J, eqQ Qwy I J → J.1 491 15 = zi (lexL (moT (sgC x))).length := fun J q => (now_kd hv (hR.wy hv q)).1
  generalize hn : (lexL (moT (sgC x))).length = n at k1 k2 k4 k5 g15
  refine s_in (fun c => ?_) (fun c => ?_)
  · rw [if_neg (by decide)]
    split
    · intro P23 h23
      have outer : ∀ (d w : Nat) (J : zI), n ≤ w + d → w ≤ n + 1 → eqQ Qwy I J → P23 (zi w) J := by
        intro d
        induction d with
        | zero =>
          intro w J hw hw2 q
          refine h23 _ _ ?_
          rw [g15 J q, if_pos ((zi_le (by omega) (by omega)).mpr (by omega))]
          exact done _ J q
        | succ d ih =>
          intro w J hw hw2 q
          refine h23 _ _ ?_
          rw [g15 J q]
          by_cases u : n ≤ w
          · rw [if_pos ((zi_le (by omega) (by omega)).mpr u)]
            exact done _ J q
          · rw [if_neg (fun v => u ((zi_le (by omega) (by omega)).mp v))]
            intro P33 h33
            have inner : ∀ (d2 s : Nat) (J2 : zI), n ≤ s + w + d2 → s ≤ n + 1 → eqQ Qwy I J2 → P33 (zi s) J2 := by
              intro d2
              induction d2 with
              | zero =>
                intro s J2 hs hs2 q2
                refine h33 _ _ ?_
                rw [g15 J2 q2, zi_add, if_pos ((zi_le (by omega) (by omega)).mpr (by omega))]
                intro v ev
                rw [ev, zi_succ]
                exact ih (w + 1) J2 (by omega) (by omega) q2
              | succ d2 ih2 =>
                intro s J2 hs hs2 q2
                refine h33 _ _ ?_
                rw [g15 J2 q2, zi_add]
                by_cases u2 : n ≤ s + w
                · rw [if_pos ((zi_le (by omega) (by omega)).mpr u2)]
                  intro v ev
                  rw [ev, zi_succ]
                  exact ih (w + 1) J2 (by omega) (by omega) q2
                · rw [if_neg (fun v => u2 ((zi_le (by omega) (by omega)).mp v))]
                  refine try_then hv (hR.wy hv q2) (Or.inr ?_) (Or.inl (fun i hi u => ?_)) (fun v J3 q3 => ?_)
                  · rw [zi_add, hn]
                    exact (zi_le (by omega) (by omega)).mpr (by omega)
                  · have := zi_ge (a := i) (by omega)
                    rw [u] at this
                    revert this
                    decide
                  · split
                    · intro v' ev
                      rw [ev, zi_succ]
                      exact ih2 (s + 1) J3 (by omega) (by omega) (q2.tr q3)
                    · split
                      · exact done _ J3 (q2.tr q3)
                      · exact done _ J3 (q2.tr q3)
            exact inner n 0 J (by omega) (by omega) q
      exact outer n 1 I (by omega) (by omega) eqQ.rf
    · exact done _ I eqQ.rf
  · rw [if_pos rfl]
    exact done _ I eqQ.rf
theorem s_mend {x : Sg} {a : Int32} {I : zI} {K : Int32 → zI → Prop} (hv : Iv x) (hR : RM I x) (hK : ∀ v J, eqQ Qmo I J → RM J x → K v J) : w_M_mend a I K := by
  unfold w_M_mend
  obtain ⟨k1, k2, k3, k4, k5⟩ := kd_ok hv.2.2.2.2.2.2.2.1.1
  have done : ∀ v J, eqQ Qwy I J → K v J := fun v J q => hK v J (Qwy_mo q) (hR.wy hv q)
  have g15 : ∀ J, eqQ Qwy I J → J.1 491 15 = zi (lexL (moT (sgC x))).length := fun J q => (now_kd hv (hR.wy hv q)).1
  generalize hn : (lexL (moT (sgC x))).length = n at k1 k2 k4 k5 g15
  refine s_in (fun c => ?_) (fun c => ?_)
  · rw [if_neg (by decide)]
    split
    · intro P23 h23
      have outer : ∀ (d w : Nat) (J : zI), n ≤ w + d → w ≤ n + 1 → eqQ Qwy I J → P23 (zi w) J := by
        intro d
        induction d with
        | zero =>
          intro w J hw hw2 q
          refine h23 _ _ ?_
          rw [g15 J q, if_pos ((zi_le (by omega) (by omega)).mpr (by omega))]
          exact done _ J q
        | succ d ih =>
          intro w J hw hw2 q
          refine h23 _ _ ?_
          rw [g15 J q]
          by_cases u : n ≤ w
          · rw [if_pos ((zi_le (by omega) (by omega)).mpr u)]
            exact done _ J q
          · rw [if_neg (fun v => u ((zi_le (by omega) (by omega)).mp v))]
            intro P33 h33
            have inner : ∀ (d2 s : Nat) (J2 : zI), s + d2 = 10 → eqQ Qwy I J2 → P33 (zi s) J2 := by
              intro d2
              induction d2 with
              | zero =>
                intro s J2 hs q2
                refine h33 _ _ ?_
                rw [if_pos (show (10 : Int32) ≤ zi s from (zi_le (a := 10) (by decide) (by omega)).mpr (by omega))]
                intro v ev
                rw [ev, zi_succ]
                exact ih (w + 1) J2 (by omega) (by omega) q2
              | succ d2 ih2 =>
                intro s J2 hs q2
                refine h33 _ _ ?_
                rw [if_neg (show ¬ (10 : Int32) ≤ zi s from fun v => by have := (zi_le (a := 10) (by decide) (by omega)).mp v; omega)]
                refine try_then hv (hR.wy hv q2) (Or.inr ?_) (Or.inr ⟨s, by omega, rfl⟩) (fun v J3 q3 => ?_)
                · exact Int32.le_trans (by decide) (zi_ge (by omega))
                · split
                  · intro v' ev
                    rw [ev, zi_succ]
                    exact ih2 (s + 1) J3 (by omega) (q2.tr q3)
                  · split
                    · exact done _ J3 (q2.tr q3)
                    · exact done _ J3 (q2.tr q3)
            exact inner 10 0 J (by omega) q
      exact outer n 0 I (by omega) (by omega) eqQ.rf
    · exact done _ I eqQ.rf
  · rw [if_pos rfl]
    exact done _ I eqQ.rf
theorem s_expected {x : Sg} {I : zI} {K : Int32 → zI → Prop} (hv : Iv x) (hl : Lv x) (hR : RM I x) (hK : ∀ v J, eqQ Qmo I J → RM J x → K v J) : w_M_expected I K := by
  unfold w_M_expected
  obtain ⟨k1, k2, k3, k4, k5⟩ := kd_ok hv.2.2.2.2.2.2.2.1.1
  obtain ⟨n1, n2⟩ := now_kd hv hR
  have g8 : I.1 491 8 = b01 (moB (sgC x)) := hR.2.2.2.2.2.2.2.1.2.2.2.2.2.2.2.2.1
  have done : ∀ v J, eqQ Qwy I J → K v J := fun v J q => hK v J (Qwy_mo q) (hR.wy hv q)
  rw [g8]
  by_cases hb : moB (sgC x) = false
  · rw [if_pos (b01_0.mpr hb)]
    have hacc := hl.1.2 hb
    unfold LrAcc at hacc
    have g15 : ∀ J, eqQ Qwy I J → J.1 491 15 = zi (lexL (moT (sgC x))).length ∧ ∀ i, i < (lexL (moT (sgC x))).length → J.1 501 i = zi (kdF (lexL (moT (sgC x))) i) := fun J q => now_kd hv (hR.wy hv q)
    have kend : ∀ i, i < (lexL (moT (sgC x))).length → kdF (lexL (moT (sgC x))) i = 10 → i = (lexL (moT (sgC x))).length - 1 := fun i hi e => kd_end hv.2.2.2.2.2.2.2.1.1 hi e
    generalize hn : (lexL (moT (sgC x))).length = n at k1 k2 k3 k4 k5 g15 n1 n2 hacc kend
    generalize kdF (lexL (moT (sgC x))) = kd at k3 k4 g15 n2 hacc kend
    refine s_laysAllK n1 k2 n2 (fun J q h520 => ?_)
    refine s_wrongOf k3 (by omega) (fun i hi => h520 i (by omega)) (fun J2 r st d q2 hrun hLI hno => ?_)
    have hr : r ≤ n - 1 := hLI.1
    have hnot : ¬ (kd r = 10 ∧ topS st = 1) := fun u => by
      have hrn : r = n - 1 := kend r (by omega) u.1
      refine hacc ⟨st, ⟨d, ?_⟩, ?_, u.2⟩
      · rw [← hrn]
        exact hrun
      · rw [← hrn]
        exact hno
    rw [if_neg hnot]
    have qJ2 : eqQ Qwy I J2 := (Qlt_wy q).tr (Qwr_wy q2)
    intro P27 h27
    have main : ∀ (d2 s : Nat) (w : Int32) (J3 : zI), s + d2 = 11 → eqQ Qwy I J3 → P27 w (zi s) J3 := by
      intro d2
      induction d2 with
      | zero =>
        intro s w J3 hs q3
        refine h27 _ _ _ ?_
        rw [if_pos (show (11 : Int32) ≤ zi s from (zi_le (a := 11) (by decide) (by omega)).mpr (by omega))]
        exact done _ J3 q3
      | succ d2 ih =>
        intro s w J3 hs q3
        refine h27 _ _ _ ?_
        rw [if_neg (show ¬ (11 : Int32) ≤ zi s from fun v => by have := (zi_le (a := 11) (by decide) (by omega)).mp v; omega)]
        obtain ⟨m1, m2⟩ := g15 J3 q3
        refine s_laysAllK m1 k2 m2 (fun J4 q4 h4 => ?_)
        refine ⟨(zin_iff (by omega)).mpr (by omega), fun I8 e8 => ?_⟩
        rw [zi_tn (show r < 2147483648 by omega)] at e8
        have q8 : eqQ Qwy I I8 := by
          rw [e8]
          exact (q3.tr (Qlt_wy q4)).zu (Or.inr (Or.inl rfl))
        intro P64 h64
        have next : ∀ (J9 : zI) (kd9 : Nat → Nat) (e9 : Nat), eqQ Qwy I J9 → KdO kd9 e9 → e9 < 110 → (∀ i, i ≤ e9 → J9.1 520 i = zi (kd9 i)) → P64 J9 := by
          intro J9 kd9 e9 q9 hk9 he9 h9
          refine h64 J9 (s_wrongOf hk9 he9 h9 (fun J10 i10 st10 d10 q10 _ _ _ => ?_))
          intro P96 h96
          have nx : ∀ w', P96 w' := fun w' => h96 w' (fun v ev => by
            rw [ev, zi_succ]
            exact ih (s + 1) w' J10 (by omega) (q9.tr (Qwr_wy q10)))
          intro P90 h90
          have both : P90 := h90 (fun v ev => nx v)
          repeat' split
          all_goals first | exact nx _ | exact both
        by_cases hs10 : s = 10
        · rw [if_pos (show zi s = 10 by rw [hs10]; rfl)]
          refine next I8 (fun i => if i = r then 10 else kd i) r q8 ⟨fun i hi => ?_, fun s' hs' => ?_⟩ (by omega) (fun i hi => ?_)
          · dsimp only
            split
            · decide
            · exact k3.1 i (by omega)
          · dsimp only
            rw [if_pos rfl]
            exact end_fin s' hs'
          · rw [e8]
            by_cases u : i = r
            · rw [if_pos u, u, zu_self, hs10]
            · rw [if_neg u, zu_at, if_neg (by omega)]
              exact h4 i (by omega)
        · rw [if_neg (show ¬ zi s = 10 from fun v => hs10 ((zi_eq (b := 10) (by omega) (by decide)).mp v))]
          rw [zi_succ]
          refine ⟨(zin_iff (by omega)).mpr (by omega), fun I18 e18 => ?_⟩
          rw [zi_tn (show r + 1 < 2147483648 by omega)] at e18
          refine next I18 (fun i => if i = r + 1 then 11 else if i = r then s else kd i) (r + 1) ?_ ⟨fun i hi => ?_, fun s' hs' => ?_⟩ (by omega) (fun i hi => ?_)
          · rw [e18]
            exact q8.zu (Or.inr (Or.inl rfl))
          · dsimp only
            split
            · decide
            · split
              · omega
              · exact k3.1 i (by omega)
          · dsimp only
            rw [if_pos rfl]
            exact end_fin2 s' hs'
          · rw [e18]
            by_cases u : i = r + 1
            · rw [if_pos u, u, zu_self]
              rfl
            · rw [if_neg u, zu_at, if_neg (by omega), e8]
              by_cases u2 : i = r
              · rw [if_pos u2, u2, zu_self]
              · rw [if_neg u2, zu_at, if_neg (by omega)]
                exact h4 i (by omega)
    exact main 11 0 0 J2 (by omega) qJ2
  · rw [if_neg (fun u => hb (b01_0.mp u))]
    exact done _ I eqQ.rf
