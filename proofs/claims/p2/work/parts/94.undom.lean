/-! ===== undone and done again: the model ===== -/
def Qgo (a j : Nat) : Prop := (a = 491 ∧ (j = 3 ∨ j = 5 ∨ j = 7 ∨ j = 8 ∨ j = 9 ∨ j = 15 ∨ j = 19 ∨ j = 37 ∨ j = 43 ∨ j = 51 ∨ j = 53 ∨ j = 75)) ∨ (493 ≤ a ∧ a ≤ 499) ∨ (501 ≤ a ∧ a ≤ 508) ∨ (521 ≤ a ∧ a ≤ 529)
theorem s_goesTo {m s : Nat} {N : Nat → Nd} {y : Mo} {I : zI} {K : zI → Prop} (rep : RepNM I m N) (hN : NdOk m N) (hu : UqE m N) (hm : m ≤ 3700) (o : MoOk m N y) (hs : s ≤ 20) (hM : MoM I s y) (hK : ∀ J, eqQ Qgo I J → J.1 491 75 = zi s → NowM J y → ViM J N (moR y) (lexL (moG y)).length → K J) : w_M_goesTo (zi s) I K := by
  obtain ⟨oT, oG, oB, oR, oK⟩ := o
  obtain ⟨h1, h2, h3, h4, h5, h6, h7⟩ := hM
  have lT := oT.1
  have lG := oG.1
  have l100 := oG.2.2
  intro v2 ev2 I2 e2
  rw [show (720 : Int32) = zi 720 from rfl, zi_mul] at ev2
  subst ev2
  have ix : ∀ k : Nat, k < 720 → vp_in (zi (720 * s) + zi k) 15120 ∧ Int32.toNatClampNeg (zi (720 * s) + zi k) = 720 * s + k := fun k hk => by
    rw [zi_add, zi_tn (by omega)]
    exact ⟨(zin_iff (by omega)).mpr (by omega), rfl⟩
  have o2 : ∀ a j, ¬ (a = 491 ∧ j = 75) → I2.1 a j = I.1 a j := fun a j u => by rw [e2, zu_at, if_neg u]
  have q2 : eqQ Qgo I I2 := by
    rw [e2]
    exact eqQ.rf.zu (Or.inl (by omega))
  intro P13 h13
  have main : ∀ (d v : Nat) (J : zI), v + d = 300 → eqQ (fun a _ => a = 493) I2 J → (∀ j, j < v → J.1 493 j = I.1 542 (720 * s + 300 + j)) → P13 (zi v) J := by
    intro d
    induction d with
    | succ d ih =>
      intro v J hv q h
      refine h13 _ _ ?_
      rw [if_neg (show ¬ (300 : Int32) ≤ zi v from fun u => by have := (zi_le (a := 300) (by decide) (by omega)).mp u; omega), show (300 : Int32) = zi 300 from rfl, zi_add, zi_add, zi_tn (show v < 2147483648 by omega), zi_tn (show 720 * s + 300 + v < 2147483648 by omega)]
      refine ⟨(zin_iff (by omega)).mpr (by omega), (zin_iff (by omega)).mpr (by omega), fun I26 e26 w ew => ?_⟩
      rw [q.1 542 _ (by omega), o2 _ _ (by omega)] at e26
      rw [ew, zi_succ]
      refine ih (v + 1) I26 (by omega) (by rw [e26]; exact q.zu rfl) (fun j hj => ?_)
      rw [e26, zu_at]
      by_cases u : j = v
      · rw [if_pos ⟨rfl, u⟩, u]
      · rw [if_neg (fun z => u z.2)]
        exact h j (by omega)
    | zero =>
      intro v J hv q h
      refine h13 _ _ ?_
      rw [if_pos (show (300 : Int32) ≤ zi v from (zi_le (a := 300) (by decide) (by omega)).mpr (by omega))]
      intro I5 e5
      have o5 : ∀ a j, a ≠ 493 → ¬ (a = 491 ∧ (j = 75 ∨ j = 8)) → I5.1 a j = I.1 a j := fun a j u1 u2 => by rw [e5, zu_at, if_neg (by omega), q.1 a j u1, o2 a j (by omega)]
      have o52 : ∀ a j, a ≠ 493 → I5.2 a j = I.2 a j := fun a j u => by rw [e5, zu_2, q.2 a j u, e2, zu_2]
      have q5 : eqQ Qgo I I5 := by
        rw [e5]
        exact (q2.tr (q.mono (fun a j h => Or.inr (Or.inl (by omega))))).zu (Or.inl (by omega))
      obtain ⟨i1, i2⟩ := ix 711 (by decide)
      rw [show (711 : Int32) = zi 711 from rfl, i2]
      refine ⟨i1, ?_⟩
      rw [o5 542 _ (by decide) (by omega), h5]
      refine s_cutsUp (t := txF (moG y)) (by omega) (fun j hj => by rw [e5, zu_oo (by decide), h j (by omega)]; exact h2 j hj) (fun I6 q6 n6 u6 => ?_)
      have nt6 : NewT I6 (moG y) := ⟨n6, fun j hj => by rw [q6.1 493 j (by unfold Qcut; omega), e5, zu_oo (by decide), h j (by omega)]; exact h2 j hj, u6⟩
      refine s_keepsTokens (gd := true) oG nt6 (by rw [q6.1 491 8 (by unfold Qcut; omega), e5, zu_self]; rfl) (fun I7 q7 nt7 gt7 => ?_)
      have q7' : eqQ (fun a j => Qkt a j ∨ Qkg a j) I6 I7 := q7.mono (fun a j h => by rcases h with h | ⟨-, h⟩; exact Or.inl h; exact Or.inr h)
      have c7 : ∀ a j, ¬ Qgo a j → I7.1 a j = I.1 a j := fun a j u => by
        rw [q7'.1 a j (by unfold Qgo at u; unfold Qkt Qkg; omega), q6.1 a j (by unfold Qgo at u; unfold Qcut; omega), q5.1 a j u]
      have c72 : ∀ a j, ¬ Qgo a j → I7.2 a j = I.2 a j := fun a j u => by
        rw [q7'.2 a j (by unfold Qgo at u; unfold Qkt Qkg; omega), q6.2 a j (by unfold Qgo at u; unfold Qcut; omega), q5.2 a j u]
      have q57 : eqQ Qgo I I7 := ⟨c7, c72⟩
      have g75 : I7.1 491 75 = zi s := by rw [q7'.1 491 75 (by unfold Qkt Qkg; decide), q6.1 491 75 (by unfold Qcut; decide), e5, zu_i (by decide), q.1 491 75 (by decide), e2, zu_self]
      have g8 : I7.1 491 8 = 1 := by rw [q7'.1 491 8 (by unfold Qkt Qkg; decide), q6.1 491 8 (by unfold Qcut; decide), e5, zu_self]
      intro P69 h69
      have cp : ∀ (d v : Nat) (A : zI), v + d = 110 → eqQ (fun a _ => a = 508) I7 A → (∀ j, j < v → A.1 508 j = I.1 542 (720 * s + 600 + j)) → P69 (zi v) A := by
        intro d
        induction d with
        | succ d ih =>
          intro v A hv qA hA
          refine h69 _ _ ?_
          rw [if_neg (show ¬ (110 : Int32) ≤ zi v from fun u => by have := (zi_le (a := 110) (by decide) (by omega)).mp u; omega), show (600 : Int32) = zi 600 from rfl, zi_add, zi_add, zi_tn (show v < 2147483648 by omega), zi_tn (show 720 * s + 600 + v < 2147483648 by omega)]
          refine ⟨(zin_iff (by omega)).mpr (by omega), (zin_iff (by omega)).mpr (by omega), fun I23 e23 w ew => ?_⟩
          rw [qA.1 542 _ (by omega), c7 542 _ (by unfold Qgo; omega)] at e23
          rw [ew, zi_succ]
          refine ih (v + 1) I23 (by omega) (by rw [e23]; exact qA.zu rfl) (fun j hj => ?_)
          rw [e23, zu_at]
          by_cases u : j = v
          · rw [if_pos ⟨rfl, u⟩, u]
          · rw [if_neg (fun z => u z.2)]
            exact hA j (by omega)
        | zero =>
          intro v A hv qA hA
          refine h69 _ _ ?_
          rw [if_pos (show (110 : Int32) ≤ zi v from (zi_le (a := 110) (by decide) (by omega)).mpr (by omega))]
          obtain ⟨j1, j2⟩ := ix 713 (by decide)
          obtain ⟨k1, k2⟩ := ix 712 (by decide)
          rw [show (713 : Int32) = zi 713 from rfl, show (712 : Int32) = zi 712 from rfl, j2, k2]
          refine ⟨j1, fun I10 e10 => ?_⟩
          rw [qA.1 542 _ (by omega), c7 542 _ (by unfold Qgo; omega), h7] at e10
          have c10 : ∀ a j, a ≠ 508 → ¬ (a = 491 ∧ j = 37) → I10.1 a j = I7.1 a j := fun a j u1 u2 => by rw [e10, zu_at, if_neg u2, qA.1 a j u1]
          have c102 : ∀ a j, a ≠ 508 → I10.2 a j = I7.2 a j := fun a j u => by rw [e10, zu_2, qA.2 a j u]
          have q10 : eqQ Qgo I I10 := by
            rw [e10]
            exact (q57.tr (qA.mono (fun a j h => Or.inr (Or.inr (Or.inl (by omega)))))).zu (Or.inl (by omega))
          have rep10 : RepNM I10 m N := rep.kp2 (q10.1 _ _ (by unfold Qgo; decide)) (fun a j u1 u2 => q10.1 a j (by unfold Qgo; omega)) (fun j => q10.2 511 j (by unfold Qgo; omega))
          refine s_Mtree rep10 hN hu hm oR (by rw [e10, zu_self]) (fun I11 q11 vi11 => ⟨k1, ?_⟩)
          have q11' : eqQ Qgo I I11 := q10.tr (q11.mono (fun a j h => by unfold Qft at h; unfold Qgo; omega))
          rw [q11'.1 542 _ (by unfold Qgo; omega), h6]
          have n508 : ∀ j, j < (lexL (moG y)).length → I11.1 508 j = zi (moO y j) := fun j hj => by
            rw [q11.1 508 j (by unfold Qft; omega), e10, zu_oo (by decide), hA j (by omega)]
            exact h3 j hj
          have nt11 : NowT I11 (moG y) := nt7.kp (by rw [q11.1 _ _ (by unfold Qft; decide), c10 _ _ (by decide) (by decide)]) (by rw [q11.1 _ _ (by unfold Qft; decide), c10 _ _ (by decide) (by decide)]) (fun a j u => by rw [q11.1 a j (by unfold Qft; omega), c10 a j (by omega) (by omega)])
          have gt11 : GoodT I11 (moG y) := (gt7 rfl).kp (by rw [q11.1 _ _ (by unfold Qft; decide), c10 _ _ (by decide) (by decide)]) (by rw [q11.1 _ _ (by unfold Qft; decide), c10 _ _ (by decide) (by decide)]) (fun a j u => by rw [q11.1 a j (by unfold Qft; omega), c10 a j (by omega) (by omega)]) (fun j => by rw [q11.2 507 j (by unfold Qft; omega), c102 507 j (by decide)])
          have g37 : I11.1 491 37 = zi (moR y) := vi11.1
          have g75' : I11.1 491 75 = zi s := by rw [q11.1 _ _ (by unfold Qft; decide), c10 _ _ (by decide) (by decide)]; exact g75
          intro P137 h137
          have fin : P137 (b01 (moB y)) := by
            refine h137 _ ⟨by cases moB y; exact Or.inl rfl; exact Or.inr rfl, fun I13 e13 => ?_⟩
            have c13 : ∀ a j, ¬ (a = 491 ∧ j = 8) → I13.1 a j = I11.1 a j := fun a j u => by rw [e13, zu_at, if_neg u]
            rw [show I13.1 491 8 = b01 (moB y) by rw [e13, zu_self]]
            have q13 : eqQ Qgo I I13 := by
              rw [e13]
              exact q11'.zu (Or.inl (by omega))
            have gt13 : GoodT I13 (moG y) := gt11.kp (c13 _ _ (by decide)) (c13 _ _ (by decide)) (fun a j u => c13 a j (by omega)) (fun j => by rw [e13, zu_2])
            have vi13 : ViM I13 N (moR y) (lexL (moG y)).length := vi11.kp (fun a j u => c13 a j (by omega))
            cases hb : moB y with
            | true =>
              rw [if_neg (show ¬ b01 true = 0 by decide)]
              have hTG := oB hb
              have nt13 : NowT I13 (moG y) := nt11.kp (c13 _ _ (by decide)) (c13 _ _ (by decide)) (fun a j u => c13 a j (by omega))
              rw [← hTG] at nt13
              refine hK I13 q13 (by rw [c13 _ _ (by decide)]; exact g75') ⟨nt13.1, nt13.2.1, nt13.2.2.1, nt13.2.2.2, gt13.1, gt13.2.1, gt13.2.2, fun j hj => by rw [c13 _ _ (by omega)]; exact n508 j hj, by rw [e13, zu_self], by rw [c13 _ _ (by decide)]; exact g37⟩ vi13
            | false =>
              rw [if_pos (show b01 false = 0 by decide)]
              intro P150 h150
              have cp2 : ∀ (d v : Nat) (B : zI), v + d = 300 → eqQ (fun a _ => a = 493) I13 B → (∀ j, j < v → B.1 493 j = I.1 542 (720 * s + j)) → P150 (zi v) B := by
                intro d
                induction d with
                | succ d ih =>
                  intro v B hv qB hB
                  refine h150 _ _ ?_
                  rw [if_neg (show ¬ (300 : Int32) ≤ zi v from fun u => by have := (zi_le (a := 300) (by decide) (by omega)).mp u; omega), zi_add, zi_tn (show v < 2147483648 by omega), zi_tn (show 720 * s + v < 2147483648 by omega)]
                  refine ⟨(zin_iff (by omega)).mpr (by omega), (zin_iff (by omega)).mpr (by omega), fun I18 e18 w ew => ?_⟩
                  rw [qB.1 542 _ (by omega), q13.1 542 _ (by unfold Qgo; omega)] at e18
                  rw [ew, zi_succ]
                  refine ih (v + 1) I18 (by omega) (by rw [e18]; exact qB.zu rfl) (fun j hj => ?_)
                  rw [e18, zu_at]
                  by_cases u : j = v
                  · rw [if_pos ⟨rfl, u⟩, u]
                  · rw [if_neg (fun z => u z.2)]
                    exact hB j (by omega)
                | zero =>
                  intro v B hv qB hB
                  refine h150 _ _ ?_
                  rw [if_pos (show (300 : Int32) ≤ zi v from (zi_le (a := 300) (by decide) (by omega)).mpr (by omega))]
                  obtain ⟨l1, l2⟩ := ix 710 (by decide)
                  rw [show (710 : Int32) = zi 710 from rfl, l2]
                  refine ⟨l1, ?_⟩
                  rw [qB.1 542 _ (by omega), q13.1 542 _ (by unfold Qgo; omega), h4]
                  refine s_cutsUp (t := txF (moT y)) (by omega) (fun j hj => by rw [hB j (by omega)]; exact h1 j hj) (fun I16 q16 n16 u16 => ?_)
                  have nt16 : NewT I16 (moT y) := ⟨n16, fun j hj => by rw [q16.1 493 j (by unfold Qcut; omega), hB j (by omega)]; exact h1 j hj, u16⟩
                  have c16 : ∀ a j, ¬ Qnw a j → I16.1 a j = I13.1 a j := fun a j u => by rw [q16.1 a j (by unfold Qnw at u; unfold Qcut; omega), qB.1 a j (by unfold Qnw at u; omega)]
                  have c162 : ∀ a j, ¬ Qnw a j → I16.2 a j = I13.2 a j := fun a j u => by rw [q16.2 a j (by unfold Qnw at u; unfold Qcut; omega), qB.2 a j (by unfold Qnw at u; omega)]
                  refine s_keepsTokens (gd := false) oT nt16 (by rw [c16 _ _ (by unfold Qnw; decide), e13, zu_self, hb]) (fun I17 q17 nt17 _ => ?_)
                  have q17' : eqQ Qkt I16 I17 := q17.mono (fun a j h => by rcases h with h | ⟨h, -⟩; exact h; cases h)
                  have c17 : ∀ a j, ¬ Qnw a j → ¬ Qkt a j → I17.1 a j = I13.1 a j := fun a j u1 u2 => by rw [q17'.1 a j u2, c16 a j u1]
                  have q17I : eqQ Qgo I I17 := by
                    refine q13.tr ⟨fun a j u => c17 a j (by unfold Qgo at u; unfold Qnw; omega) (by unfold Qgo at u; unfold Qkt; omega), fun a j u => ?_⟩
                    rw [q17'.2 a j (by unfold Qgo at u; unfold Qkt; omega), c162 a j (by unfold Qgo at u; unfold Qnw; omega)]
                  have gt17 : GoodT I17 (moG y) := gt13.kp (c17 _ _ (by unfold Qnw; decide) (by unfold Qkt; decide)) (c17 _ _ (by unfold Qnw; decide) (by unfold Qkt; decide)) (fun a j u => c17 a j (by unfold Qnw; omega) (by unfold Qkt; omega)) (fun j => by rw [q17'.2 507 j (by unfold Qkt; omega), c162 507 j (by unfold Qnw; omega)])
                  refine hK I17 q17I (by rw [c17 _ _ (by unfold Qnw; decide) (by unfold Qkt; decide), c13 _ _ (by decide)]; exact g75') ⟨nt17.1, nt17.2.1, nt17.2.2.1, nt17.2.2.2, gt17.1, gt17.2.1, gt17.2.2, fun j hj => by rw [c17 _ _ (by unfold Qnw; omega) (by unfold Qkt; omega), c13 _ _ (by omega)]; exact n508 j hj, by rw [c17 _ _ (by unfold Qnw; decide) (by unfold Qkt; decide), e13, zu_self], by rw [c17 _ _ (by unfold Qnw; decide) (by unfold Qkt; decide), c13 _ _ (by decide)]; exact g37⟩ (vi13.kp (fun a j u => c17 a j (by unfold Qnw; omega) (by unfold Qkt; omega)))
              exact cp2 300 0 I13 (by omega) eqQ.rf (fun j hj => by omega)
          cases hb : moB y with
          | true =>
            rw [hb] at fin
            rw [if_pos (show b01 true = 1 by decide)]
            exact fin
          | false =>
            rw [hb] at fin
            rw [if_neg (show ¬ b01 false = 1 by decide)]
            exact fin
      exact cp 110 0 I7 (by omega) eqQ.rf (fun j hj => by omega)
  exact main 300 0 I2 (by omega) eqQ.rf (fun j hj => by omega)
theorem Qgo_mo {I J : zI} (q : eqQ Qgo I J) : eqQ Qmo I J := q.mono (fun a j h => by unfold Qgo at h; unfold Qmo; omega)
theorem s_Mundo {x : Sg} {I : zI} {K : Int32 → zI → Prop} (hv : Iv x) (hR : RM I x) (hK : ∀ J, eqQ Qmo I J → RM J (undoR x).2 → K (undoR x).1 J) : w_M_undo I K := by
  obtain ⟨r1, r2, r3, r4, r5, r6, r7, nw, sC, sA, sZ⟩ := id hR
  obtain ⟨a1, a2, a3, a4, a5, a6, a7, a8, a9, a10, a11⟩ := hv
  unfold w_M_undo
  rw [r6]
  unfold undoR at hK
  cases hA : sgA x with
  | nil =>
    rw [hA] at hK
    rw [if_pos (show zi (List.length ([] : List Mo)) = 0 from rfl)]
    exact hK I eqQ.rf hR
  | cons y A =>
    rw [hA] at hK sA sC sZ a9 a11 r6 r7
    rw [List.length_cons] at a11 sA sC sZ r6 r7
    rw [List.length_cons, if_neg (show ¬ zi (A.length + 1) = 0 from fun u => by have := (zi_eq (b := 0) (by omega) (by decide)).mp u; omega), show zi (A.length + 1) - 1 = zi A.length from zi_sub (b := 1) (by omega)]
    have my : MoM I A.length y := by
      have := sA 0 y rfl
      rw [show A.length + 1 - 1 - 0 = A.length by omega] at this
      exact this
    have oy := a9 y (List.mem_cons_self ..)
    refine s_goesTo r2 a2 a3 (by omega) oy (by omega) my (fun J qJ g75 nJ vJ => ?_)
    have mk : ∀ t z, MoOk (sgM x) (sgN x) z → MoM I t z → MoM J t z := fun t z ho hm => hm.kp ho.1 ho.2.1 (fun j _ _ => qJ.1 542 j (by unfold Qgo; omega))
    refine hK J (Qgo_mo qJ) ⟨r1.kp (qJ.1 _ _ (by unfold Qgo; decide)) (fun j => qJ.1 492 j (by unfold Qgo; omega)), r2.kp2 (qJ.1 _ _ (by unfold Qgo; decide)) (fun a j u1 u2 => qJ.1 a j (by unfold Qgo; omega)) (fun j => qJ.2 511 j (by unfold Qgo; omega)), vJ, r4.kp (fun a j u => qJ.1 a j (by unfold Qgo; omega)), by rw [qJ.1 _ _ (by unfold Qgo; decide)]; exact r5, g75, ?_, nJ, mk _ y oy my, fun k z hz => ?_, fun k z hz => ?_⟩
    · rw [qJ.1 _ _ (by unfold Qgo; decide), r7]
      show zi (A.length + 1 + (sgZ x).length) = zi (A.length + (sgC x :: sgZ x).length)
      rw [List.length_cons]
      congr 1
      omega
    · have hz' : A[k]? = some z := hz
      have := sA (k + 1) z (by rw [List.getElem?_cons_succ]; exact hz')
      rw [show A.length + 1 - 1 - (k + 1) = A.length - 1 - k by omega] at this
      exact mk _ z (a9 z (List.mem_cons_of_mem _ (List.mem_of_getElem? hz'))) this
    · have hz' : (sgC x :: sgZ x)[k]? = some z := hz
      cases k with
      | zero =>
        cases hz'
        exact mk _ _ a8 sC
      | succ k =>
        rw [List.getElem?_cons_succ] at hz'
        have := sZ k z hz'
        rw [show A.length + 1 + 1 + k = A.length + 1 + (k + 1) by omega] at this
        exact mk _ z (a10 z (List.mem_of_getElem? hz')) this
theorem s_Mredo {x : Sg} {I : zI} {K : Int32 → zI → Prop} (hv : Iv x) (hR : RM I x) (hK : ∀ J, eqQ Qmo I J → RM J (redoR x).2 → K (redoR x).1 J) : w_M_redo I K := by
  obtain ⟨r1, r2, r3, r4, r5, r6, r7, nw, sC, sA, sZ⟩ := id hR
  obtain ⟨a1, a2, a3, a4, a5, a6, a7, a8, a9, a10, a11⟩ := hv
  unfold w_M_redo
  rw [r6, r7]
  unfold redoR at hK
  cases hZ : sgZ x with
  | nil =>
    rw [hZ] at hK
    rw [if_pos (show zi (sgA x).length = zi ((sgA x).length + List.length ([] : List Mo)) from rfl)]
    exact hK I eqQ.rf hR
  | cons y Z =>
    rw [hZ] at hK sZ a10 a11 r7
    rw [List.length_cons] at a11 r7
    rw [List.length_cons, if_neg (fun u => by have := (zi_eq (by omega) (by omega)).mp u; omega), zi_succ]
    have my : MoM I ((sgA x).length + 1) y := sZ 0 y rfl
    have oy := a10 y (List.mem_cons_self ..)
    refine s_goesTo r2 a2 a3 (by omega) oy (by omega) my (fun J qJ g75 nJ vJ => ?_)
    have mk : ∀ t z, MoOk (sgM x) (sgN x) z → MoM I t z → MoM J t z := fun t z ho hm => hm.kp ho.1 ho.2.1 (fun j _ _ => qJ.1 542 j (by unfold Qgo; omega))
    refine hK J (Qgo_mo qJ) ⟨r1.kp (qJ.1 _ _ (by unfold Qgo; decide)) (fun j => qJ.1 492 j (by unfold Qgo; omega)), r2.kp2 (qJ.1 _ _ (by unfold Qgo; decide)) (fun a j u1 u2 => qJ.1 a j (by unfold Qgo; omega)) (fun j => qJ.2 511 j (by unfold Qgo; omega)), vJ, r4.kp (fun a j u => qJ.1 a j (by unfold Qgo; omega)), by rw [qJ.1 _ _ (by unfold Qgo; decide)]; exact r5, g75, ?_, nJ, mk _ y oy my, fun k z hz => ?_, fun k z hz => ?_⟩
    · rw [qJ.1 _ _ (by unfold Qgo; decide), r7]
      show zi ((sgA x).length + (Z.length + 1)) = zi ((sgC x :: sgA x).length + Z.length)
      rw [List.length_cons]
      congr 1
      omega
    · have hz' : (sgC x :: sgA x)[k]? = some z := hz
      show MoM J ((sgA x).length + 1 - 1 - k) z
      cases k with
      | zero =>
        cases hz'
        exact mk _ _ a8 sC
      | succ k =>
        rw [List.getElem?_cons_succ] at hz'
        have := sA k z hz'
        rw [show (sgA x).length + 1 - 1 - (k + 1) = (sgA x).length - 1 - k by omega]
        exact mk _ z (a9 z (List.mem_of_getElem? hz')) this
    · have hz' : Z[k]? = some z := hz
      have := sZ (k + 1) z (by rw [List.getElem?_cons_succ]; exact hz')
      show MoM J ((sgA x).length + 1 + 1 + k) z
      rw [show (sgA x).length + 1 + 1 + k = (sgA x).length + 1 + (k + 1) by omega]
      exact mk _ z (a10 z (List.mem_cons_of_mem _ (List.mem_of_getElem? hz'))) this
