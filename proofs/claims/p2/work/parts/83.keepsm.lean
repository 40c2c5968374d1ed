/-! ===== what the model keeps ===== -/
/-- the TEXT as it is, in the model's rows -/
def NowT (I : zI) (d : List Int32) : Prop :=
  I.1 491 5 = zi d.length ∧ (∀ j, j < d.length → I.1 494 j = txF d j) ∧ I.1 491 15 = zi (lexL d).length ∧ ∀ (j : Nat) (y : Nat × Nat × Nat), (lexL d)[j]? = some y → I.1 501 j = zi y.1 ∧ I.1 502 j = zi y.2.1 ∧ I.1 503 j = zi y.2.2
/-- the last good one -/
def GoodT (I : zI) (d : List Int32) : Prop := I.1 491 7 = zi d.length ∧ (∀ j, j < d.length → I.1 495 j = txF d j) ∧ OldU I (txF d) (lexL d)
/-- the new one -/
def NewT (I : zI) (d : List Int32) : Prop := I.1 491 3 = zi d.length ∧ (∀ j, j < d.length → I.1 493 j = txF d j) ∧ RepU I (txF d) (lexL d)
theorem NewT.kp {I J : zI} {d : List Int32} (h : NewT I d) (e1 : J.1 491 3 = I.1 491 3) (e2 : J.1 491 9 = I.1 491 9) (e : ∀ a j, a = 493 ∨ (496 ≤ a ∧ a ≤ 498) → J.1 a j = I.1 a j) (e3 : ∀ j, J.2 499 j = I.2 499 j) : NewT J d := by
  obtain ⟨h1, h2, h3, h4⟩ := h
  refine ⟨e1.trans h1, fun j hj => by rw [e _ _ (Or.inl rfl)]; exact h2 j hj, e2.trans h3, fun j y hy => ?_⟩
  obtain ⟨z1, z2, z3, z4⟩ := h4 j y hy
  exact ⟨by rw [e _ _ (by omega)]; exact z1, by rw [e _ _ (by omega)]; exact z2, by rw [e _ _ (by omega)]; exact z3, by rw [e3]; exact z4⟩
theorem NowT.kp {I J : zI} {d : List Int32} (h : NowT I d) (e1 : J.1 491 5 = I.1 491 5) (e2 : J.1 491 15 = I.1 491 15) (e : ∀ a j, a = 494 ∨ (501 ≤ a ∧ a ≤ 503) → J.1 a j = I.1 a j) : NowT J d := by
  obtain ⟨h1, h2, h3, h4⟩ := h
  refine ⟨e1.trans h1, fun j hj => by rw [e _ _ (Or.inl rfl)]; exact h2 j hj, e2.trans h3, fun j y hy => ?_⟩
  rw [e 501 _ (by omega), e 502 _ (by omega), e 503 _ (by omega)]
  exact h4 j y hy
theorem GoodT.kp {I J : zI} {d : List Int32} (h : GoodT I d) (e1 : J.1 491 7 = I.1 491 7) (e2 : J.1 491 19 = I.1 491 19) (e : ∀ a j, a = 495 ∨ (504 ≤ a ∧ a ≤ 506) → J.1 a j = I.1 a j) (e3 : ∀ j, J.2 507 j = I.2 507 j) : GoodT J d := by
  obtain ⟨h1, h2, h3, h4⟩ := h
  refine ⟨e1.trans h1, fun j hj => by rw [e _ _ (Or.inl rfl)]; exact h2 j hj, e2.trans h3, fun j y hy => ?_⟩
  obtain ⟨z1, z2, z3, z4⟩ := h4 j y hy
  exact ⟨by rw [e _ _ (by omega)]; exact z1, by rw [e _ _ (by omega)]; exact z2, by rw [e _ _ (by omega)]; exact z3, by rw [e3]; exact z4⟩
def Qkg (a j : Nat) : Prop := (a = 491 ∧ (j = 7 ∨ j = 19)) ∨ a = 495 ∨ (504 ≤ a ∧ a ≤ 507)
theorem s_keepsGood {d : List Int32} {I : zI} {K : zI → Prop} (hd : txOk d) (hn : NewT I d) (hK : ∀ J, eqQ Qkg I J → GoodT J d → K J) : w_M_keepsGood I K := by
  intro I1 e1 I2 e2
  obtain ⟨n1, n2, n3, n4⟩ := id hn
  have hd1 := hd.1
  have hd3 := hd.2.2
  have q2 : eqQ Qkg I I2 := by
    rw [e2, e1]
    exact (eqQ.rf.zu (Or.inl ⟨rfl, Or.inl rfl⟩)).zu (Or.inl ⟨rfl, Or.inr rfl⟩)
  have g7 : I2.1 491 7 = zi d.length := by rw [e2, zu_i (by decide), e1, zu_self, n1]
  have g19 : I2.1 491 19 = zi (lexL d).length := by rw [e2, zu_self, e1, zu_i (by decide), n3]
  intro P18 h18
  have main : ∀ (f v : Nat) (J : zI), v + f = d.length → eqQ Qkg I J → J.1 491 7 = zi d.length → J.1 491 19 = zi (lexL d).length → (∀ j, j < v → J.1 495 j = txF d j) → P18 (zi v) J := by
    intro f
    induction f with
    | zero =>
      intro v J hv q a7 a19 h
      refine h18 _ _ ?_
      rw [q.1 491 3 (by unfold Qkg; omega), n1, if_pos ((zi_le (by omega) (by omega)).mpr (by omega))]
      intro P46 h46
      have inner : ∀ (f v : Nat) (B : zI), v + f = (lexL d).length → eqQ Qkg I B → B.1 491 7 = zi d.length → B.1 491 19 = zi (lexL d).length → (∀ j, j < d.length → B.1 495 j = txF d j) → (∀ (j : Nat) (y : Nat × Nat × Nat), j < v → (lexL d)[j]? = some y → B.1 504 j = zi y.1 ∧ B.1 505 j = zi y.2.1 ∧ B.1 506 j = zi y.2.2 ∧ B.2 507 j = isV (txF d) y) → P46 (zi v) B := by
        intro f
        induction f with
        | zero =>
          intro v B hv qB b7 b19 h1 h2
          refine h46 _ _ ?_
          rw [qB.1 491 9 (by unfold Qkg; omega), n3, if_pos ((zi_le (by omega) (by omega)).mpr (by omega))]
          exact hK B qB ⟨b7, h1, b19, fun j y hy => h2 j y (by have := (List.getElem?_eq_some_iff.mp hy).1; omega) hy⟩
        | succ f ih =>
          intro v B hv qB b7 b19 h1 h2
          refine h46 _ _ ?_
          rw [qB.1 491 9 (by unfold Qkg; omega), n3, if_neg (fun u => by have := (zi_le (by omega) (by omega)).mp u; omega), zi_tn (show v < 2147483648 by omega)]
          have i1 : vp_in (zi v) 710 := (zin_iff (by omega)).mpr (by omega)
          have i2 : vp_in (zi v) 110 := (zin_iff (by omega)).mpr (by omega)
          refine ⟨i1, i2, fun I7 e7 => ⟨i1, i2, fun I8 e8 => ⟨i1, i2, fun I9 e9 => ⟨i1, i2, fun I10 e10 w ew => ?_⟩⟩⟩⟩
          rw [ew, zi_succ]
          have hx : (lexL d)[v]? = some ((lexL d)[v]'(by omega)) := List.getElem?_eq_getElem (by omega)
          generalize (lexL d)[v]'(by omega) = x at hx
          obtain ⟨z1, z2, z3, z4⟩ := n4 v x hx
          rw [qB.1 496 v (by unfold Qkg; omega), z1] at e7
          rw [show I7.1 497 v = zi x.2.1 by rw [e7, zu_oo (by decide), qB.1 497 v (by unfold Qkg; omega)]; exact z2] at e8
          rw [show I8.1 498 v = zi x.2.2 by rw [e8, zu_oo (by decide), e7, zu_oo (by decide), qB.1 498 v (by unfold Qkg; omega)]; exact z3] at e9
          rw [show I9.2 499 v = isV (txF d) x by rw [e9, zu_2, e8, zu_2, e7, zu_2, qB.2 499 v (by unfold Qkg; omega)]; exact z4] at e10
          have o : ∀ a j, ¬ (504 ≤ a ∧ a ≤ 506 ∧ j = v) → I10.1 a j = B.1 a j := fun a j u => by rw [e10, zul_1, e9, zu_at, if_neg (by omega), e8, zu_at, if_neg (by omega), e7, zu_at, if_neg (by omega)]
          refine ih (v + 1) I10 (by omega) ?_ (by rw [o _ _ (by omega)]; exact b7) (by rw [o _ _ (by omega)]; exact b19) (fun j hj => by rw [o _ _ (by omega)]; exact h1 j hj) (fun j y hj hy => ?_)
          · rw [e10, e9, e8, e7]
            exact (((qB.zu (Or.inr (Or.inr (by omega)))).zu (Or.inr (Or.inr (by omega)))).zu (Or.inr (Or.inr (by omega)))).zul (Or.inr (Or.inr (by omega)))
          · by_cases u : j = v
            · subst u
              rw [hx] at hy
              cases hy
              refine ⟨?_, ?_, ?_, ?_⟩
              · rw [e10, zul_1, e9, zu_oo (by decide), e8, zu_oo (by decide), e7, zu_self]
              · rw [e10, zul_1, e9, zu_oo (by decide), e8, zu_self]
              · rw [e10, zul_1, e9, zu_self]
              · rw [e10, zul_at, if_pos ⟨rfl, rfl⟩]
            · obtain ⟨y1, y2, y3, y4⟩ := h2 j y (by omega) hy
              rw [o 504 j (by omega), o 505 j (by omega), o 506 j (by omega)]
              refine ⟨y1, y2, y3, ?_⟩
              rw [e10, zul_at, if_neg (by omega), e9, zu_2, e8, zu_2, e7, zu_2]
              exact y4
      exact inner (lexL d).length 0 J (by omega) q a7 a19 (fun j hj => h j (by omega)) (fun j y hj => by omega)
    | succ f ih =>
      intro v J hv q a7 a19 h
      refine h18 _ _ ?_
      rw [q.1 491 3 (by unfold Qkg; omega), n1, if_neg (fun u => by have := (zi_le (by omega) (by omega)).mp u; omega), zi_tn (show v < 2147483648 by omega)]
      refine ⟨(zin_iff (by omega)).mpr (by omega), (zin_iff (by omega)).mpr (by omega), fun I13 e13 w ew => ?_⟩
      rw [q.1 493 v (by unfold Qkg; omega), n2 v (by omega)] at e13
      rw [ew, zi_succ]
      refine ih (v + 1) I13 (by omega) (by rw [e13]; exact q.zu (Or.inr (Or.inl rfl))) (by rw [e13, zu_oo (by decide)]; exact a7) (by rw [e13, zu_oo (by decide)]; exact a19) (fun j hj => ?_)
      rw [e13, zu_at]
      by_cases u : j = v
      · rw [if_pos ⟨rfl, u⟩, u]
      · rw [if_neg (fun x => u x.2)]
        exact h j (by omega)
  exact main d.length 0 I2 (by omega) q2 g7 g19 (fun j hj => by omega)
def Qkt (a j : Nat) : Prop := (a = 491 ∧ (j = 5 ∨ j = 15)) ∨ a = 494 ∨ (501 ≤ a ∧ a ≤ 503)
theorem s_keepsTokens {d : List Int32} {gd : Bool} {I : zI} {K : zI → Prop} (hd : txOk d) (hn : NewT I d) (h8 : I.1 491 8 = b01 gd) (hK : ∀ J, eqQ (fun a j => Qkt a j ∨ (gd = true ∧ Qkg a j)) I J → NowT J d → (gd = true → GoodT J d) → K J) : w_M_keepsTokens I K := by
  intro I1 e1 I2 e2
  obtain ⟨n1, n2, n3, n4⟩ := id hn
  have hd1 := hd.1
  have hd3 := hd.2.2
  have q2 : eqQ Qkt I I2 := by
    rw [e2, e1]
    exact (eqQ.rf.zu (Or.inl ⟨rfl, Or.inl rfl⟩)).zu (Or.inl ⟨rfl, Or.inr rfl⟩)
  have g5 : I2.1 491 5 = zi d.length := by rw [e2, zu_i (by decide), e1, zu_self, n1]
  have g15 : I2.1 491 15 = zi (lexL d).length := by rw [e2, zu_self, e1, zu_i (by decide), n3]
  intro P18 h18
  have main : ∀ (f v : Nat) (J : zI), v + f = d.length → eqQ Qkt I J → J.1 491 5 = zi d.length → J.1 491 15 = zi (lexL d).length → (∀ j, j < v → J.1 494 j = txF d j) → P18 (zi v) J := by
    intro f
    induction f with
    | zero =>
      intro v J hv q a5 a15 h
      refine h18 _ _ ?_
      rw [q.1 491 3 (by unfold Qkt; omega), n1, if_pos ((zi_le (by omega) (by omega)).mpr (by omega))]
      intro P46 h46
      have inner : ∀ (f v : Nat) (B : zI), v + f = (lexL d).length → eqQ Qkt I B → B.1 491 5 = zi d.length → B.1 491 15 = zi (lexL d).length → (∀ j, j < d.length → B.1 494 j = txF d j) → (∀ (j : Nat) (y : Nat × Nat × Nat), j < v → (lexL d)[j]? = some y → B.1 501 j = zi y.1 ∧ B.1 502 j = zi y.2.1 ∧ B.1 503 j = zi y.2.2) → P46 (zi v) B := by
        intro f
        induction f with
        | zero =>
          intro v B hv qB b5 b15 h1 h2
          refine h46 _ _ ?_
          rw [qB.1 491 9 (by unfold Qkt; omega), n3, if_pos ((zi_le (by omega) (by omega)).mpr (by omega)), qB.1 491 8 (by unfold Qkt; omega), h8]
          have nt : NowT B d := ⟨b5, h1, b15, fun j y hy => h2 j y (by have := (List.getElem?_eq_some_iff.mp hy).1; omega) hy⟩
          cases gd with
          | false =>
            rw [if_pos (show b01 false = 0 by decide)]
            exact hK B (qB.mono (fun a j h => Or.inl h)) nt (fun u => by cases u)
          | true =>
            rw [if_neg (show ¬ b01 true = 0 by decide)]
            refine s_keepsGood hd (hn.kp (qB.1 _ _ (by unfold Qkt; omega)) (qB.1 _ _ (by unfold Qkt; omega)) (fun a j u => qB.1 a j (by unfold Qkt; omega)) (fun j => qB.2 499 j (by unfold Qkt; omega))) (fun C qC gC => ?_)
            exact hK C ((qB.mono (fun a j h => Or.inl h)).tr (qC.mono (fun a j h => Or.inr ⟨rfl, h⟩))) (nt.kp (qC.1 _ _ (by unfold Qkg; omega)) (qC.1 _ _ (by unfold Qkg; omega)) (fun a j u => qC.1 a j (by unfold Qkg; omega))) (fun _ => gC)
        | succ f ih =>
          intro v B hv qB b5 b15 h1 h2
          refine h46 _ _ ?_
          rw [qB.1 491 9 (by unfold Qkt; omega), n3, if_neg (fun u => by have := (zi_le (by omega) (by omega)).mp u; omega), zi_tn (show v < 2147483648 by omega)]
          have i1 : vp_in (zi v) 710 := (zin_iff (by omega)).mpr (by omega)
          have i2 : vp_in (zi v) 110 := (zin_iff (by omega)).mpr (by omega)
          refine ⟨i1, i2, fun I7 e7 => ⟨i1, i2, fun I8 e8 => ⟨i1, i2, fun I9 e9 w ew => ?_⟩⟩⟩
          rw [ew, zi_succ]
          have hx : (lexL d)[v]? = some ((lexL d)[v]'(by omega)) := List.getElem?_eq_getElem (by omega)
          generalize (lexL d)[v]'(by omega) = x at hx
          obtain ⟨z1, z2, z3, z4⟩ := n4 v x hx
          rw [qB.1 496 v (by unfold Qkt; omega), z1] at e7
          rw [show I7.1 497 v = zi x.2.1 by rw [e7, zu_oo (by decide), qB.1 497 v (by unfold Qkt; omega)]; exact z2] at e8
          rw [show I8.1 498 v = zi x.2.2 by rw [e8, zu_oo (by decide), e7, zu_oo (by decide), qB.1 498 v (by unfold Qkt; omega)]; exact z3] at e9
          have o : ∀ a j, ¬ (501 ≤ a ∧ a ≤ 503 ∧ j = v) → I9.1 a j = B.1 a j := fun a j u => by rw [e9, zu_at, if_neg (by omega), e8, zu_at, if_neg (by omega), e7, zu_at, if_neg (by omega)]
          refine ih (v + 1) I9 (by omega) ?_ (by rw [o _ _ (by omega)]; exact b5) (by rw [o _ _ (by omega)]; exact b15) (fun j hj => by rw [o _ _ (by omega)]; exact h1 j hj) (fun j y hj hy => ?_)
          · rw [e9, e8, e7]
            exact ((qB.zu (Or.inr (Or.inr (by omega)))).zu (Or.inr (Or.inr (by omega)))).zu (Or.inr (Or.inr (by omega)))
          · by_cases u : j = v
            · subst u
              rw [hx] at hy
              cases hy
              refine ⟨?_, ?_, ?_⟩
              · rw [e9, zu_oo (by decide), e8, zu_oo (by decide), e7, zu_self]
              · rw [e9, zu_oo (by decide), e8, zu_self]
              · rw [e9, zu_self]
            · rw [o 501 j (by omega), o 502 j (by omega), o 503 j (by omega)]
              exact h2 j y (by omega) hy
      exact inner (lexL d).length 0 J (by omega) q a5 a15 (fun j hj => h j (by omega)) (fun j y hj => by omega)
    | succ f ih =>
      intro v J hv q a5 a15 h
      refine h18 _ _ ?_
      rw [q.1 491 3 (by unfold Qkt; omega), n1, if_neg (fun u => by have := (zi_le (by omega) (by omega)).mp u; omega), zi_tn (show v < 2147483648 by omega)]
      refine ⟨(zin_iff (by omega)).mpr (by omega), (zin_iff (by omega)).mpr (by omega), fun I13 e13 w ew => ?_⟩
      rw [q.1 493 v (by unfold Qkt; omega), n2 v (by omega)] at e13
      rw [ew, zi_succ]
      refine ih (v + 1) I13 (by omega) (by rw [e13]; exact q.zu (Or.inr (Or.inl rfl))) (by rw [e13, zu_oo (by decide)]; exact a5) (by rw [e13, zu_oo (by decide)]; exact a15) (fun j hj => ?_)
      rw [e13, zu_at]
      by_cases u : j = v
      · rw [if_pos ⟨rfl, u⟩, u]
      · rw [if_neg (fun x => u x.2)]
        exact h j (by omega)
  exact main d.length 0 I2 (by omega) q2 g5 g15 (fun j hj => by omega)
/-- a state kept -/
theorem s_keeps {s : Nat} {x : Mo} {I : zI} {K : zI → Prop} (hs : s ≤ 20) (hT : txOk (moT x)) (hG : txOk (moG x)) (hN : NowM I x) (hK : ∀ J, eqQ (fun a j => a = 542 ∧ 720 * s ≤ j ∧ j < 720 * s + 720) I J → MoM J s x → K J) : w_M_keeps (zi s) I K := by
  obtain ⟨n1, n2, n3, n4, n5, n6, n7, n8, n9, n10⟩ := hN
  intro v2 ev2
  rw [show (720 : Int32) = zi 720 from rfl, zi_mul] at ev2
  subst ev2
  have hT1 := hT.1
  have hG1 := hG.1
  have hG3 := hG.2.2
  intro P8 h8
  have main : ∀ (f v : Nat) (J : zI), v + f = 300 → eqQ (fun a j => a = 542 ∧ 720 * s ≤ j ∧ j < 720 * s + 720) I J → (∀ j, j < v → J.1 542 (720 * s + j) = I.1 494 j ∧ J.1 542 (720 * s + 300 + j) = I.1 495 j) → P8 (zi v) J := by
    intro f
    induction f with
    | zero =>
      intro v J hv q h
      refine h8 _ _ ?_
      rw [if_pos (show (300 : Int32) ≤ zi v from (zi_le (a := 300) (by decide) (by omega)).mpr (by omega))]
      intro P55 h55
      have inner : ∀ (f v : Nat) (B : zI), v + f = 110 → eqQ (fun a j => a = 542 ∧ 720 * s ≤ j ∧ j < 720 * s + 720) I B → (∀ j, j < 300 → B.1 542 (720 * s + j) = I.1 494 j ∧ B.1 542 (720 * s + 300 + j) = I.1 495 j) → (∀ j, j < v → B.1 542 (720 * s + 600 + j) = I.1 508 j) → P55 (zi v) B := by
        intro f
        induction f with
        | zero =>
          intro v B hv qB h1 h2
          refine h55 _ _ ?_
          rw [if_pos (show (110 : Int32) ≤ zi v from (zi_le (a := 110) (by decide) (by omega)).mpr (by omega))]
          have ix : ∀ k : Nat, k < 720 → vp_in (zi (720 * s) + zi k) 15120 ∧ Int32.toNatClampNeg (zi (720 * s) + zi k) = 720 * s + k := fun k hk => by
            rw [zi_add, zi_tn (by omega)]
            exact ⟨(zin_iff (by omega)).mpr (by omega), rfl⟩
          obtain ⟨a1, b1⟩ := ix 710 (by decide)
          obtain ⟨a2, b2⟩ := ix 711 (by decide)
          obtain ⟨a3, b3⟩ := ix 712 (by decide)
          obtain ⟨a4, b4⟩ := ix 713 (by decide)
          rw [show (710 : Int32) = zi 710 from rfl, show (711 : Int32) = zi 711 from rfl, show (712 : Int32) = zi 712 from rfl, show (713 : Int32) = zi 713 from rfl, b1, b2, b3, b4]
          refine ⟨a1, fun I6 e6 => ⟨a2, fun I7 e7 => ?_⟩⟩
          rw [qB.1 491 5 (by omega), n1] at e6
          rw [show I6.1 491 7 = zi (moG x).length by rw [e6, zu_oo (by decide), qB.1 491 7 (by omega)]; exact n5] at e7
          rw [show I7.1 491 8 = b01 (moB x) by rw [e7, zu_oo (by decide), e6, zu_oo (by decide), qB.1 491 8 (by omega)]; exact n9]
          intro P134 h134
          have fin : P134 (b01 (moB x)) := by
            refine h134 _ ⟨a3, fun I9 e9 => ⟨a4, fun I10 e10 => ?_⟩⟩
            rw [show I9.1 491 37 = zi (moR x) by rw [e9, zu_oo (by decide), e7, zu_oo (by decide), e6, zu_oo (by decide), qB.1 491 37 (by omega)]; exact n10] at e10
            have o : ∀ a j, ¬ (a = 542 ∧ 720 * s + 710 ≤ j ∧ j ≤ 720 * s + 713) → I10.1 a j = B.1 a j := fun a j u => by
              rw [e10, zu_at, if_neg (by omega), e9, zu_at, if_neg (by omega), e7, zu_at, if_neg (by omega), e6, zu_at, if_neg (by omega)]
            refine hK I10 ?_ ⟨fun j hj => ?_, fun j hj => ?_, fun j hj => ?_, ?_, ?_, ?_, ?_⟩
            · rw [e10, e9, e7, e6]
              exact (((qB.zu ⟨rfl, by omega, by omega⟩).zu ⟨rfl, by omega, by omega⟩).zu ⟨rfl, by omega, by omega⟩).zu ⟨rfl, by omega, by omega⟩
            · rw [o _ _ (by omega), (h1 j (by omega)).1]
              exact n2 j hj
            · rw [o _ _ (by omega), (h1 j (by omega)).2]
              exact n6 j hj
            · rw [o _ _ (by omega), h2 j (by omega)]
              exact n8 j hj
            · rw [e10, zu_i (by omega), e9, zu_i (by omega), e7, zu_i (by omega), e6, zu_self]
            · rw [e10, zu_i (by omega), e9, zu_i (by omega), e7, zu_self]
            · rw [e10, zu_i (by omega), e9, zu_self]
            · rw [e10, zu_self]
          cases hb : moB x with
          | false =>
            rw [if_pos (show b01 false = 0 by decide)]
            rw [hb] at fin
            exact fin
          | true =>
            rw [if_neg (show ¬ b01 true = 0 by decide)]
            rw [hb] at fin
            exact fin
        | succ f ih =>
          intro v B hv qB h1 h2
          refine h55 _ _ ?_
          rw [if_neg (show ¬ (110 : Int32) ≤ zi v from fun u => by have := (zi_le (a := 110) (by decide) (by omega)).mp u; omega), show (600 : Int32) = zi 600 from rfl, zi_add, zi_add, zi_tn (show v < 2147483648 by omega), zi_tn (show 720 * s + 600 + v < 2147483648 by omega)]
          refine ⟨(zin_iff (by omega)).mpr (by omega), (zin_iff (by omega)).mpr (by omega), fun I12 e12 w ew => ?_⟩
          rw [qB.1 508 v (by omega)] at e12
          rw [ew, zi_succ]
          have o : ∀ a j, ¬ (a = 542 ∧ j = 720 * s + 600 + v) → I12.1 a j = B.1 a j := fun a j u => by rw [e12, zu_at, if_neg u]
          refine ih (v + 1) I12 (by omega) (by rw [e12]; exact qB.zu ⟨rfl, by omega, by omega⟩) (fun j hj => ?_) (fun j hj => ?_)
          · rw [o _ _ (by omega), o _ _ (by omega)]
            exact h1 j hj
          · by_cases u : j = v
            · rw [u, e12, zu_self]
            · rw [o _ _ (by omega)]
              exact h2 j (by omega)
      exact inner 110 0 J (by omega) q (fun j hj => h j (by omega)) (fun j hj => by omega)
    | succ f ih =>
      intro v J hv q h
      refine h8 _ _ ?_
      rw [if_neg (show ¬ (300 : Int32) ≤ zi v from fun u => by have := (zi_le (a := 300) (by decide) (by omega)).mp u; omega), show (300 : Int32) = zi 300 from rfl, zi_add, zi_add, zi_add, zi_tn (show v < 2147483648 by omega), zi_tn (show 720 * s + v < 2147483648 by omega), zi_tn (show 720 * s + 300 + v < 2147483648 by omega)]
      refine ⟨(zin_iff (by omega)).mpr (by omega), (zin_iff (by omega)).mpr (by omega), fun I15 e15 => ⟨(zin_iff (by omega)).mpr (by omega), (zin_iff (by omega)).mpr (by omega), fun I16 e16 w ew => ?_⟩⟩
      rw [q.1 494 v (by omega)] at e15
      rw [show I15.1 495 v = I.1 495 v by rw [e15, zu_oo (by decide), q.1 495 v (by omega)]] at e16
      rw [ew, zi_succ]
      have o : ∀ a j, ¬ (a = 542 ∧ (j = 720 * s + v ∨ j = 720 * s + 300 + v)) → I16.1 a j = J.1 a j := fun a j u => by rw [e16, zu_at, if_neg (by omega), e15, zu_at, if_neg (by omega)]
      refine ih (v + 1) I16 (by omega) (by rw [e16, e15]; exact (q.zu ⟨rfl, by omega, by omega⟩).zu ⟨rfl, by omega, by omega⟩) (fun j hj => ?_)
      by_cases u : j = v
      · rw [u]
        refine ⟨?_, ?_⟩
        · rw [e16, zu_i (by omega), e15, zu_self]
        · rw [e16, zu_self]
      · rw [o _ _ (by omega), o _ _ (by omega)]
        exact h j (by omega)
  exact main 300 0 I (by omega) eqQ.rf (fun j hj => by omega)
