/-! ===== PAIRS: the model ===== -/
def PrM (I : zI) (pl : List (Nat × Nat)) : Prop :=
  I.1 491 59 = zi pl.length ∧ (∀ (i : Nat) (p : Nat × Nat), pl[i]? = some p → I.1 533 i = zi p.1 ∧ I.1 534 i = zi p.2) ∧ ∀ (i : Nat) (p : Nat × Nat), pl[i]? = some p → p.1 < 15000 ∧ p.2 < 15000
def Qpm (a j : Nat) : Prop := (a = 491 ∧ j = 59) ∨ a = 533 ∨ a = 534
theorem s_pairOf {a b : Nat} {pl : List (Nat × Nat)} {I : zI} {K : Int32 → zI → Prop} (hP : PrM I pl) (hu : PrU pl) (ha : a < 15000) (hb : b < 15000) (hl : pl.length < 4100)
    (hK : ∀ J, eqQ Qpm I J → PrM J (fmP a b pl).2 → K (zi (fmP a b pl).1) J) : w_M_pairOf (zi a) (zi b) I K := by
  obtain ⟨f1, f2, f3⟩ := id hP
  intro P2 h2
  have main : ∀ (d k : Nat), k + d = pl.length → (∀ j : Nat, j < k → pl[j]? ≠ some (a, b)) → P2 (zi k) := by
    intro d
    induction d with
    | zero =>
      intro k hk hno
      refine h2 _ ?_
      have hall : ∀ j : Nat, pl[j]? ≠ some (a, b) := fun j hj => by
        have := (List.getElem?_eq_some_iff.mp hj).1
        exact hno j (by omega) hj
      have hfm := fmp_new hall
      rw [hfm] at hK
      rw [f1, if_pos ((zi_le (by omega) (by omega)).mpr (by omega)), zi_tn (show pl.length < 2147483648 by omega)]
      refine ⟨(zin_iff (by omega)).mpr (by omega), fun I2 e2 => ?_⟩
      have g2 : I2.1 491 59 = zi pl.length := by rw [e2, zu_oo (by decide)]; exact f1
      rw [g2, zi_tn (show pl.length < 2147483648 by omega)]
      refine ⟨(zin_iff (by omega)).mpr (by omega), fun I3 e3 I4 e4 => ?_⟩
      rw [show I3.1 491 59 = zi pl.length by rw [e3, zu_oo (by decide)]; exact g2, zi_succ] at e4
      have g4 : I4.1 491 59 = zi (pl.length + 1) := by rw [e4, zu_self]
      rw [g4, show zi (pl.length + 1) - 1 = zi pl.length from zi_sub (b := 1) (by omega)]
      refine hK I4 ?_ ⟨by rw [g4, List.length_append]; rfl, fun i p hi => ?_, fun i p hi => ?_⟩
      · rw [e4, e3, e2]
        exact ((eqQ.rf.zu (Or.inr (Or.inl rfl))).zu (Or.inr (Or.inr rfl))).zu (Or.inl ⟨rfl, rfl⟩)
      · rw [e4, zu_oo (by decide), zu_oo (by decide)]
        rcases snoc_at hi with hi | ⟨rfl, rfl⟩
        · have hil := (List.getElem?_eq_some_iff.mp hi).1
          rw [e3, zu_oo (by decide), zu_at, if_neg (by omega), e2, zu_at, if_neg (by omega), zu_oo (by decide)]
          exact f2 i p hi
        · rw [e3, zu_oo (by decide), zu_self, e2, zu_self]
          exact ⟨rfl, rfl⟩
      · rcases snoc_at hi with hi | ⟨rfl, rfl⟩
        · exact f3 i p hi
        · exact ⟨ha, hb⟩
    | succ d ih =>
      intro k hk hno
      refine h2 _ ?_
      rw [f1, if_neg (fun u => by have := (zi_le (by omega) (by omega)).mp u; omega), zi_tn (show k < 2147483648 by omega)]
      have hkin : vp_in (zi k) 4100 := (zin_iff (by omega)).mpr (by omega)
      refine ⟨hkin, ?_⟩
      have hp : pl[k]? = some (pl[k]'(by omega)) := List.getElem?_eq_getElem (by omega)
      generalize pl[k]'(by omega) = p at hp
      obtain ⟨c1, c2⟩ := f2 k p hp
      obtain ⟨c3, c4⟩ := f3 k p hp
      intro P32 h32
      have no : ¬ (p.1 = a ∧ p.2 = b) → P32 := fun u => h32 (fun v ev => by
        rw [ev, zi_succ]
        refine ih (k + 1) (by omega) (fun j hj hj2 => ?_)
        by_cases w : j = k
        · rw [w, hp] at hj2
          have := Option.some.inj hj2
          exact u ⟨by rw [this], by rw [this]⟩
        · exact hno j (by omega) hj2)
      rw [c1, c2]
      by_cases u1 : p.1 = a
      · rw [if_pos (show zi p.1 = zi a by rw [u1])]
        refine ⟨hkin, ?_⟩
        by_cases u2 : p.2 = b
        · rw [if_pos (show zi p.2 = zi b by rw [u2])]
          have hfm := fmp_is hu (show pl[k]? = some (a, b) by rw [hp, ← u1, ← u2])
          rw [hfm] at hK
          exact hK I eqQ.rf hP
        · rw [if_neg (fun w => u2 ((zi_eq (by omega) (by omega)).mp w))]
          exact no (fun w => u2 w.2)
      · rw [if_neg (fun w => u1 ((zi_eq (by omega) (by omega)).mp w))]
        exact no (fun w => u1 w.1)
  exact main pl.length 0 (by omega) (fun j hj => by omega)
/-- what the laying of a part may change: its own place on the stack and those above -/
def Qrw (q a j : Nat) : Prop := (a = 491 ∧ (j = 59 ∨ j = 65)) ∨ a = 533 ∨ a = 534 ∨ (535 ≤ a ∧ a ≤ 537 ∧ q ≤ j)
theorem s_rowPart {rs : List Nat} {K : Int32 → zI → Prop} {P43 : Int32 → Int32 → zI → Prop} (hrs : ∀ r ∈ rs, r < 3400) (hrl : rs.length ≤ 100)
    (h43 : ∀ (v1_5 : Int32) (v2_6 : Int32) (I_7 : zI), ((if v1_5 ≤ 0 then K v2_6 I_7 else (vp_in (v1_5 - 1) 20 ∧ (∀ v3_8, v3_8 = (I_7.1 535 (Int32.toNatClampNeg (v1_5 - 1))) → vp_in (v1_5 - 1) 20 ∧ (∀ v4_9, v4_9 = (I_7.1 536 (Int32.toNatClampNeg (v1_5 - 1))) → ∀ v5_10, v5_10 = (v3_8 + (((v4_9 - v3_8) + 1) / 2)) → ∀ (P95 : zI → Prop), (∀ (I_11 : zI), ((if (v4_9 - v3_8) = 1 then (vp_in v3_8 110 ∧ (∀ v2_29, v2_29 = (I_11.1 528 (Int32.toNatClampNeg v3_8)) → ∀ v1_30, v1_30 = (v1_5 + (-1)) → P43 v1_30 v2_29 I_11)) else (if v2_6 = (-1) then (vp_in (v1_5 - 1) 20 ∧ (∀ (P138 : Int32 → Prop), (∀ (t_18 : Int32), (∀ (P156 : Int32 → Prop), (∀ (t_19 : Int32), (vp_in v1_5 20 ∧ (∀ I_20, I_20 = (zu I_11 535 (Int32.toNatClampNeg v1_5) t_19) → ∀ (P174 : Int32 → Prop), (∀ (t_21 : Int32), (vp_in v1_5 20 ∧ (∀ I_22, I_22 = (zu I_20 536 (Int32.toNatClampNeg v1_5) t_21) → vp_in v1_5 20 ∧ (∀ I_23, I_23 = (zu I_22 537 (Int32.toNatClampNeg v1_5) (-1)) → ∀ v1_24, v1_24 = (v1_5 + 1) → P43 v1_24 v2_6 I_23))) → P174 t_21) → (if t_18 = 0 then P174 v5_10 else P174 v4_9))) → P156 t_19) → (if t_18 = 0 then P156 v3_8 else P156 v5_10)) → P138 t_18) → (if (I_11.1 537 (Int32.toNatClampNeg (v1_5 - 1))) = (-1) then P138 0 else P138 1))) else (vp_in (v1_5 - 1) 20 ∧ (if (I_11.1 537 (Int32.toNatClampNeg (v1_5 - 1))) = (-1) then (vp_in (v1_5 - 1) 20 ∧ (∀ I_16, I_16 = (zu I_11 537 (Int32.toNatClampNeg (v1_5 - 1)) v2_6) → P43 v1_5 (-1) I_16)) else (vp_in (v1_5 - 1) 20 ∧ (w_M_pairOf (I_11.1 537 (Int32.toNatClampNeg (v1_5 - 1))) v2_6 I_11 (fun r_12 I_13 => ∀ v2_14, v2_14 = (10000 + r_12) → ∀ v1_15, v1_15 = (v1_5 + (-1)) → P43 v1_15 v2_14 I_13)))))))) → P95 I_11) → (if (v1_5 - 1) ≤ (I_7.1 491 65) then P95 I_7 else (∀ I_32, I_32 = (zu I_7 491 65 (v1_5 - 1)) → P95 I_32))))))) → P43 v1_5 v2_6 I_7) : ∀ (dd q f part : Nat) (pl : List (Nat × Nat)) (I : zI), q + dd ≤ 9 → 1 ≤ part → part ≤ 2 ^ dd → f + part ≤ rs.length → pl.length + part ≤ 4100 → PrU pl → PrM I pl → (∀ i r, rs[i]? = some r → I.1 528 i = zi r) → I.1 535 q = zi f → I.1 536 q = zi (f + part) → I.1 537 q = -1 → (∀ J, eqQ (Qrw q) I J → PrM J (layR rs dd f part pl).2 → P43 (zi q) (zi (layR rs dd f part pl).1) J) → P43 (zi (q + 1)) (-1) I := by
  have visit : ∀ (q f part : Nat) (v2_6 : Int32) (J : zI), q ≤ 9 → f + part ≤ 100 → 1 ≤ part → J.1 535 q = zi f → J.1 536 q = zi (f + part) → (∀ (v1_5 v3_8 v4_9 v5_10 : Int32) (I_11 : zI), eqQ (fun a j => a = 491 ∧ j = 65) J I_11 → v1_5 = zi (q + 1) → v1_5 - 1 = zi q → v3_8 = zi f → v4_9 = zi (f + part) → v5_10 = zi (f + (part + 1) / 2) → v4_9 - v3_8 = zi part → vp_in (zi q) 20 → ((if (v4_9 - v3_8) = 1 then (vp_in v3_8 110 ∧ (∀ v2_29, v2_29 = (I_11.1 528 (Int32.toNatClampNeg v3_8)) → ∀ v1_30, v1_30 = (v1_5 + (-1)) → P43 v1_30 v2_29 I_11)) else (if v2_6 = (-1) then (vp_in (v1_5 - 1) 20 ∧ (∀ (P138 : Int32 → Prop), (∀ (t_18 : Int32), (∀ (P156 : Int32 → Prop), (∀ (t_19 : Int32), (vp_in v1_5 20 ∧ (∀ I_20, I_20 = (zu I_11 535 (Int32.toNatClampNeg v1_5) t_19) → ∀ (P174 : Int32 → Prop), (∀ (t_21 : Int32), (vp_in v1_5 20 ∧ (∀ I_22, I_22 = (zu I_20 536 (Int32.toNatClampNeg v1_5) t_21) → vp_in v1_5 20 ∧ (∀ I_23, I_23 = (zu I_22 537 (Int32.toNatClampNeg v1_5) (-1)) → ∀ v1_24, v1_24 = (v1_5 + 1) → P43 v1_24 v2_6 I_23))) → P174 t_21) → (if t_18 = 0 then P174 v5_10 else P174 v4_9))) → P156 t_19) → (if t_18 = 0 then P156 v3_8 else P156 v5_10)) → P138 t_18) → (if (I_11.1 537 (Int32.toNatClampNeg (v1_5 - 1))) = (-1) then P138 0 else P138 1))) else (vp_in (v1_5 - 1) 20 ∧ (if (I_11.1 537 (Int32.toNatClampNeg (v1_5 - 1))) = (-1) then (vp_in (v1_5 - 1) 20 ∧ (∀ I_16, I_16 = (zu I_11 537 (Int32.toNatClampNeg (v1_5 - 1)) v2_6) → P43 v1_5 (-1) I_16)) else (vp_in (v1_5 - 1) 20 ∧ (w_M_pairOf (I_11.1 537 (Int32.toNatClampNeg (v1_5 - 1))) v2_6 I_11 (fun r_12 I_13 => ∀ v2_14, v2_14 = (10000 + r_12) → ∀ v1_15, v1_15 = (v1_5 + (-1)) → P43 v1_15 v2_14 I_13))))))))) → P43 (zi (q + 1)) v2_6 J := by
    intro q f part v2 J hq hf h1 g1 g2 h
    refine h43 _ _ _ ?_
    rw [if_neg (show ¬ zi (q + 1) ≤ 0 from fun u => by have := (zi_le (b := 0) (by omega) (by decide)).mp u; omega)]
    have e0 : zi (q + 1) - 1 = zi q := zi_sub (b := 1) (by omega)
    have hin : vp_in (zi q) 20 := (zin_iff (by omega)).mpr (by omega)
    rw [e0, zi_tn (show q < 2147483648 by omega)]
    refine ⟨hin, fun v3 ev3 => ⟨hin, fun v4 ev4 v5 ev5 => ?_⟩⟩
    rw [g1] at ev3
    rw [g2] at ev4
    have e1 : v4 - v3 = zi part := by
      rw [ev4, ev3, zi_sub (by omega)]
      congr 1
      omega
    have e2 : v5 = zi (f + (part + 1) / 2) := by rw [ev5, e1, zi_succ, div_fin _ (by omega), ev3, zi_add]
    intro P95 h95
    have fin : ∀ A : zI, eqQ (fun a j => a = 491 ∧ j = 65) J A → P95 A := fun A qA => by
      refine h95 _ ?_
      have := h (zi (q + 1)) v3 v4 v5 A qA rfl e0 ev3 ev4 e2 e1 hin
      rw [e0, zi_tn (show q < 2147483648 by omega)] at this
      exact this
    by_cases u : zi q ≤ J.1 491 65
    · rw [if_pos u]
      exact fin J eqQ.rf
    · rw [if_neg u]
      intro I32 e32
      refine fin I32 ?_
      rw [e32]
      exact eqQ.rf.zu ⟨rfl, rfl⟩
  have pkp : ∀ (A B : zI) (pl : List (Nat × Nat)), PrM A pl → (∀ a j, (a = 491 ∧ j = 59) ∨ a = 533 ∨ a = 534 → B.1 a j = A.1 a j) → PrM B pl := fun A B pl h e => ⟨by rw [e 491 59 (by omega)]; exact h.1, fun i p hi => by rw [e 533 i (by omega), e 534 i (by omega)]; exact h.2.1 i p hi, h.2.2⟩
  intro dd
  induction dd with
  | zero =>
    intro q f part pl I hq h1 h2 hf hpl hu hP hR g1 g2 g3 hK
    have hp1 : part = 1 := by
      change part ≤ 1 at h2
      omega
    subst hp1
    refine visit q f 1 (-1) I (by omega) (by omega) (by omega) g1 g2 (fun v1 v3 v4 v5 A qA x1 x2 x3 x4 x5 x6 x7 => ?_)
    rw [if_pos (show v4 - v3 = 1 by rw [x6]; rfl), x3, zi_tn (show f < 2147483648 by omega)]
    refine ⟨(zin_iff (by omega)).mpr (by omega), fun v2 ev2 v1' ev1' => ?_⟩
    have hr : rs[f]? = some (rs[f]'(by omega)) := List.getElem?_eq_getElem (by omega)
    rw [qA.1 528 f (by omega), show I.1 528 f = zi (rs.getD f 0) by
      rw [List.getD_eq_getElem?_getD, hr]
      exact hR f _ hr] at ev2
    rw [x1, zi_pred (by omega), Nat.add_sub_cancel] at ev1'
    rw [ev2, ev1']
    exact hK A (qA.mono (fun a j h => Or.inl (by omega))) (pkp I A pl hP (fun a j h => qA.1 a j (by omega)))
  | succ dd ih =>
    intro q f part pl I hq h1 h2 hf hpl hu hP hR g1 g2 g3 hK
    have hL : layR rs (dd + 1) f part pl = if part ≤ 1 then (rs.getD f 0, pl) else
      (10000 + (fmP (layR rs dd f ((part + 1) / 2) pl).1 (layR rs dd (f + (part + 1) / 2) (part - (part + 1) / 2) (layR rs dd f ((part + 1) / 2) pl).2).1 (layR rs dd (f + (part + 1) / 2) (part - (part + 1) / 2) (layR rs dd f ((part + 1) / 2) pl).2).2).1,
      (fmP (layR rs dd f ((part + 1) / 2) pl).1 (layR rs dd (f + (part + 1) / 2) (part - (part + 1) / 2) (layR rs dd f ((part + 1) / 2) pl).2).1 (layR rs dd (f + (part + 1) / 2) (part - (part + 1) / 2) (layR rs dd f ((part + 1) / 2) pl).2).2).2) := rfl
    by_cases hp : part ≤ 1
    · rw [if_pos hp] at hL
      rw [hL] at hK
      have hp1 : part = 1 := by omega
      subst hp1
      refine visit q f 1 (-1) I (by omega) (by omega) (by omega) g1 g2 (fun v1 v3 v4 v5 A qA x1 x2 x3 x4 x5 x6 x7 => ?_)
      rw [if_pos (show v4 - v3 = 1 by rw [x6]; rfl), x3, zi_tn (show f < 2147483648 by omega)]
      refine ⟨(zin_iff (by omega)).mpr (by omega), fun v2 ev2 v1' ev1' => ?_⟩
      have hr : rs[f]? = some (rs[f]'(by omega)) := List.getElem?_eq_getElem (by omega)
      rw [qA.1 528 f (by omega), show I.1 528 f = zi (rs.getD f 0) by
        rw [List.getD_eq_getElem?_getD, hr]
        exact hR f _ hr] at ev2
      rw [x1, zi_pred (by omega), Nat.add_sub_cancel] at ev1'
      rw [ev2, ev1']
      exact hK A (qA.mono (fun a j h => Or.inl (by omega))) (pkp I A pl hP (fun a j h => qA.1 a j (by omega)))
    · rw [if_neg hp] at hL
      rw [hL] at hK
      have hpow : 2 ^ (dd + 1) = 2 * 2 ^ dd := by rw [Nat.pow_succ, Nat.mul_comm]
      obtain ⟨a1, a2, a3, a4⟩ := layR_ok hrs dd f ((part + 1) / 2) pl (by omega) hu
      obtain ⟨b1, b2, b3, b4⟩ := layR_ok hrs dd (f + (part + 1) / 2) (part - (part + 1) / 2) (layR rs dd f ((part + 1) / 2) pl).2 (by omega) a1
      have hne : ∀ v4 v3 : Int32, v4 - v3 = zi part → ¬ v4 - v3 = 1 := fun v4 v3 e u => by
        rw [e] at u
        have := (zi_eq (b := 1) (by omega) (by decide)).mp u
        omega
      have hneg : ∀ v : Nat, v < 20000 → ¬ zi v = -1 := fun v hv u => by
        have := zi_pos (show v < 2147483648 by omega)
        rw [u] at this
        exact this (by decide)
      have hin1 : vp_in (zi (q + 1)) 20 := (zin_iff (by omega)).mpr (by omega)
      have hqw : ∀ a j : Nat, 535 ≤ a → a ≤ 537 → q ≤ j → Qrw q a j := fun a j u1 u2 u3 => Or.inr (Or.inr (Or.inr ⟨u1, u2, u3⟩))
      have h65 : ∀ a j : Nat, a = 491 ∧ j = 65 → Qrw q a j := fun a j h => Or.inl ⟨h.1, Or.inr h.2⟩
      -- the first half
      refine visit q f part (-1) I (by omega) (by omega) h1 g1 g2 (fun v1 v3 v4 v5 A qA x1 x2 x3 x4 x5 x6 x7 => ?_)
      rw [if_neg (hne v4 v3 x6), if_pos rfl, x2, zi_tn (show q < 2147483648 by omega)]
      refine ⟨x7, ?_⟩
      rw [qA.1 537 q (by omega), g3]
      intro P138 h138
      rw [if_pos rfl]
      refine h138 _ ?_
      intro P156 h156
      rw [if_pos rfl]
      refine h156 _ ?_
      rw [x1, zi_tn (show q + 1 < 2147483648 by omega)]
      refine ⟨hin1, fun I20 e20 => ?_⟩
      intro P174 h174
      rw [if_pos rfl]
      refine h174 _ ⟨hin1, fun I22 e22 => ⟨hin1, fun I23 e23 v1' ev1' => ?_⟩⟩
      rw [zi_succ] at ev1'
      subst ev1'
      have o23 : ∀ a j, ¬ (535 ≤ a ∧ a ≤ 537 ∧ j = q + 1) → I23.1 a j = A.1 a j := fun a j u => by
        rw [e23, zu_at, if_neg (by omega), e22, zu_at, if_neg (by omega), e20, zu_at, if_neg (by omega)]
      have q23 : eqQ (Qrw q) I I23 := by
        rw [e23, e22, e20]
        exact (((qA.mono h65).zu (hqw _ _ (by omega) (by omega) (by omega))).zu (hqw _ _ (by omega) (by omega) (by omega))).zu (hqw _ _ (by omega) (by omega) (by omega))
      refine ih (q + 1) f ((part + 1) / 2) pl I23 (by omega) (by omega) (by omega) (by omega) (by omega) hu (pkp I I23 pl hP (fun a j h => by rw [o23 _ _ (by omega)]; exact qA.1 a j (by omega))) (fun i r hi => by rw [o23 _ _ (by omega), qA.1 528 i (by omega)]; exact hR i r hi) ?_ ?_ ?_ (fun J qJ pJ => ?_)
      · rw [e23, zu_oo (by decide), e22, zu_oo (by decide), e20, zu_self, x3]
      · rw [e23, zu_oo (by decide), e22, zu_self, x5]
      · rw [e23, zu_self]
      have jR : ∀ i r, rs[i]? = some r → J.1 528 i = zi r := fun i r hi => by
        rw [qJ.1 528 i (by unfold Qrw; omega), o23 _ _ (by omega), qA.1 528 i (by omega)]
        exact hR i r hi
      have jo : ∀ a, 535 ≤ a → a ≤ 537 → J.1 a q = I.1 a q := fun a u1 u2 => by
        rw [qJ.1 a q (by unfold Qrw; omega), o23 _ _ (by omega), qA.1 a q (by omega)]
      have qIJ : eqQ (Qrw q) I J := q23.tr (qJ.mono (fun a j h => by unfold Qrw at h ⊢; omega))
      -- its ROW is kept
      refine visit q f part _ J (by omega) (by omega) h1 (by rw [jo _ (by decide) (by decide)]; exact g1) (by rw [jo _ (by decide) (by decide)]; exact g2) (fun v1 v3 v4 v5 B qB y1 y2 y3 y4 y5 y6 y7 => ?_)
      have hva : (layR rs dd f ((part + 1) / 2) pl).1 < 15000 := by unfold rowV at a4; omega
      rw [if_neg (hne v4 v3 y6), if_neg (hneg _ (by omega)), y2, zi_tn (show q < 2147483648 by omega)]
      refine ⟨y7, ?_⟩
      rw [qB.1 537 q (by omega), jo _ (by decide) (by decide), g3, if_pos rfl]
      refine ⟨y7, fun I16 e16 => ?_⟩
      rw [y1]
      have o16 : ∀ a j, ¬ (a = 537 ∧ j = q) → I16.1 a j = B.1 a j := fun a j u => by rw [e16, zu_at, if_neg u]
      have q16 : eqQ (Qrw q) I I16 := by
        rw [e16]
        exact (qIJ.tr (qB.mono h65)).zu (hqw _ _ (by omega) (by omega) (by omega))
      -- the second half
      refine visit q f part (-1) I16 (by omega) (by omega) h1 (by rw [o16 _ _ (by omega), qB.1 535 q (by omega), jo _ (by decide) (by decide)]; exact g1) (by rw [o16 _ _ (by omega), qB.1 536 q (by omega), jo _ (by decide) (by decide)]; exact g2) (fun v1 v3 v4 v5 C qC z1 z2 z3 z4 z5 z6 z7 => ?_)
      rw [if_neg (hne v4 v3 z6), if_pos rfl, z2, zi_tn (show q < 2147483648 by omega)]
      refine ⟨z7, ?_⟩
      have c537 : C.1 537 q = zi (layR rs dd f ((part + 1) / 2) pl).1 := by rw [qC.1 537 q (by omega), e16, zu_self]
      rw [c537]
      intro P138' h138'
      rw [if_neg (hneg _ (by omega))]
      refine h138' _ ?_
      intro P156' h156'
      rw [if_neg (by decide)]
      refine h156' _ ?_
      rw [z1, zi_tn (show q + 1 < 2147483648 by omega)]
      refine ⟨hin1, fun I20' e20' => ?_⟩
      intro P174' h174'
      rw [if_neg (by decide)]
      refine h174' _ ⟨hin1, fun I22' e22' => ⟨hin1, fun I23' e23' v1' ev1' => ?_⟩⟩
      rw [zi_succ] at ev1'
      subst ev1'
      have o23' : ∀ a j, ¬ (535 ≤ a ∧ a ≤ 537 ∧ j = q + 1) → I23'.1 a j = C.1 a j := fun a j u => by
        rw [e23', zu_at, if_neg (by omega), e22', zu_at, if_neg (by omega), e20', zu_at, if_neg (by omega)]
      have q23' : eqQ (Qrw q) I I23' := by
        rw [e23', e22', e20']
        exact (((q16.tr (qC.mono h65)).zu (hqw _ _ (by omega) (by omega) (by omega))).zu (hqw _ _ (by omega) (by omega) (by omega))).zu (hqw _ _ (by omega) (by omega) (by omega))
      refine ih (q + 1) (f + (part + 1) / 2) (part - (part + 1) / 2) _ I23' (by omega) (by omega) (by omega) (by omega) (by omega) a1 (pkp J I23' _ pJ (fun a j h => by rw [o23' _ _ (by omega), qC.1 a j (by omega), o16 _ _ (by omega), qB.1 a j (by omega)])) (fun i r hi => by rw [o23' _ _ (by omega), qC.1 528 i (by omega), o16 _ _ (by omega), qB.1 528 i (by omega)]; exact jR i r hi) ?_ ?_ ?_ (fun M qM pM => ?_)
      · rw [e23', zu_oo (by decide), e22', zu_oo (by decide), e20', zu_self, z5]
      · rw [e23', zu_oo (by decide), e22', zu_self, z4, show f + (part + 1) / 2 + (part - (part + 1) / 2) = f + part by omega]
      · rw [e23', zu_self]
      -- the PAIR
      have m537 : M.1 537 q = zi (layR rs dd f ((part + 1) / 2) pl).1 := by rw [qM.1 537 q (by unfold Qrw; omega), o23' _ _ (by omega)]; exact c537
      have mo : ∀ a, 535 ≤ a → a ≤ 536 → M.1 a q = I.1 a q := fun a u1 u2 => by
        rw [qM.1 a q (by unfold Qrw; omega), o23' _ _ (by omega), qC.1 a q (by omega), o16 _ _ (by omega), qB.1 a q (by omega), jo a (by omega) (by omega)]
      refine visit q f part _ M (by omega) (by omega) h1 (by rw [mo _ (by decide) (by decide)]; exact g1) (by rw [mo _ (by decide) (by decide)]; exact g2) (fun v1 v3 v4 v5 D qD w1 w2 w3 w4 w5 w6 w7 => ?_)
      have hvb : (layR rs dd (f + (part + 1) / 2) (part - (part + 1) / 2) (layR rs dd f ((part + 1) / 2) pl).2).1 < 15000 := by unfold rowV at b4; omega
      rw [if_neg (hne v4 v3 w6), if_neg (hneg _ (by omega)), w2, zi_tn (show q < 2147483648 by omega)]
      refine ⟨w7, ?_⟩
      rw [qD.1 537 q (by omega), m537, if_neg (hneg _ (by omega))]
      refine ⟨w7, s_pairOf (pkp M D _ pM (fun a j h => qD.1 a j (by omega))) b1 hva hvb (by omega) (fun E qE pE v2' ev2' v1' ev1' => ?_)⟩
      rw [show (10000 : Int32) = zi 10000 from rfl, zi_add] at ev2'
      rw [w1, zi_pred (by omega), Nat.add_sub_cancel] at ev1'
      rw [ev2', ev1']
      exact hK E (((q23'.tr (qM.mono (fun a j h => by unfold Qrw at h ⊢; omega))).tr (qD.mono h65)).tr (qE.mono (fun a j h => by unfold Qpm at h; unfold Qrw; omega))) pE
def Qro (a j : Nat) : Prop := (a = 491 ∧ (j = 59 ∨ j = 65)) ∨ (533 ≤ a ∧ a ≤ 537)
theorem s_rowNow {rs : List Nat} {pl : List (Nat × Nat)} {I : zI} {K : Int32 → zI → Prop} (hrs : ∀ r ∈ rs, r < 3400) (hrl : rs.length ≤ 99) (hpl : pl.length + 99 ≤ 4100) (hu : PrU pl) (hP : PrM I pl) (hR0 : I.1 491 51 = zi rs.length) (hR : ∀ i r, rs[i]? = some r → I.1 528 i = zi r) (hK : ∀ (v : Int32) (J : zI), eqQ Qro I J → PrM J (layAllR rs pl) → K v J) : w_M_rowNow I K := by
  unfold w_M_rowNow
  unfold layAllR at hK
  rw [hR0]
  by_cases h0 : rs.length = 0
  · rw [h0, if_pos (show zi 0 = 0 from rfl)]
    rw [if_pos h0] at hK
    exact hK _ I eqQ.rf hP
  · rw [if_neg (show ¬ zi rs.length = 0 from fun u => h0 ((zi_eq (b := 0) (by omega) (by decide)).mp u))]
    rw [if_neg h0] at hK
    have hin0 : vp_in 0 20 := (zin_iff (i := 0) (by decide)).mpr (by decide)
    intro I1 e1
    refine ⟨hin0, fun I2 e2 => ⟨hin0, fun I3 e3 => ⟨hin0, fun I4 e4 => ?_⟩⟩⟩
    rw [show I2.1 491 51 = zi rs.length by rw [e2, zu_oo (by decide), e1, zu_at, if_neg (by decide)]; exact hR0] at e3
    have q4 : eqQ Qro I I4 := by
      rw [e4, e3, e2, e1]
      exact (((eqQ.rf.zu (Or.inl ⟨rfl, Or.inr rfl⟩)).zu (Or.inr (by omega))).zu (Or.inr (by omega))).zu (Or.inr (by omega))
    have o4 : ∀ a j, ¬ (a = 491 ∧ j = 65) → ¬ (535 ≤ a ∧ a ≤ 537) → I4.1 a j = I.1 a j := fun a j u v => by
      rw [e4, zu_oo (by omega), e3, zu_oo (by omega), e2, zu_oo (by omega), e1, zu_at, if_neg u]
    intro P43 h43
    refine s_rowPart hrs (by omega) h43 9 0 0 rs.length pl I4 (by omega) (by omega) (by omega) (by omega) (by omega) hu ⟨by rw [o4 _ _ (by omega) (by omega)]; exact hP.1, fun i p hi => by rw [o4 _ _ (by omega) (by omega), o4 _ _ (by omega) (by omega)]; exact hP.2.1 i p hi, hP.2.2⟩ (fun i r hi => by rw [o4 _ _ (by omega) (by omega)]; exact hR i r hi) ?_ ?_ ?_ (fun J qJ pJ => ?_)
    · rw [e4, zu_oo (by decide), e3, zu_oo (by decide), e2]
      exact zu_self
    · rw [e4, zu_oo (by decide), e3, Nat.zero_add]
      exact zu_self
    · rw [e4]
      exact zu_self
    · refine h43 _ _ _ ?_
      rw [if_pos (show zi 0 ≤ 0 by decide)]
      exact hK _ J (q4.tr (qJ.mono (fun a j h => by unfold Qrw at h; unfold Qro; omega))) pJ
