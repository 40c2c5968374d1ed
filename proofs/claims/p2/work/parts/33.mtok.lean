/-! ===== the model reads a text ===== -/
/-- what stays: but for the places of Q -/
def eqQ (Q : Nat → Nat → Prop) (I J : zI) : Prop := (∀ a j, ¬ Q a j → J.1 a j = I.1 a j) ∧ ∀ a j, ¬ Q a j → J.2 a j = I.2 a j
theorem eqQ.rf {Q : Nat → Nat → Prop} {I : zI} : eqQ Q I I := ⟨fun _ _ _ => rfl, fun _ _ _ => rfl⟩
theorem eqQ.tr {Q : Nat → Nat → Prop} {I J L : zI} (h1 : eqQ Q I J) (h2 : eqQ Q J L) : eqQ Q I L := ⟨fun a j q => (h2.1 a j q).trans (h1.1 a j q), fun a j q => (h2.2 a j q).trans (h1.2 a j q)⟩
theorem eqQ.mono {Q Q' : Nat → Nat → Prop} {I J : zI} (h : eqQ Q I J) (hq : ∀ a j, Q a j → Q' a j) : eqQ Q' I J := ⟨fun a j q => h.1 a j (fun r => q (hq a j r)), fun a j q => h.2 a j (fun r => q (hq a j r))⟩
theorem eqQ.zu {Q : Nat → Nat → Prop} {I J : zI} {a i : Nat} {v : Int32} (h : eqQ Q I J) (hq : Q a i) : eqQ Q I (zu J a i v) := ⟨fun b j q => by
  rw [zu_at, if_neg (show ¬ (b = a ∧ j = i) from fun r => q (by rw [r.1, r.2]; exact hq))]
  exact h.1 b j q, h.2⟩
theorem zul_at {I : zI} {a i b j : Nat} {v : Int64} : (zul I a i v).2 b j = if b = a ∧ j = i then v else I.2 b j := rfl
theorem zul_1 {I : zI} {a i : Nat} {v : Int64} : (zul I a i v).1 = I.1 := rfl
theorem eqQ.zul {Q : Nat → Nat → Prop} {I J : zI} {a i : Nat} {v : Int64} (h : eqQ Q I J) (hq : Q a i) : eqQ Q I (zul J a i v) := ⟨h.1, fun b j q => by
  rw [zul_at, if_neg (show ¬ (b = a ∧ j = i) from fun r => q (by rw [r.1, r.2]; exact hq))]
  exact h.2 b j q⟩
theorem isL_sgn {b : Int32} (h : isL b = true) : sgn b = 11 := by
  unfold sgn
  repeat' (first | rfl | split)
  all_goals (rename_i q; subst q; revert h; decide)
theorem isD_sgn {b : Int32} (h : isD b = true) : sgn b = 11 := by
  unfold sgn
  repeat' (first | rfl | split)
  all_goals (rename_i q; subst q; revert h; decide)
theorem isL_isD {b : Int32} (h : isL b = true) : isD b = false := by
  unfold isL at h
  unfold isD
  simp only [Bool.and_eq_true, Bool.not_eq_true', decide_eq_false_iff_not] at h
  have h1 : ¬ b < 97 := h.1
  have h2 : 57 < b := Int32.lt_of_lt_of_le (by decide) (Int32.not_lt.mp h1)
  simp [h2]
def valL (t : Nat → Int32) (s : Nat) : Nat → Int64
  | 0 => 0
  | m + 1 => 27 * valL t s m + Int32.toInt64 ((t (s + m) - 97) + 1)
def valD (t : Nat → Int32) (s : Nat) : Nat → Int64
  | 0 => 0
  | m + 1 => 10 * valD t s m + Int32.toInt64 (t (s + m) - 48)
/-- the number that tells a token's bytes -/
def isV (t : Nat → Int32) (x : Nat × Nat × Nat) : Int64 := if x.1 = 0 then valL t x.2.1 x.2.2 else if x.1 = 1 then valD t x.2.1 x.2.2 else if x.1 = 10 then 0 else Int32.toInt64 (t x.2.1)
def RepU (I : zI) (t : Nat → Int32) (l : List (Nat × Nat × Nat)) : Prop :=
  I.1 491 9 = zi l.length ∧ ∀ j x, l[j]? = some x → I.1 496 j = zi x.1 ∧ I.1 497 j = zi x.2.1 ∧ I.1 498 j = zi x.2.2 ∧ I.2 499 j = isV t x
theorem w_byteAt {i n : Nat} {I : zI} {K : Int32 → Prop} (hn : I.1 491 3 = zi n) (hn2 : n ≤ 700) (hi : i < 2147483648) : w_M_byteAt (zi i) I K ↔ K (if i < n then I.1 493 i else 0) := by
  unfold w_M_byteAt
  rw [hn]
  by_cases h : n ≤ i
  · rw [if_pos ((zi_le (by omega) hi).mpr h), if_neg (by omega)]
  · rw [if_neg (fun r => h ((zi_le (by omega) hi).mp r)), if_pos (by omega), zi_tn hi]
    exact ⟨fun q => q.2, fun q => ⟨(zin_iff hi).mpr (by omega), q⟩⟩
def Qtok (a j : Nat) : Prop := (a = 491 ∧ j = 9) ∨ (496 ≤ a ∧ a ≤ 499)
theorem s_tokenAt {n i : Nat} {t : Nat → Int32} {l : List (Nat × Nat × Nat)} {I : zI} {K : Int32 → zI → Prop} (hl : l.length < 700) (rep : RepU I t l) (hm : I.1 491 3 = zi n) (hn : n ≤ 700) (hi : i < n) (ht : ∀ j, j < n → I.1 493 j = t j)
    (hK : ∀ J, eqQ Qtok I J → RepU J t (l ++ [((tkP t n i).1, i, (tkP t n i).2)]) → K (zi (tkP t n i).2) J) : w_M_tokenAt (zi i) I K := by
  have hL0 : isL 0 = false := by decide
  have hD0 : isD 0 = false := by decide
  unfold w_M_tokenAt
  rw [w_byteAt hm hn (by omega), if_pos hi, ht i hi]
  intro v6 e6
  rw [rep.1] at e6
  subst e6
  refine ⟨(zin_iff (by omega)).mpr (by omega), ?_⟩
  intro I3 e3
  rw [zi_tn (by omega)] at e3
  have hm3 : I3.1 491 3 = zi n := by rw [e3, zu_oo (by omega)]; exact hm
  have hb3 : ∀ (r : Nat) (K : Int32 → Prop), r ≤ n → (w_M_byteAt (zi i + zi r) I3 K ↔ K (if i + r < n then t (i + r) else 0)) := fun r K hr => by
    rw [zi_add, w_byteAt hm3 hn (by omega)]
    by_cases q : i + r < n
    · rw [if_pos q, if_pos q, e3, zu_oo (by omega), ht _ q]
    · rw [if_neg q, if_neg q]
  -- what is stored at the end
  have fin : ∀ (kd w : Nat) (v : Int64), (kd, w) = tkP t n i → v = isV t (kd, i, w) → ∀ J1 J2 J3 J4 : zI, J1 = zu I3 496 l.length (zi kd) → J2 = zu J1 498 l.length (zi w) → J3 = zul J2 499 l.length v → J4 = zu J3 491 9 (J3.1 491 9 + 1) → K (J4.1 498 l.length) J4 := by
    intro kd w v e1 e2 J1 J2 J3 J4 f1 f2 f3 f4
    have e1a : (tkP t n i).1 = kd := by rw [← e1]
    have e1b : (tkP t n i).2 = w := by rw [← e1]
    rw [e1a, e1b] at hK
    have g : J4.1 498 l.length = zi w := by rw [f4, zu_oo (by omega), f3, zul_1, f2, zu_self]
    rw [g]
    have g9 : J3.1 491 9 = zi l.length := by rw [f3, zul_1, f2, zu_oo (by omega), f1, zu_oo (by omega), e3, zu_oo (by omega)]; exact rep.1
    refine hK J4 ?_ ⟨?_, fun j x hx => ?_⟩
    · rw [f4, f3, f2, f1, e3]
      exact ((((eqQ.rf.zu (Or.inr ⟨by omega, by omega⟩)).zu (Or.inr ⟨by omega, by omega⟩)).zu (Or.inr ⟨by omega, by omega⟩)).zul (Or.inr ⟨by omega, by omega⟩)).zu (Or.inl ⟨rfl, rfl⟩)
    · rw [f4, zu_self, g9, zi_succ, List.length_append]
      rfl
    · have c1 : ∀ j, J4.1 496 j = if j = l.length then zi kd else I.1 496 j := fun j => by
        rw [f4, zu_oo (by omega), f3, zul_1, f2, zu_oo (by omega), f1, zu_at, e3, zu_oo (by omega)]
        simp
      have c2 : ∀ j, J4.1 497 j = if j = l.length then zi i else I.1 497 j := fun j => by
        rw [f4, zu_oo (by omega), f3, zul_1, f2, zu_oo (by omega), f1, zu_oo (by omega), e3, zu_at]
        simp
      have c3 : ∀ j, J4.1 498 j = if j = l.length then zi w else I.1 498 j := fun j => by
        rw [f4, zu_oo (by omega), f3, zul_1, f2, zu_at, f1, zu_oo (by omega), e3, zu_oo (by omega)]
        simp
      have c4 : ∀ j, J4.2 499 j = if j = l.length then v else I.2 499 j := fun j => by
        rw [f4, zu_2, f3, zul_at, f2, zu_2, f1, zu_2, e3, zu_2]
        simp
      rw [c1, c2, c3, c4]
      by_cases hj : j < l.length
      · rw [List.getElem?_append_left hj] at hx
        have hne : ¬ j = l.length := by omega
        rw [if_neg hne, if_neg hne, if_neg hne, if_neg hne]
        exact rep.2 j x hx
      · have hj2 : j = l.length := by
          have := (List.getElem?_eq_some_iff.mp hx).1
          rw [List.length_append] at this
          simp at this
          omega
        subst hj2
        rw [List.getElem?_append_right (Nat.le_refl _), Nat.sub_self] at hx
        cases hx
        simp [e2]
  -- the store, from the three joins on
  have store : ∀ (v3 : Nat) (v4 : Int64) (t11 : Int32), v3 ≤ n → (t11 = 0 ∧ ((isL (t i) = true ∧ v3 = runN isL t (n - i) i ∧ v3 ≤ 8 ∧ v4 = valL t i v3) ∨ (isL (t i) = false ∧ isD (t i) = true ∧ v3 = runN isD t (n - i) i ∧ v3 ≤ 4 ∧ v4 = valD t i v3)) ∨ t11 = 1 ∧ tkP t n i = (sgn (t i), 1) ∧ ¬ sgn (t i) = 0 ∧ ¬ sgn (t i) = 1 ∧ ¬ sgn (t i) = 10) →
      ∀ (P193 : Int32 → Prop), (∀ (t_12 : Int32), (vp_in (zi l.length) 710 ∧ (∀ I_13, I_13 = (zu I3 496 (Int32.toNatClampNeg (zi l.length)) t_12) → ∀ (P210 : Int32 → Prop), (∀ (t_14 : Int32), (vp_in (zi l.length) 710 ∧ (∀ I_15, I_15 = (zu I_13 498 (Int32.toNatClampNeg (zi l.length)) t_14) → ∀ (P229 : Int64 → Prop), (∀ (t_16 : Int64), (vp_in (zi l.length) 710 ∧ (∀ I_17, I_17 = (zul I_15 499 (Int32.toNatClampNeg (zi l.length)) t_16) → ∀ I_18, I_18 = (zu I_17 491 9 ((I_17.1 491 9) + 1)) → vp_in (zi l.length) 710 ∧ (K (I_18.1 498 (Int32.toNatClampNeg (zi l.length))) I_18))) → P229 t_16) → (if t11 = 0 then P229 v4 else (P229 (Int32.toInt64 (t i)))))) → P210 t_14) → (if t11 = 0 then P210 (zi v3) else P210 1))) → P193 t_12) → (if t11 = 0 then (w_M_isLetter (t i) I3 (fun r_21 => (if r_21 = 0 then P193 1 else P193 0))) else (w_M_kindOf (t i) I3 (fun r_23 => P193 r_23))) := by
    intro v3 v4 t11 hv3 hc P193 h193
    have hin : vp_in (zi l.length) 710 := (zin_iff (by omega)).mpr (by omega)
    have go : ∀ (kd w : Nat) (v : Int64), (kd, w) = tkP t n i → v = isV t (kd, i, w) → (t11 = 0 → zi w = zi v3 ∧ v = v4) → (t11 ≠ 0 → zi w = 1 ∧ v = Int32.toInt64 (t i)) → P193 (zi kd) := by
      intro kd w v q1 q2 q3 q4
      refine h193 _ ⟨hin, fun J1 f1 P210 h210 => ?_⟩
      have h2 : P210 (zi w) := by
        refine h210 _ ⟨hin, fun J2 f2 P229 h229 => ?_⟩
        have h3 : P229 v := by
          refine h229 _ ⟨hin, fun J3 f3 J4 f4 => ⟨hin, ?_⟩⟩
          rw [zi_tn (by omega)] at f1 f2 f3 ⊢
          exact fin kd w v q1 q2 J1 J2 J3 J4 f1 f2 f3 f4
        by_cases q : t11 = 0
        · rw [if_pos q, ← (q3 q).2]
          exact h3
        · rw [if_neg q, ← (q4 q).2]
          exact h3
      by_cases q : t11 = 0
      · rw [if_pos q, ← (q3 q).1]
        exact h2
      · rw [if_neg q, ← (q4 q).1]
        exact h2
    rcases hc with ⟨rfl, hc⟩ | ⟨rfl, hc, hs0, hs1, hs10⟩
    · rw [if_pos rfl, w_mL]
      rcases hc with ⟨hL, ev, h8, ev4⟩ | ⟨hL, hD, ev, h4, ev4⟩
      · rw [hL, if_neg (by decide)]
        exact go 0 v3 v4 (by unfold tkP; rw [if_pos hL, if_neg (by omega), ← ev]) (by rw [ev4]; rfl) (fun _ => ⟨rfl, rfl⟩) (fun q => absurd rfl q)
      · rw [hL, if_pos (by decide)]
        exact go 1 v3 v4 (by unfold tkP; rw [if_neg (by rw [hL]; decide), if_pos hD, if_neg (by omega), ← ev]) (by rw [ev4]; rfl) (fun _ => ⟨rfl, rfl⟩) (fun q => absurd rfl q)
    · rw [if_neg (by decide), w_mS]
      exact go (sgn (t i)) 1 (Int32.toInt64 (t i)) hc.symm (by unfold isV; rw [if_neg hs0, if_neg hs1, if_neg hs10]) (fun q => absurd q (by decide)) (fun _ => ⟨rfl, rfl⟩)
  have hv0 : ∀ v : Nat, v ≤ n → (zi v ≤ 8 ↔ v ≤ 8) ∧ (zi v ≤ 4 ↔ v ≤ 4) := fun v hv => ⟨zi_le (by omega) (by decide), zi_le (by omega) (by decide)⟩
  intro P25 h25
  cases hL : isL (t i) with
  | true =>
    have hD := isL_isD hL
    have key : ∀ d r : Nat, n - i - r = d → i + r ≤ n → r + runN isL t (n - i - r) (i + r) = runN isL t (n - i) i → P25 (zi r) (valL t i r) := by
      intro d
      induction d with
      | zero =>
        intro r hd h1 hR
        refine h25 _ _ ?_
        rw [w_mL]
        intro P73 h73
        rw [hL, if_neg (by decide), hb3 r _ (by omega), if_neg (by omega), w_mL, hL0, if_pos (by decide)]
        refine h73 _ _ ?_
        rw [w_mD]
        intro P119 h119
        rw [hD, if_pos (by decide)]
        refine h119 ?_
        rw [w_mL]
        intro P161 h161
        have hR2 : r = runN isL t (n - i) i := by rw [← hR, hd]; rfl
        rw [hL, if_neg (by decide)]
        by_cases h8 : r ≤ 8
        · rw [if_pos ((hv0 r (by omega)).1.mpr h8)]
          exact h161 _ (store r _ 0 (by omega) (Or.inl ⟨rfl, Or.inl ⟨hL, hR2, h8, rfl⟩⟩))
        · rw [if_neg (fun q => h8 ((hv0 r (by omega)).1.mp q))]
          exact h161 _ (store r _ 1 (by omega) (Or.inr ⟨rfl, by unfold tkP; rw [if_pos hL, if_pos (by omega), isL_sgn hL], by rw [isL_sgn hL]; decide, by rw [isL_sgn hL]; decide, by rw [isL_sgn hL]; decide⟩))
      | succ d ih =>
        intro r hd h1 hR
        refine h25 _ _ ?_
        rw [w_mL]
        intro P73 h73
        rw [hL, if_neg (by decide), hb3 r _ (by omega), if_pos (by omega), w_mL]
        rw [hd, runN] at hR
        cases hc : isL (t (i + r)) with
        | true =>
          rw [hc, if_pos rfl] at hR
          rw [if_neg (by decide), hb3 r _ (by omega), if_pos (by omega)]
          intro v4 ev4 v3 ev3
          rw [zi_succ] at ev3
          subst ev4 ev3
          exact ih (r + 1) (by omega) (by omega) (by rw [show n - i - (r + 1) = d by omega, show i + (r + 1) = i + r + 1 by omega]; omega)
        | false =>
          rw [hc, if_neg (by decide)] at hR
          rw [if_pos (by decide)]
          refine h73 _ _ ?_
          rw [w_mD]
          intro P119 h119
          rw [hD, if_pos (by decide)]
          refine h119 ?_
          rw [w_mL]
          intro P161 h161
          rw [hL, if_neg (by decide)]
          have hR2 : r = runN isL t (n - i) i := by omega
          by_cases h8 : r ≤ 8
          · rw [if_pos ((hv0 r (by omega)).1.mpr h8)]
            exact h161 _ (store r _ 0 (by omega) (Or.inl ⟨rfl, Or.inl ⟨hL, hR2, h8, rfl⟩⟩))
          · rw [if_neg (fun q => h8 ((hv0 r (by omega)).1.mp q))]
            exact h161 _ (store r _ 1 (by omega) (Or.inr ⟨rfl, by unfold tkP; rw [if_pos hL, if_pos (by omega), isL_sgn hL], by rw [isL_sgn hL]; decide, by rw [isL_sgn hL]; decide, by rw [isL_sgn hL]; decide⟩))
    exact key (n - i) 0 (by omega) (by omega) (by rw [Nat.zero_add]; rfl)
  | false =>
    refine h25 _ _ ?_
    rw [w_mL]
    intro P73 h73
    rw [hL, if_pos (by decide)]
    cases hD : isD (t i) with
    | true =>
      have key : ∀ d r : Nat, n - i - r = d → i + r ≤ n → r + runN isD t (n - i - r) (i + r) = runN isD t (n - i) i → P73 (zi r) (valD t i r) := by
        intro d
        induction d with
        | zero =>
          intro r hd h1 hR
          refine h73 _ _ ?_
          rw [w_mD]
          intro P119 h119
          rw [hD, if_neg (by decide), hb3 r _ (by omega), if_neg (by omega), w_mD, hD0, if_pos (by decide)]
          refine h119 ?_
          rw [w_mL]
          intro P161 h161
          have hR2 : r = runN isD t (n - i) i := by rw [← hR, hd]; rfl
          rw [hL, if_pos (by decide), w_mD, hD, if_neg (by decide)]
          by_cases h4 : r ≤ 4
          · rw [if_pos ((hv0 r (by omega)).2.mpr h4)]
            exact h161 _ (store r _ 0 (by omega) (Or.inl ⟨rfl, Or.inr ⟨hL, hD, hR2, h4, rfl⟩⟩))
          · rw [if_neg (fun q => h4 ((hv0 r (by omega)).2.mp q))]
            exact h161 _ (store r _ 1 (by omega) (Or.inr ⟨rfl, by unfold tkP; rw [if_neg (by rw [hL]; decide), if_pos hD, if_pos (by omega), isD_sgn hD], by rw [isD_sgn hD]; decide, by rw [isD_sgn hD]; decide, by rw [isD_sgn hD]; decide⟩))
        | succ d ih =>
          intro r hd h1 hR
          refine h73 _ _ ?_
          rw [w_mD]
          intro P119 h119
          rw [hD, if_neg (by decide), hb3 r _ (by omega), if_pos (by omega), w_mD]
          rw [hd, runN] at hR
          cases hc : isD (t (i + r)) with
          | true =>
            rw [hc, if_pos rfl] at hR
            rw [if_neg (by decide), hb3 r _ (by omega), if_pos (by omega)]
            intro v4 ev4 v3 ev3
            rw [zi_succ] at ev3
            subst ev4 ev3
            exact ih (r + 1) (by omega) (by omega) (by rw [show n - i - (r + 1) = d by omega, show i + (r + 1) = i + r + 1 by omega]; omega)
          | false =>
            rw [hc, if_neg (by decide)] at hR
            rw [if_pos (by decide)]
            refine h119 ?_
            rw [w_mL]
            intro P161 h161
            have hR2 : r = runN isD t (n - i) i := by omega
            rw [hL, if_pos (by decide), w_mD, hD, if_neg (by decide)]
            by_cases h4 : r ≤ 4
            · rw [if_pos ((hv0 r (by omega)).2.mpr h4)]
              exact h161 _ (store r _ 0 (by omega) (Or.inl ⟨rfl, Or.inr ⟨hL, hD, hR2, h4, rfl⟩⟩))
            · rw [if_neg (fun q => h4 ((hv0 r (by omega)).2.mp q))]
              exact h161 _ (store r _ 1 (by omega) (Or.inr ⟨rfl, by unfold tkP; rw [if_neg (by rw [hL]; decide), if_pos hD, if_pos (by omega), isD_sgn hD], by rw [isD_sgn hD]; decide, by rw [isD_sgn hD]; decide, by rw [isD_sgn hD]; decide⟩))
      exact key (n - i) 0 (by omega) (by omega) (by rw [Nat.zero_add]; rfl)
    | false =>
      refine h73 _ _ ?_
      rw [w_mD]
      intro P119 h119
      rw [hD, if_pos (by decide)]
      refine h119 ?_
      rw [w_mL]
      intro P161 h161
      rw [hL, if_pos (by decide), w_mD, hD, if_pos (by decide)]
      have hs : ¬ sgn (t i) = 0 ∧ ¬ sgn (t i) = 1 ∧ ¬ sgn (t i) = 10 := by
        unfold sgn
        repeat' (first | decide | split)
      exact h161 _ (store 0 _ 1 (by omega) (Or.inr ⟨rfl, by unfold tkP; rw [if_neg (by rw [hL]; decide), if_neg (by rw [hD]; decide)], hs.1, hs.2.1, hs.2.2⟩))
