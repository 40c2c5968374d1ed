/-! ===== the model grows KINDS from nothing: wrongOf ===== -/
def lNx (kd : Nat → Nat) (i : Nat) (st : List (Nat × Nat)) : Option (Nat × List (Nat × Nat)) :=
  if ldN (topS st) (5 + kd i) = 0 then (match rlN (topS st) with
    | some r => some (i, byT 0 st r)
    | none => none)
  else some (i + 1, st ++ [(0, ldN (topS st) (5 + kd i))])
def lIt (kd : Nat → Nat) : Nat → Nat × List (Nat × Nat) → Option (Nat × List (Nat × Nat))
  | 0, x => some x
  | d + 1, x => (lIt kd d x).bind (fun y => lNx kd y.1 y.2)
def LI (e i : Nat) (st : List (Nat × Nat)) (k : Nat) : Prop :=
  i ≤ e ∧ 1 ≤ st.length ∧ StP st ∧ StOk 1 st ∧ 8 * st.length + rkS (topS st) + 18 * (e - i) + k ≤ 18 * e + 17
/-- KINDS up to e, where none leads on -/
def KdO (kd : Nat → Nat) (e : Nat) : Prop := (∀ i, i ≤ e → kd i < 12) ∧ ∀ s, s < 21 → ldN s (5 + kd e) = 0
theorem end_fin2 : ∀ s, s < 21 → ldN s (5 + 11) = 0 := by decide +kernel
theorem LI.st0 {e : Nat} : LI e 0 [(0, 0)] 0 := by
  refine ⟨Nat.zero_le _, Nat.le_refl _, ⟨fun p hp => ?_, fun j p q hp hq => ?_⟩, fun j p hp => ?_, ?_⟩
  · cases hp
    rfl
  · have := (List.getElem?_eq_some_iff.mp hq).1
    change j + 1 < 1 at this
    omega
  · have hj := (List.getElem?_eq_some_iff.mp hp).1
    have hj0 : j = 0 := by
      change j < 1 at hj
      omega
    subst hj0
    cases hp
    exact ⟨by decide, fun u => by omega⟩
  · show 8 * 1 + 9 + 18 * (e - 0) + 0 ≤ 18 * e + 17
    omega
theorem LI.nx {kd : Nat → Nat} {e i k : Nat} {st : List (Nat × Nat)} {y : Nat × List (Nat × Nat)} (hk : KdO kd e) (h : LI e i st k) (h2 : lNx kd i st = some y) : LI e y.1 y.2 (k + 1) := by
  obtain ⟨h1, s1, s2, s3, h5⟩ := h
  obtain ⟨p0, t1, t2⟩ := top_at s1
  have hs21 : topS st < 21 := t2 ▸ (s3 _ p0 t1).1
  unfold lNx at h2
  by_cases hz : ldN (topS st) (5 + kd i) = 0
  · rw [if_pos hz] at h2
    cases hr : rlN (topS st) with
    | none =>
      rw [hr] at h2
      cases h2
    | some r =>
      rw [hr] at h2
      cases h2
      have hr11 := rlN_lt hs21 hr
      obtain ⟨f1, f2⟩ := st_fits s2 s3 s1 t1 t2 hr
      obtain ⟨o1, o2⟩ := byT_ok s2 s3 s1 t1 t2 hr
      have hb : st[st.length - lnN r - 1]? = some (st.getD (st.length - lnN r - 1) (0, 0)) := by
        rw [List.getD_eq_getElem?_getD, List.getElem?_eq_getElem (by omega)]
        rfl
      have hbs : byS st r ∈ bkT (lnN r) (topS st) := by
        have := bk_mem s2 s3 t1 (lnN r) (st.getD (st.length - lnN r - 1) (0, 0)) (by omega) (by
          rw [show st.length - 1 - lnN r = st.length - lnN r - 1 by omega]
          exact hb)
        rw [t2] at this
        exact this
      have hb21 : byS st r < 21 := (s3 _ _ hb).1
      have hsy5 := (sy_fin r hr11).2
      change syN r < 5 at hsy5
      have hrk3 := (ru_fin2 hs21 hr).2 _ hbs
      have hlen : (byT 0 st r).length = st.length - lnN r + 1 := by
        unfold byT
        rw [List.length_append, List.length_take, Nat.min_eq_left (by omega)]
        rfl
      obtain ⟨q1, -⟩ := byT_ok (m := 1) s2 s3 s1 t1 t2 hr
      have e0 : (byT 1 st r).map (·.2) = (byT 0 st r).map (·.2) := by
        unfold byT
        rw [List.map_append, List.map_append]
        rfl
      have g : ∀ j : Nat, ((byT 1 st r)[j]?).map (·.2) = ((byT 0 st r)[j]?).map (·.2) := fun j => by
        rw [← List.getElem?_map, e0, List.getElem?_map]
      refine ⟨h1, by dsimp only; omega, ⟨fun p hp => ?_, fun j p q hp hq => ?_⟩, ?_, ?_⟩
      · have := g 0
        rw [hp] at this
        cases hx : (byT 1 st r)[0]? with
        | none =>
          rw [hx] at this
          cases this
        | some x =>
          rw [hx] at this
          have ex : x.2 = p.2 := Option.some.inj this
          rw [← ex]
          exact q1.1 x hx
      · have a1 := g j
        have a2 := g (j + 1)
        rw [hp] at a1
        rw [hq] at a2
        cases hx : (byT 1 st r)[j]? with
        | none =>
          rw [hx] at a1
          cases a1
        | some x =>
          cases hy : (byT 1 st r)[j + 1]? with
          | none =>
            rw [hy] at a2
            cases a2
          | some y =>
            rw [hx] at a1
            rw [hy] at a2
            have ex : x.2 = p.2 := Option.some.inj a1
            have ey : y.2 = q.2 := Option.some.inj a2
            rw [← ex, ← ey]
            exact q1.2 j x y hx hy
      · unfold byT
        exact (s3.take).snoc (by decide) (ldN_lt hb21 (by omega))
      · dsimp only
        rw [hlen]
        unfold byT
        rw [topS_snoc]
        dsimp only
        omega
  · rw [if_neg hz] at h2
    cases h2
    have hie : i < e := Nat.lt_of_le_of_ne h1 (fun u => hz (by rw [u]; exact hk.2 _ hs21))
    have hki := hk.1 i h1
    have hl21 := ldN_lt (s := topS st) (y := 5 + kd i) hs21 (by omega)
    have hrk2 := rk_le _ hl21
    have hlen : (st ++ [(0, ldN (topS st) (5 + kd i))]).length = st.length + 1 := List.length_append
    refine ⟨hie, by dsimp only; omega, s2.snoc t1 s1 (y := 5 + kd i) (by omega) (by rw [t2]) hz, s3.snoc (by decide) hl21, ?_⟩
    dsimp only
    rw [hlen, topS_snoc]
    dsimp only
    omega
def StW (I : zI) (st : List (Nat × Nat)) : Prop := 1 ≤ st.length ∧ I.1 491 39 = zi st.length ∧ ∀ (j : Nat) (p : Nat × Nat), st[j]? = some p → I.1 519 j = zi p.2
def Qwr (a j : Nat) : Prop := a = 519 ∨ (a = 491 ∧ (j = 39 ∨ j = 42))
def Qwq (a j : Nat) : Prop := a = 519 ∨ (a = 491 ∧ j = 39)
theorem s_reduces {r : Nat} {st : List (Nat × Nat)} {I : zI} {K : zI → Prop} (hS : StW I st) (ok : StOk 1 st) (hl : st.length < 400) (hr : r < 11) (hf : lnN r < st.length) (hld : ldN (byS st r) (syN r) ≠ 0)
    (hK : ∀ J, eqQ Qwq I J → StW J (byT 0 st r) → K J) : w_M_reduces (zi r) I K := by
  unfold w_M_reduces
  obtain ⟨h0, h1, h2⟩ := id hS
  have ln4 := (ln_fin r hr).2
  change lnN r ≤ 4 at ln4
  refine s_manyOf hr ?_
  intro I2 e2
  rw [h1, zi_sub (by omega)] at e2
  have q2 : eqQ Qwq I I2 := by rw [e2]; exact eqQ.rf.zu (Or.inr ⟨rfl, rfl⟩)
  have o2 : ∀ a j, ¬ (a = 491 ∧ j = 39) → I2.1 a j = I.1 a j := fun a j u => by rw [e2, zu_at, if_neg u]
  have g39 : I2.1 491 39 = zi (st.length - lnN r) := by rw [e2, zu_self]
  have hb : st[st.length - lnN r - 1]? = some (st.getD (st.length - lnN r - 1) (0, 0)) := by
    rw [List.getD_eq_getElem?_getD, List.getElem?_eq_getElem (by omega)]
    rfl
  have hs' : byS st r < 21 := (ok _ _ hb).1
  have gp : I2.1 491 39 - 1 = zi (st.length - lnN r - 1) := by
    rw [g39]
    exact zi_sub (b := 1) (by omega)
  rw [gp]
  refine ⟨(zin_iff (by omega)).mpr (by omega), ?_⟩
  rw [zi_tn (show st.length - lnN r - 1 < 2147483648 by omega)]
  have gs : I2.1 519 (st.length - lnN r - 1) = zi (byS st r) := by
    rw [o2 _ _ (by omega)]
    exact h2 _ _ hb
  rw [gs]
  refine s_MsymbolOf hr ?_
  refine s_leads hs' (by have := (sy_fin r hr).2; exact this) hld ?_
  rw [g39]
  refine ⟨(zin_iff (by omega)).mpr (by omega), fun I5 e5 I6 e6 => ?_⟩
  rw [zi_tn (show st.length - lnN r < 2147483648 by omega)] at e5
  have g5 : I5.1 491 39 = zi (st.length - lnN r) := by rw [e5, zu_oo (by decide)]; exact g39
  rw [g5, zi_succ] at e6
  have q6 : eqQ Qwq I I6 := by
    rw [e6, e5]
    exact (q2.zu (Or.inl rfl)).zu (Or.inr ⟨rfl, rfl⟩)
  have hlen : (st.take (st.length - lnN r)).length = st.length - lnN r := by rw [List.length_take]; omega
  refine hK I6 q6 ⟨?_, ?_, fun j p hj => ?_⟩
  · unfold byT
    rw [List.length_append]
    exact Nat.le_add_left _ _
  · rw [e6, zu_self]
    unfold byT
    rw [List.length_append, hlen]
    rfl
  · rw [e6, zu_oo (by decide), e5]
    unfold byT at hj
    by_cases u : j < st.length - lnN r
    · rw [List.getElem?_append_left (by omega), List.getElem?_take, if_pos u] at hj
      rw [zu_at, if_neg (by omega), o2 _ _ (by omega)]
      exact h2 j p hj
    · have hj2 := (List.getElem?_eq_some_iff.mp hj).1
      rw [List.length_append, hlen] at hj2
      change j < st.length - lnN r + 1 at hj2
      have hje : j = st.length - lnN r := by omega
      subst hje
      rw [List.getElem?_append_right (by omega), hlen, Nat.sub_self] at hj
      cases hj
      rw [zu_self]
theorem s_wrongOf2 {kd : Nat → Nat} {e : Nat} {I : zI} {K : Int32 → zI → Prop} (hk : KdO kd e) (he : e < 110) (h5 : ∀ i, i ≤ e → I.1 520 i = zi (kd i))
    (hK : ∀ J i st d, eqQ Qwr I J → lIt kd d (0, [(0, 0)]) = some (i, st) → LI e i st d → lNx kd i st = none → J.1 491 42 = zi d → K (if kd i = 10 ∧ topS st = 1 then -1 else zi i) J) : w_M_wrongOf I K := by
  unfold w_M_wrongOf
  refine ⟨show vp_in (zi 0) 400 from (zin_iff (by decide)).mpr (by decide), fun I1 e1 I2 e2 I3 e3 => ?_⟩
  have q3 : eqQ Qwr I I3 := by
    rw [e3, e2, e1]
    exact ((eqQ.rf.zu (Or.inl rfl)).zu (Or.inr ⟨rfl, Or.inl rfl⟩)).zu (Or.inr ⟨rfl, Or.inr rfl⟩)
  have s3 : StW I3 [(0, 0)] := by
    refine ⟨Nat.le_refl _, ?_, fun j p hp => ?_⟩
    · rw [e3, zu_at, if_neg (by decide), e2, zu_self]
      rfl
    · have hj := (List.getElem?_eq_some_iff.mp hp).1
      have hj0 : j = 0 := by
        change j < 1 at hj
        omega
      subst hj0
      cases hp
      rw [e3, zu_oo (by decide), e2, zu_oo (by decide), e1, zu_self]
      rfl
  intro P19 h19
  have main : ∀ (d k i : Nat) (st : List (Nat × Nat)) (J : zI), LI e i st k → 18 * e + 17 < d + k → eqQ Qwr I J → StW J st → lIt kd k (0, [(0, 0)]) = some (i, st) → J.1 491 42 = zi k → P19 (zi i) J := by
    intro d
    induction d with
    | zero =>
      intro k i st J hx hd
      have := hx.2.2.2.2
      omega
    | succ d ih =>
      intro k i st J hx hd hq hS hrun h42
      refine h19 _ _ ?_
      obtain ⟨h1, s1, s2, s3, hm⟩ := id hx
      obtain ⟨p0, t1, t2⟩ := top_at s1
      have hs21 : topS st < 21 := t2 ▸ (s3 _ p0 t1).1
      have hki := hk.1 i h1
      have gp : J.1 491 39 - 1 = zi (st.length - 1) := by
        rw [hS.2.1]
        exact zi_sub (b := 1) (by omega)
      rw [gp, zi_tn (show st.length - 1 < 2147483648 by omega)]
      refine ⟨(zin_iff (by omega)).mpr (by omega), fun v2 ev2 => ?_⟩
      rw [show J.1 519 (st.length - 1) = zi (topS st) from t2 ▸ hS.2.2 _ p0 t1] at ev2
      subst ev2
      refine ⟨(zin_iff (by omega)).mpr (by omega), ?_⟩
      rw [zi_tn (show i < 2147483648 by omega), show J.1 520 i = zi (kd i) by rw [hq.1 520 _ (by unfold Qwr; omega)]; exact h5 i h1]
      refine s_shifts hs21 hki ?_
      refine s_ruleOf hs21 ?_
      intro P114 h114
      have nxt : ∀ (y : Nat × List (Nat × Nat)) (I' : zI), lNx kd i st = some y → eqQ Qwq J I' → StW I' y.2 → P114 (zi y.1) I' := by
        intro y I' hy q0 sx'
        have q' : eqQ Qwr J I' := q0.mono (fun a j h => by unfold Qwq at h; unfold Qwr; omega)
        have g42 : I'.1 491 42 = zi k := by rw [q0.1 491 42 (by unfold Qwq; omega)]; exact h42
        refine h114 _ _ (fun I'' e'' => ?_)
        refine ih (k + 1) y.1 y.2 I'' (hx.nx hk hy) (by omega) ?_ ?_ ?_ (by rw [e'', zu_self, g42, zi_succ])
        · rw [e'']
          exact (hq.tr q').zu (Or.inr ⟨rfl, Or.inr rfl⟩)
        · refine ⟨sx'.1, ?_, fun j p hp => ?_⟩
          · rw [e'', zu_at, if_neg (by decide)]
            exact sx'.2.1
          · rw [e'', zu_oo (by decide)]
            exact sx'.2.2 j p hp
        · show (lIt kd k (0, [(0, 0)])).bind _ = _
          rw [hrun]
          exact hy
      unfold shI
      by_cases hz : ldN (topS st) (5 + kd i) = 0
      · rw [if_pos hz, if_pos (show (-1 : Int32) < 0 by decide)]
        unfold rlI
        cases hr : rlN (topS st) with
        | none =>
          rw [if_pos (show (-1 : Int32) < 0 by decide)]
          refine ⟨(zin_iff (by omega)).mpr (by omega), ?_⟩
          have hn : lNx kd i st = none := by
            unfold lNx
            rw [if_pos hz, hr]
          have hK2 := hK J i st k hq hrun hx hn h42
          by_cases c1 : kd i = 10
          · rw [if_pos (show zi (kd i) = 10 by rw [c1]; rfl)]
            by_cases c2 : topS st = 1
            · rw [if_pos (show zi (topS st) = 1 by rw [c2]; rfl)]
              rw [if_pos ⟨c1, c2⟩] at hK2
              exact hK2
            · rw [if_neg (show ¬ zi (topS st) = 1 from fun u => c2 ((zi_eq (b := 1) (by omega) (by decide)).mp u))]
              rw [if_neg (fun u => c2 u.2)] at hK2
              exact hK2
          · rw [if_neg (show ¬ zi (kd i) = 10 from fun u => c1 ((zi_eq (b := 10) (by omega) (by decide)).mp u))]
            rw [if_neg (fun u => c1 u.1)] at hK2
            exact hK2
        | some r =>
          have hr11 := rlN_lt hs21 hr
          obtain ⟨f1, f2⟩ := st_fits s2 s3 s1 t1 t2 hr
          dsimp only
          rw [if_neg (zi_pos (by omega))]
          have hy : lNx kd i st = some (i, byT 0 st r) := by
            unfold lNx
            rw [if_pos hz, hr]
          exact s_reduces hS s3 (by omega) hr11 f1 f2 (fun J2 q2 sx2 => nxt _ J2 hy q2 sx2)
      · rw [if_neg hz, if_neg (zi_pos (by have := ldN_lt (s := topS st) (y := 5 + kd i) hs21 (by omega); omega))]
        have hy : lNx kd i st = some (i + 1, st ++ [(0, ldN (topS st) (5 + kd i))]) := by
          unfold lNx
          rw [if_neg hz]
        rw [hS.2.1]
        refine ⟨(zin_iff (by omega)).mpr (by omega), fun I16 e16 I17 e17 v ev => ?_⟩
        rw [zi_tn (show st.length < 2147483648 by omega)] at e16
        have g16 : I16.1 491 39 = zi st.length := by rw [e16, zu_oo (by decide)]; exact hS.2.1
        rw [g16, zi_succ] at e17
        rw [ev, zi_succ]
        refine nxt _ I17 hy ?_ ⟨?_, ?_, fun j p hj => ?_⟩
        · rw [e17, e16]
          exact (eqQ.rf.zu (Or.inl rfl)).zu (Or.inr ⟨rfl, rfl⟩)
        · rw [List.length_append]
          exact Nat.le_add_left _ _
        · rw [e17, zu_self, List.length_append]
          rfl
        · rw [e17, zu_oo (by decide), e16]
          dsimp only at hj
          by_cases u : j < st.length
          · rw [List.getElem?_append_left u] at hj
            rw [zu_at, if_neg (by omega)]
            exact hS.2.2 j p hj
          · have hj2 := (List.getElem?_eq_some_iff.mp hj).1
            rw [List.length_append] at hj2
            change j < st.length + 1 at hj2
            have hje : j = st.length := by omega
            subst hje
            rw [List.getElem?_append_right (Nat.le_refl _), Nat.sub_self] at hj
            cases hj
            rw [zu_self]
  exact main (18 * e + 18) 0 0 [(0, 0)] I3 LI.st0 (by omega) q3 s3 rfl (by rw [e3, zu_self]; rfl)
theorem s_wrongOf {kd : Nat → Nat} {e : Nat} {I : zI} {K : Int32 → zI → Prop} (hk : KdO kd e) (he : e < 110) (h5 : ∀ i, i ≤ e → I.1 520 i = zi (kd i))
    (hK : ∀ J i st d, eqQ Qwr I J → lIt kd d (0, [(0, 0)]) = some (i, st) → LI e i st d → lNx kd i st = none → K (if kd i = 10 ∧ topS st = 1 then -1 else zi i) J) : w_M_wrongOf I K :=
  s_wrongOf2 hk he h5 (fun J i st d a b c e _ => hK J i st d a b c e)
