/-! ===== the model grows KINDS from nothing: wrongOf ===== -/
def lNx (kd : Nat → Nat) (i : Nat) (st : List (Nat × Nat)) : Option (Nat × List (Nat × Nat)) :=
  if ldN (topS st) (5 + kd i) = 0 then (match rlN (topS st) with
    | some r => some (i, byT 0 st r)
    | none => none)
  else some (i + 1, st ++ [(0, ldN (topS st) (5 + kd i))])
def lIt (kd : Nat → Nat) : Nat → Nat × List (Nat × Nat) → Option (Nat × List (Nat × Nat))
  | 0, x => some x
  | d + 1, x => (lIt kd d x).bind (fun y => lNx kd y.1 y.2)
def LI (e i : Nat) (st : List (Nat × Nat)) (k : Nat) : Prop :=
  i ≤ e ∧ 1 ≤ st.length ∧ StP st ∧ StOk 1 st ∧ 8 * st.length + rkS (topS st) + 18 * (e - i) + k ≤ 18 * e + 17
/-- KINDS up to e, where none leads on -/
def KdO (kd : Nat → Nat) (e : Nat) : Prop := (∀ i, i ≤ e → kd i < 12) ∧ ∀ s, s < 21 → ldN s (5 + kd e) = 0
theorem end_fin2 : ∀ s, s < 21 → ldN s (5 + 11) = 0 := by decide +kernel
theorem LI.st0 {e : Nat} : LI e 0 [(0, 0)] 0 := by
  refine ⟨Nat.zero_le _, Nat.le_refl _, ⟨fun p hp => ?_, fun j p q hp hq => ?_⟩, fun j p hp => ?_, ?_⟩
  · cases hp
    rfl
  · have := (List.getElem?_eq_some_iff.mp hq).1
    change j + 1 < 1 at this
    omega
  · have hj := (List.getElem?_eq_some_iff.mp hp).1
    have hj0 : j = 0 := by
      change j < 1 at hj
      omega
    subst hj0
    cases hp
    exact ⟨by decide, fun u => by omega⟩
  · show 8 * 1 + 9 + 18 * (e - 0) + 0 ≤ 18 * e + 17
    omega
theorem LI.nx {kd : Nat → Nat} {e i k : Nat} {st : List (Nat × Nat)} {y : Nat × List (Nat × Nat)} (hk : KdO kd e) (h : LI e i st k) (h2 : lNx kd i st = some y) : LI e y.1 y.2 (k + 1) := by
  obtain ⟨h1, s1, s2, s3, h5⟩ := h
  obtain ⟨p0, t1, t2⟩ := top_at s1
  have hs21 : topS st < 21 := t2 ▸ (s3 _ p0 t1).1
  unfold lNx at h2
  by_cases hz : ldN (topS st) (5 + kd i) = 0
  · rw [if_pos hz] at h2
    cases hr : rlN (topS st) with
    | none =>
      rw [hr] at h2
      cases h2
    | some r =>
      rw [hr] at h2
      cases h2
      have hr11 := rlN_lt hs21 hr
      obtain ⟨f1, f2⟩ := st_fits s2 s3 s1 t1 t2 hr
      obtain ⟨o1, o2⟩ := byT_ok s2 s3 s1 t1 t2 hr
      have hb : st[st.length - lnN r - 1]? = some (st.getD (st.length - lnN r - 1) (0, 0)) := by
        rw [List.getD_eq_getElem?_getD, List.getElem?_eq_getElem (by omega)]
        rfl
      have hbs : byS st r ∈ bkT (lnN r) (topS st) := by
        have := bk_mem s2 s3 t1 (lnN r) (st.getD (st.length - lnN r - 1) (0, 0)) (by omega) (by
          rw [show st.length - 1 - lnN r = st.length - lnN r - 1 by omega]
          exact hb)
        rw [t2] at this
        exact this
      have hb21 : byS st r < 21 := (s3 _ _ hb).1
      have hsy5 := (sy_fin r hr11).2
      change syN r < 5 at hsy5
      have hrk3 := (ru_fin2 hs21 hr).2 _ hbs
      have hlen : (byT 0 st r).length = st.length - lnN r + 1 := by
        unfold byT
        rw [List.length_append, List.length_take, Nat.min_eq_left (by omega)]
        rfl
      obtain ⟨q1, -⟩ := byT_ok (m := 1) s2 s3 s1 t1 t2 hr
      have e0 : (byT 1 st r).map (·.2) = (byT 0 st r).map (·.2) := by
        unfold byT
        rw [List.map_append, List.map_append]
        rfl
      have g : ∀ j : Nat, ((byT 1 st r)[j]?).map (·.2) = ((byT 0 st r)[j]?).map (·.2) := fun j => by
        rw [← List.getElem?_map, e0, List.getElem?_map]
      refine ⟨h1, by dsimp only; omega, ⟨fun p hp => ?_, fun j p q hp hq => ?_⟩, ?_, ?_⟩
      · have := g 0
        rw [hp] at this
        cases hx : (byT 1 st r)[0]? with
        | none =>
          rw [hx] at this
          cases this
        | some x =>
          rw [hx] at this
          have ex : x.2 = p.2 := Option.some.inj this
          rw [← ex]
          exact q1.1 x hx
      · have a1 := g j
        have a2 := g (j + 1)
        rw [hp] at a1
        rw [hq] at a2
        cases hx : (byT 1 st r)[j]? with
        | none =>
          rw [hx] at a1
          cases a1
        | some x =>
          cases hy : (byT 1 st r)[j + 1]? with
          | none =>
            rw [hy] at a2
            cases a2
          | some y =>
            rw [hx] at a1
            rw [hy] at a2
            have ex : x.2 = p.2 := Option.some.inj a1
            have ey : y.2 = q.2 := Option.some.inj a2
            rw [← ex, ← ey]
            exact q1.2 j x y hx hy
      · unfold byT
        exact (s3.take).snoc (by decide) (ldN_lt hb21 (by omega))
      · dsimp only
        rw [hlen]
        unfold byT
        rw [topS_snoc]
        dsimp only
        omega
  · rw [if_neg hz] at h2
    cases h2
    have hie : i < e := Nat.lt_of_le_of_ne h1 (fun u => hz (by rw [u]; exact hk.2 _ hs21))
    have hki := hk.1 i h1
    have hl21 := ldN_lt (s := topS st) (y := 5 + kd i) hs21 (by omega)
    have hrk2 := rk_le _ hl21
    have hlen : (st ++ [(0, ldN (topS st) (5 + kd i))]).length = st.length + 1 := List.length_append
    refine ⟨hie, by dsimp only; omega, s2.snoc t1 s1 (y := 5 + kd i) (by omega) (by rw [t2]) hz, s3.snoc (by decide) hl21, ?_⟩
    dsimp only
    rw [hlen, topS_snoc]
    dsimp only
    omega
def StW (I : zI) (st : List (Nat × Nat)) : Prop := 1 ≤ st.length ∧ I.1 491 39 = zi st.length ∧ ∀ (j : Nat) (p : Nat × Nat), st[j]? = some p → I.1 519 j = zi p.2
def Qwr (a j : Nat) : Prop := a = 519 ∨ (a = 491 ∧ (j = 39 ∨ j = 42))
def Qwq (a j : Nat) : Prop := a = 519 ∨ (a = 491 ∧ j = 39)
theorem s_reduces {r : Nat} {st : List (Nat × Nat)} {I : zI} {K : zI → Prop} (hS : StW I st) (ok : StOk 1 st) (hl : st.length < 400) (hr : r < 11) (hf : lnN r < st.length) (hld : ldN (byS st r) (syN r) ≠ 0)
    (hK : ∀ J, eqQ Qwq I J → StW J (byT 0 st r) → K J) : w_M_reduces (zi r) I K := by
  unfold w_M_reduces
  obtain ⟨h0, h1, h2⟩ := id hS
  have ln4 := (ln_fin r hr).2
  change lnN r ≤ 4 at ln4
  refine s_manyOf hr ?_
  intro I2 e2
  rw [h1, zi_sub (by omega)] at e2
  have q2 : eqQ Qwq I I2 := by rw [e2]; exact eqQ.rf.zu (Or.inr ⟨rfl, rfl⟩)
  have o2 : ∀ a j, ¬ (a = 491 ∧ j = 39) → I2.1 a j = I.1 a j := fun a j u => by rw [e2, zu_at, if_neg u]
  have g39 : I2.1 491 39 = zi (st.length - lnN r) := by rw [e2, zu_self]
  have hb : st[st.length - lnN r - 1]? = some (st.getD (st.length - lnN r - 1) (0, 0)) := by
    rw [List.getD_eq_getElem?_getD, List.getElem?_eq_getElem (by omega)]
    rfl
  have hs' : byS st r < 21 := (ok _ _ hb).1
  have gp : I2.1 491 39 - 1 = zi (st.length - lnN r - 1) := by
    rw [g39]
    exact zi_sub (b := 1) (by omega)
  rw [gp]
  refine ⟨(zin_iff (by omega)).mpr (by omega), ?_⟩
  rw [zi_tn (show st.length - lnN r - 1 < 2147483648 by omega)]
  have gs : I2.1 519 (st.length - lnN r - 1) = zi (byS st r) := by
    rw [o2 _ _ (by omega)]
    exact h2 _ _ hb
  rw [gs]
  refine s_MsymbolOf hr ?_
  refine s_leads hs' (by have := (sy_fin r hr).2; exact this) hld ?_
  rw [g39]
  refine ⟨(zin_iff (by omega)).mpr (by omega), fun I5 e5 I6 e6 => ?_⟩
  rw [zi_tn (show st.length - lnN r < 2147483648 by omega)] at e5
  have g5 : I5.1 491 39 = zi (st.length - lnN r) := by rw [e5, zu_oo (by decide)]; exact g39
  rw [g5, zi_succ] at e6
  have q6 : eqQ Qwq I I6 := by
    rw [e6, e5]
    exact (q2.zu (Or.inl rfl)).zu (Or.inr ⟨rfl, rfl⟩)
  have hlen : (st.take (st.length - lnN r)).length = st.length - lnN r := by rw [List.length_take]; omega
  refine hK I6 q6 ⟨?_, ?_, fun j p hj => ?_⟩
  · unfold byT
    rw [List.length_append]
    exact Nat.le_add_left _ _
  · rw [e6, zu_self]
    unfold byT
    rw [List.length_append, hlen]
    rfl
  · rw [e6, zu_oo (by decide), e5]
    unfold byT at hj
    by_cases u : j < st.length - lnN r
    · rw [List.getElem?_append_left (by omega), List.getElem?_take, if_pos u] at hj
      rw [zu_at, if_neg (by omega), o2 _ _ (by omega)]
      exact h2 j p hj
    · have hj2 := (List.getElem?_eq_some_iff.mp hj).1
      rw [List.length_append, hlen] at hj2
      change j < st.length - lnN r + 1 at hj2
      have hje : j = st.length - lnN r := by omega
      subst hje
      rw [List.getElem?_append_right (by omega), hlen, Nat.sub_self] at hj
      cases hj
      rw [zu_self]
theorem s_wrongOf2 {kd : Nat → Nat} {e : Nat} {I : zI} {K : Int32 → zI → Prop} (hk : KdO kd e) (he : e < 110) (h5 : ∀ i, i ≤ e → I.1 520 i = zi (kd i))
    (hK : ∀ J i st d, eqQ Qwr I J → lIt kd d (0, [(0, 0)]) = some (i, st) → LI e i st d → lNx kd i st = none → J.1 491 42 = zi d → K (if kd i = 10 ∧ topS st = 1 then -1 else zi i) J) : w_M_wrongOf I K := by
  unfold w_M_wrongOf
  refine ⟨show vp_in (zi 0) 400 from (zin_iff (by decide)).mpr (by decide), fun I1 e1 I2 e2 I3 e3 => ?_⟩
  have q3 : eqQ Qwr I I3 := by
    rw [e3, e2, e1]
    exact ((eqQ.rf.zu (Or.inl rfl)).zu (Or.inr ⟨rfl, Or.inl rfl⟩)).zu (Or.inr ⟨rfl, Or.inr rfl⟩)
  have s3 : StW I3 [(0, 0)] := by
    refine ⟨Nat.le_refl _, ?_, fun j p hp => ?_⟩
    · rw [e3, zu_at, if_neg (by decide), e2, zu_self]
      rfl
    · have hj := (List.getElem?_eq_some_iff.mp hp).1
      have hj0 : j = 0 := by
        change j < 1 at hj
        omega
      subst hj0
      cases hp
      rw [e3, zu_oo (by decide), e2, zu_oo (by decide), e1, zu_self]
      rfl
  intro P19 h19
  have main : ∀ (d k i : Nat) (st : List (Nat × Nat)) (J : zI), LI e i st k → 18 * e + 17 < d + k → eqQ Qwr I J → StW J st → lIt kd k (0, [(0, 0)]) = some (i, st) → J.1 491 42 = zi k → P19 (zi i) J := by
    intro d
    induction d with
    | zero =>
      intro k i st J hx hd
      have := hx.2.2.2.2
      omega
    | succ d ih =>
      intro k i st J hx hd hq hS hrun h42
      refine h19 _ _ ?_
      obtain ⟨h1, s1, s2, s3, hm⟩ := id hx
      obtain ⟨p0, t1, t2⟩ := top_at s1
      have hs21 : topS st < 21 := t2 ▸ (s3 _ p0 t1).1
      have hki := hk.1 i h1
      have gp : J.1 491 39 - 1 = zi (st.length - 1) := by
        rw [hS.2.1]
        exact zi_sub (b := 1) (by omega)
      rw [gp, zi_tn (show st.length - 1 < 2147483648 by omega)]
      refine ⟨(zin_iff (by omega)).mpr (by omega), fun v2 ev2 => ?_⟩
      rw [show J.1 519 (st.length - 1) = zi (topS st) from t2 ▸ hS.2.2 _ p0 t1] at ev2
      subst ev2
      refine ⟨(zin_iff (by omega)).mpr (by omega), ?_⟩
      rw [zi_tn (show i < 2147483648 by omega), show J.1 520 i = zi (kd i) by rw [hq.1 520 _ (by unfold Qwr; omega)]; exact h5 i h1]
      refine s_shifts hs21 hki ?_
      refine s_ruleOf hs21 ?_
      intro P114 h114
      have nxt : ∀ (y : Nat × List (Nat × Nat)) (I' : zI), lNx kd i st = some y → eqQ Qwq J I' → StW I' y.2 → P114 (zi y.1) I' := by
        intro y I' hy q0 sx'
        have q' : eqQ Qwr J I' := q0.mono (fun a j h => by unfold Qwq at h; unfold Qwr; omega)
        have g42 : I'.1 491 42 = zi k := by rw [q0.1 491 42 (by unfold Qwq; omega)]; exact h42
        refine h114 _ _ (fun I'' e'' => ?_)
        refine ih (k + 1) y.1 y.2 I'' (hx.nx hk hy) (by omega) ?_ ?_ ?_ (by rw [e'', zu_self, g42, zi_succ])
        · rw [e'']
          exact (hq.tr q').zu (Or.inr ⟨rfl, Or.inr rfl⟩)
        · refine ⟨sx'.1, ?_, fun j p hp => ?_⟩
          · rw [e'', zu_at, if_neg (by decide)]
            exact sx'.2.1
          · rw [e'', zu_oo (by decide)]
            exact sx'.2.2 j p hp
        · show (lIt kd k (0, [(0, 0)])).bind _ = _
          rw [hrun]
          exact hy
      unfold shI
      by_cases hz : ldN (topS st) (5 + kd i) = 0
      · rw [if_pos hz, if_pos (show (-1 : Int32) < 0 by decide)]
        unfold rlI
        cases hr : rlN (topS st) with
        | none =>
          rw [if_pos (show (-1 : Int32) < 0 by decide)]
          refine ⟨(zin_iff (by omega)).mpr (by omega), ?_⟩
          have hn : lNx kd i st = none := by
            unfold lNx
            rw [if_pos hz, hr]
          have hK2 := hK J i st k hq hrun hx hn h42
          by_cases c1 : kd i = 10
          · rw [if_pos (show zi (kd i) = 10 by rw [c1]; rfl)]
            by_cases c2 : topS st = 1
            · rw [if_pos (show zi (topS st) = 1 by rw [c2]; rfl)]
              rw [if_pos ⟨c1, c2⟩] at hK2
              exact hK2
            · rw [if_neg (show ¬ zi (topS st) = 1 from fun u => c2 ((zi_eq (b := 1) (by omega) (by decide)).mp u))]
              rw [if_neg (fun u => c2 u.2)] at hK2
              exact hK2
          · rw [if_neg (show ¬ zi (kd i) = 10 from fun u => c1 ((zi_eq (b := 10) (by omega) (by decide)).mp u))]
            rw [if_neg (fun u => c1 u.1)] at hK2
            exact hK2
        | some r =>
          have hr11 := rlN_lt hs21 hr
          obtain ⟨f1, f2⟩ := st_fits s2 s3 s1 t1 t2 hr
          dsimp only
          rw [if_neg (zi_pos (by omega))]
          have hy : lNx kd i st = some (i, byT 0 st r) := by
            unfold lNx
            rw [if_pos hz, hr]
          exact s_reduces hS s3 (by omega) hr11 f1 f2 (fun J2 q2 sx2 => nxt _ J2 hy q2 sx2)
      · rw [if_neg hz, if_neg (zi_pos (by have := ldN_lt (s := topS st) (y := 5 + kd i) hs21 (by omega); omega))]
        have hy : lNx kd i st = some (i + 1, st ++ [(0, ldN (topS st) (5 + kd i))]) := by
          unfold lNx
          rw [if_neg hz]
        rw [hS.2.1]
        refine ⟨(zin_iff (by omega)).mpr (by omega), fun I16 e16 I17 e17 v ev => ?_⟩
        rw [zi_tn (show st.length < 2147483648 by omega)] at e16
        have g16 : I16.1 491 39 = zi st.length := by rw [e16, zu_oo (by decide)]; exact hS.2.1
        rw [g16, zi_succ] at e17
        rw [ev, zi_succ]
        refine nxt _ I17 hy ?_ ⟨?_, ?_, fun j p hj => ?_⟩
        · rw [e17, e16]
          exact (eqQ.rf.zu (Or.inl rfl)).zu (Or.inr ⟨rfl, rfl⟩)
        · rw [List.length_append]
          exact Nat.le_add_left _ _
        · rw [e17, zu_self, List.length_append]
          rfl
        · rw [e17, zu_oo (by decide), e16]
          dsimp only at hj
          by_cases u : j < st.length
          · rw [List.getElem?_append_left u] at hj
            rw [zu_at, if_neg (by omega)]
            exact hS.2.2 j p hj
          · have hj2 := (List.getElem?_eq_some_iff.mp hj).1
            rw [List.length_append] at hj2
            change j < st.length + 1 at hj2
            have hje : j = st.length := by omega
            subst hje
            rw [List.getElem?_append_right (Nat.le_refl _), Nat.sub_self] at hj
            cases hj
            rw [zu_self]
  exact main (18 * e + 18) 0 0 [(0, 0)] I3 LI.st0 (by omega) q3 s3 rfl (by rw [e3, zu_self]; rfl)
theorem s_wrongOf {kd : Nat → Nat} {e : Nat} {I : zI} {K : Int32 → zI → Prop} (hk : KdO kd e) (he : e < 110) (h5 : ∀ i, i ≤ e → I.1 520 i = zi (kd i))
    (hK : ∀ J i st d, eqQ Qwr I J → lIt kd d (0, [(0, 0)]) = some (i, st) → LI e i st d → lNx kd i st = none → K (if kd i = 10 ∧ topS st = 1 then -1 else zi i) J) : w_M_wrongOf I K :=
  s_wrongOf2 hk he h5 (fun J i st d a b c e _ => hK J i st d a b c e)
/-! ===== growing from nothing passes where a TREE's subtrees stand ===== -/
def Rch (kd : Nat → Nat) (x y : Nat × List (Nat × Nat)) : Prop := ∃ d, lIt kd d x = some y
theorem lIt_add {kd : Nat → Nat} {a : Nat} {x : Nat × List (Nat × Nat)} : ∀ b : Nat, lIt kd (a + b) x = (lIt kd a x).bind (lIt kd b)
  | 0 => by
    show lIt kd a x = _
    cases lIt kd a x with
    | none => rfl
    | some y => rfl
  | b + 1 => by
    show (lIt kd (a + b) x).bind _ = _
    rw [lIt_add b]
    cases lIt kd a x with
    | none => rfl
    | some y => rfl
theorem Rch.rf {kd : Nat → Nat} {x : Nat × List (Nat × Nat)} : Rch kd x x := ⟨0, rfl⟩
theorem Rch.tr {kd : Nat → Nat} {x y z : Nat × List (Nat × Nat)} (h1 : Rch kd x y) (h2 : Rch kd y z) : Rch kd x z := by
  obtain ⟨a, ha⟩ := h1
  obtain ⟨b, hb⟩ := h2
  exact ⟨a + b, by rw [lIt_add, ha]; exact hb⟩
theorem Rch.one {kd : Nat → Nat} {i : Nat} {st : List (Nat × Nat)} {y : Nat × List (Nat × Nat)} (h : lNx kd i st = some y) : Rch kd (i, st) y := ⟨1, h⟩
theorem lIt_no {kd : Nat → Nat} {x : Nat × List (Nat × Nat)} (h : lNx kd x.1 x.2 = none) (d : Nat) : lIt kd (d + 1) x = none := by
  rw [Nat.add_comm, lIt_add]
  show (Option.bind (Option.bind (some x) (fun y => lNx kd y.1 y.2)) _) = none
  show (Option.bind (lNx kd x.1 x.2) _) = none
  rw [h]
  rfl
theorem Rch.det {kd : Nat → Nat} {x y z : Nat × List (Nat × Nat)} (h1 : Rch kd x y) (h2 : Rch kd x z) (n1 : lNx kd y.1 y.2 = none) (n2 : lNx kd z.1 z.2 = none) : y = z := by
  obtain ⟨a, ha⟩ := h1
  obtain ⟨b, hb⟩ := h2
  have key : ∀ {a b : Nat} {y z : Nat × List (Nat × Nat)}, a ≤ b → lIt kd a x = some y → lIt kd b x = some z → lNx kd y.1 y.2 = none → y = z := by
    intro a b y z hab ha hb n1
    obtain ⟨k, rfl⟩ := Nat.le.dest hab
    rw [lIt_add, ha] at hb
    change lIt kd k y = some z at hb
    cases k with
    | zero => exact Option.some.inj hb
    | succ k =>
      rw [lIt_no n1] at hb
      cases hb
  by_cases u : a ≤ b
  · exact key u ha hb n1
  · exact (key (by omega) hb ha n2).symm
/-- only the KINDS passed and the next one matter -/
theorem lIt_sh {kd kd' : Nat → Nat} {t t' : Nat} {st : List (Nat × Nat)} : ∀ (d u : Nat) (w : List (Nat × Nat)), lIt kd d (t, st) = some (u, w) → t ≤ u ∧ ((∀ q, q ≤ u - t → kd' (t' + q) = kd (t + q)) → lIt kd' d (t', st) = some (t' + (u - t), w))
  | 0, u, w, h => by
    cases h
    refine ⟨Nat.le_refl _, fun _ => ?_⟩
    rw [Nat.sub_self]
    rfl
  | d + 1, u, w, h => by
    change (lIt kd d (t, st)).bind (fun y => lNx kd y.1 y.2) = some (u, w) at h
    cases h1 : lIt kd d (t, st) with
    | none =>
      rw [h1] at h
      cases h
    | some y =>
      obtain ⟨v, r⟩ := y
      rw [h1] at h
      change lNx kd v r = some (u, w) at h
      obtain ⟨i1, i2⟩ := lIt_sh d v r h1
      have hvu : v ≤ u ∧ u ≤ v + 1 := by
        unfold lNx at h
        by_cases hz : ldN (topS r) (5 + kd v) = 0
        · rw [if_pos hz] at h
          cases hr : rlN (topS r) with
          | none =>
            rw [hr] at h
            cases h
          | some x =>
            rw [hr] at h
            cases h
            omega
        · rw [if_neg hz] at h
          cases h
          omega
      refine ⟨by omega, fun e => ?_⟩
      show (lIt kd' d (t', st)).bind (fun y => lNx kd' y.1 y.2) = _
      rw [i2 (fun q hq => e q (by omega))]
      show lNx kd' (t' + (v - t)) r = _
      have ek : kd' (t' + (v - t)) = kd v := by
        rw [e (v - t) (by omega), show t + (v - t) = v by omega]
      unfold lNx at h ⊢
      rw [ek]
      by_cases hz : ldN (topS r) (5 + kd v) = 0
      · rw [if_pos hz] at h ⊢
        cases hr : rlN (topS r) with
        | none =>
          rw [hr] at h
          cases h
        | some x =>
          rw [hr] at h
          cases h
          rfl
      · rw [if_neg hz] at h ⊢
        cases h
        rw [show t' + (v + 1 - t) = t' + (v - t) + 1 by omega]
theorem Rch.sh {kd kd' : Nat → Nat} {t t' T : Nat} {st w : List (Nat × Nat)} (h : Rch kd (t, st) (t + T, w)) (e : ∀ q, q ≤ T → kd' (t' + q) = kd (t + q)) : Rch kd' (t', st) (t' + T, w) := by
  obtain ⟨d, hd⟩ := h
  have := (lIt_sh (kd' := kd') (t' := t') d _ _ hd).2
  rw [show t + T - t = T by omega] at this
  exact ⟨d, this e⟩
theorem RC.tr {kd : Nat → Nat} {a b : Nat} {x y z : Nat × List (Nat × Nat)} (h1 : lIt kd a x = some y) (h2 : lIt kd b y = some z) : lIt kd (a + b) x = some z := by
  rw [lIt_add, h1]
  exact h2
theorem RC.one {kd : Nat → Nat} {i : Nat} {st : List (Nat × Nat)} {y : Nat × List (Nat × Nat)} (h : lNx kd i st = some y) : lIt kd 1 (i, st) = some y := h
theorem RC.sh {kd kd' : Nat → Nat} {d t t' T : Nat} {st w : List (Nat × Nat)} (h : lIt kd d (t, st) = some (t + T, w)) (e : ∀ q, q ≤ T → kd' (t' + q) = kd (t + q)) : lIt kd' d (t', st) = some (t' + T, w) := by
  have := (lIt_sh (kd' := kd') (t' := t') d _ _ h).2
  rw [show t + T - t = T by omega] at this
  exact this e
theorem sz_cg {m c : Nat} {N N' : Nat → Nd} (h : NdOk m N) (e : ∀ c, c < m → NdE (N c) (N' c)) (hc : c < m) : sz N' c = sz N c := congrArg List.length (po_cg h e hc)
/-- from any stack with s on top: the node c, whose first TOKEN is t, is come to, in as many steps as it has nodes -/
def ownL (N : Nat → Nd) (kd : Nat → Nat) (c t : Nat) : Prop := ∀ r s : Nat, r < 11 → ndR (N c) = r → ndS (N c) = s → ∀ st : List (Nat × Nat), 1 ≤ st.length → topS st = s → lIt kd (sz N c) (t, st) = some (t + ndT (N c), st ++ [(0, ldN s (syN r))])
def TLs (P : Nat → Nat → Prop) (N : Nat → Nd) : List Nat → Nat → Prop
  | [], _ => True
  | c :: l, t => P c t ∧ TLs P N l (t + ndT (N c))
def TLF (N : Nat → Nd) (kd : Nat → Nat) : Nat → Nat → Nat → Prop
  | 0, _, _ => True
  | f + 1, c, t => ownL N kd c t ∧ TLs (TLF N kd f) N (ndC (N c)) t
/-- so for a node and all below -/
def TL (N : Nat → Nd) (kd : Nat → Nat) (c t : Nat) : Prop := ∀ f, TLF N kd f c t
theorem TLs_mono {P Q : Nat → Nat → Prop} {N : Nat → Nd} : ∀ {l : List Nat} {t : Nat}, (∀ c ∈ l, ∀ t, P c t → Q c t) → TLs P N l t → TLs Q N l t
  | [], _, _, _ => trivial
  | c :: l, t, h, h1 => ⟨h c (List.mem_cons_self ..) t h1.1, TLs_mono (fun x hx => h x (List.mem_cons_of_mem _ hx)) h1.2⟩
theorem TLs_all {P : Nat → Nat → Nat → Prop} {N : Nat → Nd} : ∀ {l : List Nat} {t : Nat}, (∀ f, TLs (P f) N l t) → TLs (fun c t => ∀ f, P f c t) N l t
  | [], _, _ => trivial
  | c :: l, t, h => ⟨fun f => (h f).1, TLs_all (fun f => (h f).2)⟩
theorem TL_eq {N : Nat → Nd} {kd : Nat → Nat} {c t : Nat} : TL N kd c t ↔ ownL N kd c t ∧ TLs (TL N kd) N (ndC (N c)) t := by
  constructor
  · intro h
    exact ⟨(h 1).1, TLs_all (P := TLF N kd) (fun f => (h (f + 1)).2)⟩
  · intro h f
    cases f with
    | zero => trivial
    | succ f => exact ⟨h.1, TLs_mono (fun c _ t u => u f) h.2⟩
/-- children, and where they begin -/
theorem TLs_at {P : Nat → Nat → Prop} {N : Nat → Nd} : ∀ {l : List Nat} {t k z : Nat}, TLs P N l t → l[k]? = some z → P z (t + tkS N (l.take k))
  | [], _, k, z, _, hk => by cases hk
  | c :: l, t, 0, z, h, hk => by
    cases hk
    exact h.1
  | c :: l, t, k + 1, z, h, hk => by
    rw [List.getElem?_cons_succ] at hk
    have := TLs_at h.2 hk
    rw [Nat.add_assoc] at this
    rw [List.take_succ_cons, tkS_cons]
    exact this
theorem TL.fl {m : Nat} {N : Nat → Nd} {kd : Nat → Nat} (hN : NdOk m N) (c : Nat) : c < m → ∀ q p t dep : Nat, TL N kd c t → ∀ x ∈ fl N c q p t dep, ∀ j : Nat, x.2.2.1 = (j : Int) → TL N kd x.1 j := by
  induction c using Nat.strongRecOn with
  | ind c ih =>
    intro hc q p t dep h x hx j hj
    rw [fl_eq hN hc] at hx
    rcases List.mem_cons.mp hx with rfl | hx
    · unfold flH at hj ⊢
      dsimp only at hj ⊢
      by_cases u : ndT (N c) = 0
      · rw [if_pos u] at hj
        omega
      · rw [if_neg u] at hj
        have : t = j := by omega
        rw [← this]
        exact h
    · obtain ⟨i, hi⟩ := List.mem_iff_getElem?.mp hx
      obtain ⟨k, z, i', k1, k2, k3, k4⟩ := flL_at (fun y hy p' t' => fl_len hN y (by have := hN.lt hc hy; omega) _ _ _ _) hi
      have hz := hN.lt hc (List.mem_of_getElem? k1)
      exact ih z hz (by omega) _ _ _ _ (TLs_at (TL_eq.mp h).2 k1) x (List.mem_of_getElem? k4) j hj
/-- alike in other KINDS -/
theorem TLs_sh {kd kd' : Nat → Nat} {N : Nat → Nd} {P Q : Nat → Nat → Prop} : ∀ {l : List Nat} {t t' : Nat}, (∀ q, q ≤ tkS N l → kd' (t' + q) = kd (t + q)) → (∀ c ∈ l, ∀ t t', (∀ q, q ≤ ndT (N c) → kd' (t' + q) = kd (t + q)) → P c t → Q c t') → TLs P N l t → TLs Q N l t'
  | [], _, _, _, _, _ => trivial
  | c :: l, t, t', e, h, h1 => by
    rw [tkS_cons] at e
    refine ⟨h c (List.mem_cons_self ..) t t' (fun q hq => e q (by omega)) h1.1, TLs_sh (fun q hq => ?_) (fun x hx => h x (List.mem_cons_of_mem _ hx)) h1.2⟩
    rw [Nat.add_assoc, Nat.add_assoc]
    exact e _ (by omega)
theorem TL.sh {m : Nat} {N : Nat → Nd} {kd kd' : Nat → Nat} (hN : NdOk m N) (c : Nat) : c < m → ∀ t t' : Nat, (∀ q, q ≤ ndT (N c) → kd' (t' + q) = kd (t + q)) → TL N kd c t → TL N kd' c t' := by
  induction c using Nat.strongRecOn with
  | ind c ih =>
    intro hc t t' e h
    obtain ⟨h1, h2⟩ := TL_eq.mp h
    refine TL_eq.mpr ⟨fun r s hr e1 e2 st l1 l2 => RC.sh (h1 r s hr e1 e2 st l1 l2) e, ?_⟩
    rcases hN c hc with ⟨-, e0, -⟩ | ⟨r, s, -, -, -, -, -, -, -, eT⟩
    · rw [e0]
      trivial
    · rw [eT] at e
      exact TLs_sh e (fun x hx u u' e' => ih x (hN.lt hc hx) (by have := hN.lt hc hx; omega) u u' e') h2
/-- nodes alike but for TOKENS' STATES -/
theorem TLs_cg {N N' : Nat → Nd} {P Q : Nat → Nat → Prop} : ∀ {l : List Nat} {t : Nat}, (∀ c ∈ l, ndT (N' c) = ndT (N c)) → (∀ c ∈ l, ∀ t, P c t → Q c t) → TLs P N l t → TLs Q N' l t
  | [], _, _, _, _ => trivial
  | c :: l, t, e, h, h1 => by
    refine ⟨h c (List.mem_cons_self ..) t h1.1, ?_⟩
    rw [e c (List.mem_cons_self ..)]
    exact TLs_cg (fun x hx => e x (List.mem_cons_of_mem _ hx)) (fun x hx => h x (List.mem_cons_of_mem _ hx)) h1.2
def NdF (N N' : Nat → Nd) (c : Nat) : Prop := NdE (N c) (N' c) ∧ (0 ≤ ndR (N c) → ndS (N' c) = ndS (N c))
theorem ownL.cg {N N' : Nat → Nd} {kd : Nat → Nat} {c t : Nat} (hs : sz N' c = sz N c) (e : NdF N N' c) (h : ownL N kd c t) : ownL N' kd c t := by
  obtain ⟨⟨e1, e2, e3, e4, e5, e6⟩, e7⟩ := e
  intro r s hr h1 h2 st l1 l2
  rw [e3, hs]
  rw [e1] at h1
  rw [e7 (by omega)] at h2
  exact h r s hr h1 h2 st l1 l2
theorem TL.cg {m : Nat} {N N' : Nat → Nd} {kd : Nat → Nat} (hN : NdOk m N) (e : ∀ c, c < m → NdF N N' c) (c : Nat) : c < m → ∀ t : Nat, TL N kd c t → TL N' kd c t := by
  induction c using Nat.strongRecOn with
  | ind c ih =>
    intro hc t h
    obtain ⟨h1, h2⟩ := TL_eq.mp h
    refine TL_eq.mpr ⟨h1.cg (sz_cg hN (fun c hc => (e c hc).1) hc) (e c hc), ?_⟩
    rw [(e c hc).1.2.2.2.2.1]
    exact TLs_cg (fun x hx => (e x (by have := hN.lt hc hx; omega)).1.2.2.1) (fun x hx u h' => ih x (hN.lt hc hx) (by have := hN.lt hc hx; omega) u h') h2
/-! ===== the stack ===== -/
def z0 (l : List (Nat × Nat)) : List (Nat × Nat) := l.map (fun p => (0, p.2))
def tkL (N : Nat → Nd) (l : List (Nat × Nat)) : Nat := tkS N (l.map (fun p => p.1))
def lstS (s : Nat) : List (Nat × Nat) → Nat
  | [] => s
  | p :: l => lstS p.2 l
def SL (N : Nat → Nd) (kd : Nat → Nat) : Nat → Nat → List (Nat × Nat) → Prop
  | _, _, [] => True
  | s, t, p :: l => (∀ st : List (Nat × Nat), 1 ≤ st.length → topS st = s → lIt kd (sz N p.1) (t, st) = some (t + ndT (N p.1), st ++ [(0, p.2)])) ∧ TL N kd p.1 t ∧ SL N kd p.2 (t + ndT (N p.1)) l
def szL (N : Nat → Nd) (l : List (Nat × Nat)) : Nat := szS N (l.map (fun p => p.1))
theorem szL_cons {N : Nat → Nd} {p : Nat × Nat} {l : List (Nat × Nat)} : szL N (p :: l) = sz N p.1 + szL N l := szS_cons
theorem tkL_cons {N : Nat → Nd} {p : Nat × Nat} {l : List (Nat × Nat)} : tkL N (p :: l) = ndT (N p.1) + tkL N l := tkS_cons
theorem top_z0 {l : List (Nat × Nat)} : ∀ {st : List (Nat × Nat)}, 1 ≤ st.length → topS (st ++ z0 l) = lstS (topS st) l := by
  induction l with
  | nil =>
    intro st h
    show topS (st ++ []) = _
    rw [List.append_nil]
    rfl
  | cons p l ih =>
    intro st h
    show topS (st ++ ((0, p.2) :: z0 l)) = lstS p.2 l
    rw [show st ++ ((0, p.2) :: z0 l) = (st ++ [(0, p.2)]) ++ z0 l by rw [List.append_assoc]; rfl, ih (by rw [List.length_append]; exact Nat.le_add_left _ _), topS_snoc]
theorem SL.run {N : Nat → Nd} {kd : Nat → Nat} : ∀ {l : List (Nat × Nat)} {s t : Nat}, SL N kd s t l → ∀ st : List (Nat × Nat), 1 ≤ st.length → topS st = s → lIt kd (szL N l) (t, st) = some (t + tkL N l, st ++ z0 l)
  | [], s, t, _, st, h1, h2 => by
    show some (t, st) = some (t + 0, st ++ [])
    rw [List.append_nil]
    rfl
  | p :: l, s, t, h, st, h1, h2 => by
    have a := h.1 st h1 h2
    have b := SL.run h.2.2 (st ++ [(0, p.2)]) (by rw [List.length_append]; exact Nat.le_add_left _ _) topS_snoc
    rw [szL_cons, tkL_cons, ← Nat.add_assoc]
    refine RC.tr a ?_
    rw [List.append_assoc] at b
    exact b
theorem SL_app {N : Nat → Nd} {kd : Nat → Nat} {l2 : List (Nat × Nat)} : ∀ {l : List (Nat × Nat)} {s t : Nat}, SL N kd s t (l ++ l2) ↔ SL N kd s t l ∧ SL N kd (lstS s l) (t + tkL N l) l2
  | [], s, t => by
    show SL N kd s t l2 ↔ True ∧ SL N kd s (t + 0) l2
    rw [Nat.add_zero, true_and]
  | p :: l, s, t => by
    show (_ ∧ _ ∧ SL N kd p.2 (t + ndT (N p.1)) (l ++ l2)) ↔ ((_ ∧ _ ∧ SL N kd p.2 (t + ndT (N p.1)) l) ∧ SL N kd (lstS p.2 l) (t + tkL N (p :: l)) l2)
    rw [SL_app, tkL_cons, ← Nat.add_assoc]
    constructor
    · rintro ⟨a, b, c, d⟩
      exact ⟨⟨a, b, c⟩, d⟩
    · rintro ⟨⟨a, b, c⟩, d⟩
      exact ⟨a, b, c, d⟩
theorem SL.tl {N : Nat → Nd} {kd : Nat → Nat} : ∀ {l : List (Nat × Nat)} {s t : Nat}, SL N kd s t l → TLs (TL N kd) N (l.map (fun p => p.1)) t
  | [], _, _, _ => trivial
  | p :: l, s, t, h => ⟨h.2.1, SL.tl h.2.2⟩
theorem SL.cg {m : Nat} {N N' : Nat → Nd} {kd : Nat → Nat} (hN : NdOk m N) (e : ∀ c, c < m → NdF N N' c) : ∀ {l : List (Nat × Nat)} {s t : Nat}, (∀ p ∈ l, p.1 < m) → SL N kd s t l → SL N' kd s t l
  | [], _, _, _, _ => trivial
  | p :: l, s, t, hl, h => by
    have hp := hl p (List.mem_cons_self ..)
    have eT : ndT (N' p.1) = ndT (N p.1) := (e _ hp).1.2.2.1
    have eS : sz N' p.1 = sz N p.1 := sz_cg hN (fun c hc => (e c hc).1) hp
    refine ⟨fun st h1 h2 => ?_, h.2.1.cg hN e _ hp _, ?_⟩
    · rw [eT, eS]
      exact h.1 st h1 h2
    · rw [eT]
      exact SL.cg hN e (fun q hq => hl q (List.mem_cons_of_mem _ hq)) h.2.2
theorem tkL_cg {N N' : Nat → Nd} : ∀ {l : List (Nat × Nat)}, (∀ p ∈ l, ndT (N' p.1) = ndT (N p.1)) → tkL N' l = tkL N l
  | [], _ => rfl
  | p :: l, h => by
    rw [tkL_cons, tkL_cons, h p (List.mem_cons_self ..), tkL_cg (fun q hq => h q (List.mem_cons_of_mem _ hq))]
theorem tkL_app {N : Nat → Nd} {l2 : List (Nat × Nat)} : ∀ {l : List (Nat × Nat)}, tkL N (l ++ l2) = tkL N l + tkL N l2
  | [] => (Nat.zero_add _).symm
  | p :: l => by
    show tkL N (p :: (l ++ l2)) = _
    rw [tkL_cons, tkL_cons, tkL_app, Nat.add_assoc]
theorem lstS_app {l2 : List (Nat × Nat)} : ∀ {l : List (Nat × Nat)} {s : Nat}, lstS s (l ++ l2) = lstS (lstS s l) l2
  | [], _ => rfl
  | p :: l, s => lstS_app (l := l)
theorem topS_cons {p : Nat × Nat} {l : List (Nat × Nat)} : topS (p :: l) = lstS p.2 l := by
  have : ∀ (l st : List (Nat × Nat)), 1 ≤ st.length → topS (st ++ l) = lstS (topS st) l := by
    intro l
    induction l with
    | nil =>
      intro st h
      rw [List.append_nil]
      rfl
    | cons q l ih =>
      intro st h
      rw [show st ++ (q :: l) = (st ++ [q]) ++ l by rw [List.append_assoc]; rfl, ih _ (by rw [List.length_append]; exact Nat.le_add_left _ _), topS_snoc]
      rfl
  exact this l [p] (Nat.le_refl _)
/-! ===== a TREE that grows again stands where one grown from nothing passes ===== -/
def SG (N : Nat → Nd) (kd : Nat → Nat) (i : Nat) (st : List (Nat × Nat)) : Prop := ∃ l, st = (0, 0) :: l ∧ SL N kd 0 0 l ∧ i = tkL N l
theorem SG.st0 {N : Nat → Nd} {kd : Nat → Nat} : SG N kd 0 [(0, 0)] := ⟨[], rfl, trivial, rfl⟩
theorem snd_was2 {A B n n' i j f k : Nat} (hAn : A + B ≤ n) (hAn' : A + B ≤ n') (hw : wasN A B n n' i = some j) (hs : sndP A B n' n j f) (hk : k ≤ f) (hin : i + f < n) : wasN A B n n' (i + k) = some (j + k) := by
  unfold wasN at hw ⊢
  have a0 : sndP A B n' n j f = (j + f < A ∨ n' - B ≤ j ∨ (A + B = n' ∧ n' = n)) := rfl
  rw [a0] at hs
  by_cases c1 : i < A
  · rw [if_pos c1] at hw
    cases hw
    by_cases c3 : i + k < A
    · rw [if_pos c3]
    · rw [if_neg c3, if_pos (by omega)]
      congr 1
      omega
  · rw [if_neg c1] at hw
    by_cases c2 : n - B ≤ i
    · rw [if_pos c2] at hw
      cases hw
      rw [if_neg (by omega), if_pos (by omega)]
      congr 1
      omega
    · rw [if_neg c2] at hw
      cases hw
theorem byT_app {r : Nat} {st l : List (Nat × Nat)} (h1 : 1 ≤ st.length) (hl : l.length = lnN r) : byT 0 (st ++ l) r = st ++ [(0, ldN (topS st) (syN r))] := by
  have hs : byS (st ++ l) r = topS st := by
    unfold byS topS
    rw [List.length_append, hl, Nat.add_sub_cancel, List.getD_eq_getElem?_getD, List.getD_eq_getElem?_getD, List.getElem?_append_left (by omega)]
  unfold byT
  rw [hs, List.length_append, hl, Nat.add_sub_cancel, List.take_left]
theorem SG.nx {A B n n' e m0 m1 R i m k tk : Nat} {g kd og kdO : Nat → Nat} {N0 N : Nat → Nd} {st : List (Nat × Nat)} {y : Gs} (h0 : NdOk m0 N0) (u0 : UqE m0 N0) (t0 : TreeI m0 N0 R n' og) (hog : ∀ i, i < n → ∀ j, wasN A B n n' i = some j → g i = og j) (ge : GE (flR N0 R) A B n n' g kd) (h : GI (flR N0 R) n n' g kd m1 i m N st k) (hj : GJ m0 N0 g i m N st) (hL : TL N0 kdO R 0) (hkO : ∀ j, j < n' → ndK (N0 (og j)) = kdO j) (hs : SG N kd i st) (e1 : gNx (flR N0 R) A B n n' g e i m N st tk = some y) : SG y.2.2.1 kd y.1 y.2.2.2.1 := by
  have hT := fun b hb => GI.taken (b := b) ge h hb
  have hcw := ge.cw h.2.2.2.2.2.1 h.1
  have hN2 := (h.nx ge e1).2.2.2.2.1
  obtain ⟨g1, g2, g3, g4, g5, g6, g7⟩ := id ge
  obtain ⟨hi, ⟨s1, s2, s3, s4⟩, hf, ⟨hm1, hmk⟩, hN, hF, hg⟩ := id h
  obtain ⟨p0, q1, q2⟩ := top_at s1
  have hs21 : topS st < 21 := q2 ▸ (s3 _ p0 q1).1
  have j6 := hj.2.2.2.2.2
  obtain ⟨l, hst, a1, a2⟩ := hs
  have htop : topS st = lstS 0 l := by rw [hst]; exact topS_cons
  have hlm : ∀ p ∈ l, p.1 < m := fun p hp => by
    obtain ⟨j, hj⟩ := List.mem_iff_getElem?.mp hp
    exact (s3 (j + 1) p (by rw [hst, List.getElem?_cons_succ]; exact hj)).2 (by omega)
  unfold gNx at e1
  cases hb : bestOf (flR N0 R) N A B n n' i (topS st) (g i) with
  | some b =>
    rw [hb] at e1
    cases e1
    obtain ⟨hbm, r', b4', b5', hsy, hld, hf1, hin⟩ := hT b hb
    obtain ⟨j, hw, p, x, r, b1, b2, b3, b4, b5, b6, b7⟩ := bestOf_ok hF hcw hb
    have hb0 : b < m0 := b2 ▸ ((t0.flG h0 u0).1.2 p x b1).1
    have T0 : TL N0 kdO b j := by
      have := hL.fl h0 R t0.1 0 0 0 1 x (List.mem_of_getElem? b1) j b3
      rw [b2] at this
      exact this
    have T1 : TL N kdO b j := T0.cg h0 (fun c hc => ⟨by rw [j6 c hc]; exact NdE.rf, fun _ => by rw [j6 c hc]⟩) b hb0 j
    have T2 : TL N kd b i := T1.sh hN b hbm j i (fun q hq => by
      have w := snd_was2 g3 g4 hw b7 hq hin
      have hin2 : i + q < n := by omega
      have hjn := wasN_lt hin2 (by omega) (by omega) (by omega) w
      have hgo := hog _ hin2 _ w
      rw [← (hg _ hin2).2.2, hgo, j6 _ (t0.2.2.2.2.1 _ hjn).1]
      exact hkO _ hjn)
    refine ⟨l ++ [(b, ldN (topS st) (ndM (N b)))], by dsimp only; rw [hst]; rfl, SL_app.mpr ⟨a1, ?_⟩, ?_⟩
    · rw [Nat.zero_add, ← a2]
      refine ⟨fun w l1 l2 => ?_, T2, trivial⟩
      have er : r' = r := by omega
      dsimp only
      rw [hsy, htop, er]
      exact (TL_eq.mp T2).1 r (lstS 0 l) b4 b5 (by rw [← htop]; exact b6) w l1 l2
    · dsimp only
      rw [tkL_app, ← a2]
      rfl
  | none =>
    rw [hb] at e1
    obtain ⟨hgm, hgR, hgK⟩ := hg i hi
    have hM : ndM (N (g i)) = 5 + kd i := by
      unfold ndM
      rw [hgR, if_pos (by decide), hgK]
    by_cases hz : ldN (topS st) (ndM (N (g i))) = 0
    · rw [if_pos hz] at e1
      cases hr : rlN (topS st) with
      | none =>
        rw [hr] at e1
        cases e1
      | some r =>
        rw [hr] at e1
        cases e1
        have hr11 := rlN_lt hs21 hr
        obtain ⟨f1, f2⟩ := st_fits s2 s3 s1 q1 q2 hr
        have f1' : lnN r < st.length := f1
        have hlen : st.length = l.length + 1 := by rw [hst]; rfl
        have hl12 : l = l.take (l.length - lnN r) ++ l.drop (l.length - lnN r) := (List.take_append_drop _ _).symm
        have et : st.take (st.length - lnN r) = (0, 0) :: l.take (l.length - lnN r) := by
          rw [hst, show ((0, 0) :: l).length - lnN r = (l.length - lnN r) + 1 by show l.length + 1 - lnN r = _; omega, List.take_succ_cons]
        have ed : st.drop (st.length - lnN r) = l.drop (l.length - lnN r) := by
          rw [hst, show ((0, 0) :: l).length - lnN r = (l.length - lnN r) + 1 by show l.length + 1 - lnN r = _; omega, List.drop_succ_cons]
        have ebS : byS st r = lstS 0 (l.take (l.length - lnN r)) := by
          have h1 : byS st r = topS (st.take (st.length - lnN r)) := by
            unfold byS topS
            rw [List.length_take, Nat.min_eq_left (by omega), List.getD_eq_getElem?_getD, List.getD_eq_getElem?_getD, List.getElem?_take, if_pos (by omega)]
          rw [h1, et]
          exact topS_cons
        have ebC : byC st r = (l.drop (l.length - lnN r)).map (fun p => p.1) := by
          unfold byC
          rw [ed]
        rw [hM] at hz
        rw [hl12] at a1
        obtain ⟨c1, c2⟩ := SL_app.mp a1
        have hd : (l.drop (l.length - lnN r)).length = lnN r := by rw [List.length_drop]; omega
        have eF : ∀ c, c < m → NdF N (upN N m (byN N st r e)) c := fun c hc => by
          have : upN N m (byN N st r e) c = N c := upN_o (by omega)
          exact ⟨by rw [this]; exact NdE.rf, fun _ => by rw [this]⟩
        have h1m : ∀ p ∈ l.take (l.length - lnN r), p.1 < m := fun p hp => hlm p (List.mem_of_mem_take hp)
        have h2m : ∀ p ∈ l.drop (l.length - lnN r), p.1 < m := fun p hp => hlm p (List.mem_of_mem_drop hp)
        have eN : upN N m (byN N st r e) m = byN N st r e := upN_self
        have eT : ndT (byN N st r e) = tkL N (l.drop (l.length - lnN r)) := by
          show tkS N (byC st r) = _
          rw [ebC]
          rfl
        have hszm : sz (upN N m (byN N st r e)) m = szL N (l.drop (l.length - lnN r)) + 1 := by
          rw [sz_eq (show NdOk (m + 1) (upN N m (byN N st r e)) from hN2) (Nat.lt_succ_self m), eN]
          show 1 + szS (upN N m (byN N st r e)) (byC st r) = _
          rw [ebC, Nat.add_comm]
          unfold szL szS
          rw [List.map_congr_left (fun c hc => by
            obtain ⟨p, hp, rfl⟩ := List.mem_map.mp hc
            exact sz_cg hN (fun c hc => (eF c hc).1) (h2m p hp))]
        have own : ∀ w : List (Nat × Nat), 1 ≤ w.length → topS w = lstS 0 (l.take (l.length - lnN r)) → lIt kd (sz (upN N m (byN N st r e)) m) (0 + tkL N (l.take (l.length - lnN r)), w) = some (0 + tkL N (l.take (l.length - lnN r)) + ndT (byN N st r e), w ++ [(0, ldN (byS st r) (syN r))]) := by
          intro w w1 w2
          rw [hszm]
          have a := c2.run w w1 w2
          have ei : 0 + tkL N (l.take (l.length - lnN r)) + tkL N (l.drop (l.length - lnN r)) = i := by
            rw [Nat.zero_add, ← tkL_app, List.take_append_drop]
            exact a2.symm
          rw [eT]
          rw [ei] at a ⊢
          refine RC.tr a (RC.one ?_)
          unfold lNx
          have et2 : topS (w ++ z0 (l.drop (l.length - lnN r))) = topS st := by
            rw [top_z0 w1, w2, ← lstS_app, List.take_append_drop, htop]
          rw [et2, if_pos hz, hr]
          dsimp only
          rw [byT_app w1 (by unfold z0; rw [List.length_map]; exact hd), w2, ebS]
        refine ⟨l.take (l.length - lnN r) ++ [(m, ldN (byS st r) (syN r))], ?_, SL_app.mpr ⟨c1.cg hN eF h1m, ?_⟩, ?_⟩
        · show byT m st r = _
          unfold byT
          rw [et]
          rfl
        · dsimp only
          rw [tkL_cg (fun p hp => (eF _ (h1m p hp)).1.2.2.1)]
          refine ⟨fun w w1 w2 => ?_, TL_eq.mpr ⟨?_, ?_⟩, trivial⟩
          · dsimp only
            rw [eN]
            exact own w w1 w2
          · intro r' s' hr' x1 x2 w w1 w2
            rw [eN] at x1 x2 ⊢
            have x1' : (r : Int) = r' := x1
            have x2' : ((byS st r : Nat) : Int) = s' := x2
            have y1 : r' = r := by omega
            have y2 : s' = byS st r := by omega
            rw [y1, y2]
            exact own w w1 (by rw [w2, y2, ebS])
          · rw [eN]
            show TLs _ _ (byC st r) _
            rw [ebC]
            exact (c2.cg hN eF h2m).tl
        · dsimp only
          rw [tkL_app, tkL_cg (fun p hp => (eF _ (h1m p hp)).1.2.2.1)]
          show i = _ + (ndT (upN N m (byN N st r e) m) + 0)
          rw [eN, eT, Nat.add_zero, ← tkL_app, List.take_append_drop]
          exact a2
    · rw [if_neg hz] at e1
      cases e1
      have eF : ∀ c, c < m → NdF N (upN N (g i) (stNd (N (g i)) (topS st))) c := fun c hc => ⟨upN_stE c, fun hr0 => by
        rw [upN_o (fun u => by rw [u, hgR] at hr0; exact absurd hr0 (by decide))]⟩
      have eT : ndT (N (g i)) = 1 := by
        rcases hN _ hgm with ⟨-, -, -, x, -⟩ | ⟨r, s, -, -, x, -⟩
        · exact x
        · omega
      have eT' : ndT (upN N (g i) (stNd (N (g i)) (topS st)) (g i)) = 1 := by
        rw [(eF _ hgm).1.2.2.1]
        exact eT
      have eC : ndC (upN N (g i) (stNd (N (g i)) (topS st)) (g i)) = [] := by
        rw [(eF _ hgm).1.2.2.2.2.1]
        rcases hN _ hgm with ⟨-, x, -⟩ | ⟨r, s, -, -, x, -⟩
        · exact x
        · omega
      have eR : ndR (upN N (g i) (stNd (N (g i)) (topS st)) (g i)) = -2 := by
        rw [(eF _ hgm).1.1]
        exact hgR
      have hsz1 : sz (upN N (g i) (stNd (N (g i)) (topS st))) (g i) = 1 := by
        rw [sz_eq (show NdOk m (upN N (g i) (stNd (N (g i)) (topS st))) from hN2) hgm, eC]
        rfl
      refine ⟨l ++ [(g i, ldN (topS st) (ndM (N (g i))))], by dsimp only; rw [hst]; rfl, SL_app.mpr ⟨a1.cg hN eF hlm, ?_⟩, ?_⟩
      · dsimp only
        rw [tkL_cg (fun p hp => (eF _ (hlm p hp)).1.2.2.1), Nat.zero_add, ← a2]
        refine ⟨fun w w1 w2 => ?_, TL_eq.mpr ⟨fun r s hr x1 => ?_, ?_⟩, trivial⟩
        · dsimp only
          rw [eT', hsz1, hM, htop]
          refine RC.one ?_
          unfold lNx
          rw [hM, htop] at hz
          rw [w2, if_neg hz]
        · rw [eR] at x1
          omega
        · rw [eC]
          trivial
      · dsimp only
        rw [tkL_app, tkL_cg (fun p hp => (eF _ (hlm p hp)).1.2.2.1), ← a2]
        show i + 1 = i + (ndT _ + 0)
        rw [eT']
/-- where growing ends, growing from nothing ends -/
theorem SG.stop {F : List Fl} {A B n n' e m1 i m k tk : Nat} {g kd : Nat → Nat} {N : Nat → Nd} {st : List (Nat × Nat)} (h : GI F n n' g kd m1 i m N st k) (hs : SG N kd i st) (e1 : gNx F A B n n' g e i m N st tk = none) : ∃ w, Rch kd (0, [(0, 0)]) (i, w) ∧ lNx kd i w = none ∧ topS w = topS st := by
  obtain ⟨hi, ⟨s1, s2, s3, s4⟩, hf, ⟨hm1, hmk⟩, hN, hF, hg⟩ := id h
  obtain ⟨l, hst, a1, a2⟩ := hs
  have htop : topS st = lstS 0 l := by rw [hst]; exact topS_cons
  have ht2 : topS ([(0, 0)] ++ z0 l) = topS st := by
    rw [top_z0 (st := [(0, 0)]) (Nat.le_refl 1), htop]
    rfl
  refine ⟨[(0, 0)] ++ z0 l, ?_, ?_, ht2⟩
  · have := a1.run [(0, 0)] (Nat.le_refl 1) rfl
    rw [Nat.zero_add, ← a2] at this
    exact ⟨_, this⟩
  · obtain ⟨hgm, hgR, hgK⟩ := hg i hi
    have hM : ndM (N (g i)) = 5 + kd i := by
      unfold ndM
      rw [hgR, if_pos (by decide), hgK]
    unfold gNx at e1
    cases hb : bestOf F N A B n n' i (topS st) (g i) with
    | some b =>
      rw [hb] at e1
      cases e1
    | none =>
      rw [hb, hM] at e1
      unfold lNx
      rw [ht2]
      by_cases hz : ldN (topS st) (5 + kd i) = 0
      · dsimp only at e1
        rw [if_pos hz] at e1 ⊢
        cases hr : rlN (topS st) with
        | none => rfl
        | some r =>
          rw [hr] at e1
          cases e1
      · dsimp only at e1
        rw [if_neg hz] at e1
        cases e1
/-! ===== what more holds of the state: a TEXT that is not good can not be grown from nothing ===== -/
def kdF (l : List (Nat × Nat × Nat)) : Nat → Nat := fun i => (l.getD i (10, 0, 0)).1
def LrAcc (l : List (Nat × Nat × Nat)) : Prop := ∃ w, Rch (kdF l) (0, [(0, 0)]) (l.length - 1, w) ∧ lNx (kdF l) (l.length - 1) w = none ∧ topS w = 1
def MoL (N : Nat → Nd) (y : Mo) : Prop := TL N (kdF (lexL (moG y))) (moR y) 0 ∧ (moB y = false → ¬ LrAcc (lexL (moT y)))
def Lv (x : Sg) : Prop := MoL (sgN x) (sgC x) ∧ (∀ y ∈ sgA x, MoL (sgN x) y) ∧ ∀ y ∈ sgZ x, MoL (sgN x) y
theorem kdF_at {l : List (Nat × Nat × Nat)} {i : Nat} {x : Nat × Nat × Nat} (h : l[i]? = some x) : kdF l i = x.1 := by
  unfold kdF
  rw [List.getD_eq_getElem?_getD, h]
  rfl
theorem MoL.cg {m m' : Nat} {N N' : Nat → Nd} {y : Mo} (hN : NdOk m N) (o : MoOk m N y) (e : ∀ k, k < m → N' k = N k) (h : MoL N y) : MoL N' y :=
  ⟨h.1.cg hN (fun c hc => ⟨by rw [e c hc]; exact NdE.rf, fun _ => by rw [e c hc]⟩) _ o.2.2.2.1.1 0, h.2⟩
theorem chg_lv {x : Sg} {d tp : List Int32} (hv : Iv x) (hd : txOk d) (hl : Lv x) : Lv (chg x d tp) := by
  obtain ⟨m1, g, N1, k, y, hreg, hn, hrun, -, q1, q2, q3, q4, q5, q6, q7, q8⟩ := reg_ok hv hd
  obtain ⟨-, hN, hu, -, -, -, -, hC, hA, hZ, -⟩ := hv
  obtain ⟨c1, c2, c3, c4, c5⟩ := id hC
  obtain ⟨l1, l2, l3⟩ := hl
  have hx := lex_lxo hd
  have hx' := lex_lxo c2
  obtain ⟨ge, gi, gj, hog, hnew, hm0, hm1, htk, hinj⟩ := naming_ok hN hu c4 c5 hx hx' hn
  have hkO : ∀ j, j < (lexL (moG (sgC x))).length → ndK (sgN x (moO (sgC x) j)) = kdF (lexL (moG (sgC x))) j := fun j hj => by
    have hj2 : (lexL (moG (sgC x)))[j]? = some ((lexL (moG (sgC x)))[j]'hj) := List.getElem?_eq_getElem hj
    rw [kdF_at hj2]
    exact (c5 j _ hj2).1
  have hS := gRun_inv (e := sgE x + 1) ge (P := fun z => GJ (sgM x) (sgN x) g z.1 z.2.1 z.2.2.1 z.2.2.2.1 ∧ SG z.2.2.1 (fun i => ((lexL d).getD i (10, 0, 0)).1) z.1 z.2.2.2.1) (fun a b k ha hp he => ⟨hp.1.nx hN c4 hog hnew hm0 ge ha he, hp.2.nx hN hu c4 hog ge ha hp.1 l1.1 hkO he⟩) 2000 0 (0, m1, N1, [(0, 0)], 0) gi ⟨gj, SG.st0⟩
  obtain ⟨k', y', e1, gi', hnone⟩ := gRun_end (e := sgE x + 1) ge 2000 0 (0, m1, N1, [(0, 0)], 0) gi (by omega)
  rw [hrun] at e1 hS
  cases e1
  have hS2 := hS.2
  dsimp only at hS2
  have hY : regY x d = y := by
    unfold regY
    rw [hreg]
  have hA2 : ∀ z ∈ (sgC x :: sgA x).take 20, MoOk (sgM x) (sgN x) z ∧ MoL (sgN x) z := fun z hz => by
    rcases List.mem_cons.mp (List.mem_of_mem_take hz) with rfl | hz
    · exact ⟨hC, l1⟩
    · exact ⟨hA z hz, l2 z hz⟩
  unfold Lv chg newC
  rw [hY]
  by_cases hg : y.1 + 1 = (lexL d).length ∧ topS y.2.2.2.1 = 1
  · rw [if_pos hg, if_pos hg, if_pos hg]
    obtain ⟨b, e1, e2⟩ := q8 hg.1 hg.2
    refine ⟨⟨?_, fun u => by cases u⟩, fun z hz => (hA2 z hz).2.cg (m' := y.2.1) hN (hA2 z hz).1 q1, fun z hz => by cases hz⟩
    show TL y.2.2.1 (kdF (lexL d)) (regR x d) 0
    obtain ⟨l, a1, a2, a3⟩ := hS2
    rw [e1] at a1
    cases a1
    exact a2.2.1
  · rw [if_neg hg, if_neg hg, if_neg hg]
    refine ⟨⟨l1.1, fun _ u => hg ?_⟩, fun z hz => (hA2 z hz).2, fun z hz => by cases hz⟩
    obtain ⟨w, w1, w2, w3⟩ := (show LrAcc (lexL d) from u)
    have hS3 : SG y.2.2.1 (kdF (lexL d)) y.1 y.2.2.2.1 := hS2
    obtain ⟨w', v1, v2, v3⟩ := SG.stop (kd := kdF (lexL d)) gi' hS3 hnone
    have e : ((lexL d).length - 1, w) = (y.1, w') := Rch.det w1 v1 w2 v2
    have e1 : (lexL d).length - 1 = y.1 := congrArg Prod.fst e
    have e2 : w = w' := congrArg Prod.snd e
    have := hx.2.1
    refine ⟨by omega, ?_⟩
    rw [← v3, ← e2]
    exact w3
theorem doC_lv {x : Sg} {d : List Int32} {bt : Bool} (hv : Iv x) (hd : BtL d) (hl : Lv x) : Lv (doC x d bt).2 := by
  unfold doC
  by_cases u : 300 < d.length ∨ 3000 ≤ sgM x ∨ 3900 ≤ (sgP x).length ∨ 100 < (lexL d).length
  · rw [if_pos u]
    exact hl
  · rw [if_neg u]
    exact chg_lv hv ⟨by omega, hd.at, by omega⟩ hl
theorem undo_lv {x : Sg} (hl : Lv x) : Lv (undoR x).2 := by
  obtain ⟨l1, l2, l3⟩ := id hl
  unfold undoR
  cases hA : sgA x with
  | nil => exact hl
  | cons y A =>
    rw [hA] at l2
    refine ⟨l2 y (List.mem_cons_self ..), fun z hz => l2 z (List.mem_cons_of_mem _ hz), fun z hz => ?_⟩
    rcases List.mem_cons.mp hz with rfl | hz
    · exact l1
    · exact l3 z hz
theorem redo_lv {x : Sg} (hl : Lv x) : Lv (redoR x).2 := by
  obtain ⟨l1, l2, l3⟩ := id hl
  unfold redoR
  cases hZ : sgZ x with
  | nil => exact hl
  | cons y Z =>
    rw [hZ] at l3
    refine ⟨l3 y (List.mem_cons_self ..), fun z hz => ?_, fun z hz => l3 z (List.mem_cons_of_mem _ hz)⟩
    rcases List.mem_cons.mp hz with rfl | hz
    · exact l1
    · exact l2 z hz
/-- so many steps from nothing as the TREE has nodes -/
def FrM (N : Nat → Nd) (y : Mo) : Prop := lIt (kdF (lexL (moG y))) (sz N (moR y)) (0, [(0, 0)]) = some ((lexL (moG y)).length - 1, [(0, 0), (0, 1)])
def Fr (x : Sg) : Prop := FrM (sgN x) (sgC x) ∧ (∀ y ∈ sgA x, FrM (sgN x) y) ∧ ∀ y ∈ sgZ x, FrM (sgN x) y
theorem FrM.cg {m : Nat} {N N' : Nat → Nd} {y : Mo} (hN : NdOk m N) (o : MoOk m N y) (e : ∀ k, k < m → N' k = N k) (h : FrM N y) : FrM N' y := by
  unfold FrM at h ⊢
  rw [sz_cg hN (fun c hc => by rw [e c hc]; exact NdE.rf) o.2.2.2.1.1]
  exact h
theorem chg_fr {x : Sg} {d tp : List Int32} (hv : Iv x) (hd : txOk d) (hl : Lv x) (hf : Fr x) : Fr (chg x d tp) := by
  obtain ⟨m1, g, N1, k, y, hreg, hn, hrun, -, q1, q2, q3, q4, q5, q6, q7, q8⟩ := reg_ok hv hd
  obtain ⟨-, hN, hu, -, -, -, -, hC, hA, hZ, -⟩ := hv
  obtain ⟨c1, c2, c3, c4, c5⟩ := id hC
  obtain ⟨l1, l2, l3⟩ := hl
  obtain ⟨f1, f2, f3⟩ := hf
  have hx := lex_lxo hd
  have hx' := lex_lxo c2
  obtain ⟨ge, gi, gj, hog, hnew, hm0, hm1, htk, hinj⟩ := naming_ok hN hu c4 c5 hx hx' hn
  have hkO : ∀ j, j < (lexL (moG (sgC x))).length → ndK (sgN x (moO (sgC x) j)) = kdF (lexL (moG (sgC x))) j := fun j hj => by
    have hj2 : (lexL (moG (sgC x)))[j]? = some ((lexL (moG (sgC x)))[j]'hj) := List.getElem?_eq_getElem hj
    rw [kdF_at hj2]
    exact (c5 j _ hj2).1
  have hS := gRun_inv (e := sgE x + 1) ge (P := fun z => GJ (sgM x) (sgN x) g z.1 z.2.1 z.2.2.1 z.2.2.2.1 ∧ SG z.2.2.1 (fun i => ((lexL d).getD i (10, 0, 0)).1) z.1 z.2.2.2.1) (fun a b k ha hp he => ⟨hp.1.nx hN c4 hog hnew hm0 ge ha he, hp.2.nx hN hu c4 hog ge ha hp.1 l1.1 hkO he⟩) 2000 0 (0, m1, N1, [(0, 0)], 0) gi ⟨gj, SG.st0⟩
  rw [hrun] at hS
  have hS2 := hS.2
  dsimp only at hS2
  have hY : regY x d = y := by
    unfold regY
    rw [hreg]
  have hA2 : ∀ z ∈ (sgC x :: sgA x).take 20, MoOk (sgM x) (sgN x) z ∧ FrM (sgN x) z := fun z hz => by
    rcases List.mem_cons.mp (List.mem_of_mem_take hz) with rfl | hz
    · exact ⟨hC, f1⟩
    · exact ⟨hA z hz, f2 z hz⟩
  unfold Fr chg newC
  rw [hY]
  by_cases hg : y.1 + 1 = (lexL d).length ∧ topS y.2.2.2.1 = 1
  · rw [if_pos hg, if_pos hg, if_pos hg]
    obtain ⟨b, e1, e2⟩ := q8 hg.1 hg.2
    refine ⟨?_, fun z hz => (hA2 z hz).2.cg hN (hA2 z hz).1 q1, fun z hz => by cases hz⟩
    show lIt (kdF (lexL d)) (sz y.2.2.1 (regR x d)) (0, [(0, 0)]) = some ((lexL d).length - 1, [(0, 0), (0, 1)])
    obtain ⟨l, a1, a2, a3⟩ := hS2
    rw [e1] at a1
    cases a1
    have := a2.1 [(0, 0)] (Nat.le_refl 1) rfl
    dsimp only at this
    have e3 : y.1 = ndT (y.2.2.1 (regR x d)) + 0 := a3
    rw [show 0 + ndT (y.2.2.1 (regR x d)) = (lexL d).length - 1 by omega] at this
    exact this
  · rw [if_neg hg, if_neg hg, if_neg hg]
    exact ⟨f1, fun z hz => (hA2 z hz).2, fun z hz => by cases hz⟩
theorem doC_fr {x : Sg} {d : List Int32} {bt : Bool} (hv : Iv x) (hd : BtL d) (hl : Lv x) (hf : Fr x) : Fr (doC x d bt).2 := by
  unfold doC
  by_cases u : 300 < d.length ∨ 3000 ≤ sgM x ∨ 3900 ≤ (sgP x).length ∨ 100 < (lexL d).length
  · rw [if_pos u]
    exact hf
  · rw [if_neg u]
    exact chg_fr hv ⟨by omega, hd.at, by omega⟩ hl hf
theorem undo_fr {x : Sg} (hf : Fr x) : Fr (undoR x).2 := by
  obtain ⟨l1, l2, l3⟩ := id hf
  unfold undoR
  cases hA : sgA x with
  | nil => exact hf
  | cons y A =>
    rw [hA] at l2
    refine ⟨l2 y (List.mem_cons_self ..), fun z hz => l2 z (List.mem_cons_of_mem _ hz), fun z hz => ?_⟩
    rcases List.mem_cons.mp hz with rfl | hz
    · exact l1
    · exact l3 z hz
theorem redo_fr {x : Sg} (hf : Fr x) : Fr (redoR x).2 := by
  obtain ⟨l1, l2, l3⟩ := id hf
  unfold redoR
  cases hZ : sgZ x with
  | nil => exact hf
  | cons y Z =>
    rw [hZ] at l3
    refine ⟨l3 y (List.mem_cons_self ..), fun z hz => ?_, fun z hz => l3 z (List.mem_cons_of_mem _ hz)⟩
    rcases List.mem_cons.mp hz with rfl | hz
    · exact l1
    · exact l2 z hz
/-! ===== KINDS tried: the model ===== -/
theorem in_idx {a : Int32} {n : Nat} (hn : n < 2147483648) (h : 0 ≤ a ∧ a ≤ zi n - 1) : ∃ k, k < n ∧ a = zi k := by
  obtain ⟨k, hk, rfl⟩ := zi_of h.1
  refine ⟨k, ?_, rfl⟩
  by_cases u : n = 0
  · subst u
    exfalso
    have h1 := Int32.le_trans h.1 h.2
    revert h1
    decide
  · have e : zi n - 1 = zi (n - 1) := zi_sub (b := 1) (by omega)
    rw [e] at h
    have := (zi_le hk (by omega)).mp h.2
    omega
def Qlt (a j : Nat) : Prop := a = 520 ∨ (a = 491 ∧ j = 41)
theorem s_laysTry {n : Nat} {a b c k : Int32} {I : zI} {K : zI → Prop} (h15 : I.1 491 15 = zi n) (hn : 1 ≤ n ∧ n ≤ 100) (h1 : ∀ i, i < n → ∃ y : Nat, y < 12 ∧ I.1 501 i = zi y) (hlast : I.1 501 (n - 1) = zi 10) (hL : zi (n - 1) < a ∨ a + b ≤ zi (n - 1)) (hc : (∀ i, i < n → zi i ≠ c) ∨ ∃ k' : Nat, k' < 12 ∧ k = zi k')
    (hK : ∀ J kd e, eqQ Qlt I J → KdO kd e → e < 110 → (∀ i, i ≤ e → J.1 520 i = zi (kd i)) → K J) : w_M_laysTry a b c k I K := by
  unfold w_M_laysTry
  intro I1 e1
  intro P8 h8
  have q1 : eqQ Qlt I I1 := by rw [e1]; exact eqQ.rf.zu (Or.inr ⟨rfl, rfl⟩)
  have push : ∀ (J I7 I8 : zI) (m y : Nat) (kd : Nat → Nat), m < 120 → y < 12 → eqQ Qlt I J → J.1 491 41 = zi m → (∀ q, q < m → J.1 520 q = zi (kd q) ∧ kd q < 12) → I7 = zu J 520 (Int32.toNatClampNeg (J.1 491 41)) (zi y) → I8 = zu I7 491 41 ((I7.1 491 41) + 1) → eqQ Qlt I I8 ∧ I8.1 491 41 = zi (m + 1) ∧ ∀ q, q < m + 1 → I8.1 520 q = zi ((fun q => if q = m then y else kd q) q) ∧ (fun q => if q = m then y else kd q) q < 12 := by
    intro J I7 I8 m y kd hm hy q h41 hkd e7 e8
    rw [h41, zi_tn (show m < 2147483648 by omega)] at e7
    have g7 : I7.1 491 41 = zi m := by rw [e7, zu_oo (by decide)]; exact h41
    rw [g7, zi_succ] at e8
    refine ⟨?_, by rw [e8, zu_self], fun p hp => ?_⟩
    · rw [e8, e7]
      exact (q.zu (Or.inl rfl)).zu (Or.inr ⟨rfl, rfl⟩)
    · rw [e8, zu_oo (by decide), e7]
      dsimp only
      by_cases u : p = m
      · rw [if_pos u, u, zu_self]
        exact ⟨rfl, hy⟩
      · rw [if_neg u, zu_at, if_neg (by omega)]
        exact hkd p (by omega)
  have main : ∀ (d i m : Nat) (kd : Nat → Nat) (J : zI), i + d = n → eqQ Qlt I J → J.1 491 41 = zi m → (m ≤ i ∨ (m ≤ i + 1 ∧ ∀ j, i ≤ j → j < n → zi j ≠ c)) → (∀ q, q < m → J.1 520 q = zi (kd q) ∧ kd q < 12) → (i = n → 1 ≤ m ∧ kd (m - 1) = 10) → P8 (zi i) J := by
    intro d
    induction d with
    | zero =>
      intro i m kd J hi q h41 hm hkd hend
      refine h8 _ _ ?_
      have hin : i = n := by omega
      obtain ⟨m1, m2⟩ := hend hin
      rw [show J.1 491 15 = zi n by rw [q.1 491 15 (by unfold Qlt; omega)]; exact h15, if_pos ((zi_le (by omega) (by omega)).mpr (by omega))]
      refine hK J kd (m - 1) q ⟨fun p hp => (hkd p (by omega)).2, fun s hs => ?_⟩ (by omega) (fun p hp => (hkd p (by omega)).1)
      rw [m2]
      exact end_fin s hs
    | succ d ih =>
      intro i m kd J hi q h41 hm hkd hend
      refine h8 _ _ ?_
      rw [show J.1 491 15 = zi n by rw [q.1 491 15 (by unfold Qlt; omega)]; exact h15, if_neg (fun u => by have := (zi_le (by omega) (by omega)).mp u; omega)]
      intro P44 h44
      have two : ∀ (J' : zI) (m' : Nat) (kd' : Nat → Nat), eqQ Qlt I J' → J'.1 491 41 = zi m' → (m' ≤ i ∨ (m' ≤ i + 1 ∧ ∀ j, i + 1 ≤ j → j < n → zi j ≠ c)) → (∀ q, q < m' → J'.1 520 q = zi (kd' q) ∧ kd' q < 12) → P44 J' := by
        intro J' m' kd' q' h41' hm' hkd'
        refine h44 J' ?_
        intro P87 h87 P61 h61
        have put : P61 := by
          refine h61 ⟨(zin_iff (by omega)).mpr (by omega), ?_⟩
          obtain ⟨y, hy, ey⟩ := h1 i (by omega)
          rw [h41', zi_tn (show i < 2147483648 by omega), show J'.1 501 i = zi y by rw [q'.1 501 i (by unfold Qlt; omega)]; exact ey]
          refine ⟨(zin_iff (by omega)).mpr (by omega), fun I7 e7 I8 e8 => ?_⟩
          rw [← h41'] at e7
          obtain ⟨p1, p2, p3⟩ := push J' I7 I8 m' y kd' (by omega) hy q' h41' hkd' e7 e8
          refine h87 I8 (fun v ev => ?_)
          rw [ev, zi_succ]
          refine ih (i + 1) (m' + 1) _ I8 (by omega) p1 p2 ?_ p3 (fun u => ⟨by omega, ?_⟩)
          · rcases hm' with h | h
            · exact Or.inl (by omega)
            · exact Or.inr ⟨by omega, h.2⟩
          · rw [Nat.add_sub_cancel, if_pos rfl]
            have : i = n - 1 := by omega
            rw [this, hlast] at ey
            exact ((zi_eq (by omega) (by omega)).mp ey).symm
        split
        · exact put
        · rename_i n1
          split
          · exact put
          · rename_i n2
            refine h87 J' (fun v ev => ?_)
            rw [ev, zi_succ]
            refine ih (i + 1) m' kd' J' (by omega) q' h41' (Or.inl (by omega)) hkd' (fun u => ?_)
            have : i = n - 1 := by omega
            rw [this] at n1 n2
            rcases hL with h | h
            · exact absurd h n1
            · exact absurd h n2
      by_cases hic : zi i = c
      · rw [if_pos hic]
        have hmi : m ≤ i := by
          rcases hm with h | h
          · exact h
          · exact absurd hic (h.2 i (Nat.le_refl _) (by omega))
        rcases hc with h | ⟨k', hk', ek⟩
        · exact absurd hic (h i (by omega))
        · rw [h41]
          refine ⟨(zin_iff (by omega)).mpr (by omega), fun I11 e11 I12 e12 => ?_⟩
          rw [← h41, ek] at e11
          obtain ⟨p1, p2, p3⟩ := push J I11 I12 m k' kd (by omega) hk' q h41 hkd e11 e12
          refine two I12 (m + 1) _ p1 p2 (Or.inr ⟨by omega, fun j hj1 hj2 u => ?_⟩) p3
          rw [← hic] at u
          have := (zi_eq (by omega) (by omega)).mp u
          omega
      · rw [if_neg hic]
        refine two J m kd q h41 ?_ hkd
        rcases hm with h | h
        · exact Or.inl h
        · exact Or.inr ⟨h.1, fun j hj1 hj2 => h.2 j (by omega) hj2⟩
  exact main n 0 0 (fun _ => 0) I1 (by omega) q1 (by rw [e1, zu_self]; rfl) (Or.inl (Nat.le_refl _)) (fun q hq => by omega) (fun u => by omega)
/-- all of them as they are -/
theorem s_laysAllK {n : Nat} {kd : Nat → Nat} {I : zI} {K : zI → Prop} (h15 : I.1 491 15 = zi n) (hn : n ≤ 100) (h1 : ∀ i, i < n → I.1 501 i = zi (kd i)) (hK : ∀ J, eqQ Qlt I J → (∀ i, i < n → J.1 520 i = zi (kd i)) → K J) : w_M_laysTry (-1) 0 (-1) (-1) I K := by
  unfold w_M_laysTry
  intro I1 e1
  intro P8 h8
  have q1 : eqQ Qlt I I1 := by rw [e1]; exact eqQ.rf.zu (Or.inr ⟨rfl, rfl⟩)
  have main : ∀ (d i : Nat) (J : zI), i + d = n → eqQ Qlt I J → J.1 491 41 = zi i → (∀ q, q < i → J.1 520 q = zi (kd q)) → P8 (zi i) J := by
    intro d
    induction d with
    | zero =>
      intro i J hi q h41 hkd
      refine h8 _ _ ?_
      rw [show J.1 491 15 = zi n by rw [q.1 491 15 (by unfold Qlt; omega)]; exact h15, if_pos ((zi_le (by omega) (by omega)).mpr (by omega))]
      exact hK J q (fun p hp => hkd p (by omega))
    | succ d ih =>
      intro i J hi q h41 hkd
      refine h8 _ _ ?_
      rw [show J.1 491 15 = zi n by rw [q.1 491 15 (by unfold Qlt; omega)]; exact h15, if_neg (fun u => by have := (zi_le (by omega) (by omega)).mp u; omega)]
      intro P44 h44
      have hneg : ∀ w : Int32, 0 ≤ w → ¬ w < -1 ∧ w ≠ -1 ∧ -1 + 0 ≤ w := fun w hw => by
        refine ⟨fun u => ?_, fun u => ?_, ?_⟩
        · have := Int32.lt_of_le_of_lt hw u
          revert this
          decide
        · rw [u] at hw
          revert hw
          decide
        · exact Int32.le_trans (by decide) hw
      obtain ⟨w1, w2, w3⟩ := hneg (zi i) (zi_ge (by omega))
      rw [if_neg w2]
      refine h44 J ?_
      intro P87 h87 P61 h61
      rw [if_neg w1, if_pos w3]
      refine h61 ⟨(zin_iff (by omega)).mpr (by omega), ?_⟩
      rw [h41, zi_tn (show i < 2147483648 by omega), show J.1 501 i = zi (kd i) by rw [q.1 501 i (by unfold Qlt; omega)]; exact h1 i (by omega)]
      refine ⟨(zin_iff (by omega)).mpr (by omega), fun I7 e7 I8 e8 => h87 I8 (fun v ev => ?_)⟩
      have g7 : I7.1 491 41 = zi i := by rw [e7, zu_oo (by decide)]; exact h41
      rw [g7, zi_succ] at e8
      rw [ev, zi_succ]
      refine ih (i + 1) I8 (by omega) ?_ (by rw [e8, zu_self]) (fun p hp => ?_)
      · rw [e8, e7]
        exact (q.zu (Or.inl rfl)).zu (Or.inr ⟨rfl, rfl⟩)
      · rw [e8, zu_oo (by decide), e7]
        by_cases u : p = i
        · rw [u, zu_self]
        · rw [zu_at, if_neg (by omega)]
          exact hkd p (by omega)
  exact main n 0 I1 (by omega) q1 (by rw [e1, zu_self]; rfl) (fun q hq => by omega)
/-! ===== fresh, in the way, expected, mend: the model ===== -/
def Qwy (a j : Nat) : Prop := a = 519 ∨ a = 520 ∨ (a = 491 ∧ (j = 39 ∨ j = 41 ∨ j = 42))
theorem Qlt_wy {I J : zI} (q : eqQ Qlt I J) : eqQ Qwy I J := q.mono (fun a j h => by unfold Qlt at h; unfold Qwy; omega)
theorem Qwr_wy {I J : zI} (q : eqQ Qwr I J) : eqQ Qwy I J := q.mono (fun a j h => by unfold Qwr at h; unfold Qwy; omega)
theorem Qwy_mo {I J : zI} (q : eqQ Qwy I J) : eqQ Qmo I J := q.mono (fun a j h => by unfold Qwy at h; unfold Qmo; omega)
theorem RM.wy {I J : zI} {x : Sg} (hv : Iv x) (h : RM I x) (q : eqQ Qwy I J) : RM J x := RM.kp (tp := x.1) hv h (fun a j u => q.1 a j (by unfold Qwy; omega)) (fun a j u => q.2 a j (by unfold Qwy; omega))
/-- what holds of the tokens as they are now -/
theorem kd_ok {l : List Int32} (h : txOk l) : 1 ≤ (lexL l).length ∧ (lexL l).length ≤ 100 ∧ KdO (kdF (lexL l)) ((lexL l).length - 1) ∧ kdF (lexL l) ((lexL l).length - 1) = 10 ∧ ∀ i, i < (lexL l).length → (lexL l)[i]? = some ((lexL l).getD i (10, 0, 0)) := by
  obtain ⟨o1, o2, o3, o4⟩ := lex_lxo h
  have hat : ∀ i, i < (lexL l).length → (lexL l)[i]? = some ((lexL l).getD i (10, 0, 0)) := fun i hi => by
    rw [List.getD_eq_getElem?_getD, List.getElem?_eq_getElem hi]
    rfl
  have hlast : kdF (lexL l) ((lexL l).length - 1) = 10 := (o4 _ _ (hat _ (by omega))).mpr (by omega)
  refine ⟨o2, o3, ⟨fun i hi => ?_, fun s hs => ?_⟩, hlast, hat⟩
  · exact (o1 _ (List.mem_of_getElem? (hat i (by omega)))).1
  · rw [hlast]
    exact end_fin s hs
theorem kd_end {l : List Int32} (h : txOk l) {i : Nat} (hi : i < (lexL l).length) (e : kdF (lexL l) i = 10) : i = (lexL l).length - 1 := by
  obtain ⟨o1, o2, o3, o4⟩ := lex_lxo h
  have := (o4 _ _ ((kd_ok h).2.2.2.2 i hi)).mp e
  omega
theorem now_kd {I : zI} {x : Sg} (hv : Iv x) (h : RM I x) : I.1 491 15 = zi (lexL (moT (sgC x))).length ∧ ∀ i, i < (lexL (moT (sgC x))).length → I.1 501 i = zi (kdF (lexL (moT (sgC x))) i) := by
  have hN := h.2.2.2.2.2.2.2.1
  have hk := kd_ok hv.2.2.2.2.2.2.2.1.1
  exact ⟨hN.2.2.1, fun i hi => (hN.2.2.2.1 i _ (hk.2.2.2.2 i hi)).1⟩
theorem s_fresh {x : Sg} {I : zI} {K : Int32 → zI → Prop} (hv : Iv x) (hR : RM I x) (hK : ∀ v J, eqQ Qmo I J → RM J x → K v J) : w_M_fresh I K := by
  unfold w_M_fresh
  have hk := kd_ok hv.2.2.2.2.2.2.2.1.2.1
  obtain ⟨k1, k2, k3, k4, k5⟩ := hk
  have hU := hR.2.2.2.2.2.2.2.1.2.2.2.2.2.2.1
  obtain ⟨u1, u2⟩ := hU
  intro P2 h2
  have main : ∀ (d i : Nat) (J : zI), i + d = (lexL (moG (sgC x))).length → eqQ Qwy I J → (∀ q, q < i → J.1 520 q = zi (kdF (lexL (moG (sgC x))) q)) → P2 (zi i) J := by
    intro d
    induction d with
    | zero =>
      intro i J hi q hkd
      refine h2 _ _ ?_
      rw [show J.1 491 19 = zi (lexL (moG (sgC x))).length by rw [q.1 491 19 (by unfold Qwy; omega)]; exact u1, if_pos ((zi_le (by omega) (by omega)).mpr (by omega))]
      refine s_wrongOf k3 (by omega) (fun p hp => hkd p (by omega)) (fun J2 i2 st d2 q2 _ _ _ => ?_)
      have q3 := q.tr (Qwr_wy q2)
      exact hK _ J2 (Qwy_mo q3) (hR.wy hv q3)
    | succ d ih =>
      intro i J hi q hkd
      refine h2 _ _ ?_
      rw [show J.1 491 19 = zi (lexL (moG (sgC x))).length by rw [q.1 491 19 (by unfold Qwy; omega)]; exact u1, if_neg (fun u => by have := (zi_le (by omega) (by omega)).mp u; omega)]
      refine ⟨(zin_iff (by omega)).mpr (by omega), (zin_iff (by omega)).mpr (by omega), fun I5 e5 v ev => ?_⟩
      have g : J.1 504 i = zi (kdF (lexL (moG (sgC x))) i) := by
        rw [q.1 504 i (by unfold Qwy; omega)]
        exact (u2 i _ (k5 i (by omega))).1
      rw [zi_tn (show i < 2147483648 by omega), g] at e5
      rw [ev, zi_succ]
      refine ih (i + 1) I5 (by omega) ?_ (fun p hp => ?_)
      · rw [e5]
        exact q.zu (Or.inr (Or.inl rfl))
      · rw [e5]
        by_cases u : p = i
        · rw [u, zu_self]
        · rw [zu_at, if_neg (by omega)]
          exact hkd p (by omega)
  exact main (lexL (moG (sgC x))).length 0 I (by omega) eqQ.rf (fun q hq => by omega)
/-- some KINDS tried: wherever it ends -/
theorem try_then {x : Sg} {a b c k : Int32} {I : zI} {K : Int32 → zI → Prop} (hv : Iv x) (hR : RM I x) (hL : zi ((lexL (moT (sgC x))).length - 1) < a ∨ a + b ≤ zi ((lexL (moT (sgC x))).length - 1)) (hc : (∀ i, i < (lexL (moT (sgC x))).length → zi i ≠ c) ∨ ∃ k' : Nat, k' < 12 ∧ k = zi k') (hK : ∀ v J, eqQ Qwy I J → K v J) : w_M_laysTry a b c k I (fun J => w_M_wrongOf J K) := by
  obtain ⟨k1, k2, k3, k4, k5⟩ := kd_ok hv.2.2.2.2.2.2.2.1.1
  obtain ⟨n1, n2⟩ := now_kd hv hR
  refine s_laysTry n1 ⟨k1, k2⟩ (fun i hi => ⟨_, k3.1 i (by omega), n2 i hi⟩) (by rw [n2 _ (by omega), k4]) hL hc (fun J kd e q hkd he h520 => ?_)
  exact s_wrongOf hkd he h520 (fun J2 i2 st d2 q2 _ _ _ => hK _ J2 ((Qlt_wy q).tr (Qwr_wy q2)))
theorem s_inTheWay {x : Sg} {a : Int32} {I : zI} {K : Int32 → zI → Prop} (hv : Iv x) (hR : RM I x) (hK : ∀ v J, eqQ Qmo I J → RM J x → K v J) : w_M_inTheWay a I K := by
  unfold w_M_inTheWay
  obtain ⟨k1, k2, k3, k4, k5⟩ := kd_ok hv.2.2.2.2.2.2.2.1.1
  have done : ∀ v J, eqQ Qwy I J → K v J := fun v J q => hK v J (Qwy_mo q) (hR.wy hv q)
  have g15 : ∀ J, eqQ Qwy I J → J.1 491 15 = zi (lexL (moT (sgC x))).length := fun J q => (now_kd hv (hR.wy hv q)).1
  generalize hn : (lexL (moT (sgC x))).length = n at k1 k2 k4 k5 g15
  refine s_in (fun c => ?_) (fun c => ?_)
  · rw [if_neg (by decide)]
    split
    · intro P23 h23
      have outer : ∀ (d w : Nat) (J : zI), n ≤ w + d → w ≤ n + 1 → eqQ Qwy I J → P23 (zi w) J := by
        intro d
        induction d with
        | zero =>
          intro w J hw hw2 q
          refine h23 _ _ ?_
          rw [g15 J q, if_pos ((zi_le (by omega) (by omega)).mpr (by omega))]
          exact done _ J q
        | succ d ih =>
          intro w J hw hw2 q
          refine h23 _ _ ?_
          rw [g15 J q]
          by_cases u : n ≤ w
          · rw [if_pos ((zi_le (by omega) (by omega)).mpr u)]
            exact done _ J q
          · rw [if_neg (fun v => u ((zi_le (by omega) (by omega)).mp v))]
            intro P33 h33
            have inner : ∀ (d2 s : Nat) (J2 : zI), n ≤ s + w + d2 → s ≤ n + 1 → eqQ Qwy I J2 → P33 (zi s) J2 := by
              intro d2
              induction d2 with
              | zero =>
                intro s J2 hs hs2 q2
                refine h33 _ _ ?_
                rw [g15 J2 q2, zi_add, if_pos ((zi_le (by omega) (by omega)).mpr (by omega))]
                intro v ev
                rw [ev, zi_succ]
                exact ih (w + 1) J2 (by omega) (by omega) q2
              | succ d2 ih2 =>
                intro s J2 hs hs2 q2
                refine h33 _ _ ?_
                rw [g15 J2 q2, zi_add]
                by_cases u2 : n ≤ s + w
                · rw [if_pos ((zi_le (by omega) (by omega)).mpr u2)]
                  intro v ev
                  rw [ev, zi_succ]
                  exact ih (w + 1) J2 (by omega) (by omega) q2
                · rw [if_neg (fun v => u2 ((zi_le (by omega) (by omega)).mp v))]
                  refine try_then hv (hR.wy hv q2) (Or.inr ?_) (Or.inl (fun i hi u => ?_)) (fun v J3 q3 => ?_)
                  · rw [zi_add, hn]
                    exact (zi_le (by omega) (by omega)).mpr (by omega)
                  · have := zi_ge (a := i) (by omega)
                    rw [u] at this
                    revert this
                    decide
                  · split
                    · intro v' ev
                      rw [ev, zi_succ]
                      exact ih2 (s + 1) J3 (by omega) (by omega) (q2.tr q3)
                    · split
                      · exact done _ J3 (q2.tr q3)
                      · exact done _ J3 (q2.tr q3)
            exact inner n 0 J (by omega) (by omega) q
      exact outer n 1 I (by omega) (by omega) eqQ.rf
    · exact done _ I eqQ.rf
  · rw [if_pos rfl]
    exact done _ I eqQ.rf
theorem s_mend {x : Sg} {a : Int32} {I : zI} {K : Int32 → zI → Prop} (hv : Iv x) (hR : RM I x) (hK : ∀ v J, eqQ Qmo I J → RM J x → K v J) : w_M_mend a I K := by
  unfold w_M_mend
  obtain ⟨k1, k2, k3, k4, k5⟩ := kd_ok hv.2.2.2.2.2.2.2.1.1
  have done : ∀ v J, eqQ Qwy I J → K v J := fun v J q => hK v J (Qwy_mo q) (hR.wy hv q)
  have g15 : ∀ J, eqQ Qwy I J → J.1 491 15 = zi (lexL (moT (sgC x))).length := fun J q => (now_kd hv (hR.wy hv q)).1
  generalize hn : (lexL (moT (sgC x))).length = n at k1 k2 k4 k5 g15
  refine s_in (fun c => ?_) (fun c => ?_)
  · rw [if_neg (by decide)]
    split
    · intro P23 h23
      have outer : ∀ (d w : Nat) (J : zI), n ≤ w + d → w ≤ n + 1 → eqQ Qwy I J → P23 (zi w) J := by
        intro d
        induction d with
        | zero =>
          intro w J hw hw2 q
          refine h23 _ _ ?_
          rw [g15 J q, if_pos ((zi_le (by omega) (by omega)).mpr (by omega))]
          exact done _ J q
        | succ d ih =>
          intro w J hw hw2 q
          refine h23 _ _ ?_
          rw [g15 J q]
          by_cases u : n ≤ w
          · rw [if_pos ((zi_le (by omega) (by omega)).mpr u)]
            exact done _ J q
          · rw [if_neg (fun v => u ((zi_le (by omega) (by omega)).mp v))]
            intro P33 h33
            have inner : ∀ (d2 s : Nat) (J2 : zI), s + d2 = 10 → eqQ Qwy I J2 → P33 (zi s) J2 := by
              intro d2
              induction d2 with
              | zero =>
                intro s J2 hs q2
                refine h33 _ _ ?_
                rw [if_pos (show (10 : Int32) ≤ zi s from (zi_le (a := 10) (by decide) (by omega)).mpr (by omega))]
                intro v ev
                rw [ev, zi_succ]
                exact ih (w + 1) J2 (by omega) (by omega) q2
              | succ d2 ih2 =>
                intro s J2 hs q2
                refine h33 _ _ ?_
                rw [if_neg (show ¬ (10 : Int32) ≤ zi s from fun v => by have := (zi_le (a := 10) (by decide) (by omega)).mp v; omega)]
                refine try_then hv (hR.wy hv q2) (Or.inr ?_) (Or.inr ⟨s, by omega, rfl⟩) (fun v J3 q3 => ?_)
                · exact Int32.le_trans (by decide) (zi_ge (by omega))
                · split
                  · intro v' ev
                    rw [ev, zi_succ]
                    exact ih2 (s + 1) J3 (by omega) (q2.tr q3)
                  · split
                    · exact done _ J3 (q2.tr q3)
                    · exact done _ J3 (q2.tr q3)
            exact inner 10 0 J (by omega) q
      exact outer n 0 I (by omega) (by omega) eqQ.rf
    · exact done _ I eqQ.rf
  · rw [if_pos rfl]
    exact done _ I eqQ.rf
theorem s_expected {x : Sg} {I : zI} {K : Int32 → zI → Prop} (hv : Iv x) (hl : Lv x) (hR : RM I x) (hK : ∀ v J, eqQ Qmo I J → RM J x → K v J) : w_M_expected I K := by
  unfold w_M_expected
  obtain ⟨k1, k2, k3, k4, k5⟩ := kd_ok hv.2.2.2.2.2.2.2.1.1
  obtain ⟨n1, n2⟩ := now_kd hv hR
  have g8 : I.1 491 8 = b01 (moB (sgC x)) := hR.2.2.2.2.2.2.2.1.2.2.2.2.2.2.2.2.1
  have done : ∀ v J, eqQ Qwy I J → K v J := fun v J q => hK v J (Qwy_mo q) (hR.wy hv q)
  rw [g8]
  by_cases hb : moB (sgC x) = false
  · rw [if_pos (b01_0.mpr hb)]
    have hacc := hl.1.2 hb
    unfold LrAcc at hacc
    have g15 : ∀ J, eqQ Qwy I J → J.1 491 15 = zi (lexL (moT (sgC x))).length ∧ ∀ i, i < (lexL (moT (sgC x))).length → J.1 501 i = zi (kdF (lexL (moT (sgC x))) i) := fun J q => now_kd hv (hR.wy hv q)
    have kend : ∀ i, i < (lexL (moT (sgC x))).length → kdF (lexL (moT (sgC x))) i = 10 → i = (lexL (moT (sgC x))).length - 1 := fun i hi e => kd_end hv.2.2.2.2.2.2.2.1.1 hi e
    generalize hn : (lexL (moT (sgC x))).length = n at k1 k2 k3 k4 k5 g15 n1 n2 hacc kend
    generalize kdF (lexL (moT (sgC x))) = kd at k3 k4 g15 n2 hacc kend
    refine s_laysAllK n1 k2 n2 (fun J q h520 => ?_)
    refine s_wrongOf k3 (by omega) (fun i hi => h520 i (by omega)) (fun J2 r st d q2 hrun hLI hno => ?_)
    have hr : r ≤ n - 1 := hLI.1
    have hnot : ¬ (kd r = 10 ∧ topS st = 1) := fun u => by
      have hrn : r = n - 1 := kend r (by omega) u.1
      refine hacc ⟨st, ⟨d, ?_⟩, ?_, u.2⟩
      · rw [← hrn]
        exact hrun
      · rw [← hrn]
        exact hno
    rw [if_neg hnot]
    have qJ2 : eqQ Qwy I J2 := (Qlt_wy q).tr (Qwr_wy q2)
    intro P27 h27
    have main : ∀ (d2 s : Nat) (w : Int32) (J3 : zI), s + d2 = 11 → eqQ Qwy I J3 → P27 w (zi s) J3 := by
      intro d2
      induction d2 with
      | zero =>
        intro s w J3 hs q3
        refine h27 _ _ _ ?_
        rw [if_pos (show (11 : Int32) ≤ zi s from (zi_le (a := 11) (by decide) (by omega)).mpr (by omega))]
        exact done _ J3 q3
      | succ d2 ih =>
        intro s w J3 hs q3
        refine h27 _ _ _ ?_
        rw [if_neg (show ¬ (11 : Int32) ≤ zi s from fun v => by have := (zi_le (a := 11) (by decide) (by omega)).mp v; omega)]
        obtain ⟨m1, m2⟩ := g15 J3 q3
        refine s_laysAllK m1 k2 m2 (fun J4 q4 h4 => ?_)
        refine ⟨(zin_iff (by omega)).mpr (by omega), fun I8 e8 => ?_⟩
        rw [zi_tn (show r < 2147483648 by omega)] at e8
        have q8 : eqQ Qwy I I8 := by
          rw [e8]
          exact (q3.tr (Qlt_wy q4)).zu (Or.inr (Or.inl rfl))
        intro P64 h64
        have next : ∀ (J9 : zI) (kd9 : Nat → Nat) (e9 : Nat), eqQ Qwy I J9 → KdO kd9 e9 → e9 < 110 → (∀ i, i ≤ e9 → J9.1 520 i = zi (kd9 i)) → P64 J9 := by
          intro J9 kd9 e9 q9 hk9 he9 h9
          refine h64 J9 (s_wrongOf hk9 he9 h9 (fun J10 i10 st10 d10 q10 _ _ _ => ?_))
          intro P96 h96
          have nx : ∀ w', P96 w' := fun w' => h96 w' (fun v ev => by
            rw [ev, zi_succ]
            exact ih (s + 1) w' J10 (by omega) (q9.tr (Qwr_wy q10)))
          intro P90 h90
          have both : P90 := h90 (fun v ev => nx v)
          repeat' split
          all_goals first | exact nx _ | exact both
        by_cases hs10 : s = 10
        · rw [if_pos (show zi s = 10 by rw [hs10]; rfl)]
          refine next I8 (fun i => if i = r then 10 else kd i) r q8 ⟨fun i hi => ?_, fun s' hs' => ?_⟩ (by omega) (fun i hi => ?_)
          · dsimp only
            split
            · decide
            · exact k3.1 i (by omega)
          · dsimp only
            rw [if_pos rfl]
            exact end_fin s' hs'
          · rw [e8]
            by_cases u : i = r
            · rw [if_pos u, u, zu_self, hs10]
            · rw [if_neg u, zu_at, if_neg (by omega)]
              exact h4 i (by omega)
        · rw [if_neg (show ¬ zi s = 10 from fun v => hs10 ((zi_eq (b := 10) (by omega) (by decide)).mp v))]
          rw [zi_succ]
          refine ⟨(zin_iff (by omega)).mpr (by omega), fun I18 e18 => ?_⟩
          rw [zi_tn (show r + 1 < 2147483648 by omega)] at e18
          refine next I18 (fun i => if i = r + 1 then 11 else if i = r then s else kd i) (r + 1) ?_ ⟨fun i hi => ?_, fun s' hs' => ?_⟩ (by omega) (fun i hi => ?_)
          · rw [e18]
            exact q8.zu (Or.inr (Or.inl rfl))
          · dsimp only
            split
            · decide
            · split
              · omega
              · exact k3.1 i (by omega)
          · dsimp only
            rw [if_pos rfl]
            exact end_fin2 s' hs'
          · rw [e18]
            by_cases u : i = r + 1
            · rw [if_pos u, u, zu_self]
              rfl
            · rw [if_neg u, zu_at, if_neg (by omega), e8]
              by_cases u2 : i = r
              · rw [if_pos u2, u2, zu_self]
              · rw [if_neg u2, zu_at, if_neg (by omega)]
                exact h4 i (by omega)
    exact main 11 0 0 J2 (by omega) qJ2
  · rw [if_neg (fun u => hb (b01_0.mp u))]
    exact done _ I eqQ.rf
/-! ===== what the model sees of the TREE ===== -/
def InP (N : Nat → Nd) (R c p d : Nat) : Prop := ∃ f : Fl, (flR N R)[p]? = some f ∧ f.1 = c ∧ f.2.2.2.1 = d
def Vw (I : zI) (m R n : Nat) (N : Nat → Nd) (og : Nat → Nat) : Prop :=
  RepNM I m N ∧ NdOk m N ∧ m ≤ 3250 ∧ TreeI m N R n og ∧ ViM I N R n ∧ I.1 491 19 = zi n ∧ (∀ j, j < n → I.1 508 j = zi (og j)) ∧ ∀ c, c < m → ndT (N c) ≤ 100
theorem RM.view {I : zI} {x : Sg} (hv : Iv x) (h : RM I x) : Vw I (sgM x) (moR (sgC x)) (lexL (moG (sgC x))).length (sgN x) (moO (sgC x)) := by
  obtain ⟨r1, r2, r3, r4, r5, r6, r7, nw, -⟩ := h
  obtain ⟨hTp, hN, hu, hm, hTk, hP, hE, hC, hA, hZ, hAZ⟩ := hv
  exact ⟨r2, hN, hm, hC.2.2.2.1, r3, nw.2.2.2.2.2.2.1.1, nw.2.2.2.2.2.2.2.1, hTk⟩
theorem Vw.kp {I J : zI} {m R n : Nat} {N : Nat → Nd} {og : Nat → Nat} (V : Vw I m R n N og) (e : ∀ a j, (a = 491 ∧ (j = 19 ∨ j = 25 ∨ j = 37 ∨ j = 43 ∨ j = 51 ∨ j = 53)) ∨ (508 ≤ a ∧ a ≤ 516) ∨ (521 ≤ a ∧ a ≤ 526) ∨ a = 528 ∨ a = 529 → J.1 a j = I.1 a j) (e2 : ∀ j, J.2 511 j = I.2 511 j) : Vw J m R n N og := by
  obtain ⟨v1, v2, v3, v4, v5, v6, v7, v8⟩ := V
  exact ⟨v1.kp2 (e _ _ (by omega)) (fun a j u1 u2 => e a j (by omega)) e2, v2, v3, v4, v5.kp (fun a j u => e a j (by omega)), by rw [e _ _ (by omega)]; exact v6, fun j hj => by rw [e _ _ (by omega)]; exact v7 j hj, v8⟩
theorem Vw.len {I : zI} {m R n : Nat} {N : Nat → Nd} {og : Nat → Nat} (V : Vw I m R n N og) : 1 ≤ (flR N R).length ∧ (flR N R).length ≤ 248 ∧ I.1 491 43 = zi (flR N R).length ∧ 1 ≤ n ∧ n ≤ 100 ∧ I.1 491 25 = zi m ∧ R < m := by
  obtain ⟨v1, v2, v3, v4, v5, v6, v7, v8⟩ := V
  have hl : (flR N R).length = sz N R := fl_len v2 R v4.1 0 0 0 1
  rw [hl]
  refine ⟨sz_pos v2 v4.1, v4.few v2, ?_, v4.2.2.2.2.2.2.1, v4.2.2.2.2.2.2.2, v1.1, v4.1⟩
  rw [← hl]
  exact v5.2.1.1
theorem InP.pos {m R : Nat} {N : Nat → Nd} (hN : NdOk m N) (hR : R < m) : ∀ (p c d : Nat), InP N R c p d → 1 ≤ d ∧ (p = 0 → d = 1 ∧ c = R) ∧ (1 ≤ p → 2 ≤ d) := by
  intro p
  induction p using Nat.strongRecOn with
  | ind p ih =>
    rintro c d ⟨f, h1, h2, h3⟩
    by_cases hp : p = 0
    · subst hp
      change (fl N R 0 0 0 1)[0]? = some f at h1
      rw [fl_eq hN hR] at h1
      cases h1
      unfold flH at h2 h3
      dsimp only at h2 h3
      exact ⟨by omega, fun _ => ⟨by omega, h2.symm⟩, fun u => by omega⟩
    · obtain ⟨-, b2, -⟩ := fl_in hN R hR _ _ _ _ _ _ h1
      obtain ⟨y, i', y1, y2, y3, y4, y5⟩ := b2 (by omega)
      obtain ⟨w1, -, -⟩ := ih i' y1 y.1 y.2.2.2.1 ⟨y, y3, rfl, rfl⟩
      exact ⟨by omega, fun u => absurd u hp, fun _ => by omega⟩
theorem Vw.inp {I : zI} {m R n c p d : Nat} {N : Nat → Nd} {og : Nat → Nat} (V : Vw I m R n N og) (h : InP N R c p d) : c < m ∧ c ≤ R ∧ p < (flR N R).length ∧ I.1 521 p = zi c ∧ I.1 523 c = zi p ∧ (∃ e, p < e ∧ e ≤ (flR N R).length ∧ I.1 522 p = zi e) ∧ c ∈ po N R := by
  obtain ⟨v1, v2, v3, v4, v5, v6, v7, v8⟩ := V
  obtain ⟨f, h1, h2, h3⟩ := h
  have hpl := (List.getElem?_eq_some_iff.mp h1).1
  obtain ⟨t1, t2, t3⟩ := v5.tv p f h1
  obtain ⟨s1, s2, s3⟩ := sz_inR v2 v4.1 h1
  have hpo := fl_po v2 v4.1 h1
  have hle := po_le v2 R v4.1 _ hpo
  have := v4.1
  rw [h2] at t1 t2 hpo hle
  exact ⟨by omega, hle, hpl, t1, t2, ⟨p + f.2.2.2.2, by omega, by omega, t3⟩, hpo⟩
theorem Vw.par {I : zI} {m R n c p d : Nat} {N : Nat → Nd} {og : Nat → Nat} (V : Vw I m R n N og) (h : InP N R c p d) : (d = 1 ∧ c = R ∧ I.1 524 c = -2) ∨ ∃ q y j, 2 ≤ d ∧ q < p ∧ InP N R y q (d - 1) ∧ I.1 524 c = zi y ∧ (ndC (N y))[j]? = some c ∧ I.1 525 c = zi j := by
  obtain ⟨v1, v2, v3, v4, v5, v6, v7, v8⟩ := V
  obtain ⟨z1, z2, z3⟩ := InP.pos v2 v4.1 p c d h
  obtain ⟨f, h1, h2, h3⟩ := h
  obtain ⟨p1, p2⟩ := (v5.2.2.1 p f h1).2
  rw [h2] at p1 p2
  by_cases hp : p = 0
  · exact Or.inl ⟨(z2 hp).1, (z2 hp).2, p1 hp⟩
  · obtain ⟨y, j, e1, e2, e3, e4⟩ := p2 (by omega)
    obtain ⟨-, b2, -⟩ := fl_in v2 R v4.1 _ _ _ _ _ _ h1
    obtain ⟨y', i', y1, y2, y3, y4, y5⟩ := b2 (by omega)
    rw [Nat.zero_add] at y2
    rw [y2] at e1
    have : y = y' := Option.some.inj (e1.symm.trans y3)
    subst this
    exact Or.inr ⟨i', y.1, j, z3 (by omega), y1, ⟨y, e1, rfl, by omega⟩, e3, e2, e4⟩
theorem Vw.fst {I : zI} {m R n c p d : Nat} {N : Nat → Nd} {og : Nat → Nat} (V : Vw I m R n N og) (h : InP N R c p d) : ∃ o, o ≤ n - 1 ∧ I.1 526 c = zi o ∧ (1 ≤ ndT (N c) → o + ndT (N c) ≤ n - 1) := by
  obtain ⟨v1, v2, v3, v4, v5, v6, v7, v8⟩ := V
  obtain ⟨f, h1, h2, h3⟩ := h
  have hpl := (List.getElem?_eq_some_iff.mp h1).1
  obtain ⟨-, -, o, o1, o2, o3⟩ := v5.2.1.2.1 p f hpl h1
  obtain ⟨-, -, o', q1, q2, -⟩ := fl_in v2 R v4.1 _ _ _ _ _ _ h1
  rw [v4.tk v2, h2] at q1
  refine ⟨o, o1, by rw [← h2]; exact o2, fun u => ?_⟩
  have e : f.2.2.1 = (o' : Int) := by
    rw [q2]
    unfold flH
    dsimp only
    rw [h2, if_neg (by omega), Nat.zero_add]
  have := o3 (by omega)
  omega
theorem inp_at {R p : Nat} {N : Nat → Nd} (h : p < (flR N R).length) : ∃ c d, InP N R c p d := ⟨_, _, _, List.getElem?_eq_getElem h, rfl, rfl⟩
theorem Vw.of {I : zI} {m R n c : Nat} {N : Nat → Nd} {og : Nat → Nat} (V : Vw I m R n N og) (hc : c < 3700) (h : ¬ I.1 523 c < 0) : ∃ p d, InP N R c p d := by
  refine Classical.byContradiction (fun u => h ?_)
  rw [V.2.2.2.2.1.2.1.2.2 c hc (fun i x hi hx e => u ⟨i, x.2.2.2.1, x, hx, e, rfl⟩)]
  decide
theorem Vw.ofpo {I : zI} {m R n c : Nat} {N : Nat → Nd} {og : Nat → Nat} (V : Vw I m R n N og) (h : c ∈ po N R) : ∃ p d, InP N R c p d := by
  rw [← fl_map V.2.1 R V.2.2.2.1.1 0 0 0 1] at h
  obtain ⟨f, hf, e⟩ := List.mem_map.mp h
  obtain ⟨p, hp⟩ := List.mem_iff_getElem?.mp hf
  exact ⟨p, f.2.2.2.1, f, hp, e, rfl⟩
theorem Vw.ch {I : zI} {m R n c p d z : Nat} {N : Nat → Nd} {og : Nat → Nat} (V : Vw I m R n N og) (h : InP N R c p d) (hz : z ∈ ndC (N c)) : ∃ q d', InP N R z q d' :=
  V.ofpo (po_sub V.2.1 R V.2.2.2.1.1 c (V.inp h).2.2.2.2.2.2 z hz)
/-- a good token ahead of END -/
theorem Vw.tok {I : zI} {m R n i : Nat} {N : Nat → Nd} {og : Nat → Nat} (V : Vw I m R n N og) (h : i + 1 < n) : ∃ p d, 2 ≤ d ∧ InP N R (og i) p d := by
  obtain ⟨p, f, a1, a2, a3, a4⟩ := V.2.2.2.1.tok V.2.1 h
  have hI : InP N R (og i) p f.2.2.2.1 := ⟨f, a1, a2, rfl⟩
  exact ⟨p, f.2.2.2.1, (InP.pos V.2.1 V.2.2.2.1.1 _ _ _ hI).2.2 a3, hI⟩
theorem up_idx {n : Nat} {P : Int32 → Prop} (step : ∀ i, i < n → P (zi (i + 1)) → P (zi i)) (stop : P (zi n)) : ∀ i, i ≤ n → P (zi i) := by
  have : ∀ d i, i + d = n → P (zi i) := by
    intro d
    induction d with
    | zero =>
      intro i hi
      rw [show i = n by omega]
      exact stop
    | succ d ih =>
      intro i hi
      exact step i (by omega) (ih (i + 1) (by omega))
  exact fun i hi => this (n - i) i (by omega)
/-! ===== calls that ask of it ===== -/
theorem s_isIn {a : Int32} {m R n : Nat} {N : Nat → Nd} {og : Nat → Nat} {I : zI} {K : Int32 → Prop} (V : Vw I m R n N og) (h1 : ∀ c p d, a = zi c → InP N R c p d → K 1) (h0 : K 0) : w_M_isIn a I K := by
  obtain ⟨l1, l2, l3, l4, l5, l6, l7⟩ := V.len
  have hm := V.2.2.1
  unfold w_M_isIn
  rw [l6]
  refine s_in (fun c => ?_) (fun c => ?_)
  · obtain ⟨k, hk, rfl⟩ := in_idx (by omega) c
    rw [if_neg (by decide)]
    refine ⟨(zin_iff (by omega)).mpr (by omega), ?_⟩
    rw [zi_tn (show k < 2147483648 by omega)]
    by_cases u : I.1 523 k < 0
    · rw [if_pos u]
      exact h0
    · rw [if_neg u]
      obtain ⟨p, d, hp⟩ := V.of (by omega) u
      exact h1 k p d rfl hp
  · rw [if_pos rfl]
    exact h0
theorem s_deepOf {m R n c p d : Nat} {N : Nat → Nd} {og : Nat → Nat} {I : zI} {K : Int32 → Prop} (V : Vw I m R n N og) (h : InP N R c p d) (hK : K (zi d)) : w_M_deepOf (zi c) I K := by
  obtain ⟨l1, l2, l3, l4, l5, l6, l7⟩ := V.len
  have hm := V.2.2.1
  intro P4 h4
  have main : ∀ (p c e w : Nat), InP N R c p e → w + e = d → P4 (zi w) (zi c) := by
    intro p
    induction p using Nat.strongRecOn with
    | ind p ih =>
      intro c e w hc hw
      refine h4 _ _ ?_
      obtain ⟨i1, -⟩ := V.inp hc
      rw [if_neg (zi_pos (by omega))]
      intro v ev
      refine ⟨(zin_iff (by omega)).mpr (by omega), fun v3 ev3 => ?_⟩
      rw [zi_tn (show c < 2147483648 by omega)] at ev3
      rw [ev, zi_succ]
      rcases V.par hc with ⟨b1, b2, b3⟩ | ⟨q, y, j, b1, b2, b3, b4, b5, b6⟩
      · rw [ev3, b3]
        refine h4 _ _ ?_
        rw [if_pos (by decide), show w + 1 = d by omega]
        exact hK
      · rw [ev3, b4]
        exact ih q b2 y (e - 1) (w + 1) b3 (by omega)
  exact main p c d 0 h (by omega)
theorem s_MisToken {a : Int32} {m R n : Nat} {N : Nat → Nd} {og : Nat → Nat} {I : zI} {K : Int32 → Prop} (V : Vw I m R n N og) (h1 : ∀ i, i < n → a = zi i → K 1) (h0 : K 0) : w_M_isToken a I K := by
  obtain ⟨l1, l2, l3, l4, l5, l6, l7⟩ := V.len
  unfold w_M_isToken
  rw [V.2.2.2.2.2.1]
  refine s_in (fun c => ⟨Or.inr rfl, ?_⟩) (fun c => ⟨Or.inl rfl, h0⟩)
  obtain ⟨k, hk, rfl⟩ := in_idx (by omega) c
  exact h1 k hk rfl
theorem s_MisInner {a : Int32} {m R n : Nat} {N : Nat → Nd} {og : Nat → Nat} {I : zI} {K : Int32 → Prop} (V : Vw I m R n N og) (h1 : ∀ i, i + 1 < n → a = zi i → K 1) (h0 : K 0) : w_M_isInner a I K := by
  obtain ⟨l1, l2, l3, l4, l5, l6, l7⟩ := V.len
  unfold w_M_isInner
  rw [V.2.2.2.2.2.1]
  refine s_in (fun c => ⟨Or.inr rfl, ?_⟩) (fun c => ⟨Or.inl rfl, h0⟩)
  have e : zi n - 2 = zi (n - 1) - 1 := by
    rw [show zi (n - 1) = zi n - 1 from (zi_sub (b := 1) l4).symm, Int32.sub_sub]
    rfl
  rw [e] at c
  obtain ⟨k, hk, rfl⟩ := in_idx (by omega) c
  exact h1 k (by omega) rfl
/-! ===== questions to the model that change nothing return ===== -/
theorem m_text {x : Sg} {a : Int32} {I : zI} {K : Int32 → Prop} (hv : Iv x) (hR : RM I x) (h : ∀ v, K v) : w_M_text a I K := by
  have nw := hR.2.2.2.2.2.2.2.1
  have l300 := hv.2.2.2.2.2.2.2.1.1.1
  unfold w_M_text
  rw [nw.1]
  refine s_in (fun c => ?_) (fun c => ?_)
  · obtain ⟨k, hk, rfl⟩ := in_idx (by omega) c
    rw [if_neg (by decide)]
    exact ⟨(zin_iff (by omega)).mpr (by omega), h _⟩
  · rw [if_pos rfl]
    exact h _
theorem m_token {x : Sg} {a b : Int32} {I : zI} {K : Int32 → Prop} (hv : Iv x) (hR : RM I x) (h : ∀ v, K v) : w_M_token a b I K := by
  obtain ⟨k1, k2, -⟩ := kd_ok hv.2.2.2.2.2.2.2.1.1
  unfold w_M_token
  rw [(now_kd hv hR).1]
  refine s_in (fun c => ?_) (fun c => ?_)
  · obtain ⟨k, hk, rfl⟩ := in_idx (by omega) c
    have hin : vp_in (zi k) 110 := (zin_iff (by omega)).mpr (by omega)
    rw [if_neg (by decide)]
    refine s_in (fun _ => ?_) (fun _ => ?_)
    · rw [if_neg (by decide)]
      repeat' split
      all_goals exact ⟨hin, h _⟩
    · rw [if_pos rfl]
      exact h _
  · rw [if_pos rfl]
    exact h _
theorem m_under {x : Sg} {a : Int32} {I : zI} {K : Int32 → Prop} (hv : Iv x) (hR : RM I x) (h : ∀ v, K v) : w_M_under a I K := by
  obtain ⟨k1, k2, -⟩ := kd_ok hv.2.2.2.2.2.2.2.1.1
  unfold w_M_under
  rw [(now_kd hv hR).1]
  refine s_in (fun c => ?_) (fun c => ?_)
  · rw [if_neg (by decide)]
    intro P18 h18
    refine up_idx (n := (lexL (moT (sgC x))).length) (P := P18) (fun i hi ih => ?_) ?_ 0 (Nat.zero_le _)
    · refine h18 _ ?_
      have hin : vp_in (zi i) 110 := (zin_iff (by omega)).mpr (by omega)
      rw [if_neg (fun u => by have := (zi_le (by omega) (by omega)).mp u; omega)]
      refine ⟨hin, hin, hin, s_in (fun _ => ?_) (fun _ => ?_)⟩
      · rw [if_neg (by decide)]
        exact h _
      · rw [if_pos rfl]
        intro v ev
        rw [ev, zi_succ]
        exact ih
    · refine h18 _ ?_
      rw [if_pos (Int32.le_refl _)]
      exact h _
  · rw [if_pos rfl]
    exact h _
theorem m_good {a : Int32} {m R n : Nat} {N : Nat → Nd} {og : Nat → Nat} {I : zI} {K : Int32 → Prop} (V : Vw I m R n N og) (h : ∀ v, K v) : w_M_good a I K := by
  obtain ⟨l1, l2, l3, l4, l5, l6, l7⟩ := V.len
  refine s_MisToken V (fun i hi e => ?_) ?_
  · rw [if_neg (by decide), e]
    exact ⟨(zin_iff (by omega)).mpr (by omega), h _⟩
  · rw [if_pos rfl]
    exact h _
theorem m_node {a b : Int32} {m R n : Nat} {N : Nat → Nd} {og : Nat → Nat} {I : zI} {K : Int32 → Prop} (V : Vw I m R n N og) (h : ∀ v, K v) : w_M_node a b I K := by
  obtain ⟨l1, l2, l3, l4, l5, l6, l7⟩ := V.len
  have hm := V.2.2.1
  unfold w_M_node
  rw [l6]
  refine s_in (fun c => ?_) (fun c => ?_)
  · obtain ⟨k, hk, rfl⟩ := in_idx (by omega) c
    have hin : vp_in (zi k) 3700 := (zin_iff (by omega)).mpr (by omega)
    rw [if_neg (by decide)]
    refine s_in (fun _ => ?_) (fun _ => ?_)
    · rw [if_neg (by decide)]
      refine ⟨hin, ?_⟩
      intro P42 h42
      have all : ∀ t, P42 t := by
        intro t
        refine h42 t ?_
        have e9 : I.1 509 (Int32.toNatClampNeg (zi k)) = Int32.ofInt (ndR (N k)) := by
          rw [zi_tn (show k < 2147483648 by omega)]
          exact (V.1.2 k hk).1
        rw [e9]
        by_cases c0 : b = 0
        · rw [if_pos c0]
          exact ⟨hin, h _⟩
        rw [if_neg c0]
        by_cases c1 : b = 1
        · rw [if_pos c1]
          refine ⟨hin, ?_⟩
          rcases V.2.1 k hk with ⟨e, -⟩ | ⟨r, s, hr, -, e, -⟩
          · rw [e, if_neg (by decide)]
            exact ⟨hin, h _⟩
          · rw [e, zi_int r, if_pos (zi_ge (by omega))]
            exact ⟨hin, s_MsymbolOf hr (h _)⟩
        rw [if_neg c1]
        repeat' split
        all_goals first | exact h _ | exact ⟨hin, h _⟩ | exact ⟨hin, hin, h _⟩
      split
      · exact all _
      · exact all _
    · rw [if_pos rfl]
      exact h _
  · rw [if_pos rfl]
    exact h _
theorem r_childOf2 {c i : Nat} {I : zI} {K : Int32 → Prop} (hc : c < 3300) (hi : i < 5) (h : ∀ v, K v) : w_M_childOf (zi c) (zi i) I K := by
  unfold w_M_childOf
  rw [show 4 * zi c + zi i = zi (4 * c + i) by rw [show (4 : Int32) = zi 4 from rfl, zi_mul, zi_add]]
  exact ⟨(zin_iff (by omega)).mpr (by omega), h _⟩
theorem Vw.chs {I : zI} {m R n c : Nat} {N : Nat → Nd} {og : Nat → Nat} (V : Vw I m R n N og) (hc : c < m) : I.1 512 c = zi (ndC (N c)).length ∧ (ndC (N c)).length ≤ 4 := by
  refine ⟨?_, V.2.1.ch c hc⟩
  rw [← ndL_len V.2.1 hc]
  exact (V.1.2 c hc).2.2.2.2.1
theorem m_child {a b : Int32} {m R n : Nat} {N : Nat → Nd} {og : Nat → Nat} {I : zI} {K : Int32 → Prop} (V : Vw I m R n N og) (h : ∀ v, K v) : w_M_child a b I K := by
  obtain ⟨l1, l2, l3, l4, l5, l6, l7⟩ := V.len
  have hm := V.2.2.1
  unfold w_M_child
  rw [l6]
  refine s_in (fun c => ?_) (fun c => ?_)
  · obtain ⟨k, hk, rfl⟩ := in_idx (by omega) c
    rw [if_neg (by decide)]
    refine ⟨(zin_iff (by omega)).mpr (by omega), ?_⟩
    obtain ⟨w1, w2⟩ := V.chs hk
    rw [zi_tn (show k < 2147483648 by omega), w1]
    refine s_in (fun c => ?_) (fun _ => ?_)
    · obtain ⟨i, hi, rfl⟩ := in_idx (by omega) c
      rw [if_neg (by decide)]
      exact r_childOf2 (by omega) (by omega) (fun v => h v)
    · rw [if_pos rfl]
      exact h _
  · rw [if_pos rfl]
    exact h _
theorem m_besideOf {a b : Int32} {m R n : Nat} {N : Nat → Nd} {og : Nat → Nat} {I : zI} {K : Int32 → Prop} (V : Vw I m R n N og) (h : ∀ v, K v) : w_M_besideOf a b I K := by
  have hm := V.2.2.1
  refine s_isIn V (fun c p d e hI => ?_) ?_
  · subst e
    obtain ⟨i1, -⟩ := V.inp hI
    have hin : vp_in (zi c) 3700 := (zin_iff (by omega)).mpr (by omega)
    rw [if_neg (by decide)]
    refine ⟨hin, ?_⟩
    rw [zi_tn (show c < 2147483648 by omega)]
    rcases V.par hI with ⟨b1, b2, b3⟩ | ⟨q, y, j, b1, b2, b3, b4, b5, b6⟩
    · rw [b3, if_neg (by decide)]
      exact h _
    · obtain ⟨y1, -⟩ := V.inp b3
      obtain ⟨w1, w2⟩ := V.chs y1
      rw [b4, if_pos (zi_ge (by omega))]
      refine ⟨hin, fun v ev => ⟨hin, (zin_iff (by omega)).mpr (by omega), ?_⟩⟩
      rw [zi_tn (show y < 2147483648 by omega), w1]
      refine s_in (fun c => ?_) (fun _ => ?_)
      · obtain ⟨i, hi, e⟩ := in_idx (by omega) c
        rw [if_neg (by decide), e]
        exact ⟨hin, r_childOf2 (by omega) (by omega) (fun v => h v)⟩
      · rw [if_pos rfl]
        exact h _
  · rw [if_pos rfl]
    exact h _
theorem r_MbeginOf {c p d : Nat} {m R n : Nat} {N : Nat → Nd} {og : Nat → Nat} {I : zI} {K : Int32 → Prop} (V : Vw I m R n N og) (hI : InP N R c p d) (h : ∀ v, K v) : w_M_beginOf (zi c) I K := by
  obtain ⟨l1, l2, l3, l4, l5, l6, l7⟩ := V.len
  have hm := V.2.2.1
  obtain ⟨i1, -⟩ := V.inp hI
  obtain ⟨o, o1, o2, -⟩ := V.fst hI
  unfold w_M_beginOf
  refine ⟨(zin_iff (by omega)).mpr (by omega), ?_⟩
  rw [zi_tn (show c < 2147483648 by omega), o2]
  exact ⟨(zin_iff (by omega)).mpr (by omega), h _⟩
theorem r_MendOf {c p d : Nat} {m R n : Nat} {N : Nat → Nd} {og : Nat → Nat} {I : zI} {K : Int32 → Prop} (V : Vw I m R n N og) (hI : InP N R c p d) (h1 : 1 ≤ ndT (N c)) (h : ∀ v, K v) : w_M_endOf (zi c) I K := by
  obtain ⟨l1, l2, l3, l4, l5, l6, l7⟩ := V.len
  have hm := V.2.2.1
  obtain ⟨i1, -⟩ := V.inp hI
  obtain ⟨o, o1, o2, o3⟩ := V.fst hI
  have o4 := o3 h1
  unfold w_M_endOf
  have hin : vp_in (zi c) 3700 := (zin_iff (by omega)).mpr (by omega)
  refine ⟨hin, hin, ?_⟩
  rw [zi_tn (show c < 2147483648 by omega), o2, show I.1 515 c = zi (ndT (N c)) from (V.1.2 c i1).2.2.1, zi_add, show zi (o + ndT (N c)) - 1 = zi (o + ndT (N c) - 1) from zi_sub (b := 1) (by omega)]
  intro v ev
  rw [ev]
  have hi2 : vp_in (zi (o + ndT (N c) - 1)) 110 := (zin_iff (by omega)).mpr (by omega)
  exact ⟨hi2, hi2, h _⟩
theorem m_span {a b : Int32} {m R n : Nat} {N : Nat → Nd} {og : Nat → Nat} {I : zI} {K : Int32 → Prop} (V : Vw I m R n N og) (h : ∀ v, K v) : w_M_span a b I K := by
  have hm := V.2.2.1
  refine s_isIn V (fun c p d e hI => ?_) ?_
  · subst e
    obtain ⟨i1, -⟩ := V.inp hI
    rw [if_neg (by decide)]
    refine ⟨(zin_iff (by omega)).mpr (by omega), ?_⟩
    have hT := V.2.2.2.2.2.2.2 c i1
    rw [zi_tn (show c < 2147483648 by omega), show I.1 515 c = zi (ndT (N c)) from (V.1.2 c i1).2.2.1]
    by_cases u : ndT (N c) = 0
    · rw [if_pos (show zi (ndT (N c)) = 0 by rw [u]; rfl)]
      exact h _
    · rw [if_neg (show ¬ zi (ndT (N c)) = 0 from fun w => u ((zi_eq (b := 0) (by omega) (by decide)).mp w))]
      refine s_in (fun _ => ?_) (fun _ => ?_)
      · rw [if_neg (by decide)]
        split
        · exact r_MbeginOf V hI (fun v => h v)
        · exact r_MendOf V hI (by omega) (fun v => r_MbeginOf V hI (fun w => h _))
      · rw [if_pos rfl]
        exact h _
  · rw [if_pos rfl]
    exact h _
/-- all places, one after another -/
theorem up_plc {m R n : Nat} {N : Nat → Nd} {og : Nat → Nat} {I : zI} {P : Int32 → Int32 → Prop} (V : Vw I m R n N og) (step : ∀ p c d w, InP N R c p d → (∀ w', P w' (zi (p + 1))) → P w (zi p)) (stop : ∀ w, P w (zi (flR N R).length)) : ∀ w p, p ≤ (flR N R).length → P w (zi p) := fun w p hp =>
  up_idx (n := (flR N R).length) (P := fun v => ∀ w, P w v) (fun i hi ih w => by
    obtain ⟨c, d, hI⟩ := inp_at hi
    exact step i c d w hI ih) stop p hp w
theorem m_ruled {a : Int32} {m R n : Nat} {N : Nat → Nd} {og : Nat → Nat} {I : zI} {K : Int32 → Prop} (V : Vw I m R n N og) (h : ∀ v, K v) : w_M_ruled a I K := by
  obtain ⟨l1, l2, l3, l4, l5, l6, l7⟩ := V.len
  have hm := V.2.2.1
  unfold w_M_ruled
  refine s_in (fun _ => ?_) (fun _ => ?_)
  · rw [if_neg (by decide)]
    intro P16 h16
    refine up_plc V (P := P16) (fun p c d w hI ih => ?_) (fun w => ?_) 0 0 (Nat.zero_le _)
    · obtain ⟨i1, i2, i3, i4, -⟩ := V.inp hI
      refine h16 _ _ ?_
      rw [l3, if_neg (fun u => by have := (zi_le (by omega) (by omega)).mp u; omega)]
      refine ⟨(zin_iff (by omega)).mpr (by omega), ?_⟩
      rw [zi_tn (show p < 2147483648 by omega), i4]
      refine ⟨(zin_iff (by omega)).mpr (by omega), ?_⟩
      intro P42 h42
      have nx : ∀ v, P42 v := fun v => h42 v (fun v' ev => by
        rw [ev, zi_succ]
        exact ih v)
      split
      · exact fun v ev => nx v
      · exact nx w
    · refine h16 _ _ ?_
      rw [l3, if_pos (Int32.le_refl _)]
      exact h _
  · rw [if_pos rfl]
    exact h _
theorem m_above {a b : Int32} {m R n : Nat} {N : Nat → Nd} {og : Nat → Nat} {I : zI} {K : Int32 → Prop} (V : Vw I m R n N og) (h : ∀ v, K v) : w_M_above a b I K := by
  obtain ⟨l1, l2, l3, l4, l5, l6, l7⟩ := V.len
  have hm := V.2.2.1
  refine s_MisToken V (fun i hi e => ?_) ?_
  · rw [if_neg (by decide)]
    refine s_in (fun _ => ?_) (fun _ => ?_)
    · rw [if_neg (by decide)]
      refine s_MisInner V (fun i hi e => ?_) ?_
      · rw [if_neg (by decide), e]
        refine ⟨(zin_iff (by omega)).mpr (by omega), ?_⟩
        obtain ⟨p, d, d2, hI⟩ := V.tok hi
        obtain ⟨i1, -⟩ := V.inp hI
        rw [zi_tn (show i < 2147483648 by omega), V.2.2.2.2.2.2.1 i (by omega)]
        refine ⟨(zin_iff (by omega)).mpr (by omega), fun v3 ev3 => ?_⟩
        rw [zi_tn (show og i < 2147483648 by omega)] at ev3
        intro P43 h43
        have end0 : ∀ v, v < 0 → P43 v := fun v hv0 => by
          refine h43 v ?_
          intro P67 h67
          rw [if_pos hv0]
          refine h67 ?_
          split
          · exact h _
          · exact h _
        have main : ∀ (p c d : Nat), InP N R c p d → P43 (zi c) := by
          intro p
          induction p using Nat.strongRecOn with
          | ind p ih =>
            intro c d hc
            obtain ⟨c1, -⟩ := V.inp hc
            have hin : vp_in (zi c) 3700 := (zin_iff (by omega)).mpr (by omega)
            refine h43 _ ?_
            intro P67 h67
            have fin : P67 := h67 (by
              split
              · exact h _
              · exact h _)
            rw [if_neg (zi_pos (by omega))]
            refine ⟨hin, ?_⟩
            split
            · exact fin
            · refine ⟨hin, fun v ev => ?_⟩
              rw [zi_tn (show c < 2147483648 by omega)] at ev
              rcases V.par hc with ⟨b1, b2, b3⟩ | ⟨q, y, j, b1, b2, b3, b4, b5, b6⟩
              · rw [ev, b3]
                exact end0 _ (by decide)
              · rw [ev, b4]
                exact ih q b2 y _ b3
        rcases V.par hI with ⟨b1, b2, b3⟩ | ⟨q, y, j, b1, b2, b3, b4, b5, b6⟩
        · omega
        · rw [ev3, b4]
          exact main q y _ b3
      · rw [if_pos rfl]
        exact h _
    · rw [if_pos rfl]
      exact h _
  · rw [if_pos rfl]
    exact h _
theorem m_path {a b : Int32} {m R n : Nat} {N : Nat → Nd} {og : Nat → Nat} {I : zI} {K : Int32 → Prop} (V : Vw I m R n N og) (h : ∀ v, K v) : w_M_path a b I K := by
  obtain ⟨l1, l2, l3, l4, l5, l6, l7⟩ := V.len
  have hm := V.2.2.1
  refine s_MisInner V (fun i hi e => ?_) ?_
  · rw [if_neg (by decide), e]
    have hin : vp_in (zi i) 110 := (zin_iff (by omega)).mpr (by omega)
    refine ⟨hin, ?_⟩
    obtain ⟨p, d, d2, hI⟩ := V.tok hi
    obtain ⟨i1, i2, i3, -⟩ := V.inp hI
    have dle : ∀ (p c d : Nat), InP N R c p d → d ≤ p + 1 := by
      intro p
      induction p using Nat.strongRecOn with
      | ind p ih =>
        intro c d hc
        rcases V.par hc with ⟨b1, -⟩ | ⟨q, y, j, b1, b2, b3, -⟩
        · omega
        · have := ih q b2 y _ b3
          omega
    have hd := dle p _ d hI
    rw [zi_tn (show i < 2147483648 by omega), V.2.2.2.2.2.2.1 i (by omega)]
    refine s_deepOf V hI ?_
    refine s_in (fun c => ?_) (fun _ => ?_)
    · obtain ⟨k, hk, rfl⟩ := in_idx (by omega) c
      rw [if_neg (by decide)]
      refine ⟨hin, fun v4 ev4 v5 ev5 => ?_⟩
      rw [show zi d - 1 = zi (d - 1) from zi_sub (b := 1) (by omega)] at ev5
      intro P47 h47
      rw [ev4, ev5]
      have main : ∀ (e c p : Nat), InP N R c p (e + 1) → e < 1000 → P47 (zi c) (zi e) := by
        intro e
        induction e with
        | zero =>
          intro c p hc _
          refine h47 _ _ ?_
          rw [if_pos ((zi_le (by omega) (by omega)).mpr (by omega))]
          exact h _
        | succ e ih =>
          intro c p hc he
          obtain ⟨c1, -⟩ := V.inp hc
          refine h47 _ _ ?_
          by_cases u : e + 1 ≤ k
          · rw [if_pos ((zi_le (by omega) (by omega)).mpr u)]
            exact h _
          · rw [if_neg (fun w => u ((zi_le (by omega) (by omega)).mp w))]
            refine ⟨(zin_iff (by omega)).mpr (by omega), fun v ev v' ev' => ?_⟩
            rw [zi_tn (show c < 2147483648 by omega)] at ev
            rcases V.par hc with ⟨b1, -⟩ | ⟨q, y, j, b1, b2, b3, b4, b5, b6⟩
            · omega
            · rw [ev, b4, ev', ← Int32.sub_eq_add_neg, show zi (e + 1) - 1 = zi e from zi_sub (b := 1) (by omega)]
              exact ih y q b3 (by omega)
      exact main (d - 1) (og i) p (by rw [show d - 1 + 1 = d by omega]; exact hI) (by omega)
    · rw [if_pos rfl]
      exact h _
  · rw [if_pos rfl]
    exact h _
/-! ===== more questions to the model that change nothing ===== -/
theorem m_common {a b : Int32} {m R n : Nat} {N : Nat → Nd} {og : Nat → Nat} {I : zI} {K : Int32 → Prop} (V : Vw I m R n N og) (h : ∀ v, K v) : w_M_common a b I K := by
  obtain ⟨l1, l2, l3, l4, l5, l6, l7⟩ := V.len
  have hm := V.2.2.1
  have dle : ∀ (p c d : Nat), InP N R c p d → d ≤ p + 1 := by
    intro p
    induction p using Nat.strongRecOn with
    | ind p ih =>
      intro c d hc
      rcases V.par hc with ⟨b1, -⟩ | ⟨q, y, j, b1, b2, b3, -⟩
      · omega
      · have := ih q b2 y _ b3
        omega
  have d400 : ∀ {c p d : Nat}, InP N R c p d → d < 400 := fun {c p d} hc => by
    have := dle p c d hc
    have := (V.inp hc).2.2.1
    omega
  refine s_MisToken V (fun i hi e => ?_) ?_
  rotate_left
  · rw [if_pos rfl]
    exact h _
  rw [if_neg (by decide)]
  refine s_MisToken V (fun i2 hi2 e2 => ?_) ?_
  rotate_left
  · rw [if_pos rfl]
    exact h _
  rw [if_neg (by decide)]
  split
  · rw [e]
    exact ⟨(zin_iff (by omega)).mpr (by omega), h _⟩
  · refine s_MisInner V (fun i hi e => ?_) ?_
    rotate_left
    · rw [if_pos rfl]
      exact h _
    rw [if_neg (by decide)]
    refine s_MisInner V (fun i2 hi2 e2 => ?_) ?_
    rotate_left
    · rw [if_pos rfl]
      exact h _
    rw [if_neg (by decide), e, e2]
    refine ⟨(zin_iff (by omega)).mpr (by omega), fun v3 ev3 => ⟨(zin_iff (by omega)).mpr (by omega), fun v4 ev4 => ?_⟩⟩
    rw [zi_tn (show i < 2147483648 by omega), V.2.2.2.2.2.2.1 i (by omega)] at ev3
    rw [zi_tn (show i2 < 2147483648 by omega), V.2.2.2.2.2.2.1 i2 (by omega)] at ev4
    obtain ⟨p1, d1, -, hI1⟩ := V.tok hi
    obtain ⟨p2, d2, -, hI2⟩ := V.tok hi2
    intro P64 h64
    have main : ∀ (e c p : Nat), InP N R c p e → P64 (zi c) := by
      intro e
      induction e with
      | zero =>
        intro c p hc
        have := (InP.pos V.2.1 l7 _ _ _ hc).1
        omega
      | succ e ih =>
        intro c p hc
        refine h64 _ ?_
        refine s_deepOf V hc ?_
        rw [ev4]
        refine s_deepOf V hI2 ?_
        have e400 := d400 hc
        have d2400 := d400 hI2
        have d2pos := (InP.pos V.2.1 l7 _ _ _ hI2).1
        intro P88 h88
        by_cases u : e + 1 ≤ d2
        · rw [if_pos ((zi_le (by omega) (by omega)).mpr u)]
          have main2 : ∀ (k c' p' : Nat), InP N R c' p' k → e + 1 ≤ k → P88 (zi c') := by
            intro k
            induction k with
            | zero =>
              intro c' p' hc' hk
              omega
            | succ k ih2 =>
              intro c' p' hc' hk
              refine h88 _ ?_
              refine s_deepOf V hc' ?_
              refine s_deepOf V hc ?_
              have k400 := d400 hc'
              intro P114 h114
              by_cases u2 : k + 1 ≤ e + 1
              · rw [if_pos ((zi_le (by omega) (by omega)).mpr u2)]
                have main3 : ∀ (f x y px py : Nat), InP N R x px f → InP N R y py f → P114 (zi x) (zi y) := by
                  intro f
                  induction f with
                  | zero =>
                    intro x y px py hx hy
                    have := (InP.pos V.2.1 l7 _ _ _ hx).1
                    omega
                  | succ f ih3 =>
                    intro x y px py hx hy
                    obtain ⟨x1, -⟩ := V.inp hx
                    obtain ⟨y1, -⟩ := V.inp hy
                    refine h114 _ _ ?_
                    by_cases u3 : zi x = zi y
                    · rw [if_pos u3]
                      exact h _
                    · rw [if_neg u3]
                      refine ⟨(zin_iff (by omega)).mpr (by omega), fun v ev => ⟨(zin_iff (by omega)).mpr (by omega), fun v' ev' => ?_⟩⟩
                      rw [zi_tn (show x < 2147483648 by omega)] at ev
                      rw [zi_tn (show y < 2147483648 by omega)] at ev'
                      rcases V.par hx with ⟨b1, b2, b3⟩ | ⟨q, z, j, b1, b2, b3, b4, b5, b6⟩
                      · rcases V.par hy with ⟨c1, c2, c3⟩ | ⟨q', z', j', c1, c2, c3, c4, c5, c6⟩
                        · exact absurd (by rw [b2, c2]) u3
                        · omega
                      · rcases V.par hy with ⟨c1, c2, c3⟩ | ⟨q', z', j', c1, c2, c3, c4, c5, c6⟩
                        · omega
                        · rw [ev, b4, ev', c4]
                          exact ih3 z z' q q' b3 c3
                have hek : k + 1 = e + 1 := by omega
                rw [hek] at hc'
                exact main3 (e + 1) c c' p p' hc hc'
              · rw [if_neg (fun w => u2 ((zi_le (by omega) (by omega)).mp w))]
                obtain ⟨x1, -⟩ := V.inp hc'
                refine ⟨(zin_iff (by omega)).mpr (by omega), fun v ev => ?_⟩
                rw [zi_tn (show c' < 2147483648 by omega)] at ev
                rcases V.par hc' with ⟨b1, b2, b3⟩ | ⟨q, z, j, b1, b2, b3, b4, b5, b6⟩
                · omega
                · rw [ev, b4]
                  exact ih2 z q b3 (by omega)
          exact main2 d2 _ p2 hI2 u
        · rw [if_neg (fun w => u ((zi_le (by omega) (by omega)).mp w))]
          obtain ⟨x1, -⟩ := V.inp hc
          refine ⟨(zin_iff (by omega)).mpr (by omega), fun v ev => ?_⟩
          rw [zi_tn (show c < 2147483648 by omega)] at ev
          rcases V.par hc with ⟨b1, b2, b3⟩ | ⟨q, z, j, b1, b2, b3, b4, b5, b6⟩
          · omega
          · rw [ev, b4]
            exact ih z q b3
    rw [ev3]
    exact main d1 _ p1 hI1
theorem m_last {a : Int32} {I : zI} {K : Int32 → Prop} (h : ∀ v, K v) : w_M_last a I K := by
  unfold w_M_last
  refine s_in (fun c => ?_) (fun _ => ?_)
  · rw [if_neg (by decide)]
    obtain ⟨k, hk, rfl⟩ := zi_of c.1
    have := (zi_le (b := 9) hk (by decide)).mp c.2
    exact ⟨(zin_iff (by omega)).mpr (by omega), h _⟩
  · rw [if_pos rfl]
    exact h _
theorem m_pair {x : Sg} {a b : Int32} {I : zI} {K : Int32 → Prop} (hv : Iv x) (hR : RM I x) (h : ∀ v, K v) : w_M_pair a b I K := by
  have hp := hv.2.2.2.2.2.1.2
  unfold w_M_pair
  rw [hR.2.2.2.1.1]
  refine s_in (fun c => ?_) (fun _ => ?_)
  · obtain ⟨k, hk, rfl⟩ := in_idx (by omega) c
    have hin : vp_in (zi k) 4100 := (zin_iff (by omega)).mpr (by omega)
    rw [if_neg (by decide)]
    refine s_in (fun c => ?_) (fun _ => ?_)
    · rw [if_neg (by decide)]
      split
      · exact ⟨hin, h _⟩
      · exact ⟨hin, h _⟩
    · rw [if_pos rfl]
      exact h _
  · rw [if_pos rfl]
    exact h _
theorem r_MyoungBelow {p c d : Nat} {m R n : Nat} {N : Nat → Nd} {og : Nat → Nat} {I : zI} {K : Int32 → Prop} (V : Vw I m R n N og) (hI : InP N R c p d) (h : ∀ v, K v) : w_M_youngBelow (zi p) I K := by
  obtain ⟨l1, l2, l3, l4, l5, l6, l7⟩ := V.len
  have hm := V.2.2.1
  obtain ⟨i1, i2, i3, i4, i5, ⟨e, e1, e2, e3⟩, i6⟩ := V.inp hI
  have hin : vp_in (zi p) 700 := (zin_iff (by omega)).mpr (by omega)
  intro P4 h4
  refine up_idx (n := e) (P := fun v => ∀ w, P4 w v) (fun i hi ih w => ?_) (fun w => ?_) p (by omega) 0
  · obtain ⟨c', d', hc⟩ := inp_at (R := R) (N := N) (show i < (flR N R).length by omega)
    obtain ⟨x1, x2, x3, x4, -⟩ := V.inp hc
    refine h4 _ _ ⟨hin, ?_⟩
    rw [zi_tn (show p < 2147483648 by omega), e3, if_neg (fun u => by have := (zi_le (by omega) (by omega)).mp u; omega)]
    refine ⟨(zin_iff (by omega)).mpr (by omega), ?_⟩
    rw [zi_tn (show i < 2147483648 by omega), x4]
    refine ⟨(zin_iff (by omega)).mpr (by omega), ?_⟩
    intro P35 h35
    have nx : ∀ v, P35 v := fun v => h35 v (fun v' ev => by
      rw [ev, zi_succ]
      exact ih v)
    split
    · exact fun v ev => nx v
    · exact nx w
  · refine h4 _ _ ⟨hin, ?_⟩
    rw [zi_tn (show p < 2147483648 by omega), e3, if_pos (Int32.le_refl _)]
    exact h _
theorem runs_in {x : Sg} {I : zI} {i : Nat} (hv : Iv x) (hR : RM I x) (hi : i < (runsOf (sgN x) (moR (sgC x))).length) : i < 99 ∧ ∃ r p d, I.1 528 i = zi r ∧ InP (sgN x) (moR (sgC x)) r p d := by
  have hr := List.getElem?_eq_getElem hi
  have l := (runs_ok hv.2.1 hv.2.2.1 hv.2.2.2.2.2.2.2.1.2.2.2.1).2
  obtain ⟨f, f1, f2, -⟩ := rnL_mem 400 0 _ (List.mem_of_getElem? hr)
  obtain ⟨p, hp⟩ := List.mem_iff_getElem?.mp f1
  exact ⟨by omega, _, p, f.2.2.2.1, hR.2.2.1.2.2.2.2.2.1 i _ hr, f, hp, f2, rfl⟩
theorem s_inRun {x : Sg} {a : Int32} {I : zI} {K : Int32 → Prop} (hv : Iv x) (hR : RM I x) (h1 : ∀ i, i < (runsOf (sgN x) (moR (sgC x))).length → a = zi i → K 1) (h0 : K 0) : w_M_isRun a I K := by
  have l := (runs_ok hv.2.1 hv.2.2.1 hv.2.2.2.2.2.2.2.1.2.2.2.1).2
  refine s_isRun hv hR (fun c => ?_) (fun _ => h0)
  obtain ⟨k, hk, rfl⟩ := zi_of c.1
  exact h1 k ((zi_lt hk (by omega)).mp c.2) rfl
theorem m_young {x : Sg} {a : Int32} {I : zI} {K : Int32 → Prop} (hv : Iv x) (hR : RM I x) (h : ∀ v, K v) : w_M_young a I K := by
  have V := hR.view hv
  have hm := V.2.2.1
  refine s_inRun hv hR (fun i hi e => ?_) ?_
  · obtain ⟨i99, r, p, d, e1, hI⟩ := runs_in hv hR hi
    obtain ⟨i1, i2, i3, i4, i5, -⟩ := V.inp hI
    rw [if_neg (by decide), e]
    refine ⟨(zin_iff (by omega)).mpr (by omega), ?_⟩
    rw [zi_tn (show i < 2147483648 by omega), e1]
    refine ⟨(zin_iff (by omega)).mpr (by omega), ?_⟩
    rw [zi_tn (show r < 2147483648 by omega), i5]
    exact r_MyoungBelow V hI h
  · rw [if_pos rfl]
    exact h _
theorem s_isTerm {a : Int32} {m R n : Nat} {N : Nat → Nd} {og : Nat → Nat} {I : zI} {K : Int32 → Prop} (V : Vw I m R n N og) (h1 : ∀ c p d, a = zi c → InP N R c p d → ¬ Int32.ofInt (ndR (N c)) ≤ 3 → K 1) (h0 : K 0) : w_M_isTerm a I K := by
  have hm := V.2.2.1
  refine s_isIn V (fun c p d e hI => ?_) ?_
  · obtain ⟨i1, -⟩ := V.inp hI
    rw [if_neg (by decide)]
    rw [e]
    refine ⟨(zin_iff (by omega)).mpr (by omega), ?_⟩
    rw [zi_tn (show c < 2147483648 by omega), show I.1 509 c = Int32.ofInt (ndR (N c)) from (V.1.2 c i1).1]
    by_cases u : Int32.ofInt (ndR (N c)) ≤ 3
    · rw [if_pos u]
      exact h0
    · rw [if_neg u]
      exact h1 c p d e hI u
  · rw [if_pos rfl]
    exact h0
theorem m_firm {a : Int32} {m R n : Nat} {N : Nat → Nd} {og : Nat → Nat} {I : zI} {K : Int32 → Prop} (V : Vw I m R n N og) (h : ∀ v, K v) : w_M_firm a I K := by
  obtain ⟨l1, l2, l3, l4, l5, l6, l7⟩ := V.len
  have hm := V.2.2.1
  refine s_isTerm V (fun c p d ec hI _ => ?_) ?_
  · obtain ⟨i1, i2, i3, i4, i5, ⟨e, e1, e2, e3⟩, i6⟩ := V.inp hI
    have hin : vp_in (zi p) 700 := (zin_iff (by omega)).mpr (by omega)
    rw [if_neg (by decide), ec]
    refine ⟨(zin_iff (by omega)).mpr (by omega), fun v2 ev2 => ?_⟩
    rw [zi_tn (show c < 2147483648 by omega), i5] at ev2
    intro P19 h19
    rw [ev2] at h19 ⊢
    refine up_idx (n := e) (P := P19) (fun i hi ih => ?_) ?_ p (by omega)
    · obtain ⟨c', d', hc⟩ := inp_at (R := R) (N := N) (show i < (flR N R).length by omega)
      obtain ⟨x1, x2, x3, x4, -⟩ := V.inp hc
      refine h19 _ ⟨hin, ?_⟩
      rw [zi_tn (show p < 2147483648 by omega), e3, if_neg (fun u => by have := (zi_le (by omega) (by omega)).mp u; omega)]
      refine ⟨(zin_iff (by omega)).mpr (by omega), ?_⟩
      rw [zi_tn (show i < 2147483648 by omega), x4]
      refine ⟨(zin_iff (by omega)).mpr (by omega), ?_⟩
      split
      · exact h _
      · intro v ev
        rw [ev, zi_succ]
        exact ih
    · refine h19 _ ⟨hin, ?_⟩
      rw [zi_tn (show p < 2147483648 by omega), e3, if_pos (Int32.le_refl _)]
      exact h _
  · rw [if_pos rfl]
    exact h _
/-! ===== the statements that set a NAME ===== -/
theorem sets_len {m R n : Nat} {og : Nat → Nat} {N : Nat → Nd} (hN : NdOk m N) (t : TreeI m N R n og) : (setsOf N R).length ≤ 99 := by
  have h1 := cn2_le (F := flR N R) hN (flR N R).length 0 0 [(R, 0, 1)] (by omega) (fun y hy => by cases List.mem_singleton.mp hy; exact t.1) (by
    rw [List.drop_zero]
    show fl N R 0 0 0 1 = fl N R 0 0 0 1 ++ []
    rw [List.append_nil])
  rw [List.drop_zero, wtW_cons] at h1
  dsimp only at h1
  have h2 := wt2_le (N := N) (c := R)
  have h3 := t.tk hN
  have h4 := t.2.2.2.2.2.2.2
  have h5 : wtW N [] = 0 := rfl
  unfold setsOf
  rw [st2_len]
  omega
theorem Vw.set {m R n i : Nat} {og : Nat → Nat} {N : Nat → Nd} {I : zI} (V : Vw I m R n N og) (hi : i < (setsOf N R).length) : i < 99 ∧ ∃ s p d, I.1 529 i = zi s ∧ InP N R s p d ∧ ndR (N s) = 2 := by
  have hr := List.getElem?_eq_getElem hi
  have l := sets_len V.2.1 V.2.2.2.1
  obtain ⟨f, f1, f2, f3⟩ := st2_mem (List.mem_of_getElem? hr)
  obtain ⟨p, hp⟩ := List.mem_iff_getElem?.mp f1
  exact ⟨by omega, _, p, f.2.2.2.1, V.2.2.2.2.1.2.2.2.2.2.2 i _ hr, ⟨f, hp, f2, rfl⟩, f3⟩
theorem Vw.nset {m R n : Nat} {og : Nat → Nat} {N : Nat → Nd} {I : zI} (V : Vw I m R n N og) : I.1 491 53 = zi (setsOf N R).length ∧ (setsOf N R).length ≤ 99 := ⟨V.2.2.2.2.1.2.2.2.2.1, sets_len V.2.1 V.2.2.2.1⟩
theorem r_MsetName {m R n i : Nat} {og : Nat → Nat} {N : Nat → Nd} {I : zI} {K : Int64 → Prop} (V : Vw I m R n N og) (hi : i < (setsOf N R).length) (h : ∀ v, K v) : w_M_setName (zi i) I K := by
  have hm := V.2.2.1
  obtain ⟨i9, s, p, d, e1, hI, h2⟩ := V.set hi
  obtain ⟨i1, -⟩ := V.inp hI
  obtain ⟨z, z1, -, z2⟩ := V.2.1.child (r := 2) (k := 0) (y := 5) i1 h2 rfl
  unfold w_M_setName
  refine ⟨(zin_iff (by omega)).mpr (by omega), ?_⟩
  rw [zi_tn (show i < 2147483648 by omega), e1]
  refine s_MchildOf (k := 0) V.1 (by omega) i1 (V.2.1.ch s i1) z1 ?_
  exact ⟨(zin_iff (by omega)).mpr (by omega), h _⟩
/-- 509 is a node's RULE -/
theorem Vw.rul {m R n c r : Nat} {og : Nat → Nat} {N : Nat → Nd} {I : zI} (V : Vw I m R n N og) (hc : c < m) (hr : r < 100) (e : I.1 509 c = zi r) : ndR (N c) = r := by
  have h1 : I.1 509 c = Int32.ofInt (ndR (N c)) := (V.1.2 c hc).1
  rw [h1] at e
  rcases V.2.1 c hc with ⟨q, -⟩ | ⟨r', s, hr', -, q, -⟩
  · rw [q] at e
    exfalso
    have : (0 : Int32) ≤ Int32.ofInt (-2) := by
      rw [e]
      exact zi_ge (by omega)
    revert this
    decide
  · rw [q, zi_int] at e
    have := (zi_eq (by omega) (by omega)).mp e
    rw [q, this]
theorem r_MdoesRead {m R n i : Nat} {og : Nat → Nat} {N : Nat → Nd} {b : Int64} {I : zI} {K : Int32 → Prop} (V : Vw I m R n N og) (hi : i < (setsOf N R).length) (h : ∀ v, K v) : w_M_doesRead (zi i) b I K := by
  obtain ⟨l1, l2, l3, l4, l5, l6, l7⟩ := V.len
  have hm := V.2.2.1
  obtain ⟨i9, s, p, d, es, hI, h2⟩ := V.set hi
  obtain ⟨s1, -⟩ := V.inp hI
  obtain ⟨z, z1, -, z2⟩ := V.2.1.child (r := 2) (k := 2) (y := 2) s1 h2 rfl
  obtain ⟨q, d', hz⟩ := V.ch hI (List.mem_of_getElem? z1)
  obtain ⟨i1, i2, i3, i4, i5, ⟨e, e1, e2, e3⟩, i6⟩ := V.inp hz
  have hin : vp_in (zi q) 700 := (zin_iff (by omega)).mpr (by omega)
  unfold w_M_doesRead
  refine ⟨(zin_iff (by omega)).mpr (by omega), ?_⟩
  rw [zi_tn (show i < 2147483648 by omega), es]
  refine s_MchildOf (k := 2) V.1 (by omega) s1 (V.2.1.ch s s1) z1 ?_
  refine ⟨(zin_iff (by omega)).mpr (by omega), fun v4 ev4 => ?_⟩
  rw [zi_tn (show z < 2147483648 by omega), i5] at ev4
  intro P22 h22
  rw [ev4] at h22 ⊢
  refine up_idx (n := e) (P := P22) (fun k hk ih => ?_) ?_ q (by omega)
  · obtain ⟨c', d', hc⟩ := inp_at (R := R) (N := N) (show k < (flR N R).length by omega)
    obtain ⟨x1, x2, x3, x4, -⟩ := V.inp hc
    refine h22 _ ⟨hin, ?_⟩
    rw [zi_tn (show q < 2147483648 by omega), e3, if_neg (fun u => by have := (zi_le (by omega) (by omega)).mp u; omega)]
    have hk7 : vp_in (zi k) 700 := (zin_iff (by omega)).mpr (by omega)
    refine ⟨hk7, ?_⟩
    rw [zi_tn (show k < 2147483648 by omega), x4]
    refine ⟨(zin_iff (by omega)).mpr (by omega), ?_⟩
    intro P75 h75
    have nx : P75 := h75 (fun v ev => by
      rw [ev, zi_succ]
      exact ih)
    rw [zi_tn (show c' < 2147483648 by omega)]
    by_cases u : I.1 509 c' = 8
    · rw [if_pos u]
      have h8 := V.rul (r := 8) x1 (by omega) u
      obtain ⟨w, w1, -, w2⟩ := V.2.1.child (r := 8) (k := 0) (y := 5) x1 h8 rfl
      refine ⟨hk7, s_MchildOf (k := 0) V.1 (by omega) x1 (V.2.1.ch c' x1) w1 ⟨(zin_iff (by omega)).mpr (by omega), ?_⟩⟩
      split
      · exact h _
      · exact nx
    · rw [if_neg u]
      exact nx
  · refine h22 _ ⟨hin, ?_⟩
    rw [zi_tn (show q < 2147483648 by omega), e3, if_pos (Int32.le_refl _)]
    exact h _
theorem r_MisIdle {m R n i : Nat} {og : Nat → Nat} {N : Nat → Nd} {I : zI} {K : Int32 → Prop} (V : Vw I m R n N og) (hi : i < (setsOf N R).length) (h : ∀ v, K v) : w_M_isIdle (zi i) I K := by
  obtain ⟨n1, n2⟩ := V.nset
  unfold w_M_isIdle
  intro v ev P4 h4
  rw [ev, zi_succ]
  refine up_idx (n := (setsOf N R).length) (P := P4) (fun k hk ih => ?_) ?_ (i + 1) hi
  · refine h4 _ ?_
    rw [n1, if_neg (fun u => by have := (zi_le (by omega) (by omega)).mp u; omega)]
    refine r_MsetName V hi (fun r3 => r_MdoesRead V hk (fun r4 => ?_))
    split
    · refine r_MsetName V hk (fun r5 => r_MsetName V hi (fun r6 => ?_))
      split
      · exact h _
      · intro v' ev'
        rw [ev', zi_succ]
        exact ih
    · exact h _
  · refine h4 _ ?_
    rw [n1, if_pos (Int32.le_refl _)]
    exact h _
theorem m_idle {a : Int32} {m R n : Nat} {og : Nat → Nat} {N : Nat → Nd} {I : zI} {K : Int32 → Prop} (V : Vw I m R n N og) (h : ∀ v, K v) : w_M_idle a I K := by
  obtain ⟨n1, n2⟩ := V.nset
  unfold w_M_idle
  refine s_in (fun _ => ?_) (fun _ => ?_)
  · rw [if_neg (by decide)]
    intro v4 ev4 P24 h24
    have main : ∀ (k : Nat) (w1 w2 : Int32), k ≤ (setsOf N R).length → P24 w1 w2 (zi k - 1) := by
      intro k
      induction k with
      | zero =>
        intro w1 w2 _
        refine h24 _ _ _ ?_
        rw [if_pos (show zi 0 - 1 < 0 by decide)]
        split
        · exact h _
        · exact h _
      | succ k ih =>
        intro w1 w2 hk
        refine h24 _ _ _ ?_
        rw [show zi (k + 1) - 1 = zi k from zi_sub (b := 1) (by omega), if_neg (zi_pos (by omega))]
        refine r_MisIdle V hk (fun r7 => ?_)
        intro P52 h52
        have nx : ∀ a b, P52 a b := fun a b => h52 a b (fun v ev => by
          rw [ev, ← Int32.sub_eq_add_neg]
          exact ih a b (by omega))
        split
        · exact nx _ _
        · exact fun v ev => ⟨(zin_iff (by omega)).mpr (by omega), fun v' ev' => nx _ _⟩
    rw [ev4, n1]
    exact main _ 0 (-2) (Nat.le_refl _)
  · rw [if_pos rfl]
    exact h _
theorem m_setNames {m R n : Nat} {og : Nat → Nat} {N : Nat → Nd} {I : zI} {K : Int32 → Prop} (V : Vw I m R n N og) (h : ∀ v, K v) : w_M_setNames I K := by
  obtain ⟨n1, n2⟩ := V.nset
  unfold w_M_setNames
  intro P4 h4
  refine up_idx (n := (setsOf N R).length) (P := fun v => ∀ w, P4 w v) (fun k hk ih w => ?_) (fun w => ?_) 0 (Nat.zero_le _) 0
  · refine h4 _ _ ?_
    rw [n1, if_neg (fun u => by have := (zi_le (by omega) (by omega)).mp u; omega)]
    intro P17 h17
    refine up_idx (n := k) (P := fun v => ∀ w, P17 w v) (fun i hi ih2 w2 => ?_) (fun w2 => ?_) 0 (Nat.zero_le _) 1
    · refine h17 _ _ ?_
      rw [if_neg (fun u => by have := (zi_le (by omega) (by omega)).mp u; omega)]
      refine r_MsetName V (by omega) (fun r9 => r_MsetName V hk (fun r10 => ?_))
      intro P40 h40
      have nx : ∀ v, P40 v := fun v => h40 v (fun v' ev => by
        rw [ev, zi_succ]
        exact ih2 v)
      split
      · exact nx _
      · exact nx _
    · refine h17 _ _ ?_
      rw [if_pos (Int32.le_refl _)]
      intro P53 h53
      have nx : ∀ v, P53 v := fun v => h53 v (fun v' ev => by
        rw [ev, zi_succ]
        exact ih v)
      split
      · exact nx _
      · exact fun v ev => nx v
  · refine h4 _ _ ?_
    rw [n1, if_pos (Int32.le_refl _)]
    exact h _
/-- a NAME among the good tokens -/
theorem s_MisGoodName {x : Sg} {a : Int32} {I : zI} {K : Int32 → Prop} (hv : Iv x) (hR : RM I x) (h1 : ∀ i, i + 1 < (lexL (moG (sgC x))).length → a = zi i → kdF (lexL (moG (sgC x))) i = 0 → K 1) (h0 : K 0) : w_M_isGoodName a I K := by
  obtain ⟨k1, k2, k3, k4, k5⟩ := kd_ok hv.2.2.2.2.2.2.2.1.2.1
  obtain ⟨u1, u2⟩ := hR.2.2.2.2.2.2.2.1.2.2.2.2.2.2.1
  unfold w_M_isGoodName
  rw [u1]
  refine s_in (fun c => ?_) (fun _ => ?_)
  · obtain ⟨i, hi, rfl⟩ := in_idx (by omega) c
    rw [if_neg (by decide)]
    refine ⟨(zin_iff (by omega)).mpr (by omega), ?_⟩
    rw [zi_tn (show i < 2147483648 by omega), show I.1 504 i = zi (kdF (lexL (moG (sgC x))) i) from (u2 i _ (k5 i hi)).1]
    have k12 := k3.1 i (by omega)
    by_cases u : kdF (lexL (moG (sgC x))) i = 0
    · rw [if_pos (show zi (kdF (lexL (moG (sgC x))) i) = 0 by rw [u]; rfl)]
      refine h1 i ?_ rfl u
      refine Nat.lt_of_le_of_ne (by omega) (fun w => ?_)
      rw [show i = (lexL (moG (sgC x))).length - 1 by omega, k4] at u
      omega
    · rw [if_neg (show ¬ zi (kdF (lexL (moG (sgC x))) i) = 0 from fun w => u ((zi_eq (b := 0) (by omega) (by decide)).mp w))]
      exact h0
  · rw [if_pos rfl]
    exact h0
theorem m_sets {x : Sg} {a : Int32} {I : zI} {K : Int32 → Prop} (hv : Iv x) (hR : RM I x) (h : ∀ v, K v) : w_M_sets a I K := by
  have V := hR.view hv
  obtain ⟨n1, n2⟩ := V.nset
  obtain ⟨l1, l2, l3, l4, l5, l6, l7⟩ := V.len
  refine s_MisGoodName hv hR (fun i hi e _ => ?_) ?_
  · rw [if_neg (by decide), e]
    intro P14 h14
    refine up_idx (n := (setsOf (sgN x) (moR (sgC x))).length) (P := fun v => ∀ w, P14 w v) (fun k hk ih w => ?_) (fun w => ?_) 0 (Nat.zero_le _) 0
    · refine h14 _ _ ?_
      rw [n1, if_neg (fun u => by have := (zi_le (by omega) (by omega)).mp u; omega)]
      refine r_MsetName V hk (fun r4 => ⟨(zin_iff (by omega)).mpr (by omega), ?_⟩)
      intro P40 h40
      have nx : ∀ v, P40 v := fun v => h40 v (fun v' ev => by
        rw [ev, zi_succ]
        exact ih v)
      split
      · exact fun v ev => nx v
      · exact nx _
    · refine h14 _ _ ?_
      rw [n1, if_pos (Int32.le_refl _)]
      exact h _
  · rw [if_pos rfl]
    exact h _
theorem m_uses {x : Sg} {a : Int32} {I : zI} {K : Int32 → Prop} (hv : Iv x) (hR : RM I x) (h : ∀ v, K v) : w_M_uses a I K := by
  have V := hR.view hv
  have hm := V.2.2.1
  obtain ⟨n1, n2⟩ := V.nset
  obtain ⟨l1, l2, l3, l4, l5, l6, l7⟩ := V.len
  refine s_MisGoodName hv hR (fun i hi e _ => ?_) ?_
  · rw [if_neg (by decide), e]
    have hin : vp_in (zi i) 110 := (zin_iff (by omega)).mpr (by omega)
    obtain ⟨p, d, d2, hI⟩ := V.tok hi
    obtain ⟨i1, i2, i3, i4, i5, -⟩ := V.inp hI
    rw [zi_tn (show i < 2147483648 by omega), V.2.2.2.2.2.2.1 i (by omega)]
    have hog : vp_in (zi (moO (sgC x) i)) 3700 := (zin_iff (by omega)).mpr (by omega)
    refine ⟨hin, hog, ?_⟩
    rw [zi_tn (show moO (sgC x) i < 2147483648 by omega), i5]
    intro v2 ev2
    rcases V.par hI with ⟨b1, -⟩ | ⟨q, y, j, b1, b2, b3, b4, b5, b6⟩
    · omega
    obtain ⟨y1, -⟩ := V.inp b3
    rw [b4]
    refine ⟨hin, hog, (zin_iff (by omega)).mpr (by omega), ?_⟩
    split
    · exact h _
    · intro P51 h51
      refine up_idx (n := (setsOf (sgN x) (moR (sgC x))).length) (P := fun v => ∀ w, P51 w v) (fun k hk ih w => ?_) (fun w => ?_) 0 (Nat.zero_le _) (-2)
      · refine h51 _ _ ?_
        rw [n1, if_neg (fun u => by have := (zi_le (by omega) (by omega)).mp u; omega)]
        obtain ⟨k9, s, ps, ds, es, hs, -⟩ := V.set hk
        obtain ⟨s1, s2, s3, s4, s5, -⟩ := V.inp hs
        have hk1 : vp_in (zi k) 110 := (zin_iff (by omega)).mpr (by omega)
        refine ⟨hk1, ?_⟩
        rw [zi_tn (show k < 2147483648 by omega), es]
        refine ⟨(zin_iff (by omega)).mpr (by omega), ?_⟩
        rw [zi_tn (show s < 2147483648 by omega), s5]
        refine ⟨(zin_iff (by omega)).mpr (by omega), ?_⟩
        split
        · exact h _
        · refine r_MsetName V hk (fun r5 => ⟨hin, ?_⟩)
          intro P105 h105
          have nx : ∀ v, P105 v := fun v => h105 v (fun v' ev => by
            rw [ev, zi_succ]
            exact ih v)
          split
          · exact ⟨hk1, fun v ev => nx v⟩
          · exact nx _
      · refine h51 _ _ ?_
        rw [n1, if_pos (Int32.le_refl _)]
        exact h _
  · rw [if_pos rfl]
    exact h _
/-! ===== print: the model ===== -/
def Qpp (a j : Nat) : Prop := a = 543 ∨ a = 544 ∨ (a = 491 ∧ j = 80)
/-- bytes that are printed of what lies there; places it comes to take; steps -/
def bB (N : Nat → Nd) (e : Nat) : Nat := if 1000 ≤ e then 8 * ndT (N (e - 1000)) else 1
def bP (N : Nat → Nd) (e : Nat) : Nat := if 1000 ≤ e then sz N (e - 1000) + ndT (N (e - 1000)) else 1
def bM (N : Nat → Nd) (e : Nat) : Nat := if 1000 ≤ e then 2 * (sz N (e - 1000) + ndT (N (e - 1000))) else 1
def sB (N : Nat → Nd) (w : List Nat) : Nat := (w.map (bB N)).sum
def sP (N : Nat → Nd) (w : List Nat) : Nat := (w.map (bP N)).sum
def sM (N : Nat → Nd) (w : List Nat) : Nat := (w.map (bM N)).sum
theorem sB_cons {N : Nat → Nd} {e : Nat} {w : List Nat} : sB N (e :: w) = bB N e + sB N w := by
  unfold sB
  rw [List.map_cons, List.sum_cons]
theorem sP_cons {N : Nat → Nd} {e : Nat} {w : List Nat} : sP N (e :: w) = bP N e + sP N w := by
  unfold sP
  rw [List.map_cons, List.sum_cons]
theorem sM_cons {N : Nat → Nd} {e : Nat} {w : List Nat} : sM N (e :: w) = bM N e + sM N w := by
  unfold sM
  rw [List.map_cons, List.sum_cons]
theorem bB_nd {N : Nat → Nd} {c : Nat} : bB N (1000 + c) = 8 * ndT (N c) := by
  unfold bB
  rw [if_pos (by omega), Nat.add_sub_cancel_left]
theorem bP_nd {N : Nat → Nd} {c : Nat} : bP N (1000 + c) = sz N c + ndT (N c) := by
  unfold bP
  rw [if_pos (by omega), Nat.add_sub_cancel_left]
theorem bM_nd {N : Nat → Nd} {c : Nat} : bM N (1000 + c) = 2 * (sz N c + ndT (N c)) := by
  unfold bM
  rw [if_pos (by omega), Nat.add_sub_cancel_left]
theorem b_by {N : Nat → Nd} {e : Nat} (h : e < 1000) : bB N e = 1 ∧ bP N e = 1 ∧ bM N e = 1 := by
  unfold bB bP bM
  rw [if_neg (by omega), if_neg (by omega), if_neg (by omega)]
  exact ⟨rfl, rfl, rfl⟩
/-- children laid there, the first on top -/
theorem s_ch {N : Nat → Nd} {w : List Nat} : ∀ {l : List Nat}, sB N (l.map (fun c => 1000 + c) ++ w) = 8 * tkS N l + sB N w ∧ sP N (l.map (fun c => 1000 + c) ++ w) = szS N l + tkS N l + sP N w ∧ sM N (l.map (fun c => 1000 + c) ++ w) = 2 * (szS N l + tkS N l) + sM N w
  | [] => by
    have h1 : tkS N [] = 0 := rfl
    have h2 : szS N [] = 0 := rfl
    rw [h1, h2]
    show sB N w = _ ∧ sP N w = _ ∧ sM N w = _
    omega
  | c :: l => by
    obtain ⟨i1, i2, i3⟩ := s_ch (l := l)
    rw [List.map_cons, List.cons_append, sB_cons, sP_cons, sM_cons, i1, i2, i3, bB_nd, bP_nd, bM_nd, tkS_cons, szS_cons]
    omega
def StkP (I : zI) : List Nat → Prop
  | [] => True
  | e :: w => I.1 543 w.length = zi e ∧ StkP I w
theorem StkP.kp {I J : zI} : ∀ {w : List Nat}, StkP I w → (∀ j, j < w.length → J.1 543 j = I.1 543 j) → StkP J w
  | [], _, _ => trivial
  | e :: w, h, q => ⟨(q w.length (Nat.lt_succ_self _)).trans h.1, h.2.kp (fun j hj => q j (Nat.lt_succ_of_lt hj))⟩
theorem r_pushes {e : Nat} {w : List Nat} {I : zI} {K : Int32 → zI → Prop} (hl : w.length < 700) (h : StkP I w) (hK : ∀ J, eqQ Qpp I J → J.1 491 80 = I.1 491 80 → StkP J (e :: w) → K (zi (e :: w).length) J) : w_M_pushes (zi w.length) (zi e) I K := by
  unfold w_M_pushes
  refine ⟨(zin_iff (by omega)).mpr (by omega), fun I1 e1 => ?_⟩
  rw [zi_tn (show w.length < 2147483648 by omega)] at e1
  rw [zi_succ]
  refine hK I1 (by rw [e1]; exact eqQ.rf.zu (Or.inl rfl)) (by rw [e1, zu_oo (by decide)]) ⟨by rw [e1, zu_self], h.kp (fun j hj => by rw [e1, zu_at, if_neg (by omega)])⟩
theorem r_says {k : Nat} {v : Int32} {I : zI} {K : zI → Prop} (hk : k < 1000) (h80 : I.1 491 80 = zi k) (hK : ∀ J, eqQ Qpp I J → J.1 491 80 = zi (k + 1) → (∀ j, J.1 543 j = I.1 543 j) → K J) : w_M_says v I K := by
  unfold w_M_says
  rw [h80]
  refine ⟨(zin_iff (by omega)).mpr (by omega), fun I1 e1 I2 e2 => ?_⟩
  have g : I1.1 491 80 = zi k := by rw [e1, zu_oo (by decide)]; exact h80
  rw [g, zi_succ] at e2
  refine hK I2 ?_ (by rw [e2, zu_self]) (fun j => by rw [e2, zu_oo (by decide), e1, zu_oo (by decide)])
  rw [e2, e1]
  exact (eqQ.rf.zu (Or.inr (Or.inl rfl))).zu (Or.inr (Or.inr ⟨rfl, rfl⟩))
/-- where the good tokens are -/
def GdW (I : zI) (n : Nat) : Prop := ∀ o, o < n → ∃ pl wd, I.1 505 o = zi pl ∧ I.1 506 o = zi wd ∧ wd ≤ 8 ∧ pl + wd ≤ 300
theorem RM.gdw {I : zI} {x : Sg} (hv : Iv x) (h : RM I x) : GdW I (lexL (moG (sgC x))).length := by
  intro o ho
  have o2 := hv.2.2.2.2.2.2.2.1.2.1
  obtain ⟨k1, k2, k3, k4, k5⟩ := kd_ok o2
  obtain ⟨u1, u2⟩ := h.2.2.2.2.2.2.2.1.2.2.2.2.2.2.1
  have hy := k5 o ho
  obtain ⟨q1, q2⟩ := lex_ok o2.2.1 _ (List.mem_of_getElem? hy)
  have l300 := o2.1
  obtain ⟨-, w2, w3, -⟩ := u2 o _ hy
  exact ⟨_, _, w2, w3, q1.2.1, by omega⟩
theorem GdW.kp {I J : zI} {n : Nat} (h : GdW I n) (e : ∀ a j, a = 505 ∨ a = 506 → J.1 a j = I.1 a j) : GdW J n := fun o ho => by
  obtain ⟨pl, wd, a, b, c⟩ := h o ho
  exact ⟨pl, wd, by rw [e 505 _ (Or.inl rfl)]; exact a, by rw [e 506 _ (Or.inr rfl)]; exact b, c⟩
theorem r_saysToken {c p d k m R n : Nat} {N : Nat → Nd} {og : Nat → Nat} {I : zI} {K : zI → Prop} (V : Vw I m R n N og) (G : GdW I n) (hI : InP N R c p d) (hT : ndT (N c) = 1) (hk : k + 8 ≤ 1000) (h80 : I.1 491 80 = zi k) (hK : ∀ J k', eqQ Qpp I J → k' ≤ k + 8 → J.1 491 80 = zi k' → (∀ j, J.1 543 j = I.1 543 j) → K J) : w_M_saysToken (zi c) I K := by
  obtain ⟨l1, l2, l3, l4, l5, l6, l7⟩ := V.len
  have hm := V.2.2.1
  obtain ⟨i1, -⟩ := V.inp hI
  obtain ⟨o, o1, o2, o3⟩ := V.fst hI
  have o4 := o3 (by omega)
  obtain ⟨pl, wd, g1, g2, g3, g4⟩ := G o (by omega)
  unfold w_M_saysToken
  refine ⟨(zin_iff (by omega)).mpr (by omega), fun v2 ev2 => ?_⟩
  rw [zi_tn (show c < 2147483648 by omega), o2] at ev2
  rw [ev2]
  have hin : vp_in (zi o) 110 := (zin_iff (by omega)).mpr (by omega)
  refine ⟨hin, fun v3 ev3 => ?_⟩
  rw [zi_tn (show o < 2147483648 by omega)] at ev3 ⊢
  rw [g1] at ev3
  intro P14 h14
  have main : ∀ (e i : Nat) (J : zI), i + e = pl + wd → pl ≤ i → eqQ Qpp I J → J.1 491 80 = zi (k + (i - pl)) → (∀ j, J.1 543 j = I.1 543 j) → P14 (zi i) J := by
    intro e
    induction e with
    | zero =>
      intro i J hi hp q q80 q3
      refine h14 _ _ ⟨hin, hin, ?_⟩
      rw [show J.1 505 o = zi pl by rw [q.1 505 o (by unfold Qpp; omega)]; exact g1, show J.1 506 o = zi wd by rw [q.1 506 o (by unfold Qpp; omega)]; exact g2, zi_add, if_pos ((zi_le (by omega) (by omega)).mpr (by omega))]
      exact hK J _ q (by omega) q80 q3
    | succ e ih =>
      intro i J hi hp q q80 q3
      refine h14 _ _ ⟨hin, hin, ?_⟩
      rw [show J.1 505 o = zi pl by rw [q.1 505 o (by unfold Qpp; omega)]; exact g1, show J.1 506 o = zi wd by rw [q.1 506 o (by unfold Qpp; omega)]; exact g2, zi_add, if_neg (fun u => by have := (zi_le (by omega) (by omega)).mp u; omega)]
      refine ⟨(zin_iff (by omega)).mpr (by omega), ?_⟩
      refine r_says (k := k + (i - pl)) (by omega) q80 (fun J2 qq e80 e3 => ?_)
      intro v ev
      rw [ev, zi_succ]
      refine ih (i + 1) J2 (by omega) (by omega) (q.tr qq) ?_ (fun j => (e3 j).trans (q3 j))
      rw [e80, show k + (i + 1 - pl) = k + (i - pl) + 1 by omega]
  rw [ev3]
  exact main wd pl I (by omega) (Nat.le_refl _) eqQ.rf (by rw [Nat.sub_self]; exact h80) (fun _ => rfl)
/-! ===== print: the walk ===== -/
def EnV (N : Nat → Nd) (R : Nat) (w : List Nat) : Prop := ∀ e ∈ w, e < 1000 ∨ ∃ c p d, e = 1000 + c ∧ InP N R c p d
theorem EnV.pos {m R n : Nat} {N : Nat → Nd} {og : Nat → Nat} {I : zI} (V : Vw I m R n N og) {e : Nat} {w : List Nat} (h : EnV N R (e :: w)) : 1 ≤ bP N e ∧ 1 ≤ bM N e := by
  rcases h e (List.mem_cons_self ..) with u | ⟨c, p, d, u, hI⟩
  · have := b_by (N := N) u
    omega
  · have := sz_pos V.2.1 (V.inp hI).1
    rw [u, bP_nd, bM_nd]
    omega
theorem EnV.len {m R n : Nat} {N : Nat → Nd} {og : Nat → Nat} {I : zI} (V : Vw I m R n N og) : ∀ {w : List Nat}, EnV N R w → w.length ≤ sP N w
  | [], _ => Nat.zero_le _
  | e :: w, h => by
    have h1 := (EnV.pos V h).1
    have h2 := EnV.len V (fun x hx => h x (List.mem_cons_of_mem _ hx))
    rw [List.length_cons, sP_cons]
    omega
theorem EnV.cons {R e : Nat} {N : Nat → Nd} {w : List Nat} (h : EnV N R w) (he : e < 1000 ∨ ∃ c p d, e = 1000 + c ∧ InP N R c p d) : EnV N R (e :: w) := fun x hx => by
  rcases List.mem_cons.mp hx with rfl | hx
  · exact he
  · exact h x hx
theorem op_tok {m c : Nat} {N : Nat → Nd} (hN : NdOk m N) (hc : c < m) (h : 5 ≤ ndM (N c)) : ndT (N c) = 1 := by
  rcases hN c hc with ⟨-, -, -, e, -⟩ | ⟨r, s, hr, -, e, -⟩
  · exact e
  · exfalso
    have := (sy_fin r hr).2
    change syN r < 5 at this
    unfold ndM at h
    rw [e, if_neg (by omega)] at h
    change 5 ≤ syN r at h
    omega
theorem ge1000 {e : Nat} (he : e < 100000) : (1000 : Int32) ≤ zi e ↔ 1000 ≤ e := zi_le (a := 1000) (by decide) (by omega)
theorem s_prints {c0 p0 d0 m R n : Nat} {N : Nat → Nd} {og : Nat → Nat} {I : zI} {K : zI → Prop} (V : Vw I m R n N og) (G : GdW I n) (hI0 : InP N R c0 p0 d0) (hK : ∀ J k, eqQ Qpp I J → k ≤ 792 → J.1 491 80 = zi k → K J) : w_M_prints (zi c0) I K := by
  obtain ⟨l1, l2, l3, l4, l5, l6, l7⟩ := V.len
  have hm := V.2.2.1
  have hN := V.2.1
  have vk : ∀ J, eqQ Qpp I J → Vw J m R n N og ∧ GdW J n := fun J q => ⟨V.kp (fun a j u => q.1 a j (by unfold Qpp; omega)) (fun j => q.2 511 j (by unfold Qpp; omega)), G.kp (fun a j u => q.1 a j (by unfold Qpp; omega))⟩
  unfold w_M_prints
  intro I1 e1
  have q1 : eqQ Qpp I I1 := by rw [e1]; exact eqQ.rf.zu (Or.inr (Or.inr ⟨rfl, rfl⟩))
  rw [show (1000 : Int32) + zi c0 = zi (1000 + c0) by rw [show (1000 : Int32) = zi 1000 from rfl, zi_add]]
  refine r_pushes (w := []) (by decide) trivial (fun J q q80 sp => ?_)
  intro P16 h16
  have main : ∀ (f : Nat) (w : List Nat) (k : Nat) (J : zI), sM N w ≤ f → EnV N R w → sP N w ≤ 347 → k + sB N w ≤ 792 → StkP J w → J.1 491 80 = zi k → eqQ Qpp I J → P16 (zi w.length) J := by
    intro f
    induction f with
    | zero =>
      intro w k J hf hw hp hb hS h80 hq
      cases w with
      | nil =>
        refine h16 _ _ ?_
        rw [if_pos (show zi ([] : List Nat).length ≤ 0 by decide)]
        exact hK J k hq (by omega) h80
      | cons e w =>
        have := (EnV.pos V hw).2
        rw [sM_cons] at hf
        omega
    | succ f ih =>
      intro w k J hf hw hp hb hS h80 hq
      cases w with
      | nil =>
        refine h16 _ _ ?_
        rw [if_pos (show zi ([] : List Nat).length ≤ 0 by decide)]
        exact hK J k hq (by omega) h80
      | cons e w =>
        obtain ⟨V1, G1⟩ := vk J hq
        have hl := EnV.len V hw
        rw [List.length_cons] at hl
        have hw' : EnV N R w := fun x hx => hw x (List.mem_cons_of_mem _ hx)
        rw [sM_cons] at hf
        rw [sP_cons] at hp hl
        rw [sB_cons] at hb
        refine h16 _ _ ?_
        rw [List.length_cons, if_neg (show ¬ zi (w.length + 1) ≤ 0 from fun u => by have := (zi_le (b := 0) (by omega) (by decide)).mp u; omega)]
        intro v6 ev6
        rw [← Int32.sub_eq_add_neg, show zi (w.length + 1) - 1 = zi w.length from zi_sub (b := 1) (by omega)] at ev6
        rw [ev6]
        refine ⟨(zin_iff (by omega)).mpr (by omega), fun v7 ev7 => ?_⟩
        rw [zi_tn (show w.length < 2147483648 by omega), hS.1] at ev7
        rw [ev7]
        rcases hw e (List.mem_cons_self ..) with u | ⟨c, p, d, u, hI⟩
        · have := b_by (N := N) u
          rw [if_neg (fun v => by have := (ge1000 (by omega)).mp v; omega)]
          refine r_says (k := k) (by omega) h80 (fun J2 q2 e80 e3 => ?_)
          exact ih w (k + 1) J2 (by omega) hw' (by omega) (by omega) (hS.2.kp (fun j _ => e3 j)) e80 (hq.tr q2)
        · obtain ⟨i1, -⟩ := V.inp hI
          rw [u, bM_nd] at hf
          rw [u, bP_nd] at hp hl
          rw [u, bB_nd] at hb
          have szp := sz_pos hN i1
          rw [u, if_pos ((ge1000 (by omega)).mpr (by omega))]
          intro v4 ev4
          rw [show zi (1000 + c) - 1000 = zi c by rw [show zi (1000 + c) - 1000 = zi (1000 + c - 1000) from zi_sub (b := 1000) (by omega), Nat.add_sub_cancel_left]] at ev4
          rw [ev4]
          have hin : vp_in (zi c) 3700 := (zin_iff (by omega)).mpr (by omega)
          refine ⟨hin, fun v5 ev5 => ?_⟩
          rw [zi_tn (show c < 2147483648 by omega), show J.1 509 c = Int32.ofInt (ndR (N c)) from (V1.1.2 c i1).1] at ev5
          rw [ev5]
          have hne := hN c i1
          rcases hne with ⟨r1, r2, r3, r4, r5⟩ | ⟨r, s, r1, r2, r3, r4, r5, r6, r7, r8⟩
          · rw [r1, if_neg (by decide)]
            refine r_saysToken V1 G1 hI r4 (k := k) (by omega) h80 (fun J2 k' q2 hk' e80 e3 => ?_)
            exact ih w k' J2 (by omega) hw' (by omega) (by omega) (hS.2.kp (fun j _ => e3 j)) e80 (hq.tr q2)
          · rw [r3, zi_int r, if_pos (zi_ge (by omega))]
            have hsz := sz_eq hN i1
            have hch4 := hN.ch c i1
            have child : ∀ {A : zI} {i z : Nat} {K' : Int32 → Prop}, eqQ Qpp I A → (ndC (N c))[i]? = some z → K' (zi z) → w_M_childOf (zi c) (zi i) A K' := fun {A i z K'} qA hz hk' => s_MchildOf (k := i) (vk A qA).1.1 (by omega) i1 hch4 hz hk'
            have k1000 : ∀ z : Nat, (1000 : Int32) + zi z = zi (1000 + z) := fun z => by rw [show (1000 : Int32) = zi 1000 from rfl, zi_add]
            have eqr : ∀ k : Nat, k < 100 → (zi r = zi k ↔ r = k) := fun k hk => zi_eq (by omega) (by omega)
            intro P88 h88
            have op : (r = 4 ∨ r = 6) → P88 := by
              intro hr46
              have hrh : ∃ a b e2 : Nat, ndC (N c) = [a, b, e2] ∧ 5 ≤ ndM (N b) := by
                have hr3 : ∃ x y z : Nat, rhS r = [x, y, z] ∧ 5 ≤ y := by
                  rcases hr46 with v | v
                  · exact ⟨2, 9, 3, by rw [v]; rfl, by decide⟩
                  · exact ⟨3, 10, 4, by rw [v]; rfl, by decide⟩
                obtain ⟨x, y, z, hx, hy⟩ := hr3
                rw [hx] at r6
                cases hC : ndC (N c) with
                | nil => rw [hC] at r6; cases r6
                | cons a l =>
                  cases l with
                  | nil => rw [hC] at r6; cases r6
                  | cons b l =>
                    cases l with
                    | nil => rw [hC] at r6; cases r6
                    | cons e2 l =>
                      cases l with
                      | cons g l => rw [hC] at r6; cases r6
                      | nil =>
                        rw [hC] at r6
                        cases r6
                        exact ⟨a, b, e2, rfl, hy⟩
              obtain ⟨a, b, e2, hC, hb5⟩ := hrh
              have hbm : b < m := by
                have := r7 b (by rw [hC]; exact List.mem_cons_of_mem _ (List.mem_cons_self ..))
                omega
              have hbT := op_tok hN hbm hb5
              have hbs := sz_pos hN hbm
              have eT : ndT (N c) = ndT (N a) + (ndT (N b) + ndT (N e2)) := by
                rw [r8, hC, tkS_cons, tkS_cons, tkS_cons]
                rfl
              have eS : sz N c = 1 + (sz N a + (sz N b + sz N e2)) := by
                rw [hsz, hC, szS_cons, szS_cons, szS_cons]
                rfl
              obtain ⟨pa, da, ha⟩ := V.ch hI (show a ∈ ndC (N c) by rw [hC]; exact List.mem_cons_self ..)
              obtain ⟨pe, de, he⟩ := V.ch hI (show e2 ∈ ndC (N c) by rw [hC]; exact List.mem_cons_of_mem _ (List.mem_cons_of_mem _ (List.mem_cons_self ..)))
              refine h88 ?_
              refine r_pushes (e := 41) (by omega) hS.2 (fun A1 qA1 a80 sA1 => ?_)
              have q1 := hq.tr qA1
              refine child (i := 2) q1 (by rw [hC]; rfl) ?_
              rw [k1000]
              refine r_pushes (by rw [List.length_cons]; omega) sA1 (fun A2 qA2 b80 sA2 => ?_)
              have q2 := q1.tr qA2
              intro P128 h128
              have both : ∀ t : Nat, t < 1000 → P128 (zi t) := by
                intro t ht
                refine h128 _ ?_
                refine r_pushes (by rw [List.length_cons, List.length_cons]; omega) sA2 (fun A3 qA3 c80 sA3 => ?_)
                have q3 := q2.tr qA3
                refine child (i := 0) q3 (by rw [hC]; rfl) ?_
                rw [k1000]
                refine r_pushes (by rw [List.length_cons, List.length_cons, List.length_cons]; omega) sA3 (fun A4 qA4 d80 sA4 => ?_)
                have q4 := q3.tr qA4
                refine r_pushes (e := 40) (by rw [List.length_cons, List.length_cons, List.length_cons, List.length_cons]; omega) sA4 (fun A5 qA5 e80 sA5 => ?_)
                have b1 := b_by (N := N) ht
                have b40 := b_by (N := N) (e := 40) (by decide)
                have b41 := b_by (N := N) (e := 41) (by decide)
                refine ih _ k A5 ?_ (((((hw'.cons (Or.inl (by decide))).cons (Or.inr ⟨e2, pe, de, rfl, he⟩)).cons (Or.inl ht)).cons (Or.inr ⟨a, pa, da, rfl, ha⟩)).cons (Or.inl (by decide))) ?_ ?_ sA5 (by rw [e80, d80, c80, b80, a80]; exact h80) (q4.tr qA5)
                · rw [sM_cons, sM_cons, sM_cons, sM_cons, sM_cons, bM_nd, bM_nd]
                  omega
                · rw [sP_cons, sP_cons, sP_cons, sP_cons, sP_cons, bP_nd, bP_nd]
                  omega
                · rw [sB_cons, sB_cons, sB_cons, sB_cons, sB_cons, bB_nd, bB_nd]
                  omega
              split
              · exact both 43 (by decide)
              · exact both 42 (by decide)
            by_cases u4 : r = 4
            · rw [if_pos (show zi r = 4 from (eqr 4 (by decide)).mpr u4)]
              exact op (Or.inl u4)
            rw [if_neg (show ¬ zi r = 4 from fun v => u4 ((eqr 4 (by decide)).mp v))]
            by_cases u6 : r = 6
            · rw [if_pos (show zi r = 6 from (eqr 6 (by decide)).mpr u6)]
              exact op (Or.inr u6)
            rw [if_neg (show ¬ zi r = 6 from fun v => u6 ((eqr 6 (by decide)).mp v))]
            have mem_le : ∀ z, z ∈ ndC (N c) → ndT (N z) ≤ ndT (N c) ∧ sz N z + 1 ≤ sz N c := by
              intro z hz
              have h1 := tkS_mem (N := N) hz
              rw [← r8] at h1
              refine ⟨h1, ?_⟩
              obtain ⟨L1, L2, hL⟩ := List.append_of_mem hz
              rw [hsz, hL]
              unfold szS
              rw [List.map_append, List.map_cons, List.sum_append, List.sum_cons]
              omega
            by_cases u10 : r = 10
            · rw [if_pos (show zi r = 10 from (eqr 10 (by decide)).mpr u10)]
              obtain ⟨z, z1, -, z2⟩ := hN.child (r := 10) (k := 1) (y := 2) i1 (by rw [r3, u10]) rfl
              have hz := List.mem_of_getElem? z1
              obtain ⟨pz, dz, hIz⟩ := V.ch hI hz
              obtain ⟨m1, m2⟩ := mem_le z hz
              refine child (i := 1) hq z1 ?_
              rw [k1000]
              refine r_pushes (by omega) hS.2 (fun A1 qA1 a80 sA1 => ?_)
              refine ih _ k A1 ?_ (hw'.cons (Or.inr ⟨z, pz, dz, rfl, hIz⟩)) ?_ ?_ sA1 (by rw [a80]; exact h80) (hq.tr qA1)
              · rw [sM_cons, bM_nd]
                omega
              · rw [sP_cons, bP_nd]
                omega
              · rw [sB_cons, bB_nd]
                omega
            · rw [if_neg (show ¬ zi r = 10 from fun v => u10 ((eqr 10 (by decide)).mp v))]
              refine ⟨hin, fun v6 ev6 => ?_⟩
              rw [zi_tn (show c < 2147483648 by omega), (V1.chs i1).1] at ev6
              intro P198 h198
              have inner : ∀ (j : Nat) (A : zI), j ≤ (ndC (N c)).length → eqQ Qpp I A → A.1 491 80 = zi k → StkP A (((ndC (N c)).drop j).map (fun c => 1000 + c) ++ w) → P198 (zi (((ndC (N c)).drop j).map (fun c => 1000 + c) ++ w).length) (zi j - 1) A := by
                intro j
                induction j with
                | zero =>
                  intro A hj qA a80 sA
                  refine h198 _ _ _ ?_
                  rw [if_pos (show zi 0 - 1 < 0 by decide)]
                  rw [List.drop_zero] at sA ⊢
                  obtain ⟨s1, s2, s3⟩ := s_ch (N := N) (w := w) (l := ndC (N c))
                  refine ih _ k A ?_ (fun x hx => ?_) ?_ ?_ sA a80 qA
                  · rw [s3, ← r8]
                    omega
                  · rcases List.mem_append.mp hx with hx | hx
                    · obtain ⟨z, hz, rfl⟩ := List.mem_map.mp hx
                      obtain ⟨pz, dz, hIz⟩ := V.ch hI hz
                      exact Or.inr ⟨z, pz, dz, rfl, hIz⟩
                    · exact hw' x hx
                  · rw [s2, ← r8]
                    omega
                  · rw [s1, ← r8]
                    omega
                | succ j ih2 =>
                  intro A hj qA a80 sA
                  refine h198 _ _ _ ?_
                  rw [show zi (j + 1) - 1 = zi j from zi_sub (b := 1) (by omega), if_neg (zi_pos (by omega))]
                  have hz : (ndC (N c))[j]? = some ((ndC (N c))[j]'(by omega)) := List.getElem?_eq_getElem (by omega)
                  generalize (ndC (N c))[j]'(by omega) = z at hz
                  refine child (i := j) qA hz ?_
                  rw [k1000]
                  have hlen : (((ndC (N c)).drop (j + 1)).map (fun c => 1000 + c) ++ w).length < 700 := by
                    rw [List.length_append, List.length_map, List.length_drop]
                    omega
                  refine r_pushes hlen sA (fun A1 qA1 b80 sA1 => ?_)
                  intro v ev
                  rw [ev, ← Int32.sub_eq_add_neg]
                  have hd : (ndC (N c)).drop j = z :: (ndC (N c)).drop (j + 1) := by
                    rw [List.drop_eq_getElem_cons (by omega : j < (ndC (N c)).length)]
                    have := (List.getElem?_eq_some_iff.mp hz).2
                    rw [this]
                  have := ih2 A1 (by omega) (qA.tr qA1) (by rw [b80]; exact a80) (by rw [hd]; exact sA1)
                  rw [hd] at this
                  exact this
              have := inner (ndC (N c)).length J (Nat.le_refl _) hq h80 (by rw [List.drop_length]; exact hS.2)
              rw [List.drop_length] at this
              rw [ev6]
              exact this
  obtain ⟨z1, -⟩ := V.inp hI0
  have hT := V.2.2.2.2.2.2.2 c0 z1
  have t9 : ndT (N c0) ≤ 99 ∧ sz N c0 ≤ 248 := by
    obtain ⟨f, f1, f2, f3⟩ := hI0
    have a1 := sz_inR hN l7 f1
    rw [f2] at a1
    obtain ⟨-, -, o, o1, -⟩ := fl_in hN R l7 _ _ _ _ _ _ f1
    rw [V.2.2.2.1.tk hN, f2] at o1
    omega
  refine main _ [1000 + c0] 0 J (Nat.le_refl _) (fun x hx => ?_) ?_ ?_ sp ?_ (q1.tr q)
  · rw [List.mem_singleton.mp hx]
    exact Or.inr ⟨c0, p0, d0, rfl, hI0⟩
  · rw [sP_cons, bP_nd]
    show _ + 0 ≤ 347
    omega
  · rw [sB_cons, bB_nd]
    show 0 + (_ + 0) ≤ 792
    omega
  · rw [q80, e1, zu_self]
    rfl
/-! ===== print, alike, value, worth: the model ===== -/
def Qal (a j : Nat) : Prop := Qpp a j ∨ a = 545 ∨ Qra a j
theorem Qal_mo {I J : zI} (q : eqQ Qal I J) : eqQ Qmo I J := q.mono (fun a j h => by unfold Qal Qpp Qra Qrk Qna at h; unfold Qmo; omega)
theorem RM.al {I J : zI} {x : Sg} (hv : Iv x) (h : RM I x) (q : eqQ Qal I J) : RM J x := RM.kp (tp := x.1) hv h (fun a j u => q.1 a j (by unfold Qal Qpp Qra Qrk Qna; omega)) (fun a j u => q.2 a j (by unfold Qal Qpp Qra Qrk Qna; omega))
theorem Qpp_al {I J : zI} (q : eqQ Qpp I J) : eqQ Qal I J := q.mono (fun a j h => Or.inl h)
theorem Qra_al {I J : zI} (q : eqQ Qra I J) : eqQ Qal I J := q.mono (fun a j h => Or.inr (Or.inr h))
theorem Vw.root {m R n : Nat} {N : Nat → Nd} {og : Nat → Nat} {I : zI} (V : Vw I m R n N og) : InP N R R 0 1 := by
  obtain ⟨l1, l2, l3, l4, l5, l6, l7⟩ := V.len
  obtain ⟨c, d, hI⟩ := inp_at (N := N) (R := R) (p := 0) (by omega)
  obtain ⟨-, b, -⟩ := InP.pos V.2.1 l7 _ _ _ hI
  obtain ⟨rfl, rfl⟩ := b rfl
  exact hI
theorem m_print {x : Sg} {a : Int32} {I : zI} {K : Int32 → zI → Prop} (hv : Iv x) (hR : RM I x) (hK : ∀ v J, eqQ Qmo I J → RM J x → K v J) : w_M_print a I K := by
  have V := hR.view hv
  unfold w_M_print
  rw [show I.1 491 37 = zi (moR (sgC x)) from V.2.2.2.2.1.1]
  refine s_prints V (hR.gdw hv) V.root (fun J k q hk h80 => ?_)
  have done : ∀ v, K v J := fun v => hK v J (Qal_mo (Qpp_al q)) (hR.al hv (Qpp_al q))
  rw [h80]
  refine s_in (fun c => ?_) (fun _ => ?_)
  · obtain ⟨i, hi, rfl⟩ := in_idx (by omega) c
    rw [if_neg (by decide)]
    exact ⟨(zin_iff (by omega)).mpr (by omega), done _⟩
  · rw [if_pos rfl]
    exact done _
theorem m_alike {x : Sg} {a b : Int32} {I : zI} {K : Int32 → zI → Prop} (hv : Iv x) (hR : RM I x) (hK : ∀ v J, eqQ Qmo I J → RM J x → K v J) : w_M_alike a b I K := by
  have V := hR.view hv
  have done : ∀ v J, eqQ Qal I J → K v J := fun v J q => hK v J (Qal_mo q) (hR.al hv q)
  refine s_isTerm V (fun c p d e hI _ => ?_) ?_
  rotate_left
  · rw [if_pos rfl]
    exact done _ I eqQ.rf
  rw [if_neg (by decide)]
  refine s_isTerm V (fun c2 p2 d2 e2 hI2 _ => ?_) ?_
  rotate_left
  · rw [if_pos rfl]
    exact done _ I eqQ.rf
  rw [if_neg (by decide), e]
  refine s_prints V (hR.gdw hv) hI (fun J k q hk h80 => ?_)
  intro v3 ev3
  rw [ev3, h80]
  intro P31 h31
  have main : ∀ (f i : Nat) (A : zI), i + f = k → eqQ Qal I A → P31 (zi i) A := by
    intro f
    induction f with
    | zero =>
      intro i A hi qA
      refine h31 _ _ ?_
      rw [if_pos ((zi_le (by omega) (by omega)).mpr (by omega)), e2]
      have rA := hR.al hv qA
      refine s_prints (rA.view hv) (rA.gdw hv) hI2 (fun B k2 qB hk2 hB80 => ?_)
      have qB' := qA.tr (Qpp_al qB)
      split
      · intro P75 h75
        refine up_idx (n := k) (P := P75) (fun i hi ih => ?_) ?_ 0 (Nat.zero_le _)
        · refine h75 _ ?_
          have hin : vp_in (zi i) 1000 := (zin_iff (by omega)).mpr (by omega)
          rw [if_neg (fun u => by have := (zi_le (by omega) (by omega)).mp u; omega)]
          refine ⟨hin, hin, ?_⟩
          split
          · intro v ev
            rw [ev, zi_succ]
            exact ih
          · exact done _ B qB'
        · refine h75 _ ?_
          rw [if_pos (Int32.le_refl _)]
          exact done _ B qB'
      · exact done _ B qB'
    | succ f ih =>
      intro i A hi qA
      refine h31 _ _ ?_
      have hin : vp_in (zi i) 1000 := (zin_iff (by omega)).mpr (by omega)
      rw [if_neg (fun u => by have := (zi_le (by omega) (by omega)).mp u; omega)]
      refine ⟨hin, hin, fun I13 e13 v ev => ?_⟩
      rw [ev, zi_succ]
      exact ih (i + 1) I13 (by omega) (by rw [e13]; exact qA.zu (Or.inr (Or.inl rfl)))
  exact main k 0 J (by omega) (Qpp_al q)
theorem m_value {x : Sg} {a : Int32} {I : zI} {K : Int32 → zI → Prop} (hv : Iv x) (hR : RM I x) (hK : ∀ v J, eqQ Qmo I J → RM J x → K v J) : w_M_value a I K := by
  have V := hR.view hv
  have hm := V.2.2.1
  have done : ∀ v J, eqQ Qal I J → K v J := fun v J q => hK v J (Qal_mo q) (hR.al hv q)
  obtain ⟨l1, l2, l3, l4, l5, l6, l7⟩ := V.len
  refine s_MisGoodName hv hR (fun i hi e h0 => ?_) ?_
  rotate_left
  · rw [if_pos rfl]
    exact done _ I eqQ.rf
  rw [if_neg (by decide), e]
  refine r_runsAllN (e := false) V.1 V.2.1 (by omega) V.2.2.2.1 V.2.2.2.2.1 (fun v J q nJ => ?_)
  refine ⟨(zin_iff (by omega)).mpr (by omega), ?_⟩
  rw [zi_tn (show i < 2147483648 by omega)]
  obtain ⟨k1, k2, k3, k4, k5⟩ := kd_ok hv.2.2.2.2.2.2.2.1.2.1
  obtain ⟨u1, u2⟩ := hR.2.2.2.2.2.2.2.1.2.2.2.2.2.2.1
  have hy := k5 i (by omega)
  have g7 : J.2 507 i = isV (txF (moG (sgC x))) ((lexL (moG (sgC x))).getD i (10, 0, 0)) := by
    rw [q.2 507 i (by unfold Qra Qrk Qna; omega)]
    exact (u2 i _ hy).2.2.2
  obtain ⟨tk1, tk2⟩ := hv.2.2.2.2.2.2.2.1.2.2.2.2 i _ hy
  obtain ⟨p, d, d2, hI⟩ := V.tok hi
  obtain ⟨i1, -, -, -, -, -, hpo⟩ := V.inp hI
  have hog := V.2.2.2.1.2.2.2.2.1 i (by omega)
  have hin : isV (txF (moG (sgC x))) ((lexL (moG (sgC x))).getD i (10, 0, 0)) ∈ nmL (sgN x) (moR (sgC x)) := by
    have h0' : ((lexL (moG (sgC x))).getD i (10, 0, 0)).1 = 0 := h0
    refine List.mem_map.mpr ⟨moO (sgC x) i, List.mem_filter.mpr ⟨hpo, decide_eq_true ⟨hog.2, by rw [tk1]; exact h0'⟩⟩, ?_⟩
    unfold nmV
    rw [tk1, tk2]
    exact isV_bs (lex_ok hv.2.2.2.2.2.2.2.1.2.1.2.1 _ (List.mem_of_getElem? hy)).1
  rw [g7]
  refine s_nameOf (nmL_len V.2.1 V.2.2.2.1) hin nJ (fun r C hr qC nC => ⟨(zin_iff (by omega)).mpr (by omega), ?_⟩)
  exact done _ C ((Qra_al q).tr (qC.mono (fun a j h => Or.inr (Or.inr (Or.inl (Or.inl h))))))
theorem m_worth {x : Sg} {a : Int32} {I : zI} {K : Int32 → zI → Prop} (hv : Iv x) (hR : RM I x) (hK : ∀ v J, eqQ Qmo I J → RM J x → K v J) : w_M_worth a I K := by
  have V := hR.view hv
  have hm := V.2.2.1
  have done : ∀ v J, eqQ Qal I J → K v J := fun v J q => hK v J (Qal_mo q) (hR.al hv q)
  refine s_isTerm V (fun c p d e hI _ => ?_) ?_
  rotate_left
  · rw [if_pos rfl]
    exact done _ I eqQ.rf
  rw [if_neg (by decide), e]
  obtain ⟨i1, i2, i3, i4, i5, -⟩ := V.inp hI
  have hin : vp_in (zi c) 3700 := (zin_iff (by omega)).mpr (by omega)
  refine r_runsAllN (e := false) V.1 V.2.1 (by omega) V.2.2.2.1 V.2.2.2.2.1 (fun v J q nJ => ⟨hin, ?_⟩)
  have V1 := (hR.al hv (Qra_al q)).view hv
  rw [zi_tn (show c < 2147483648 by omega), (V1.inp hI).2.2.2.2.1]
  obtain ⟨f, f1, f2, f3⟩ := hI
  refine r_reckons V1.1 V1.2.1 (by omega) V1.2.2.2.1 f1 V1.2.2.2.2.1.tv nJ (fun B qB nB => ⟨hin, ?_⟩)
  exact done _ B ((Qra_al q).tr (Qra_al (qB.mono (fun a j h => Or.inl h))))
/-! ===== the PAIRS of each TREE that was are there ===== -/
theorem fmP_pre {a b : Nat} {pl : List (Nat × Nat)} : (∃ m, (fmP a b pl).2 = pl ++ m) ∧ (fmP a b pl).2[(fmP a b pl).1]? = some (a, b) := by
  unfold fmP
  cases e : pl.findIdx? (fun p => p == (a, b)) with
  | some j => exact ⟨⟨[], (List.append_nil _).symm⟩, fmp_at e⟩
  | none =>
    refine ⟨⟨[(a, b)], rfl⟩, ?_⟩
    show (pl ++ [(a, b)])[pl.length]? = some (a, b)
    rw [List.getElem?_append_right (Nat.le_refl _), Nat.sub_self]
    rfl
theorem layR_eq {rs : List Nat} {d f part : Nat} {pl : List (Nat × Nat)} (hp : ¬ part ≤ 1) : layR rs (d + 1) f part pl = (10000 + (fmP (layR rs d f ((part + 1) / 2) pl).1 (layR rs d (f + (part + 1) / 2) (part - (part + 1) / 2) (layR rs d f ((part + 1) / 2) pl).2).1 (layR rs d (f + (part + 1) / 2) (part - (part + 1) / 2) (layR rs d f ((part + 1) / 2) pl).2).2).1,
      (fmP (layR rs d f ((part + 1) / 2) pl).1 (layR rs d (f + (part + 1) / 2) (part - (part + 1) / 2) (layR rs d f ((part + 1) / 2) pl).2).1 (layR rs d (f + (part + 1) / 2) (part - (part + 1) / 2) (layR rs d f ((part + 1) / 2) pl).2).2).2) := by
  show (if part ≤ 1 then (rs.getD f 0, pl) else _) = _
  rw [if_neg hp]
theorem layR_one {rs : List Nat} {d f part : Nat} {pl : List (Nat × Nat)} (hp : part ≤ 1) : layR rs (d + 1) f part pl = (rs.getD f 0, pl) := by
  show (if part ≤ 1 then (rs.getD f 0, pl) else _) = _
  rw [if_pos hp]
theorem layR_pre {rs : List Nat} : ∀ (d f part : Nat) (pl : List (Nat × Nat)), ∃ m, (layR rs d f part pl).2 = pl ++ m
  | 0, f, part, pl => ⟨[], (List.append_nil _).symm⟩
  | d + 1, f, part, pl => by
    by_cases hp : part ≤ 1
    · rw [layR_one hp]
      exact ⟨[], (List.append_nil _).symm⟩
    · rw [layR_eq hp]
      obtain ⟨m1, e1⟩ := layR_pre (rs := rs) d f ((part + 1) / 2) pl
      obtain ⟨m2, e2⟩ := layR_pre (rs := rs) d (f + (part + 1) / 2) (part - (part + 1) / 2) (layR rs d f ((part + 1) / 2) pl).2
      obtain ⟨⟨m3, e3⟩, -⟩ := fmP_pre (a := (layR rs d f ((part + 1) / 2) pl).1) (b := (layR rs d (f + (part + 1) / 2) (part - (part + 1) / 2) (layR rs d f ((part + 1) / 2) pl).2).1) (pl := (layR rs d (f + (part + 1) / 2) (part - (part + 1) / 2) (layR rs d f ((part + 1) / 2) pl).2).2)
      refine ⟨m1 ++ (m2 ++ m3), ?_⟩
      dsimp only
      rw [e3, e2, e1, List.append_assoc, List.append_assoc]
theorem layR_ext {rs : List Nat} {F : List (Nat × Nat)} (hu : PrU F) : ∀ (d f part : Nat) (pl : List (Nat × Nat)), (∃ m, F = (layR rs d f part pl).2 ++ m) → layR rs d f part F = ((layR rs d f part pl).1, F)
  | 0, f, part, pl, _ => rfl
  | d + 1, f, part, pl, hF => by
    by_cases hp : part ≤ 1
    · rw [layR_one hp, layR_one hp]
    · obtain ⟨m, hm⟩ := hF
      rw [layR_eq hp] at hm
      rw [layR_eq (pl := F) hp, layR_eq (pl := pl) hp]
      obtain ⟨m2, e2⟩ := layR_pre (rs := rs) d (f + (part + 1) / 2) (part - (part + 1) / 2) (layR rs d f ((part + 1) / 2) pl).2
      obtain ⟨⟨m3, e3⟩, hat⟩ := fmP_pre (a := (layR rs d f ((part + 1) / 2) pl).1) (b := (layR rs d (f + (part + 1) / 2) (part - (part + 1) / 2) (layR rs d f ((part + 1) / 2) pl).2).1) (pl := (layR rs d (f + (part + 1) / 2) (part - (part + 1) / 2) (layR rs d f ((part + 1) / 2) pl).2).2)
      dsimp only at hm
      have i1 := layR_ext (rs := rs) hu d f ((part + 1) / 2) pl ⟨m2 ++ (m3 ++ m), by rw [hm, e3, e2, List.append_assoc, List.append_assoc]⟩
      have i2 := layR_ext (rs := rs) hu d (f + (part + 1) / 2) (part - (part + 1) / 2) (layR rs d f ((part + 1) / 2) pl).2 ⟨m3 ++ m, by rw [hm, e3, List.append_assoc]⟩
      rw [i1]
      dsimp only
      rw [i2]
      dsimp only
      have hat2 : F[(fmP (layR rs d f ((part + 1) / 2) pl).1 (layR rs d (f + (part + 1) / 2) (part - (part + 1) / 2) (layR rs d f ((part + 1) / 2) pl).2).1 (layR rs d (f + (part + 1) / 2) (part - (part + 1) / 2) (layR rs d f ((part + 1) / 2) pl).2).2).1]? = some ((layR rs d f ((part + 1) / 2) pl).1, (layR rs d (f + (part + 1) / 2) (part - (part + 1) / 2) (layR rs d f ((part + 1) / 2) pl).2).1) := by
        have hl := (List.getElem?_eq_some_iff.mp hat).1
        rw [hm, List.getElem?_append_left hl]
        exact hat
      rw [fmp_is hu hat2]
theorem layAllR_pre {rs : List Nat} {pl : List (Nat × Nat)} : ∃ m, layAllR rs pl = pl ++ m := by
  unfold layAllR
  split
  · exact ⟨[], (List.append_nil _).symm⟩
  · exact layR_pre _ _ _ _
theorem layAllR_ext {rs : List Nat} {F pl : List (Nat × Nat)} (hu : PrU F) (hF : ∃ m, F = layAllR rs pl ++ m) : layAllR rs F = F := by
  unfold layAllR at hF ⊢
  split
  · rfl
  · rename_i h
    rw [if_neg h] at hF
    rw [layR_ext hu _ _ _ _ hF]
/-! ===== a TREE looks the same among more nodes ===== -/
theorem flF_cg {m : Nat} {N N' : Nat → Nd} (h : NdOk m N) (e : ∀ c, c < m → N' c = N c) : ∀ (d c q p t dep : Nat), c < m → flF N' d c q p t dep = flF N d c q p t dep
  | 0, _, _, _, _, _, _ => rfl
  | d + 1, c, q, p, t, dep, hc => by
    have eE : ∀ c, c < m → NdE (N c) (N' c) := fun c hc => by rw [e c hc]; exact NdE.rf
    have es : ∀ c, c < m → sz N' c = sz N c := fun c hc => by
      unfold sz
      rw [po_cg h eE hc]
    show flH N' c q t dep :: flL (fun c' p' t' => flF N' d c' p p' t' (dep + 1)) N' (ndC (N' c)) (p + 1) t = flH N c q t dep :: flL (fun c' p' t' => flF N d c' p p' t' (dep + 1)) N (ndC (N c)) (p + 1) t
    have eh : flH N' c q t dep = flH N c q t dep := by
      unfold flH
      rw [e c hc, es c hc]
    have el : ∀ (l : List Nat) (p' t' : Nat), (∀ z ∈ l, z < m) → flL (fun c' p' t' => flF N' d c' p p' t' (dep + 1)) N' l p' t' = flL (fun c' p' t' => flF N d c' p p' t' (dep + 1)) N l p' t' := by
      intro l
      induction l with
      | nil =>
        intro p' t' _
        rfl
      | cons z l ih =>
        intro p' t' hl
        have hz := hl z (List.mem_cons_self ..)
        show flF N' d z p p' t' (dep + 1) ++ flL _ N' l (p' + sz N' z) (t' + ndT (N' z)) = flF N d z p p' t' (dep + 1) ++ flL _ N l (p' + sz N z) (t' + ndT (N z))
        rw [flF_cg h e d z p p' t' (dep + 1) hz, es z hz, e z hz, ih _ _ (fun x hx => hl x (List.mem_cons_of_mem _ hx))]
    rw [eh, e c hc, el _ _ _ (fun z hz => by have := h.lt hc hz; omega)]
theorem flR_cg {m R : Nat} {N N' : Nat → Nd} (h : NdOk m N) (e : ∀ c, c < m → N' c = N c) (hR : R < m) : flR N' R = flR N R := flF_cg h e _ _ _ _ _ _ hR
theorem rnL_cg {m : Nat} {N N' : Nat → Nd} {F : List Fl} (e : ∀ c, c < m → N' c = N c) (hF : ∀ x ∈ F, x.1 < m) : ∀ d p, rnL N' F d p = rnL N F d p
  | 0, _ => rfl
  | d + 1, p => by
    cases hx : F[p]? with
    | none => rw [rnL_no (List.getElem?_eq_none_iff.mp hx), rnL_no (List.getElem?_eq_none_iff.mp hx)]
    | some x =>
      rw [rnL_at hx, rnL_at hx, e x.1 (hF x (List.mem_of_getElem? hx)), rnL_cg e hF d _, rnL_cg e hF d _]
theorem runsOf_cg {m R : Nat} {N N' : Nat → Nd} (h : NdOk m N) (e : ∀ c, c < m → N' c = N c) (hR : R < m) : runsOf N' R = runsOf N R := by
  unfold runsOf
  rw [flR_cg h e hR]
  refine rnL_cg e (fun x hx => ?_) _ _
  obtain ⟨i, hi⟩ := List.mem_iff_getElem?.mp hx
  have := po_le h R hR _ (fl_po h hR hi)
  omega
theorem rowI_ext {rs : List Nat} {F pl : List (Nat × Nat)} (hu : PrU F) (hF : ∃ m, F = layAllR rs pl ++ m) : rowI rs F = rowI rs pl := by
  unfold layAllR at hF
  unfold rowI
  by_cases h : rs.length = 0
  · rw [if_pos h, if_pos h]
  · rw [if_neg h] at hF
    rw [if_neg h, if_neg h, layR_ext hu _ _ _ _ hF]
/-- and its ROW is theirs -/
def PcM (N : Nat → Nd) (pl : List (Nat × Nat)) (y : Mo) : Prop := layAllR (runsOf N (moR y)) pl = pl ∧ moW y = rowI (runsOf N (moR y)) pl
def Pc (x : Sg) : Prop := PcM (sgN x) (sgP x) (sgC x) ∧ (∀ y ∈ sgA x, PcM (sgN x) (sgP x) y) ∧ ∀ y ∈ sgZ x, PcM (sgN x) (sgP x) y
theorem PcM.cg {m : Nat} {N N' : Nat → Nd} {pl pl' : List (Nat × Nat)} {y : Mo} (hN : NdOk m N) (o : MoOk m N y) (e : ∀ k, k < m → N' k = N k) (hu : PrU pl') (hp : ∃ w, pl' = pl ++ w) (h : PcM N pl y) : PcM N' pl' y := by
  unfold PcM at h ⊢
  rw [runsOf_cg hN e o.2.2.2.1.1]
  obtain ⟨h1, h2⟩ := h
  refine ⟨layAllR_ext (pl := pl) hu (by rw [h1]; exact hp), ?_⟩
  rw [h2]
  exact (rowI_ext (pl := pl) hu (by rw [h1]; exact hp)).symm
theorem chg_pc {x : Sg} {d tp : List Int32} (hv : Iv x) (hd : txOk d) (hr : ¬ refu x d) (he : sgE x < 100000) (hp : Pc x) : Pc (chg x d tp) := by
  obtain ⟨m1, g, N1, k, y, hreg, hn, hrun, -, q1, q2, q3, q4, q5, q6, q7, q8⟩ := reg_ok hv hd
  have hu2 : PrU (sgP (chg x d [])) := (chg_ok (tp := []) hv hd hr ⟨Nat.zero_le _, fun b hb => by cases hb⟩ he).2.2.2.2.2.1.1
  obtain ⟨-, hN, hu, -, -, -, -, hC, hA, hZ, -⟩ := hv
  obtain ⟨p1, p2, p3⟩ := hp
  have hY : regY x d = y := by
    unfold regY
    rw [hreg]
  have hA2 : ∀ z ∈ (sgC x :: sgA x).take 20, MoOk (sgM x) (sgN x) z ∧ PcM (sgN x) (sgP x) z := fun z hz => by
    rcases List.mem_cons.mp (List.mem_of_mem_take hz) with rfl | hz
    · exact ⟨hC, p1⟩
    · exact ⟨hA z hz, p2 z hz⟩
  unfold chg newC at hu2
  unfold Pc chg newC
  rw [hY] at hu2 ⊢
  by_cases hg : y.1 + 1 = (lexL d).length ∧ topS y.2.2.2.1 = 1
  · rw [if_pos hg, if_pos hg, if_pos hg] at hu2 ⊢
    have hu3 : PrU (layAllR (runsOf y.2.2.1 (regR x d)) (sgP x)) := hu2
    refine ⟨⟨?_, (rowI_ext (pl := sgP x) hu3 ⟨[], (List.append_nil _).symm⟩).symm⟩, fun z hz => (hA2 z hz).2.cg hN (hA2 z hz).1 q1 hu3 layAllR_pre, fun z hz => by cases hz⟩
    show layAllR (runsOf y.2.2.1 (regR x d)) (layAllR (runsOf y.2.2.1 (regR x d)) (sgP x)) = layAllR (runsOf y.2.2.1 (regR x d)) (sgP x)
    exact layAllR_ext (pl := sgP x) hu3 ⟨[], (List.append_nil _).symm⟩
  · rw [if_neg hg, if_neg hg, if_neg hg]
    exact ⟨p1, fun z hz => (hA2 z hz).2, fun z hz => by cases hz⟩
theorem doC_pc {x : Sg} {d : List Int32} {bt : Bool} (hv : Iv x) (hd : BtL d) (he : sgE x < 100000) (hp : Pc x) : Pc (doC x d bt).2 := by
  unfold doC
  by_cases u : 300 < d.length ∨ 3000 ≤ sgM x ∨ 3900 ≤ (sgP x).length ∨ 100 < (lexL d).length
  · rw [if_pos u]
    exact hp
  · rw [if_neg u]
    exact chg_pc hv ⟨by omega, hd.at, by omega⟩ u he hp
theorem undo_pc {x : Sg} (hp : Pc x) : Pc (undoR x).2 := by
  obtain ⟨l1, l2, l3⟩ := id hp
  unfold undoR
  cases hA : sgA x with
  | nil => exact hp
  | cons y A =>
    rw [hA] at l2
    refine ⟨l2 y (List.mem_cons_self ..), fun z hz => l2 z (List.mem_cons_of_mem _ hz), fun z hz => ?_⟩
    rcases List.mem_cons.mp hz with rfl | hz
    · exact l1
    · exact l3 z hz
theorem redo_pc {x : Sg} (hp : Pc x) : Pc (redoR x).2 := by
  obtain ⟨l1, l2, l3⟩ := id hp
  unfold redoR
  cases hZ : sgZ x with
  | nil => exact hp
  | cons y Z =>
    rw [hZ] at l3
    refine ⟨l3 y (List.mem_cons_self ..), fun z hz => ?_, fun z hz => l3 z (List.mem_cons_of_mem _ hz)⟩
    rcases List.mem_cons.mp hz with rfl | hz
    · exact l1
    · exact l2 z hz
def Qrz (a j : Nat) : Prop := Qro a j ∨ (a = 491 ∧ j = 65)
def vRow (x : Sg) (a : Int32) : Int32 := if a = 0 then rowI (runsOf (sgN x) (moR (sgC x))) (sgP x) else if a = 1 then zi (dpF 9 (runsOf (sgN x) (moR (sgC x))).length) else -1
theorem u_row {x : Sg} {a : Int32} {I : zI} {K : Int32 → zI → Prop} (hv : Iv x) (hp : Pc x) (hR : RM I x) (hK : ∀ J, eqQ Qmo I J → RM J x → K (vRow x a) J) : w_M_row a I K := by
  unfold w_M_row
  unfold vRow at hK
  refine s_in (fun c => ?_) (fun c => ?_)
  rotate_left
  · rw [if_pos rfl]
    rw [if_neg (fun u => c (by rw [u]; exact ⟨by decide, by decide⟩)), if_neg (fun u => c (by rw [u]; exact ⟨by decide, by decide⟩))] at hK
    exact hK I eqQ.rf hR
  rw [if_neg (by decide)]
  intro I2 e2
  have q2' : eqQ (fun a j => a = 491 ∧ j = 65) I I2 := by rw [e2]; exact eqQ.rf.zu ⟨rfl, rfl⟩
  have q2 : eqQ Qrz I I2 := q2'.mono (fun a j h => Or.inr h)
  have r2 : RM I2 x := RM.kp (tp := x.1) hv hR (fun a j u => q2'.1 a j (by omega)) (fun a j u => q2'.2 a j (by omega))
  obtain ⟨u1, u2⟩ := runs_ok hv.2.1 hv.2.2.1 hv.2.2.2.2.2.2.2.1.2.2.2.1
  have hpl := hv.2.2.2.2.2.1
  obtain ⟨v1, v2, v3, v4⟩ := r2.2.2.1.2.2.2
  have hm := hv.2.2.2.1
  refine s_rowNow (fun r hr => by have := u1 r hr; omega) u2 (by have := hpl.2; omega) hpl.1 r2.2.2.2.1 v1 v3 (fun J q pJ d1 d0 => ?_)
  have qJ : eqQ Qrz I J := q2.tr (q.mono (fun a j h => Or.inl h))
  have hpc : layAllR (runsOf (sgN x) (moR (sgC x))) (sgP x) = sgP x := hp.1.1
  rw [hpc] at pJ
  have rJ : RM J x := by
    -- all but the PAIRS' rows is as it was
    have f1 : ∀ a j, ¬ Qrz a j → J.1 a j = I.1 a j := fun a j u => qJ.1 a j u
    obtain ⟨r1, r2, r3, r4, r5, r6, r7, nw, sC, sA, sZ⟩ := hR
    obtain ⟨hTp, hN, hu, hm, hTk, hP, hE, hC, hA, hZ, hAZ⟩ := hv
    have e : ∀ a j, ((a = 491 ∧ (j = 0 ∨ j = 5 ∨ j = 7 ∨ j = 8 ∨ j = 15 ∨ j = 19 ∨ j = 25 ∨ j = 36 ∨ j = 37 ∨ j = 43 ∨ j = 51 ∨ j = 53 ∨ j = 75 ∨ j = 76)) ∨ a = 492 ∨ (494 ≤ a ∧ a ≤ 495) ∨ (501 ≤ a ∧ a ≤ 516) ∨ (521 ≤ a ∧ a ≤ 526) ∨ a = 528 ∨ a = 529 ∨ a = 542) → J.1 a j = I.1 a j := fun a j u => f1 a j (by unfold Qrz Qro; omega)
    have e2 : ∀ a j, a = 507 ∨ a = 511 → J.2 a j = I.2 a j := fun a j u => qJ.2 a j (by unfold Qrz Qro; omega)
    exact ⟨r1.kp (e _ _ (by omega)) (fun j => e _ _ (by omega)), r2.kp2 (e _ _ (by omega)) (fun a j u1 u2 => e a j (by omega)) (fun j => e2 511 j (Or.inr rfl)), r3.kp (fun a j u => e a j (by omega)), pJ, by rw [e _ _ (by omega)]; exact r5, by rw [e _ _ (by omega)]; exact r6, by rw [e _ _ (by omega)]; exact r7, nw.kp (fun a j u => e a j (by omega)) (fun j => e2 507 j (Or.inl rfl)), sC.kp hC.1 hC.2.1 (fun j _ _ => e _ _ (by omega)), fun k y hy => (sA k y hy).kp (hA y (List.mem_of_getElem? hy)).1 (hA y (List.mem_of_getElem? hy)).2.1 (fun j _ _ => e _ _ (by omega)), fun k y hy => (sZ k y hy).kp (hZ y (List.mem_of_getElem? hy)).1 (hZ y (List.mem_of_getElem? hy)).2.1 (fun j _ _ => e _ _ (by omega))⟩
  have hKJ := hK J (qJ.mono (fun a j h => by unfold Qrz Qro at h; unfold Qmo; omega)) rJ
  by_cases a0 : a = 0
  · rw [if_pos a0] at hKJ ⊢
    exact hKJ
  · obtain ⟨k, hk, rfl⟩ := zi_of c.1
    have hk1 := (zi_le (b := 1) hk (by decide)).mp c.2
    have k0 : k ≠ 0 := fun u => a0 (by rw [u]; rfl)
    rw [if_neg a0, if_pos (show zi k = 1 by rw [show k = 1 by omega]; rfl)] at hKJ
    rw [if_neg a0]
    by_cases h0 : (runsOf (sgN x) (moR (sgC x))).length = 0
    · rw [d0 h0, e2, zu_self]
      rw [h0, d0 h0] at hKJ
      rw [e2] at hKJ
      exact hKJ
    · rw [d1 h0]
      exact hKJ
theorem m_row {x : Sg} {a : Int32} {I : zI} {K : Int32 → zI → Prop} (hv : Iv x) (hp : Pc x) (hR : RM I x) (hK : ∀ v J, eqQ Qmo I J → RM J x → K v J) : w_M_row a I K := u_row hv hp hR (fun J q r => hK _ J q r)
/-! ===== count: the model ===== -/
theorem m_count {x : Sg} {a : Int32} {I : zI} {K : Int32 → zI → Prop} (hv : Iv x) (hR : RM I x) (hK : ∀ v J, eqQ Qmo I J → RM J x → K v J) : w_M_count a I K := by
  have V := hR.view hv
  have hm := V.2.2.1
  obtain ⟨l1, l2, l3, l4, l5, l6, l7⟩ := V.len
  have d0 : ∀ v, K v I := fun v => hK v I eqQ.rf hR
  unfold w_M_count
  by_cases c0 : a = 0
  · rw [if_pos c0]
    exact d0 _
  rw [if_neg c0]
  by_cases c1 : a = 1
  · rw [if_pos c1]
    exact d0 _
  rw [if_neg c1]
  by_cases c2 : a = 2
  · rw [if_pos c2]
    split
    · exact d0 _
    · exact d0 _
  rw [if_neg c2]
  by_cases c3 : a = 3
  · rw [if_pos c3]
    exact d0 _
  rw [if_neg c3]
  by_cases c4 : a = 4
  · rw [if_pos c4]
    exact d0 _
  rw [if_neg c4]
  by_cases c5 : a = 5
  · rw [if_pos c5]
    exact d0 _
  rw [if_neg c5]
  by_cases c6 : a = 6
  · rw [if_pos c6]
    exact d0 _
  rw [if_neg c6]
  by_cases c7 : a = 7
  · rw [if_pos c7]
    exact d0 _
  rw [if_neg c7]
  by_cases c8 : a = 8
  · rw [if_pos c8]
    exact d0 _
  rw [if_neg c8]
  by_cases c9 : a = 9
  · rw [if_pos c9]
    exact d0 _
  rw [if_neg c9]
  by_cases c10 : a = 10
  · rw [if_pos c10]
    exact d0 _
  rw [if_neg c10]
  by_cases c11 : a = 11
  · rw [if_pos c11]
    intro P162 h162
    refine up_plc V (P := P162) (fun p c d w hI ih => ?_) (fun w => ?_) 0 0 (Nat.zero_le _)
    · obtain ⟨i1, i2, i3, i4, -⟩ := V.inp hI
      refine h162 _ _ ?_
      have hin : vp_in (zi p) 700 := (zin_iff (by omega)).mpr (by omega)
      rw [l3, if_neg (fun u => by have := (zi_le (by omega) (by omega)).mp u; omega)]
      refine ⟨hin, ?_⟩
      rw [zi_tn (show p < 2147483648 by omega), i4]
      refine ⟨(zin_iff (by omega)).mpr (by omega), ?_⟩
      intro P209 h209
      have nx : ∀ v, P209 v := fun v => h209 v (fun v' ev => by
        rw [ev, zi_succ]
        exact ih v)
      split
      · refine ⟨hin, s_deepOf V hI ?_⟩
        split
        · exact nx _
        · exact ⟨hin, s_deepOf V hI (nx _)⟩
      · exact nx _
    · refine h162 _ _ ?_
      rw [l3, if_pos (Int32.le_refl _)]
      exact d0 _
  rw [if_neg c11]
  by_cases c12 : a = 12
  · rw [if_pos c12]
    intro P219 h219
    refine up_idx (n := (lexL (moG (sgC x))).length) (P := fun v => ∀ w, P219 w v) (fun i hi ih w => ?_) (fun w => ?_) 0 (Nat.zero_le _) 0
    · refine h219 _ _ ?_
      have hin : vp_in (zi i) 110 := (zin_iff (by omega)).mpr (by omega)
      rw [V.2.2.2.2.2.1, if_neg (fun u => by have := (zi_le (by omega) (by omega)).mp u; omega)]
      refine ⟨hin, ?_⟩
      intro P247 h247
      have nx : ∀ v, P247 v := fun v => h247 v (fun v' ev => by
        rw [ev, zi_succ]
        exact ih v)
      split
      · exact ⟨hin, fun v ev => nx v⟩
      · exact nx _
    · refine h219 _ _ ?_
      rw [V.2.2.2.2.2.1, if_pos (Int32.le_refl _)]
      exact d0 _
  rw [if_neg c12]
  by_cases c13 : a = 13
  · rw [if_pos c13]
    exact m_setNames V (fun v => d0 v)
  rw [if_neg c13]
  by_cases c14 : a = 14
  · rw [if_pos c14]
    exact r_MyoungBelow V V.root (fun v => d0 v)
  rw [if_neg c14]
  by_cases c15 : a = 15
  · rw [if_pos c15, show I.1 491 37 = zi (moR (sgC x)) from V.2.2.2.2.1.1]
    exact s_prints V (hR.gdw hv) V.root (fun J k q hk h80 => hK _ J (Qal_mo (Qpp_al q)) (hR.al hv (Qpp_al q)))
  rw [if_neg c15]
  by_cases c16 : a = 16
  · rw [if_pos c16]
    exact d0 _
  rw [if_neg c16]
  by_cases c17 : a = 17
  · rw [if_pos c17]
    exact m_ruled V (fun v => d0 v)
  rw [if_neg c17]
  by_cases c18 : a = 18
  · rw [if_pos c18]
    intro v41 e41 P298 h298
    refine up_plc V (P := P298) (fun p c d w hI ih => ?_) (fun w => ?_) _ 0 (Nat.zero_le _)
    · obtain ⟨i1, i2, i3, i4, -⟩ := V.inp hI
      refine h298 _ _ ?_
      have hin : vp_in (zi p) 700 := (zin_iff (by omega)).mpr (by omega)
      rw [l3, if_neg (fun u => by have := (zi_le (by omega) (by omega)).mp u; omega)]
      refine ⟨hin, ?_⟩
      intro P323 h323
      have nx : ∀ v, P323 v := fun v => h323 v (fun v' ev => by
        rw [ev, zi_succ]
        exact ih v)
      split
      · exact nx _
      · exact ⟨hin, fun v ev => nx v⟩
    · refine h298 _ _ ?_
      rw [l3, if_pos (Int32.le_refl _)]
      exact d0 _
  rw [if_neg c18]
  exact d0 _
/-! ===== by which EDIT nodes are made; END is the first node alone ===== -/
theorem namF_wn {t : Nat → Int32} {l : List (Nat × Nat × Nat)} {A Bh n' : Nat} {og : Nat → Nat} {e : Nat} : ∀ (d i m : Nat) (g : Nat → Nat) (N : Nat → Nd) (m' : Nat) (g' : Nat → Nat) (N' : Nat → Nd), namF t l A Bh n' og e d i m g N = (m', g', N') →
    ∀ k, m ≤ k → k < m' → ∃ i', i ≤ i' ∧ i' < i + d ∧ wasN A Bh l.length n' i' = none ∧ N' k = tkNd t (l.getD i' (10, 0, 0)) e
  | 0, i, m, g, N, m', g', N', h => by
    cases h
    intro k h1 h2
    omega
  | d + 1, i, m, g, N, m', g', N', h => by
    cases hw : wasN A Bh l.length n' i with
    | some j =>
      have h' : namF t l A Bh n' og e d (i + 1) m (fun k => if k = i then og j else g k) N = (m', g', N') := by
        rw [← h]
        show _ = (match wasN A Bh l.length n' i with
          | some j => namF t l A Bh n' og e d (i + 1) m (fun k => if k = i then og j else g k) N
          | none => namF t l A Bh n' og e d (i + 1) (m + 1) (fun k => if k = i then m else g k) (upN N m (tkNd t (l.getD i (10, 0, 0)) e)))
        rw [hw]
      intro k h1 h2
      obtain ⟨i', b1, b2, b3⟩ := namF_wn d (i + 1) m _ N m' g' N' h' k h1 h2
      exact ⟨i', by omega, by omega, b3⟩
    | none =>
      have h' : namF t l A Bh n' og e d (i + 1) (m + 1) (fun k => if k = i then m else g k) (upN N m (tkNd t (l.getD i (10, 0, 0)) e)) = (m', g', N') := by
        rw [← h]
        show _ = (match wasN A Bh l.length n' i with
          | some j => namF t l A Bh n' og e d (i + 1) m (fun k => if k = i then og j else g k) N
          | none => namF t l A Bh n' og e d (i + 1) (m + 1) (fun k => if k = i then m else g k) (upN N m (tkNd t (l.getD i (10, 0, 0)) e)))
        rw [hw]
      intro k h1 h2
      by_cases u : k = m
      · subst u
        obtain ⟨a1, a2, a3, -⟩ := namF_ok d (i + 1) (k + 1) _ _ m' g' N' h'
        exact ⟨i, Nat.le_refl _, by omega, hw, by rw [a3 k (by omega), upN_self]⟩
      · obtain ⟨i', b1, b2, b3⟩ := namF_wn d (i + 1) (m + 1) _ _ m' g' N' h' k (by omega) h2
        exact ⟨i', by omega, by omega, b3⟩
def NwI (N1 : Nat → Nd) (m1 e : Nat) (z : Gs) : Prop := m1 ≤ z.2.1 ∧ (∀ c, c < m1 → NdE (N1 c) (z.2.2.1 c)) ∧ ∀ c, m1 ≤ c → c < z.2.1 → ndB (z.2.2.1 c) = e ∧ 0 ≤ ndR (z.2.2.1 c)
theorem NwI.nx {F : List Fl} {A B n n' e m1 : Nat} {g : Nat → Nat} {N1 : Nat → Nd} {x y : Gs} (h : NwI N1 m1 e x) (e1 : gNx F A B n n' g e x.1 x.2.1 x.2.2.1 x.2.2.2.1 x.2.2.2.2 = some y) : NwI N1 m1 e y := by
  obtain ⟨h1, h2, h3⟩ := h
  obtain ⟨f1, f2⟩ := gNx_E e1
  refine ⟨by omega, fun c hc => (h2 c hc).tr (f2 c (by omega)), fun c hc1 hc2 => ?_⟩
  by_cases u : c < x.2.1
  · obtain ⟨a, b⟩ := h3 c hc1 u
    have w := f2 c u
    exact ⟨w.2.2.2.1.trans a, by rw [w.1]; exact b⟩
  · obtain ⟨i, m, N, st, tk⟩ := x
    dsimp only at u e1
    unfold gNx at e1
    cases hb : bestOf F N A B n n' i (topS st) (g i) with
    | some b =>
      rw [hb] at e1
      cases e1
      exact absurd hc2 u
    | none =>
      rw [hb] at e1
      by_cases hz : ldN (topS st) (ndM (N (g i))) = 0
      · rw [if_pos hz] at e1
        cases hr : rlN (topS st) with
        | none =>
          rw [hr] at e1
          cases e1
        | some r =>
          rw [hr] at e1
          cases e1
          dsimp only at hc2 ⊢
          rw [show c = m by omega, upN_self]
          refine ⟨rfl, ?_⟩
          show (0 : Int) ≤ (r : Int)
          omega
      · rw [if_neg hz] at e1
        cases e1
        exact absurd hc2 u
def Ev (x : Sg) : Prop := (∀ c, c < sgM x → ndB (sgN x c) ≤ sgE x) ∧ (∀ c, c < sgM x → (ndM (sgN x c) = 15 ↔ c = 0)) ∧ (sgE x = 0 → runsOf (sgN x) (moR (sgC x)) = [] ∧ sgA x = [] ∧ sgZ x = [])
theorem chg_ev {x : Sg} {d tp : List Int32} (hv : Iv x) (hd : txOk d) (h : Ev x) : Ev (chg x d tp) := by
  obtain ⟨m1, g, N1, k, y, hreg, hn, hrun, ⟨-, gi, -, hm0, -⟩, q1, q2, q3, q4, q5, q6, q7, q8⟩ := reg_ok hv hd
  obtain ⟨-, hN, hu, -, -, -, -, hC, -⟩ := hv
  obtain ⟨c1, c2, c3, c4, c5⟩ := id hC
  obtain ⟨e1, e2, e3⟩ := h
  have hx := lex_lxo hd
  have hx' := lex_lxo c2
  obtain ⟨ge, -, -, -, -, -, -, -, -⟩ := naming_ok hN hu c4 c5 hx hx' hn
  have hY : regY x d = y := by
    unfold regY
    rw [hreg]
  have hI := gRun_inv (e := sgE x + 1) ge (P := NwI N1 m1 (sgE x + 1)) (fun a b k _ hp he => hp.nx he) 2000 0 (0, m1, N1, [(0, 0)], 0) gi ⟨Nat.le_refl _, fun c _ => NdE.rf, fun c h1 h2 => absurd h2 (Nat.not_lt.mpr h1)⟩
  rw [hrun] at hI
  obtain ⟨i1, i2, i3⟩ := hI
  dsimp only at i1 i2 i3
  have R0 := c4.1
  have kl := (kept_le (t := txF d) (t' := txF (moG (sgC x))) hx.2.1 hx'.2.1).2.2
  have nw : ∀ c, sgM x ≤ c → c < y.2.1 → ndB (y.2.2.1 c) = sgE x + 1 ∧ ndM (y.2.2.1 c) ≠ 15 := fun c h1 h2 => by
    by_cases u : c < m1
    · obtain ⟨i', b1, b2, b3, b4⟩ := namF_wn _ _ _ _ _ _ _ _ hn c h1 u
      have w := i2 c u
      rw [b4] at w
      refine ⟨w.2.2.2.1, ?_⟩
      rw [w.M]
      have hil : i' < (lexL d).length := by omega
      have hat : (lexL d)[i']? = some ((lexL d).getD i' (10, 0, 0)) := by
        rw [List.getD_eq_getElem?_getD, List.getElem?_eq_getElem hil]
        rfl
      have hk : ((lexL d).getD i' (10, 0, 0)).1 ≠ 10 := fun v => by
        have := (hx.2.2.2 i' _ hat).mp v
        unfold wasN at b3
        split at b3
        · cases b3
        · rw [if_pos (by omega)] at b3
          cases b3
      show (if (-2 : Int) < 0 then 5 + ((lexL d).getD i' (10, 0, 0)).1 else _) ≠ 15
      rw [if_pos (by decide)]
      omega
    · obtain ⟨b1, b2⟩ := i3 c (by omega) h2
      refine ⟨b1, ?_⟩
      rcases q4 c h2 with ⟨f1, -⟩ | ⟨r, s, f1, -, f3, -⟩
      · omega
      · unfold ndM
        rw [if_neg (by omega), f3]
        have := (sy_fin r f1).2
        change syN r < 5 at this
        show syN r ≠ 15
        omega
  unfold Ev chg
  rw [hY]
  by_cases hg : y.1 + 1 = (lexL d).length ∧ topS y.2.2.2.1 = 1
  · rw [if_pos hg, if_pos hg]
    refine ⟨fun c hc => ?_, fun c hc => ?_, fun z => absurd z (Nat.succ_ne_zero _)⟩
    · change c < y.2.1 at hc
      show ndB (y.2.2.1 c) ≤ sgE x + 1
      by_cases u : c < sgM x
      · rw [q1 c u]
        have := e1 c u
        omega
      · rw [(nw c (by omega) hc).1]
        exact Nat.le_refl _
    · change c < y.2.1 at hc
      show ndM (y.2.2.1 c) = 15 ↔ c = 0
      by_cases u : c < sgM x
      · rw [q1 c u]
        exact e2 c u
      · exact ⟨fun v => absurd v (nw c (by omega) hc).2, fun v => by omega⟩
  · rw [if_neg hg, if_neg hg]
    refine ⟨fun c hc => ?_, fun c hc => e2 c hc, fun z => absurd z (Nat.succ_ne_zero _)⟩
    have := e1 c hc
    show ndB (sgN x c) ≤ sgE x + 1
    omega
theorem doC_ev {x : Sg} {d : List Int32} {bt : Bool} (hv : Iv x) (hd : BtL d) (h : Ev x) : Ev (doC x d bt).2 := by
  unfold doC
  by_cases u : 300 < d.length ∨ 3000 ≤ sgM x ∨ 3900 ≤ (sgP x).length ∨ 100 < (lexL d).length
  · rw [if_pos u]
    exact h
  · rw [if_neg u]
    exact chg_ev hv ⟨by omega, hd.at, by omega⟩ h
theorem undo_ev {x : Sg} (h : Ev x) : Ev (undoR x).2 := by
  obtain ⟨e1, e2, e3⟩ := id h
  unfold undoR
  cases hA : sgA x with
  | nil => exact h
  | cons y A =>
    refine ⟨e1, e2, fun z => ?_⟩
    have := (e3 z).2.1
    rw [hA] at this
    cases this
theorem redo_ev {x : Sg} (h : Ev x) : Ev (redoR x).2 := by
  obtain ⟨e1, e2, e3⟩ := id h
  unfold redoR
  cases hZ : sgZ x with
  | nil => exact h
  | cons y Z =>
    refine ⟨e1, e2, fun z => ?_⟩
    have := (e3 z).2.2
    rw [hZ] at this
    cases this
/-! ===== the law's cases ===== -/
def Lsv (x : Sg) : Prop := Iv x ∧ Lv x ∧ Pc x ∧ Ev x ∧ Fr x
def Bov (I : zI) (x : Sg) : Prop := RX I x ∧ RM I x ∧ Lsv x
theorem RX.mo {I J : zI} {x : Sg} (hv : Iv x) (h : RX I x) (q : eqQ Qmo I J) : RX J x := h.kp hv (fun a j u => q.1 a j (by unfold Qmo; omega))
theorem RM.cl {I J : zI} {x : Sg} (hv : Iv x) (h : RM I x) (q : eqQ Qcl I J) : RM J x := RM.kp (tp := x.1) hv h (fun a j u => q.1 a j (by unfold Qcl; omega)) (fun a j u => q.2 a j (by unfold Qcl; omega))
theorem doC_ls {x : Sg} {d : List Int32} {bt : Bool} (h : Lsv x) (hd : BtL d) (he : sgE x < 100000) : Lsv (doC x d bt).2 ∧ sgE (doC x d bt).2 ≤ sgE x + 1 := by
  obtain ⟨h1, h2, h3, h4, h5⟩ := h
  obtain ⟨a, b⟩ := doC_iv (bt := bt) h1 hd he
  exact ⟨⟨a, doC_lv h1 hd h2, doC_pc h1 hd he h3, doC_ev h1 hd h4, doC_fr h1 hd h2 h5⟩, b⟩
theorem tx_bt {x : Sg} (h : Iv x) : BtL (moT (sgC x)) := BtL.of h.2.2.2.2.2.2.2.1.1.2.1
theorem edit_ls {x : Sg} {a n : Int32} (h : Lsv x) (he : sgE x < 100000) : Lsv (editR x a n).2 ∧ sgE (editR x a n).2 ≤ sgE x + 1 := by
  unfold editR
  split
  · exact doC_ls h ((((tx_bt h.1).sg).app h.1.1.2).app ((tx_bt h.1).sg)) he
  · exact ⟨h, Nat.le_succ _⟩
theorem run_ls {D : Sg → Nat → List Int32} {x : Sg} {i : Int32} (h : Lsv x) (hD : ∀ k, BtL (D x k)) (he : sgE x < 100000) : Lsv (runR D x i).2 ∧ sgE (runR D x i).2 ≤ sgE x + 1 := by
  unfold runR
  split
  · exact doC_ls h (hD _) he
  · exact ⟨h, Nat.le_succ _⟩
theorem swap_ls {x : Sg} {i : Int32} (h : Lsv x) (he : sgE x < 100000) : Lsv (swapR x i).2 ∧ sgE (swapR x i).2 ≤ sgE x + 1 := by
  unfold swapR
  split
  · exact doC_ls h (((((tx_bt h.1).sg).app ((tx_bt h.1).sg)).app ((tx_bt h.1).sg)).app ((tx_bt h.1).sg) |>.app ((tx_bt h.1).sg)) he
  · exact ⟨h, Nat.le_succ _⟩
theorem ren_ls {x : Sg} {i : Int32} (h : Lsv x) (he : sgE x < 100000) : Lsv (renR x i).2 ∧ sgE (renR x i).2 ≤ sgE x + 1 := by
  unfold renR
  split
  · exact doC_ls h (ren_bt (tx_bt h.1) h.1.1.2 _ _) he
  · exact ⟨h, Nat.le_succ _⟩
theorem undo_ls {x : Sg} (h : Lsv x) : Lsv (undoR x).2 ∧ sgE (undoR x).2 ≤ sgE x + 1 := by
  obtain ⟨a, b⟩ := undo_iv h.1
  exact ⟨⟨a, undo_lv h.2.1, undo_pc h.2.2.1, undo_ev h.2.2.2.1, undo_fr h.2.2.2.2⟩, by omega⟩
theorem redo_ls {x : Sg} (h : Lsv x) : Lsv (redoR x).2 ∧ sgE (redoR x).2 ≤ sgE x + 1 := by
  obtain ⟨a, b⟩ := redo_iv h.1
  exact ⟨⟨a, redo_lv h.2.1, redo_pc h.2.2.1, redo_ev h.2.2.2.1, redo_fr h.2.2.2.2⟩, by omega⟩
theorem tape_ls {x : Sg} {tp : List Int32} (h : Lsv x) (h1 : tp.length ≤ 200) (h2 : ∀ b ∈ tp, byt b) : Lsv (tp, x.2) := by
  obtain ⟨⟨a1, a2⟩, b, c⟩ := h
  exact ⟨⟨⟨h1, h2⟩, a2⟩, b, c⟩
theorem and_bt (v : Int32) : byt (v &&& 255) := by
  have e : (v &&& 255).toBitVec.toNat = v.toBitVec.toNat &&& 255 := by
    rw [Int32.toBitVec_and, BitVec.toNat_and]
    rfl
  refine ⟨(v &&& 255).toBitVec.toNat, ?_, ?_⟩
  · rw [e]
    exact Nat.lt_of_le_of_lt Nat.and_le_right (by decide)
  · refine Int32.toBitVec_inj.mp (BitVec.eq_of_toNat_eq ?_)
    rw [zi_bv (by rw [e]; exact Nat.lt_of_le_of_lt Nat.and_le_right (by decide))]
theorem byW_bt (w s : Int32) : byt (byW w s) := and_bt _
theorem by20_bt (a b c d e : Int32) : ∀ v ∈ by20 a b c d e, byt v := by
  have h4 : ∀ w, ∀ v ∈ by4 w, byt v := fun w v hv => by
    unfold by4 at hv
    rcases List.mem_cons.mp hv with rfl | hv
    · exact byW_bt _ _
    rcases List.mem_cons.mp hv with rfl | hv
    · exact byW_bt _ _
    rcases List.mem_cons.mp hv with rfl | hv
    · exact byW_bt _ _
    rw [List.mem_singleton.mp hv]
    exact byW_bt _ _
  intro v hv
  unfold by20 at hv
  rcases List.mem_append.mp hv with hv | hv
  · exact h4 _ v hv
  rcases List.mem_append.mp hv with hv | hv
  · exact h4 _ v hv
  rcases List.mem_append.mp hv with hv | hv
  · exact h4 _ v hv
  rcases List.mem_append.mp hv with hv | hv
  · exact h4 _ v hv
  · exact h4 _ v hv
theorem RX.tp {I J : zI} {x : Sg} {tp : List Int32} (hv : Iv x) (h : RX I x) (q : eqQ Qtx I J) (t : TapX J tp) : RX J (tp, x.2) := by
  have e : ∀ a j, ¬ Qtx a j → J.1 a j = I.1 a j := fun a j u => q.1 a j u
  obtain ⟨r1, r2, r3, r4, r5, r6, r7, s, hs, s4, sC, sA, sZ⟩ := h
  have zm : ∀ i, zmom i = 113 + 18 * i := fun i => rfl
  have mk : ∀ i y, i < 21 → MoX I (zmom i) y → MoX J (zmom i) y := fun i y hi hm => hm.kp (fun a j u1 u2 => e a j (by have := zm i; unfold Qtx; omega))
  exact ⟨t, r2.kp hv.2.1.ch (fun a j h1 h2 h3 => e a j (by unfold Qtx; omega)), r3.kp (fun a j h => e a j (by unfold Qtx; omega)), r4.kp (fun a j h1 h2 h3 => e a j (by unfold Qtx; omega)), (e _ _ (by unfold Qtx; omega)).trans r5, (e _ _ (by unfold Qtx; omega)).trans r6, (e _ _ (by unfold Qtx; omega)).trans r7, s, hs, (e _ _ (by unfold Qtx; omega)).trans s4, mk _ _ hs sC, fun k y hy => mk _ _ (by omega) (sA k y hy), fun k y hy => mk _ _ (by omega) (sZ k y hy)⟩
theorem RM.tp {I J : zI} {x : Sg} {tp : List Int32} (hv : Iv x) (h : RM I x) (q : eqQ Qtm I J) (t : TapM J tp) : RM J (tp, x.2) := by
  obtain ⟨r1, r2, r3, r4, r5, r6, r7, nw, sC, sA, sZ⟩ := h
  obtain ⟨hTp, hN, hu, hm, hTk, hP, hE, hC, hA, hZ, hAZ⟩ := hv
  have e : ∀ a j, ¬ Qtm a j → J.1 a j = I.1 a j := fun a j u => q.1 a j u
  have e2 : ∀ a j, a = 507 ∨ a = 511 → J.2 a j = I.2 a j := fun a j u => q.2 a j (by unfold Qtm; omega)
  exact ⟨t, r2.kp2 (e _ _ (by unfold Qtm; omega)) (fun a j u1 u2 => e a j (by unfold Qtm; omega)) (fun j => e2 511 j (Or.inr rfl)), r3.kp (fun a j u => e a j (by unfold Qtm; omega)), r4.kp (fun a j u => e a j (by unfold Qtm; omega)), (e _ _ (by unfold Qtm; omega)).trans r5, (e _ _ (by unfold Qtm; omega)).trans r6, (e _ _ (by unfold Qtm; omega)).trans r7, nw.kp (fun a j u => e a j (by unfold Qtm; omega)) (fun j => e2 507 j (Or.inl rfl)), sC.kp hC.1 hC.2.1 (fun j _ _ => e _ _ (by unfold Qtm; omega)), fun k y hy => (sA k y hy).kp (hA y (List.mem_of_getElem? hy)).1 (hA y (List.mem_of_getElem? hy)).2.1 (fun j _ _ => e _ _ (by unfold Qtm; omega)), fun k y hy => (sZ k y hy).kp (hZ y (List.mem_of_getElem? hy)).1 (hZ y (List.mem_of_getElem? hy)).2.1 (fun j _ _ => e _ _ (by unfold Qtm; omega))⟩
