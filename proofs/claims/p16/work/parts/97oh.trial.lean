/-! ===== growing from nothing, a token at a time ===== -/
def rk3T : List Nat := [1, 0, 1, 0, 1, 0, 0, 0, 1, 2, 3, 3, 0, 2, 2, 0, 0, 0, 1, 2, 3]
def rk3 (s : Nat) : Nat := rk3T.getD s 0
theorem rk3_fin : ((List.range 21).all (fun s => match rlN s with
  | none => true
  | some r => (bkT (lnN r) s).all (fun a => decide (rk3 (ldN a (syN r)) < rk3 s)))) = true := by decide +kernel
theorem rk3_le : ∀ s, s < 21 → rk3 s ≤ 3 := by decide +kernel
/-- a stack that can stand behind t tokens -/
def LV (t : Nat) (st : List (Nat × Nat)) : Prop := 1 ≤ st.length ∧ StP st ∧ StOk 1 st ∧ 8 * st.length + rkS (topS st) ≤ 18 * t + 17
theorem LV.st0 : LV 0 [(0, 0)] := by
  obtain ⟨-, a, b, c, d⟩ := LI.st0 (e := 0)
  exact ⟨a, b, c, by omega⟩
theorem LV.li {t : Nat} {st : List (Nat × Nat)} (h : LV t st) (e : Nat) (he : t ≤ e) : LI e t st 0 := by
  obtain ⟨a, b, c, d⟩ := h
  exact ⟨he, a, b, c, by omega⟩
theorem LV.top {t : Nat} {st : List (Nat × Nat)} (h : LV t st) : topS st < 21 ∧ rk3 (topS st) < 4 ∧ ∃ p0 : Nat × Nat, st[st.length - 1]? = some p0 ∧ p0.2 = topS st := by
  obtain ⟨s1, s2, s3, s4⟩ := h
  obtain ⟨p0, t1, t2⟩ := top_at s1
  have hs : topS st < 21 := t2 ▸ (s3 _ p0 t1).1
  have := rk3_le _ hs
  exact ⟨hs, by omega, p0, t1, t2⟩
theorem LV.red {t r : Nat} {st : List (Nat × Nat)} (h : LV t st) (hr : rlN (topS st) = some r) : LV t (byT 0 st r) ∧ r < 11 ∧ lnN r < st.length ∧ ldN (byS st r) (syN r) ≠ 0 ∧ rk3 (topS (byT 0 st r)) < rk3 (topS st) ∧ byS st r < 21 ∧ byS st r ∈ bkT (lnN r) (topS st) := by
  obtain ⟨s1, s2, s3, s4⟩ := id h
  obtain ⟨p0, t1, t2⟩ := top_at s1
  have hs21 : topS st < 21 := t2 ▸ (s3 _ p0 t1).1
  have hn : ∀ kd : Nat → Nat, kd t = 11 → lNx kd t st = some (t, byT 0 st r) := fun kd hk => by
    unfold lNx
    rw [hk, if_pos (end_fin2 _ hs21), hr]
  obtain ⟨-, a, b, c, d⟩ := (h.li t (Nat.le_refl t)).nx (kd := fun _ => 11) ⟨fun _ _ => (by decide : 11 < 12), fun s hs => end_fin2 s hs⟩ (hn _ rfl)
  obtain ⟨f1, f2⟩ := st_fits s2 s3 s1 t1 t2 hr
  have hb : st[st.length - lnN r - 1]? = some (st.getD (st.length - lnN r - 1) (0, 0)) := by
    rw [List.getD_eq_getElem?_getD, List.getElem?_eq_getElem (by omega)]
    rfl
  have hbs : byS st r ∈ bkT (lnN r) (topS st) := by
    have := bk_mem s2 s3 t1 (lnN r) (st.getD (st.length - lnN r - 1) (0, 0)) (by omega) (by
      rw [show st.length - 1 - lnN r = st.length - lnN r - 1 by omega]
      exact hb)
    rw [t2] at this
    exact this
  dsimp only at a b c d
  refine ⟨⟨a, b, c, by omega⟩, rlN_lt hs21 hr, f1, f2, ?_, (s3 _ _ hb).1, hbs⟩
  have h1 := List.all_eq_true.mp rk3_fin (topS st) (List.mem_range.mpr hs21)
  rw [hr] at h1
  have h2 := List.all_eq_true.mp h1 _ hbs
  unfold byT
  rw [topS_snoc]
  exact of_decide_eq_true h2
theorem LV.sh {t y : Nat} {st : List (Nat × Nat)} (h : LV t st) (hy : y < 12) (hl : ldN (topS st) (5 + y) ≠ 0) : LV (t + 1) (st ++ [(0, ldN (topS st) (5 + y))]) := by
  have hn : ∀ kd : Nat → Nat, kd t = y → lNx kd t st = some (t + 1, st ++ [(0, ldN (topS st) (5 + y))]) := fun kd e => by
    unfold lNx
    rw [e, if_neg hl]
  have hk : KdO (fun i => if i = t then y else 11) (t + 1) := ⟨fun i _ => by
    dsimp only
    split <;> omega, fun s hs => by
    dsimp only
    rw [if_neg (by omega)]
    exact end_fin2 s hs⟩
  obtain ⟨-, a, b, c, d⟩ := (h.li (t + 1) (Nat.le_succ t)).nx hk (hn _ (if_pos rfl))
  dsimp only at a b c d
  exact ⟨a, b, c, by omega⟩
def acF (y : Nat) : Nat → List (Nat × Nat) → Option (List (Nat × Nat))
  | 0, _ => none
  | d + 1, st => if ldN (topS st) (5 + y) = 0 then (match rlN (topS st) with
    | some r => acF y d (byT 0 st r)
    | none => none) else some (st ++ [(0, ldN (topS st) (5 + y))])
/-- all that can be reduced -/
def rdF : Nat → List (Nat × Nat) → List (Nat × Nat)
  | 0, st => st
  | d + 1, st => match rlN (topS st) with
    | some r => rdF d (byT 0 st r)
    | none => st
def acE (st : List (Nat × Nat)) : Bool := decide (topS (rdF 4 st) = 1)
def acV (y : Nat) (st : List (Nat × Nat)) : Bool := if y = 10 then acE st else (acF y 4 st).isSome
theorem acF_at {y d : Nat} {st : List (Nat × Nat)} : acF y (d + 1) st = if ldN (topS st) (5 + y) = 0 then (match rlN (topS st) with
    | some r => acF y d (byT 0 st r)
    | none => none) else some (st ++ [(0, ldN (topS st) (5 + y))]) := rfl
theorem rdF_at {d : Nat} {st : List (Nat × Nat)} : rdF (d + 1) st = match rlN (topS st) with
    | some r => rdF d (byT 0 st r)
    | none => st := rfl
theorem ac_run {kd : Nat → Nat} {y i : Nat} (hk : kd i = y) (hy : y < 12) : ∀ (d t : Nat) (st : List (Nat × Nat)), LV t st → rk3 (topS st) < d →
    (∀ st', acF y d st = some st' → LV (t + 1) st' ∧ Rch kd (i, st) (i + 1, st')) ∧
    (acF y d st = none → LV t (rdF d st) ∧ Rch kd (i, st) (i, rdF d st) ∧ lNx kd i (rdF d st) = none)
  | 0, t, st, _, h2 => absurd h2 (Nat.not_lt_zero _)
  | d + 1, t, st, h1, h2 => by
    rw [acF_at, rdF_at]
    by_cases hz : ldN (topS st) (5 + y) = 0
    · rw [if_pos hz]
      cases hr : rlN (topS st) with
      | none =>
        dsimp only
        refine ⟨fun st' e => (by cases e), fun _ => ⟨h1, Rch.rf, ?_⟩⟩
        unfold lNx
        rw [hk, if_pos hz, hr]
      | some r =>
        dsimp only
        obtain ⟨a1, -, -, -, a5, -⟩ := h1.red hr
        obtain ⟨b1, b2⟩ := ac_run hk hy d t (byT 0 st r) a1 (by omega)
        have one : Rch kd (i, st) (i, byT 0 st r) := Rch.one (by
          unfold lNx
          rw [hk, if_pos hz, hr])
        exact ⟨fun st' e => ⟨(b1 st' e).1, one.tr (b1 st' e).2⟩, fun e => ⟨(b2 e).1, one.tr (b2 e).2.1, (b2 e).2.2⟩⟩
    · rw [if_neg hz]
      refine ⟨fun st' e => ?_, fun e => (by cases e)⟩
      cases e
      exact ⟨h1.sh hy hz, Rch.one (by
        unfold lNx
        rw [hk, if_neg hz])⟩
theorem acF_end {y : Nat} (hy : ∀ s, s < 21 → ldN s (5 + y) = 0) : ∀ (d t : Nat) (st : List (Nat × Nat)), LV t st → acF y d st = none
  | 0, _, _, _ => rfl
  | d + 1, t, st, h => by
    rw [acF_at, if_pos (hy _ h.top.1)]
    cases hr : rlN (topS st) with
    | none => rfl
    | some r => exact acF_end hy d t _ (h.red hr).1
/-- all tokens of a row, END at last -/
def acL : List Nat → List (Nat × Nat) → Bool
  | [], _ => true
  | y :: l, st => if y = 10 then acE st else (match acF y 4 st with
    | some st' => acL l st'
    | none => false)
def rnF : List Nat → List (Nat × Nat) → Option (List (Nat × Nat))
  | [], st => some st
  | y :: l, st => (acF y 4 st).bind (rnF l)
theorem acL_app {v : List Nat} : ∀ {u : List Nat} {st : List (Nat × Nat)}, (∀ y ∈ u, y ≠ 10) → acL (u ++ v) st = match rnF u st with
    | some st' => acL v st'
    | none => false
  | [], st, _ => rfl
  | y :: u, st, h => by
    show (if y = 10 then acE st else (match acF y 4 st with
      | some st' => acL (u ++ v) st'
      | none => false)) = match (acF y 4 st).bind (rnF u) with
      | some st' => acL v st'
      | none => false
    rw [if_neg (h y (List.mem_cons_self ..))]
    cases acF y 4 st with
    | none => rfl
    | some st' => exact acL_app (fun z hz => h z (List.mem_cons_of_mem _ hz))
theorem rnF_app {v : List Nat} : ∀ {u : List Nat} {st : List (Nat × Nat)}, rnF (u ++ v) st = (rnF u st).bind (rnF v)
  | [], st => rfl
  | y :: u, st => by
    show (acF y 4 st).bind (rnF (u ++ v)) = ((acF y 4 st).bind (rnF u)).bind (rnF v)
    cases acF y 4 st with
    | none => rfl
    | some st' => exact rnF_app
theorem rnF_lv : ∀ {u : List Nat} {t : Nat} {st st' : List (Nat × Nat)}, (∀ y ∈ u, y < 12) → LV t st → rnF u st = some st' → LV (t + u.length) st'
  | [], t, st, st', _, h, e => by
    cases e
    exact h
  | y :: u, t, st, st', hu, h, e => by
    have e' : (acF y 4 st).bind (rnF u) = some st' := e
    cases ha : acF y 4 st with
    | none =>
      rw [ha] at e'
      cases e'
    | some s =>
      rw [ha] at e'
      have h1 := ((ac_run (kd := fun _ => y) (i := 0) rfl (hu y (List.mem_cons_self ..)) 4 t st h h.top.2.1).1 s ha).1
      have := rnF_lv (fun z hz => hu z (List.mem_cons_of_mem _ hz)) h1 e'
      rw [List.length_cons, show t + (u.length + 1) = t + 1 + u.length by omega]
      exact this
/-- a row of KINDS, END at last and nowhere else -/
def KdL (W : List Nat) : Prop := ∀ (j y : Nat), W[j]? = some y → y < 12 ∧ (y = 10 ↔ j + 1 = W.length)
theorem run_w {kd : Nat → Nat} : ∀ (W : List Nat) (t0 t : Nat) (st : List (Nat × Nat)), LV t st → KdL W → (∀ (j y : Nat), W[j]? = some y → kd (t0 + j) = y) → W ≠ [] → ∃ i s, i < W.length ∧ Rch kd (t0, st) (t0 + i, s) ∧ lNx kd (t0 + i) s = none ∧ ((W[i]? = some 10 ∧ topS s = 1) ↔ acL W st = true)
  | [], _, _, _, _, _, _, h => absurd rfl h
  | y :: l, t0, t, st, hl, hW, hk, _ => by
    obtain ⟨y1, y2⟩ := hW 0 y rfl
    have k0 : kd t0 = y := hk 0 y rfl
    obtain ⟨b1, b2⟩ := ac_run k0 y1 4 t st hl hl.top.2.1
    by_cases c : y = 10
    · have ha : acF y 4 st = none := acF_end (fun s hs => by rw [c]; exact end_fin s hs) 4 t st hl
      obtain ⟨c1, c2, c3⟩ := b2 ha
      refine ⟨0, rdF 4 st, Nat.succ_pos _, c2, c3, ?_⟩
      show (some y = some 10 ∧ _) ↔ (if y = 10 then acE st else _) = true
      rw [if_pos c, c]
      unfold acE
      constructor
      · exact fun w => decide_eq_true w.2
      · exact fun w => ⟨rfl, of_decide_eq_true w⟩
    · have hln : l ≠ [] := fun u => c (y2.mpr (by rw [u]; rfl))
      cases ha : acF y 4 st with
      | none =>
        obtain ⟨c1, c2, c3⟩ := b2 ha
        refine ⟨0, rdF 4 st, Nat.succ_pos _, c2, c3, ?_⟩
        show (some y = some 10 ∧ _) ↔ (if y = 10 then acE st else (match acF y 4 st with
          | some st' => acL l st'
          | none => false)) = true
        rw [if_neg c, ha]
        constructor
        · exact fun w => absurd (Option.some.inj w.1) c
        · intro w
          cases w
      | some st' =>
        obtain ⟨c1, c2⟩ := b1 st' ha
        obtain ⟨i, s, d1, d2, d3, d4⟩ := run_w l (t0 + 1) (t + 1) st' c1 (fun j z hz => by
          obtain ⟨z1, z2⟩ := hW (j + 1) z (by rw [List.getElem?_cons_succ]; exact hz)
          refine ⟨z1, z2.trans ?_⟩
          rw [List.length_cons]
          omega) (fun j z hz => by
          have := hk (j + 1) z (by rw [List.getElem?_cons_succ]; exact hz)
          rw [show t0 + 1 + j = t0 + (j + 1) by omega]
          exact this) hln
        refine ⟨i + 1, s, by rw [List.length_cons]; omega, ?_, ?_, ?_⟩
        · rw [show t0 + (i + 1) = t0 + 1 + i by omega]
          exact c2.tr d2
        · rw [show t0 + (i + 1) = t0 + 1 + i by omega]
          exact d3
        · rw [List.getElem?_cons_succ, d4]
          show acL l st' = true ↔ (if y = 10 then acE st else (match acF y 4 st with
            | some st' => acL l st'
            | none => false)) = true
          rw [if_neg c, ha]
/-! ===== the trials ===== -/
def TrX (I : zI) (k : Nat) (st : List (Nat × Nat)) : Prop := I.1 k 1 = zi (st.length - 1) ∧ ∀ (j : Nat) (p : Nat × Nat), st[j]? = some p → I.1 (k + 2) j = zi p.2
def Qtk (k a j : Nat) : Prop := (a = k ∧ j = 1) ∨ a = k + 2
theorem t_begin {k : Nat} {I : zI} {K : zI → Prop} (hK : ∀ J, eqQ (Qtk k) I J → TrX J k [(0, 0)] → K J) : w_Trial_begin k I K := by
  intro I1 e1
  refine (w_set (by decide)).mpr ?_
  change K (rs I1 (k + 1 + 1) 300 (zi 0) 0)
  rw [rs_in (by decide) (by decide)]
  refine hK _ ?_ ⟨?_, fun j p hj => ?_⟩
  · rw [e1]
    exact (eqQ.rf.zu (Or.inl ⟨rfl, rfl⟩)).zu (Or.inr rfl)
  · rw [zu_oo (by omega), e1, zu_self]
    rfl
  · have hj0 : j = 0 := by
      have := (List.getElem?_eq_some_iff.mp hj).1
      change j < 1 at this
      omega
    subst hj0
    cases hj
    show (zu I1 (k + 2) 0 0).1 (k + 2) 0 = zi 0
    rw [zu_self]
    rfl
theorem t_trialCopy {k a : Nat} {st : List (Nat × Nat)} {I : zI} {K : zI → Prop} (hka : k + 2 < a ∨ a + 2 < k) (h1 : 1 ≤ st.length) (h2 : st.length ≤ 299) (hT : TrX I a st) (hK : ∀ J, eqQ (Qtk k) I J → TrX J k st → K J) : w_Trial_copyFrom k a I K := by
  intro I1 e1
  have g1 : I1.1 k 1 = zi (st.length - 1) := by
    rw [e1, zu_self]
    exact hT.1
  rw [g1, zi_succ, show st.length - 1 + 1 = st.length by omega]
  refine s_copy (by decide) (by decide) (by omega) (by omega) (fun J q v => hK J ?_ ⟨?_, fun j p hj => ?_⟩)
  · refine eqX.q ?_ q (fun b j w1 w2 => ?_)
    · rw [e1]
      exact eqQ.rf.zu (Or.inl ⟨rfl, rfl⟩)
    · exact Or.inr (by omega)
  · rw [(q k (by omega)).1]
    exact g1
  · have hjl := (List.getElem?_eq_some_iff.mp hj).1
    have w := v j
    rw [if_pos hjl] at w
    refine Eq.trans w ?_
    show I1.1 (a + 2) j = zi p.2
    rw [e1, zu_oo (by omega)]
    exact hT.2 j p hj
theorem t_accepts {k t y : Nat} {st : List (Nat × Nat)} {I : zI} {K : Int32 → zI → Prop} (hT : TrX I k st) (hl : LV t st) (ht : t ≤ 105) (hy : y < 12) (hK : ∀ J, eqQ (Qtk k) I J → (∀ st', acF y 4 st = some st' → TrX J k st') → K (b01 (acV y st)) J) : w_Trial_accepts k (zi y) I K := by
  intro P2 h2
  have main : ∀ (d n : Nat) (st : List (Nat × Nat)) (J : zI), LV t st → rk3 (topS st) < d → n + d ≤ 900 → eqQ (Qtk k) I J → TrX J k st → (∀ L, eqQ (Qtk k) I L → (∀ st', acF y d st = some st' → TrX L k st') → K (b01 (if y = 10 then decide (topS (rdF d st) = 1) else (acF y d st).isSome)) L) → P2 (zi n) J := by
    intro d
    induction d with
    | zero =>
      intro n st J _ h
      exact absurd h (Nat.not_lt_zero _)
    | succ d ih =>
      intro n st J hl hd hn q hT hK
      obtain ⟨hs21, -, p0, t1, t2⟩ := hl.top
      obtain ⟨l1, l2, l3, l4⟩ := id hl
      refine h2 _ _ ?_
      rw [if_neg (show ¬ (1000 : Int32) ≤ zi n from nle_zi (n := 1000) (by omega) (by decide)), hT.1]
      refine (w_get (by decide)).mpr ?_
      rw [rg_in (by decide) (show st.length - 1 < 300 by omega), show J.1 (k + 1 + 1) (st.length - 1) = zi (topS st) by rw [← t2]; exact hT.2 _ p0 t1, show (5 : Int32) + zi y = zi (5 + y) from zi_add 5 y]
      refine s_leadsTo hs21 (by omega) (s_ruleAt hs21 ?_)
      rw [acF_at, rdF_at] at hK
      by_cases hz : ldN (topS st) (5 + y) = 0
      · rw [if_pos hz] at hK
        rw [if_pos (show zi (ldN (topS st) (5 + y)) ≤ 0 by rw [hz]; decide)]
        intro P83 h83
        unfold rlI
        cases hr : rlN (topS st) with
        | none =>
          rw [hr] at hK
          dsimp only at hK ⊢
          rw [if_pos (by decide)]
          refine h83 ?_
          have hK2 := hK J q (fun st' e => by cases e)
          by_cases c : y = 10
          · rw [if_pos c] at hK2
            rw [if_pos (show zi y = 10 by rw [c]; rfl)]
            by_cases c2 : topS st = 1
            · rw [decide_eq_true c2] at hK2
              rw [if_pos (show zi (topS st) = 1 by rw [c2]; rfl)]
              exact hK2
            · rw [decide_eq_false c2] at hK2
              rw [if_neg (show ¬ zi (topS st) = 1 from zi_ne (b := 1) (by omega) (by decide) c2)]
              exact hK2
          · rw [if_neg c] at hK2
            rw [if_neg (show ¬ zi y = 10 from zi_ne (b := 10) (by omega) (by decide) c)]
            exact hK2
        | some r =>
          rw [hr] at hK
          dsimp only at hK ⊢
          obtain ⟨a1, a2, a3, a4, a5, a6, -⟩ := hl.red hr
          have hsy5 := (sy_fin r a2).2
          change syN r < 5 at hsy5
          rw [if_neg (zi_pos (by omega))]
          refine s_lengthOf a2 ?_
          rw [if_pos ((zi_le (by omega) (by omega)).mpr (by omega))]
          refine s_lengthOf a2 (fun I10 e10 I11 e11 => ?_)
          rw [zi_sub (by omega)] at e10
          have g10 : I10.1 k 1 = zi (st.length - 1 - lnN r) := by rw [e10, zu_self]
          rw [g10, zi_succ] at e11
          have g11 : I11.1 k 1 = zi (st.length - 1 - lnN r + 1) := by rw [e11, zu_self]
          have o11 : ∀ j, I11.1 (k + 2) j = J.1 (k + 2) j := fun j => by rw [e11, zu_oo (by omega), e10, zu_oo (by omega)]
          have hb : st[st.length - lnN r - 1]? = some (st.getD (st.length - lnN r - 1) (0, 0)) := by
            rw [List.getD_eq_getElem?_getD, List.getElem?_eq_getElem (by omega)]
            rfl
          rw [g11, show zi (st.length - 1 - lnN r + 1) - 1 = zi (st.length - 1 - lnN r) from zi_sub (b := 1) (Nat.le_add_left 1 _)]
          refine (w_get (by decide)).mpr ?_
          rw [rg_in (by decide) (show st.length - 1 - lnN r < 300 by omega), show I11.1 (k + 1 + 1) (st.length - 1 - lnN r) = zi (byS st r) by
            rw [show k + 1 + 1 = k + 2 from rfl, o11, show st.length - 1 - lnN r = st.length - lnN r - 1 by omega]
            exact hT.2 _ _ hb]
          refine s_symbolOf a2 (s_leadsTo a6 (by omega) ?_)
          refine (w_set (by decide)).mpr (fun v ev => ?_)
          rw [rs_in (by decide) (show st.length - 1 - lnN r + 1 < 300 by omega), ev, zi_succ]
          have htl : (st.take (st.length - lnN r)).length = st.length - lnN r := by rw [List.length_take]; omega
          refine ih (n + 1) (byT 0 st r) _ a1 (by omega) (by omega) ?_ ⟨?_, fun j p hj => ?_⟩ hK
          · rw [e11, e10]
            exact ((q.zu (Or.inl ⟨rfl, rfl⟩)).zu (Or.inl ⟨rfl, rfl⟩)).zu (Or.inr rfl)
          · rw [zu_oo (by omega), g11]
            unfold byT
            rw [List.length_append, htl]
            show zi (st.length - 1 - lnN r + 1) = zi (st.length - lnN r + 1 - 1)
            rw [show st.length - 1 - lnN r + 1 = st.length - lnN r + 1 - 1 by omega]
          · show (zu I11 (k + 2) (st.length - 1 - lnN r + 1) (zi (ldN (byS st r) (syN r)))).1 (k + 2) j = zi p.2
            unfold byT at hj
            by_cases u : j < st.length - lnN r
            · rw [List.getElem?_append_left (by omega), List.getElem?_take, if_pos u] at hj
              rw [zu_at, if_neg (by omega), o11]
              exact hT.2 j p hj
            · have hj2 := (List.getElem?_eq_some_iff.mp hj).1
              rw [List.length_append, htl] at hj2
              change j < st.length - lnN r + 1 at hj2
              have hje : j = st.length - lnN r := by omega
              subst hje
              rw [List.getElem?_append_right (by omega), htl, Nat.sub_self] at hj
              cases hj
              rw [show st.length - 1 - lnN r + 1 = st.length - lnN r by omega, zu_self]
      · rw [if_neg hz] at hK
        have h21 := ldN_lt (s := topS st) (y := 5 + y) hs21 (by omega)
        rw [if_neg (fun w => hz (by have := (zi_le (b := 0) (by omega) (by decide)).mp w; omega))]
        intro I19 e19
        have g19 : I19.1 k 1 = zi (st.length - 1 + 1) := by rw [e19, zu_self, zi_succ]
        rw [g19]
        refine (w_set (by decide)).mpr ?_
        rw [rs_in (by decide) (show st.length - 1 + 1 < 300 by omega)]
        have c : y ≠ 10 := fun c => hz (by rw [c]; exact end_fin _ hs21)
        have hK2 := hK (zu I19 (k + 1 + 1) (st.length - 1 + 1) (zi (ldN (topS st) (5 + y)))) (by
          rw [e19]
          exact (q.zu (Or.inl ⟨rfl, rfl⟩)).zu (Or.inr rfl)) (fun st' e => by
          cases e
          refine ⟨?_, fun j p hj => ?_⟩
          · rw [zu_oo (by omega), g19, List.length_append]
            show zi (st.length - 1 + 1) = zi (st.length + 1 - 1)
            rw [show st.length - 1 + 1 = st.length + 1 - 1 by omega]
          · show (zu I19 (k + 2) (st.length - 1 + 1) (zi (ldN (topS st) (5 + y)))).1 (k + 2) j = zi p.2
            rw [show st.length - 1 + 1 = st.length by omega]
            rcases snoc_at hj with hj | ⟨e1, e2⟩
            · have := (List.getElem?_eq_some_iff.mp hj).1
              rw [zu_at, if_neg (by omega), e19, zu_oo (by omega)]
              exact hT.2 j p hj
            · rw [e1, e2, zu_self])
        rw [if_neg c] at hK2
        exact hK2
  exact main 4 0 st I hl hl.top.2.1 (by decide) eqQ.rf hT hK
