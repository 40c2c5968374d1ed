/-! ===== what could be put, and what mends ===== -/
theorem TrX.kp {I J : zI} {k : Nat} {st : List (Nat × Nat)} (h : TrX I k st) (e : ∀ a j, a = k ∨ a = k + 2 → J.1 a j = I.1 a j) : TrX J k st := ⟨(e _ _ (Or.inl rfl)).trans h.1, fun j p hj => (e _ _ (Or.inr rfl)).trans (h.2 j p hj)⟩
theorem Qtk_ad1 {I J : zI} (q : eqQ (Qtk 101) I J) : eqQ Qad I J := q.mono (fun a j h => by unfold Qtk at h; unfold Qad; omega)
theorem Qtk_ad4 {I J : zI} (q : eqQ (Qtk 104) I J) : eqQ Qad I J := q.mono (fun a j h => by unfold Qtk at h; unfold Qad; omega)
theorem TrX.o4 {I J : zI} {st : List (Nat × Nat)} (h : TrX I 101 st) (q : eqQ (Qtk 104) I J) : TrX J 101 st := h.kp (fun a j u => q.1 a j (by unfold Qtk; omega))
theorem TrX.o1 {I J : zI} {st : List (Nat × Nat)} (h : TrX I 104 st) (q : eqQ (Qtk 101) I J) : TrX J 104 st := h.kp (fun a j u => q.1 a j (by unfold Qtk; omega))
/-- the tokens of a text by their KINDS -/
def TkX (I : zI) (tk : Nat) (l : List Nat) : Prop := (tk < 100 ∨ 112 < tk) ∧ I.1 tk 5 = zi l.length ∧ (∀ (j y : Nat), l[j]? = some y → I.1 (tk + 2) j = zi y) ∧ tk + 2 ≠ 100 ∧ tk + 2 ≠ 101
theorem TkX.ad {I J : zI} {tk : Nat} {l : List Nat} (h : TkX I tk l) (q : eqQ Qad I J) : TkX J tk l := by
  obtain ⟨h1, h2, h3, h4, h5⟩ := h
  exact ⟨h1, by rw [q.1 _ _ (by unfold Qad; omega)]; exact h2, fun j y hj => by rw [q.1 _ _ (by unfold Qad; omega)]; exact h3 j y hj, h4, h5⟩
theorem b01_ne {b : Bool} : ¬ b01 b = 0 ↔ b = true := by
  cases b <;> simp [b01]
theorem drop_at {l : List Nat} {i y : Nat} (h : l[i]? = some y) : l.drop i = y :: l.drop (i + 1) := by
  obtain ⟨h1, h2⟩ := List.getElem?_eq_some_iff.mp h
  rw [List.drop_eq_getElem_cons h1, h2]
theorem acL_cons {y : Nat} {l : List Nat} {st : List (Nat × Nat)} : acL (y :: l) st = if y = 10 then acE st else (match acF y 4 st with
    | some st' => acL l st'
    | none => false) := rfl
theorem acV_no {y : Nat} {st : List (Nat × Nat)} (h : y ≠ 10) : acV y st = (acF y 4 st).isSome := if_neg h
theorem t_acceptsFrom {k tk t i : Nat} {st : List (Nat × Nat)} {l : List Nat} {I : zI} {K : Int32 → zI → Prop} (hk : k = 101 ∨ k = 104) (hW : KdL l) (hl : l.length ≤ 100) (hX : TkX I tk l) (hT : TrX I k st) (hv : LV t st) (hi : i ≤ l.length) (ht : t + (l.length - i) ≤ 104) (hK : ∀ J, eqQ (Qtk k) I J → K (b01 (acL (l.drop i) st)) J) : w_Trial_acceptsFrom k tk (zi i) I K := by
  intro P2 h2
  have qa : ∀ {A B : zI}, eqQ (Qtk k) A B → eqQ Qad A B := fun q => q.mono (fun a j h => by unfold Qtk at h; unfold Qad; omega)
  have main : ∀ (d i t : Nat) (st : List (Nat × Nat)) (J : zI), i + d = l.length → LV t st → t + d ≤ 104 → eqQ (Qtk k) I J → TrX J k st → (∀ L, eqQ (Qtk k) I L → K (b01 (acL (l.drop i) st)) L) → P2 (zi i) J := by
    intro d
    induction d with
    | zero =>
      intro i t st J hid hv ht q hT hK
      refine h2 _ _ ?_
      obtain ⟨-, x2, -⟩ := hX.ad (qa q)
      rw [x2, if_pos ((zi_le (by omega) (by omega)).mpr (by omega))]
      have := hK J q
      rw [List.drop_of_length_le (by omega)] at this
      exact this
    | succ d ih =>
      intro i t st J hid hv ht q hT hK
      refine h2 _ _ ?_
      obtain ⟨-, x2, x3, -⟩ := hX.ad (qa q)
      rw [x2, if_neg (nle_zi (by omega) (by omega))]
      have hat := getD_at (l := l) (j := i) (by omega)
      generalize l.getD i 0 = y at hat
      obtain ⟨w1, w2⟩ := hW i y hat
      rw [drop_at hat] at hK
      refine (w_get (by decide)).mpr ?_
      rw [rg_in (by decide) (show i < 100 by omega), show J.1 (tk + 1 + 1) i = zi y from x3 i y hat]
      refine t_accepts hT hv (by omega) w1 (fun L qL tr => ?_)
      have q2 := q.tr qL
      by_cases c : y = 10
      · have hK2 := hK L q2
        rw [acL_cons, if_pos c] at hK2
        have ev : acV y st = acE st := if_pos c
        rw [ev]
        cases he : acE st with
        | false =>
          rw [he] at hK2
          rw [if_pos (show b01 false = 0 from rfl)]
          exact hK2
        | true =>
          rw [he] at hK2
          rw [if_neg (by decide)]
          intro v ev
          rw [ev, zi_succ]
          refine h2 _ _ ?_
          obtain ⟨-, y2, -⟩ := hX.ad (qa q2)
          have := w2.mp c
          rw [y2, if_pos ((zi_le (by omega) (by omega)).mpr (by omega))]
          exact hK2
      · rw [acV_no c]
        cases ha : acF y 4 st with
        | none =>
          have hK2 := hK L q2
          rw [acL_cons, if_neg c, ha] at hK2
          exact hK2
        | some st' =>
          rw [if_neg (show ¬ b01 (some st').isSome = 0 from (by decide : ¬ b01 true = 0))]
          intro v ev
          rw [ev, zi_succ]
          have h1 := ((ac_run (kd := fun _ => y) (i := 0) rfl w1 4 t st hv hv.top.2.1).1 st' ha).1
          refine ih (i + 1) (t + 1) st' L (by omega) h1 (by omega) q2 (tr st' ha) (fun M qM => ?_)
          have hK2 := hK M qM
          rw [acL_cons, if_neg c, ha] at hK2
          exact hK2
  exact main (l.length - i) i t st I (by omega) hv ht eqQ.rf hT hK
/-! mend -/
def mnP (l : List Nat) (i k : Nat) : Bool := acL (l.take i ++ k :: l.drop i) [(0, 0)]
def mnK (l : List Nat) (i : Nat) : Nat → Nat → Option Nat
  | 0, _ => none
  | d + 1, k => if mnP l i k = true then some k else mnK l i d (k + 1)
def mnI (l : List Nat) : Nat → Nat → Option (Nat × Nat)
  | 0, _ => none
  | d + 1, i => match mnK l i 10 0 with
    | some k => some (i, k)
    | none => mnI l d (i + 1)
def resA : Option (Nat × Nat) → Int32
  | some p => zi p.1
  | none => -2
def resB : Option (Nat × Nat) → Int32
  | some p => zi p.2
  | none => -2
theorem KdL.no10 {l : List Nat} (h : KdL l) {i : Nat} (hi : i + 1 ≤ l.length) : ∀ y ∈ l.take i, y ≠ 10 ∧ y < 12 := by
  intro y hy
  obtain ⟨j, hj⟩ := List.mem_iff_getElem?.mp hy
  have hjl := (List.getElem?_eq_some_iff.mp hj).1
  rw [List.length_take] at hjl
  rw [List.getElem?_take, if_pos (by omega)] at hj
  obtain ⟨w1, w2⟩ := h j y hj
  exact ⟨fun u => by
    have := w2.mp u
    omega, w1⟩
theorem rnF_none {l : List Nat} {i j : Nat} {st : List (Nat × Nat)} (h : rnF (l.take j) st = none) (hij : j ≤ i) : rnF (l.take i) st = none := by
  have e : l.take i = l.take j ++ (l.take i).drop j := by
    have := (List.take_append_drop j (l.take i)).symm
    rw [List.take_take, Nat.min_eq_left hij] at this
    exact this
  rw [e, rnF_app, h]
  rfl
theorem mnP_no {l : List Nat} (hW : KdL l) {i j k : Nat} (hi : i + 1 ≤ l.length) (h : rnF (l.take j) [(0, 0)] = none) (hij : j ≤ i) : mnP l i k = false := by
  unfold mnP
  rw [acL_app (fun y hy => (hW.no10 hi y hy).1), rnF_none h hij]
theorem mnK_no {l : List Nat} {i : Nat} (h : ∀ k, mnP l i k = false) : ∀ d k, mnK l i d k = none
  | 0, _ => rfl
  | d + 1, k => by
    show (if mnP l i k = true then some k else mnK l i d (k + 1)) = none
    rw [h k, if_neg (by decide)]
    exact mnK_no h d (k + 1)
theorem mnI_no {l : List Nat} (hW : KdL l) {j : Nat} (h : rnF (l.take j) [(0, 0)] = none) : ∀ d i, i + d ≤ l.length → j ≤ i → mnI l d i = none
  | 0, _, _, _ => rfl
  | d + 1, i, h1, h2 => by
    show (match mnK l i 10 0 with
      | some k => some (i, k)
      | none => mnI l d (i + 1)) = none
    rw [mnK_no (fun k => mnP_no hW (by omega) h h2)]
    exact mnI_no hW h d (i + 1) (by omega) (by omega)
theorem mnP_at {l : List Nat} (hW : KdL l) {i k : Nat} {st : List (Nat × Nat)} (hi : i + 1 ≤ l.length) (hk : k ≠ 10) (h : rnF (l.take i) [(0, 0)] = some st) : mnP l i k = match acF k 4 st with
    | some st' => acL (l.drop i) st'
    | none => false := by
  unfold mnP
  rw [acL_app (fun y hy => (hW.no10 hi y hy).1), h]
  dsimp only
  rw [acL_cons, if_neg hk]
theorem t_found {a b : Int32} {I : zI} {K : zI → Prop} (hK : ∀ J, eqQ Qad I J → J.1 100 3 = a → J.1 100 4 = b → K J) : w_Adviser_found a b I K := by
  intro I1 e1 I2 e2
  refine hK I2 ?_ ?_ ?_
  · rw [e2, e1]
    exact (eqQ.rf.zu ⟨by decide, by decide⟩).zu ⟨by decide, by decide⟩
  · rw [e2, zu_i (by decide), e1, zu_self]
  · rw [e2, zu_self]
theorem take_snoc {l : List Nat} {i y : Nat} (h : l[i]? = some y) : l.take (i + 1) = l.take i ++ [y] := by
  rw [List.take_add_one, h]
  rfl
theorem t_findMend {tk : Nat} {l : List Nat} {I : zI} {K : zI → Prop} (hW : KdL l) (hl : l.length ≤ 100) (hX : TkX I tk l) (hK : ∀ J, eqQ Qad I J → J.1 100 3 = resA (mnI l l.length 0) → J.1 100 4 = resB (mnI l l.length 0) → K J) : w_Adviser_findMend tk I K := by
  refine t_begin (fun I1 q1 tr1 => ?_)
  intro P11 h11
  have stop : ∀ (v w : Int32) (J : zI), eqQ Qad I J → (v = 0 ∨ zi l.length ≤ w) → (∀ L, eqQ Qad I L → L.1 100 3 = -2 → L.1 100 4 = -2 → K L) → P11 v w J := by
    intro v w J q hvw hK
    refine h11 _ _ _ ?_
    intro P104 h104
    have fin : P104 := h104 (t_found (fun L qL e3 e4 => hK L (q.tr qL) e3 e4))
    by_cases c : v = 0
    · rw [if_pos c]
      exact fin
    · rw [if_neg c, (hX.ad q).2.1, if_pos (by
        rcases hvw with u | u
        · exact absurd u c
        · exact u)]
      exact fin
  have main : ∀ (d i : Nat) (st : List (Nat × Nat)) (J : zI), i + d = l.length → eqQ Qad I J → TrX J 101 st → rnF (l.take i) [(0, 0)] = some st → LV i st → (∀ L, eqQ Qad I L → L.1 100 3 = resA (mnI l d i) → L.1 100 4 = resB (mnI l d i) → K L) → P11 1 (zi i) J := by
    intro d
    induction d with
    | zero =>
      intro i st J hid q hT hr hv hK
      exact stop 1 (zi i) J q (Or.inr ((zi_le (by omega) (by omega)).mpr (by omega))) hK
    | succ d ih =>
      intro i st J hid q hT hr hv hK
      refine h11 _ _ _ ?_
      intro P104 _
      rw [if_neg (by decide), (hX.ad q).2.1, if_neg (nle_zi (by omega) (by omega))]
      have hat := getD_at (l := l) (j := i) (by omega)
      generalize l.getD i 0 = y at hat
      obtain ⟨w1, w2⟩ := hW i y hat
      have hlen : st.length ≤ 299 := by
        have := hv.2.2.2
        omega
      intro P26 h26
      have inner : ∀ (e k : Nat) (A : zI), k + e = 10 → eqQ Qad I A → TrX A 101 st → (∀ L, eqQ Qad I L → L.1 100 3 = resA (match mnK l i e k with
          | some k => some (i, k)
          | none => mnI l d (i + 1)) → L.1 100 4 = resB (match mnK l i e k with
          | some k => some (i, k)
          | none => mnI l d (i + 1)) → K L) → P26 (zi k) A := by
        intro e
        induction e with
        | zero =>
          intro k A hke q2 hT2 hK2
          refine h26 _ _ ?_
          rw [if_pos (show (10 : Int32) ≤ zi k from (zi_le (a := 10) (by decide) (by omega)).mpr (by omega))]
          refine (w_get (by decide)).mpr ?_
          rw [rg_in (by decide) (show i < 100 by omega), show A.1 (tk + 1 + 1) i = zi y from (hX.ad q2).2.2.1 i y hat]
          refine t_accepts hT2 hv (by omega) w1 (fun L qL tr v ev => ?_)
          rw [ev, zi_succ]
          have q3 := q2.tr (Qtk_ad1 qL)
          by_cases c : y = 10
          · have hlast := w2.mp c
            have hd0 : d = 0 := by omega
            subst hd0
            exact stop _ _ L q3 (Or.inr ((zi_le (by omega) (by omega)).mpr (by omega))) hK2
          · rw [acV_no c]
            cases ha : acF y 4 st with
            | none =>
              have hn : rnF (l.take (i + 1)) [(0, 0)] = none := by
                rw [take_snoc hat, rnF_app, hr]
                show (acF y 4 st).bind (rnF []) = none
                rw [ha]
                rfl
              have e0 := mnI_no hW hn d (i + 1) (by omega) (Nat.le_refl _)
              refine stop _ _ L q3 (Or.inl rfl) (fun M qM m1 m2 => hK2 M qM ?_ ?_)
              · show M.1 100 3 = resA (mnI l d (i + 1))
                rw [e0]
                exact m1
              · show M.1 100 4 = resB (mnI l d (i + 1))
                rw [e0]
                exact m2
            | some st' =>
              have h1 := ((ac_run (kd := fun _ => y) (i := 0) rfl w1 4 i st hv hv.top.2.1).1 st' ha).1
              refine ih (i + 1) st' L (by omega) q3 (tr st' ha) ?_ h1 hK2
              rw [take_snoc hat, rnF_app, hr]
              show (acF y 4 st).bind (rnF []) = some st'
              rw [ha]
              rfl
        | succ e ih2 =>
          intro k A hke q2 hT2 hK2
          refine h26 _ _ ?_
          rw [if_neg (show ¬ (10 : Int32) ≤ zi k from nle_zi (n := 10) (by omega) (by decide))]
          refine t_trialCopy (by omega) hv.1 hlen hT2 (fun B qB trB => ?_)
          have q3 := q2.tr (Qtk_ad4 qB)
          refine t_accepts trB hv (by omega) (show k < 12 by omega) (fun C qC trC => ?_)
          have q4 := q3.tr (Qtk_ad4 qC)
          have tr101 : TrX C 101 st := (hT2.o4 qB).o4 qC
          have hmP := mnP_at hW (show i + 1 ≤ l.length by omega) (show k ≠ 10 by omega) hr
          intro P76 h76
          have nx : ∀ L, eqQ Qad I L → TrX L 101 st → mnP l i k = false → P76 L := fun L qL tL hf => h76 L (fun v ev => by
            rw [ev, zi_succ]
            refine ih2 (k + 1) L (by omega) qL tL (fun M qM m1 m2 => hK2 M qM ?_ ?_)
            · show M.1 100 3 = resA (match (if mnP l i k = true then some k else mnK l i e (k + 1)) with
                | some k => some (i, k)
                | none => mnI l d (i + 1))
              rw [hf, if_neg (by decide)]
              exact m1
            · show M.1 100 4 = resB (match (if mnP l i k = true then some k else mnK l i e (k + 1)) with
                | some k => some (i, k)
                | none => mnI l d (i + 1))
              rw [hf, if_neg (by decide)]
              exact m2)
          rw [acV_no (show k ≠ 10 by omega)]
          cases ha : acF k 4 st with
          | none =>
            rw [ha] at hmP
            rw [if_pos (show b01 (none : Option (List (Nat × Nat))).isSome = 0 from rfl)]
            exact nx C q4 tr101 hmP
          | some st' =>
            rw [ha] at hmP
            dsimp only at hmP
            rw [if_neg (show ¬ b01 (some st').isSome = 0 from (by decide : ¬ b01 true = 0))]
            have h1 := ((ac_run (kd := fun _ => k) (i := 0) rfl (show k < 12 by omega) 4 i st hv hv.top.2.1).1 st' ha).1
            refine t_acceptsFrom (Or.inr rfl) hW hl (hX.ad q4) (trC st' ha) h1 (by omega) (by omega) (fun D qD => ?_)
            have q5 := q4.tr (Qtk_ad4 qD)
            rw [← hmP]
            cases hm : mnP l i k with
            | false =>
              rw [if_pos (show b01 false = 0 from rfl)]
              exact nx D q5 (tr101.o4 qD) hm
            | true =>
              rw [if_neg (by decide)]
              refine t_found (fun M qM m1 m2 => hK2 M (q5.tr qM) ?_ ?_)
              · show M.1 100 3 = resA (match (if mnP l i k = true then some k else mnK l i e (k + 1)) with
                  | some k => some (i, k)
                  | none => mnI l d (i + 1))
                rw [hm, if_pos rfl]
                exact m1
              · show M.1 100 4 = resB (match (if mnP l i k = true then some k else mnK l i e (k + 1)) with
                  | some k => some (i, k)
                  | none => mnI l d (i + 1))
                rw [hm, if_pos rfl]
                exact m2
      refine inner 10 0 J rfl q hT (fun L qL m1 m2 => hK L qL ?_ ?_)
      · exact m1
      · exact m2
  refine main l.length 0 [(0, 0)] I1 (by omega) (Qtk_ad1 q1) tr1 ?_ LV.st0 hK
  rw [List.take_zero]
  rfl
/-! what may come in the wrong one's place -/
/-- how many tokens pass; the stack then -/
def stF : List Nat → List (Nat × Nat) → Nat × List (Nat × Nat)
  | [], st => (0, st)
  | y :: l, st => match acF y 4 st with
    | some st' => ((stF l st').1 + 1, (stF l st').2)
    | none => (0, st)
def bitF (st : List (Nat × Nat)) : Nat → Nat → Int32 → Int32
  | 0, _, w => w
  | d + 1, k, w => bitF st d (k + 1) (if acV k st = true then w ||| (1 <<< (zi k &&& 31)) else w)
def vExp (l : List Nat) : Int32 := bitF (stF l [(0, 0)]).2 11 0 0
theorem bit_or0 (w : Int32) : w ||| 0 = w := by
  exact Int32.or_zero
theorem t_goToWrong {tk : Nat} {l : List Nat} {I : zI} {K : zI → Prop} (hW : KdL l) (hl : l.length ≤ 100) (hne : acL l [(0, 0)] = false) (hX : TkX I tk l) (hK : ∀ J t, eqQ Qad I J → t ≤ 100 → LV t (stF l [(0, 0)]).2 → TrX J 101 (stF l [(0, 0)]).2 → K J) : w_Adviser_goToWrong tk I K := by
  refine t_begin (fun I1 q1 tr1 => t_begin (fun I2 q2 tr2 => ?_))
  intro P16 h16
  have main : ∀ (d i : Nat) (st : List (Nat × Nat)) (J : zI), i + d = l.length → eqQ Qad I J → TrX J 101 st → TrX J 104 st → LV i st → acL (l.drop i) st = false → (∀ J t, eqQ Qad I J → t ≤ 100 → LV t (stF (l.drop i) st).2 → TrX J 101 (stF (l.drop i) st).2 → K J) → P16 (zi i) J := by
    intro d
    induction d with
    | zero =>
      intro i st J hid q hT hT4 hv hf hK
      rw [List.drop_of_length_le (by omega)] at hf
      cases hf
    | succ d ih =>
      intro i st J hid q hT hT4 hv hf hK
      refine h16 _ _ ?_
      obtain ⟨-, x2, x3, -⟩ := hX.ad q
      rw [x2, if_neg (nle_zi (by omega) (by omega))]
      have hat := getD_at (l := l) (j := i) (by omega)
      generalize l.getD i 0 = y at hat
      obtain ⟨w1, w2⟩ := hW i y hat
      have hlen : st.length ≤ 299 := by
        have := hv.2.2.2
        omega
      rw [drop_at hat] at hK hf
      rw [acL_cons] at hf
      refine (w_get (by decide)).mpr ?_
      rw [rg_in (by decide) (show i < 100 by omega), show J.1 (tk + 1 + 1) i = zi y from x3 i y hat]
      refine t_accepts hT4 hv (by omega) w1 (fun L qL tr => ?_)
      have q3 := q.tr (Qtk_ad4 qL)
      have eS : stF (y :: l.drop (i + 1)) st = match acF y 4 st with
        | some st' => ((stF (l.drop (i + 1)) st').1 + 1, (stF (l.drop (i + 1)) st').2)
        | none => (0, st) := rfl
      rw [eS] at hK
      by_cases c : y = 10
      · rw [if_pos c] at hf
        have ev : acV y st = acE st := if_pos c
        have ha : acF y 4 st = none := acF_end (fun s hs => by rw [c]; exact end_fin s hs) 4 i st hv
        rw [ha] at hK
        rw [ev, hf, if_pos (show b01 false = 0 from rfl)]
        exact hK L i q3 (by omega) hv (hT.o4 qL)
      · rw [if_neg c] at hf
        rw [acV_no c]
        cases ha : acF y 4 st with
        | none =>
          rw [ha] at hK
          rw [if_pos (show b01 (none : Option (List (Nat × Nat))).isSome = 0 from rfl)]
          exact hK L i q3 (by omega) hv (hT.o4 qL)
        | some st' =>
          rw [ha] at hK hf
          dsimp only at hK hf
          rw [if_neg (show ¬ b01 (some st').isSome = 0 from (by decide : ¬ b01 true = 0))]
          have h1 := ((ac_run (kd := fun _ => y) (i := 0) rfl w1 4 i st hv hv.top.2.1).1 st' ha).1
          have hlen' : st'.length ≤ 299 := by
            have := h1.2.2.2
            omega
          refine t_trialCopy (by omega) h1.1 hlen' (tr st' ha) (fun M qM trM v ev => ?_)
          rw [ev, zi_succ]
          exact ih (i + 1) st' M (by omega) (q3.tr (Qtk_ad1 qM)) trM ((tr st' ha).o1 qM) h1 hf hK
  exact main l.length 0 [(0, 0)] I2 (by omega) ((Qtk_ad1 q1).tr (Qtk_ad4 q2)) (tr1.o4 q2) tr2 LV.st0 hne hK
theorem t_kindsInPlace {tk : Nat} {l : List Nat} {I : zI} {K : Int32 → zI → Prop} (hW : KdL l) (hl : l.length ≤ 100) (hne : acL l [(0, 0)] = false) (hX : TkX I tk l) (hK : ∀ J, eqQ Qad I J → K (vExp l) J) : w_Adviser_kindsInPlace tk I K := by
  refine t_goToWrong hW hl hne hX (fun I1 t q1 ht hv tr1 => ?_)
  have hlen : (stF l [(0, 0)]).2.length ≤ 299 := by
    have := hv.2.2.2
    omega
  unfold vExp at hK
  generalize (stF l [(0, 0)]).2 = st at hv tr1 hlen hK
  intro P9 h9
  have main : ∀ (d k : Nat) (w : Int32) (J : zI), k + d = 11 → eqQ Qad I J → TrX J 101 st → (∀ L, eqQ Qad I L → K (bitF st d k w) L) → P9 w (zi k) J := by
    intro d
    induction d with
    | zero =>
      intro k w J hk q hT hK
      refine h9 _ _ _ ?_
      rw [if_pos (show (10 : Int32) < zi k from (zi_lt (a := 10) (by decide) (by omega)).mpr (by omega))]
      exact hK J q
    | succ d ih =>
      intro k w J hk q hT hK
      refine h9 _ _ _ ?_
      rw [if_neg (show ¬ (10 : Int32) < zi k from fun u => by have := (zi_lt (a := 10) (by decide) (by omega)).mp u; omega)]
      refine t_trialCopy (by omega) hv.1 hlen hT (fun A qA trA => ?_)
      refine t_accepts trA hv (by omega) (show k < 12 by omega) (fun B qB _ => ?_)
      have q3 := (q.tr (Qtk_ad4 qA)).tr (Qtk_ad4 qB)
      intro P45 h45
      have nx : P45 (if acV k st = true then (1 <<< (zi k &&& 31)) else 0) := h45 _ (fun v2 e2 v3 e3 => by
        rw [e3, zi_succ]
        refine ih (k + 1) v2 B (by omega) q3 ((hT.o4 qA).o4 qB) (fun L qL => ?_)
        have hK2 : K (bitF st d (k + 1) (if acV k st = true then w ||| (1 <<< (zi k &&& 31)) else w)) L := hK L qL
        have e4 : v2 = if acV k st = true then w ||| (1 <<< (zi k &&& 31)) else w := by
          rw [e2]
          by_cases c : acV k st = true
          · rw [if_pos c, if_pos c]
          · rw [if_neg c, if_neg c, bit_or0]
        rw [e4]
        exact hK2)
      cases hc : acV k st with
      | false =>
        rw [hc, if_neg (by decide)] at nx
        rw [if_pos (show b01 false = 0 from rfl)]
        exact nx
      | true =>
        rw [hc, if_pos rfl] at nx
        rw [if_neg (by decide)]
        exact nx
  exact main 11 0 0 I1 rfl q1 tr1 hK
