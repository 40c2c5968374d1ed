/-! ===== in the way ===== -/
def ftN (a b : Nat) : Bool := decide (((zst_FOLLOWERS.getD a 0) >>> (zi b &&& 31)) &&& 1 = 1)
theorem t_fits {a b : Nat} {I : zI} {K : Int32 → Prop} (ha : a < 13) (h : K (b01 (ftN a b))) : w_Desk_fits (zi a) (zi b) I K := by
  unfold w_Desk_fits
  rw [if_neg (zi_pos (by omega)), if_neg (show ¬ (13 : Int32) ≤ zi a from nle_zi (n := 13) ha (by decide)), zi_tn (show a < 2147483648 by omega)]
  refine ⟨(zin_iff (by omega)).mpr (by show a < 13; exact ha), ?_⟩
  unfold ftN at h
  by_cases c : ((zst_FOLLOWERS.getD a 0) >>> (zi b &&& 31)) &&& 1 = 1
  · rw [decide_eq_true c] at h
    rw [if_pos c]
    exact h
  · rw [decide_eq_false c] at h
    rw [if_neg c]
    exact h
/-- whether a KIND can be put behind a STATE, as far as the tables tell -/
def canS (z : Nat) : Nat → Nat → Bool
  | 0, _ => false
  | d + 1, s => if ldN s (5 + z) = 0 then (match rlN s with
    | some r => (bkT (lnN r) s).any (fun a => canS z d (ldN a (syN r)))
    | none => z == 10 && s == 1) else true
theorem canS_at {z d s : Nat} : canS z (d + 1) s = if ldN s (5 + z) = 0 then (match rlN s with
    | some r => (bkT (lnN r) s).any (fun a => canS z d (ldN a (syN r)))
    | none => z == 10 && s == 1) else true := rfl
set_option maxRecDepth 100000 in
theorem ft_fin : ∀ y, y < 12 → ∀ z, z < 12 → ∀ s, s < 21 → ldN s (5 + y) ≠ 0 → canS z 4 (ldN s (5 + y)) = true → ftN y z = true := by decide +kernel
theorem ft_fin0 : ∀ z, z < 12 → canS z 4 0 = true → ftN 12 z = true := by decide +kernel
theorem byT_top {st : List (Nat × Nat)} {r : Nat} : topS (byT 0 st r) = ldN (byS st r) (syN r) := by
  unfold byT
  rw [topS_snoc]
theorem canS_ac {z : Nat} : ∀ (d t : Nat) (st : List (Nat × Nat)), LV t st → (if z = 10 then decide (topS (rdF d st) = 1 ∧ rk3 (topS st) < d) else (acF z d st).isSome) = true → canS z d (topS st) = true
  | 0, t, st, hv, h => by
    by_cases c : z = 10
    · rw [if_pos c] at h
      have := (of_decide_eq_true h).2
      exact absurd this (Nat.not_lt_zero _)
    · rw [if_neg c] at h
      cases h
  | d + 1, t, st, hv, h => by
    rw [canS_at]
    by_cases hz : ldN (topS st) (5 + z) = 0
    · rw [if_pos hz]
      rw [acF_at, rdF_at, if_pos hz] at h
      cases hr : rlN (topS st) with
      | none =>
        rw [hr] at h
        dsimp only at h ⊢
        by_cases c : z = 10
        · rw [if_pos c] at h
          rw [c, (of_decide_eq_true h).1]
          rfl
        · rw [if_neg c] at h
          cases h
      | some r =>
        rw [hr] at h
        dsimp only at h ⊢
        obtain ⟨a1, -, -, -, a5, a6, a7⟩ := hv.red hr
        refine List.any_eq_true.mpr ⟨byS st r, a7, ?_⟩
        rw [← byT_top (st := st)]
        refine canS_ac d t (byT 0 st r) a1 ?_
        by_cases c : z = 10
        · rw [if_pos c] at h ⊢
          obtain ⟨h1, h2⟩ := of_decide_eq_true h
          exact decide_eq_true ⟨h1, by omega⟩
        · rw [if_neg c] at h ⊢
          exact h
    · rw [if_neg hz]
theorem canS_V {z t : Nat} {st : List (Nat × Nat)} (hv : LV t st) (h : acV z st = true) : canS z 4 (topS st) = true := by
  refine canS_ac 4 t st hv ?_
  unfold acV at h
  by_cases c : z = 10
  · rw [if_pos c] at h ⊢
    exact decide_eq_true ⟨of_decide_eq_true h, hv.top.2.1⟩
  · rw [if_neg c] at h ⊢
    exact h
theorem acF_top {y : Nat} : ∀ (d t : Nat) (st st' : List (Nat × Nat)), LV t st → acF y d st = some st' → ∃ a, a < 21 ∧ ldN a (5 + y) ≠ 0 ∧ topS st' = ldN a (5 + y)
  | 0, _, _, _, _, h => by cases h
  | d + 1, t, st, st', hv, h => by
    rw [acF_at] at h
    by_cases hz : ldN (topS st) (5 + y) = 0
    · rw [if_pos hz] at h
      cases hr : rlN (topS st) with
      | none =>
        rw [hr] at h
        cases h
      | some r =>
        rw [hr] at h
        exact acF_top d t _ st' (hv.red hr).1 h
    · rw [if_neg hz] at h
      cases h
      exact ⟨topS st, hv.top.1, hz, topS_snoc⟩
theorem acL_V {z : Nat} {l : List Nat} {st : List (Nat × Nat)} (h : acL (z :: l) st = true) : acV z st = true := by
  rw [acL_cons] at h
  unfold acV
  by_cases c : z = 10
  · rw [if_pos c] at h ⊢
    exact h
  · rw [if_neg c] at h ⊢
    cases ha : acF z 4 st with
    | none =>
      rw [ha] at h
      cases h
    | some s => rfl
theorem acL_fit {z y : Nat} {u v : List Nat} (hu : ∀ w ∈ u, w ≠ 10 ∧ w < 12) (hy : y ≠ 10 ∧ y < 12) (hz : z < 12) (h : acL (u ++ y :: z :: v) [(0, 0)] = true) : ftN y z = true := by
  rw [acL_app (fun w hw => (hu w hw).1)] at h
  cases hr : rnF u [(0, 0)] with
  | none =>
    rw [hr] at h
    cases h
  | some st =>
    rw [hr] at h
    dsimp only at h
    rw [acL_cons, if_neg hy.1] at h
    have hv := rnF_lv (fun w hw => (hu w hw).2) LV.st0 hr
    cases ha : acF y 4 st with
    | none =>
      rw [ha] at h
      cases h
    | some st' =>
      rw [ha] at h
      dsimp only at h
      have h1 := ((ac_run (kd := fun _ => y) (i := 0) rfl hy.2 4 _ st hv hv.top.2.1).1 st' ha).1
      obtain ⟨a, a1, a2, a3⟩ := acF_top 4 _ st st' hv ha
      have := canS_V h1 (acL_V h)
      rw [a3] at this
      exact ft_fin y hy.2 z hz a a1 a2 this
theorem acL_fit0 {z : Nat} {v : List Nat} (hz : z < 12) (h : acL (z :: v) [(0, 0)] = true) : ftN 12 z = true := by
  have h1 := canS_V LV.st0 (acL_V h)
  have e : topS [(0, 0)] = 0 := rfl
  rw [e] at h1
  exact ft_fin0 z hz h1
/-! brackets -/
def wS (y : Nat) : Int := if y = 11 then 1 else if y = 12 then -1 else if y = 13 then 1000 else if y = 14 then -1000 else 0
def wB (st : List (Nat × Nat)) : Int := (st.map (fun p => wS (acS p.2))).sum
def wL (l : List Nat) : Int := (l.map (fun y => wS (5 + y))).sum
theorem wB_app {a b : List (Nat × Nat)} : wB (a ++ b) = wB a + wB b := by
  unfold wB
  rw [List.map_append, List.sum_append]
theorem wL_app {a b : List Nat} : wL (a ++ b) = wL a + wL b := by
  unfold wL
  rw [List.map_append, List.sum_append]
theorem wL_cons {y : Nat} {l : List Nat} : wL (y :: l) = wS (5 + y) + wL l := by
  unfold wL
  rw [List.map_cons, List.sum_cons]
theorem wr_fin : ∀ r, r < 11 → ((rhS r).map wS).sum = 0 ∧ wS (syN r) = 0 := by decide +kernel
theorem wB_red {t r : Nat} {st : List (Nat × Nat)} (hv : LV t st) (hr : rlN (topS st) = some r) : wB (byT 0 st r) = wB st := by
  obtain ⟨a1, a2, a3, a4, a5, a6, a7⟩ := hv.red hr
  obtain ⟨s1, s2, s3, s4⟩ := id hv
  obtain ⟨-, -, p0, t1, t2⟩ := hv.top
  have hR := st_rhs s2 s3 s1 t1 t2 hr
  obtain ⟨w1, w2⟩ := wr_fin r a2
  have hsy := (sy_fin r a2).2
  change syN r < 5 at hsy
  have e1 : wB (st.drop (st.length - lnN r)) = 0 := by
    unfold wB
    rw [show (st.drop (st.length - lnN r)).map (fun p => wS (acS p.2)) = ((st.drop (st.length - lnN r)).map (fun p => acS p.2)).map wS by rw [List.map_map]; rfl, hR]
    exact w1
  have e2 : wB st = wB (st.take (st.length - lnN r)) + wB (st.drop (st.length - lnN r)) := by
    rw [← wB_app, List.take_append_drop]
  have e3 : wB [(0, ldN (byS st r) (syN r))] = 0 := by
    show wS (acS (ldN (byS st r) (syN r))) + 0 = 0
    rw [ac_fin _ a6 _ (by omega) a4, w2]
    rfl
  unfold byT
  rw [wB_app, e3, e2, e1]
theorem acF_w {y : Nat} (hy : y < 12) : ∀ (d t : Nat) (st st' : List (Nat × Nat)), LV t st → acF y d st = some st' → wB st' = wB st + wS (5 + y)
  | 0, _, _, _, _, h => by cases h
  | d + 1, t, st, st', hv, h => by
    rw [acF_at] at h
    by_cases hz : ldN (topS st) (5 + y) = 0
    · rw [if_pos hz] at h
      cases hr : rlN (topS st) with
      | none =>
        rw [hr] at h
        cases h
      | some r =>
        rw [hr] at h
        rw [acF_w hy d t _ st' (hv.red hr).1 h, wB_red hv hr]
    · rw [if_neg hz] at h
      cases h
      rw [wB_app]
      show _ + (wS (acS (ldN (topS st) (5 + y))) + 0) = _
      rw [ac_fin _ hv.top.1 _ (by omega) hz, Int.add_zero]
theorem rdF_w : ∀ (d t : Nat) (st : List (Nat × Nat)), LV t st → wB (rdF d st) = wB st ∧ LV t (rdF d st)
  | 0, _, _, h => ⟨rfl, h⟩
  | d + 1, t, st, h => by
    rw [rdF_at]
    cases hr : rlN (topS st) with
    | none => exact ⟨rfl, h⟩
    | some r =>
      obtain ⟨a, b⟩ := rdF_w d t _ (h.red hr).1
      exact ⟨a.trans (wB_red h hr), b⟩
theorem ld1_fin : ∀ a, a < 21 → ∀ y, y < 17 → ldN a y = 1 → a = 0 := by decide +kernel
theorem wB_one {t : Nat} {st : List (Nat × Nat)} (hv : LV t st) (h : topS st = 1) : wB st = 0 := by
  obtain ⟨s1, s2, s3, s4⟩ := id hv
  obtain ⟨-, -, p0, t1, t2⟩ := hv.top
  have b0 := s2.1
  have hlen : st.length = 2 := by
    have n1 : st.length ≠ 1 := fun u => by
      have := b0 p0 (by rw [u] at t1; exact t1)
      omega
    refine Classical.byContradiction (fun n2 => ?_)
    have hq : st[st.length - 2]? = some (st.getD (st.length - 2) (0, 0)) := by
      rw [List.getD_eq_getElem?_getD, List.getElem?_eq_getElem (by omega)]
      rfl
    obtain ⟨y, y1, y2, y3⟩ := s2.2 (st.length - 2) _ p0 hq (by rw [show st.length - 2 + 1 = st.length - 1 by omega]; exact t1)
    have z0 := ld1_fin _ (s3 _ _ hq).1 y y1 (by rw [y2, t2, h])
    have hq' : st[st.length - 3]? = some (st.getD (st.length - 3) (0, 0)) := by
      rw [List.getD_eq_getElem?_getD, List.getElem?_eq_getElem (by omega)]
      rfl
    obtain ⟨y', -, -, y4⟩ := s2.2 (st.length - 3) _ _ hq' (by rw [show st.length - 3 + 1 = st.length - 2 by omega]; exact hq)
    exact y4 z0
  match st, hlen with
  | [p, q], _ =>
    have hp : p.2 = 0 := b0 p rfl
    have hq : q.2 = 1 := h
    show wS (acS p.2) + (wS (acS q.2) + 0) = 0
    rw [hp, hq]
    decide
theorem acL_w {W : List Nat} : ∀ {t : Nat} {st : List (Nat × Nat)}, LV t st → KdL W → W ≠ [] → acL W st = true → wB st + wL W = 0 := by
  induction W with
  | nil =>
    intro t st _ _ h
    exact absurd rfl h
  | cons y l ih =>
    intro t st hv hW _ h
    obtain ⟨w1, w2⟩ := hW 0 y rfl
    rw [acL_cons] at h
    rw [wL_cons]
    by_cases c : y = 10
    · rw [if_pos c] at h
      have hl0 : l = [] := by
        have := w2.mp c
        rw [List.length_cons] at this
        exact List.length_eq_zero_iff.mp (by omega)
      obtain ⟨e1, e2⟩ := rdF_w 4 t st hv
      have := wB_one e2 (of_decide_eq_true h)
      rw [hl0, c, ← e1, this]
      decide
    · rw [if_neg c] at h
      cases ha : acF y 4 st with
      | none =>
        rw [ha] at h
        cases h
      | some st' =>
        rw [ha] at h
        dsimp only at h
        have h1 := ((ac_run (kd := fun _ => y) (i := 0) rfl w1 4 t st hv hv.top.2.1).1 st' ha).1
        have hln : l ≠ [] := fun u => c (w2.mpr (by rw [u]; rfl))
        have := ih h1 hW.tl hln h
        rw [acF_w w1 4 t st st' hv ha] at this
        omega
/-! which are left out -/
def wyP (l : List Nat) (m a : Nat) : Bool := acL (l.take a ++ l.drop (a + m)) [(0, 0)]
def wyA (l : List Nat) (m : Nat) : Nat → Nat → Option Nat
  | 0, _ => none
  | d + 1, a => if wyP l m a = true then some a else wyA l m d (a + 1)
def wyM (l : List Nat) : Nat → Nat → Option (Nat × Nat)
  | 0, _ => none
  | d + 1, m => match wyA l m (l.length - m) 0 with
    | some a => some (a, m)
    | none => wyM l d (m + 1)
theorem KdL.cut {l : List Nat} (h : KdL l) {a m : Nat} (hm : a + m < l.length) : KdL (l.take a ++ l.drop (a + m)) ∧ (l.take a ++ l.drop (a + m)).length = l.length - m := by
  have hlen : (l.take a ++ l.drop (a + m)).length = l.length - m := by
    rw [List.length_append, List.length_take, List.length_drop]
    omega
  have htl : (l.take a).length = a := by rw [List.length_take]; omega
  refine ⟨fun j y hj => ?_, hlen⟩
  rw [hlen]
  by_cases c : j < a
  · rw [List.getElem?_append_left (by omega), List.getElem?_take, if_pos c] at hj
    obtain ⟨w1, w2⟩ := h j y hj
    refine ⟨w1, w2.trans ?_⟩
    omega
  · rw [List.getElem?_append_right (by omega), htl, List.getElem?_drop] at hj
    obtain ⟨w1, w2⟩ := h _ y hj
    refine ⟨w1, w2.trans ?_⟩
    omega
theorem wyP_none {l : List Nat} (hW : KdL l) {m a j : Nat} (ha : a + 1 ≤ l.length) (h : rnF (l.take j) [(0, 0)] = none) (hj : j ≤ a) : wyP l m a = false := by
  unfold wyP
  rw [acL_app (fun y hy => (hW.no10 ha y hy).1), rnF_none h hj]
theorem wyP_at {l : List Nat} (hW : KdL l) {m a : Nat} {st : List (Nat × Nat)} (ha : a + 1 ≤ l.length) (h : rnF (l.take a) [(0, 0)] = some st) : wyP l m a = acL (l.drop (a + m)) st := by
  unfold wyP
  rw [acL_app (fun y hy => (hW.no10 ha y hy).1), h]
/-- tokens that never stand beside one another must not both stay behind -/
theorem wyP_mis {l : List Nat} (hW : KdL l) {m a q : Nat} (hq : q + 1 < l.length) (hm : a + m ≤ q) (hf : ftN (l.getD q 0) (l.getD (q + 1) 0) = false) : wyP l m a = false := by
  cases hp : wyP l m a with
  | false => rfl
  | true =>
    exfalso
    obtain ⟨c1, c2⟩ := hW.cut (a := a) (m := m) (by omega)
    have e1 : l.drop (a + m) = (l.drop (a + m)).take (q - (a + m)) ++ l.drop q := by
      have := (List.take_append_drop (q - (a + m)) (l.drop (a + m))).symm
      rw [List.drop_drop, show a + m + (q - (a + m)) = q by omega] at this
      exact this
    have g1 := getD_at (l := l) (j := q) (by omega)
    have g2 := getD_at (l := l) (j := q + 1) (by omega)
    unfold wyP at hp
    rw [e1, drop_at g1, drop_at g2, ← List.append_assoc] at hp
    have hy := hW q _ g1
    have hu : ∀ w ∈ l.take a ++ (l.drop (a + m)).take (q - (a + m)), w ≠ 10 ∧ w < 12 := by
      intro w hw
      rcases List.mem_append.mp hw with hw | hw
      · exact hW.no10 (by omega) w hw
      · obtain ⟨j, hj⟩ := List.mem_iff_getElem?.mp hw
        have hjl := (List.getElem?_eq_some_iff.mp hj).1
        rw [List.length_take, List.length_drop] at hjl
        rw [List.getElem?_take, if_pos (by omega), List.getElem?_drop] at hj
        obtain ⟨z1, z2⟩ := hW _ w hj
        exact ⟨fun u => by
          have := z2.mp u
          omega, z1⟩
    have := acL_fit hu ⟨fun u => by
      have := hy.2.mp u
      omega, hy.1⟩ (hW _ _ g2).1 hp
    rw [hf] at this
    cases this
theorem wyP_fit {l : List Nat} (hW : KdL l) {m a : Nat} (hm : a + m < l.length) (hf : ftN (if a = 0 then 12 else l.getD (a - 1) 0) (l.getD (a + m) 0) = false) : wyP l m a = false := by
  cases hp : wyP l m a with
  | false => rfl
  | true =>
    exfalso
    have g2 := getD_at (l := l) (j := a + m) hm
    unfold wyP at hp
    rw [drop_at g2] at hp
    by_cases c : a = 0
    · rw [if_pos c] at hf
      rw [c, List.take_zero] at hp
      have g3 : l[0 + m]? = some (l.getD (0 + m) 0) := by
        rw [c] at g2
        exact g2
      rw [c] at hf
      have := acL_fit0 (v := l.drop (0 + m + 1)) (hW _ _ g3).1 hp
      rw [hf] at this
      cases this
    · rw [if_neg c] at hf
      have g1 := getD_at (l := l) (j := a - 1) (by omega)
      have e1 : l.take a = l.take (a - 1) ++ [l.getD (a - 1) 0] := by
        have := take_snoc g1
        rw [show a - 1 + 1 = a by omega] at this
        exact this
      rw [e1, List.append_assoc] at hp
      have hy := hW _ _ g1
      have := acL_fit (fun w hw => hW.no10 (by omega) w hw) ⟨fun u => by
        have := hy.2.mp u
        omega, hy.1⟩ (hW _ _ g2).1 hp
      rw [hf] at this
      cases this
theorem wyP_bal {l : List Nat} (hW : KdL l) {m a : Nat} (hm : a + m < l.length) (hp : wyP l m a = true) : wL (l.take (a + m)) - wL (l.take a) = wL l := by
  obtain ⟨c1, c2⟩ := hW.cut hm
  have h1 := acL_w LV.st0 c1 (fun u => by
    rw [u] at c2
    change 0 = _ at c2
    omega) hp
  have e0 : wB [(0, 0)] = 0 := by decide
  have e1 : wL l = wL (l.take (a + m)) + wL (l.drop (a + m)) := by rw [← wL_app, List.take_append_drop]
  rw [e0, wL_app] at h1
  omega
