/-! ===== what naming the new tokens gives ===== -/
theorem namF_ok {t : Nat → Int32} {l : List (Nat × Nat × Nat)} {A Bh n' : Nat} {og : Nat → Nat} {e : Nat} : ∀ (d i m : Nat) (g : Nat → Nat) (N : Nat → Nd) (m' : Nat) (g' : Nat → Nat) (N' : Nat → Nd), namF t l A Bh n' og e d i m g N = (m', g', N') →
    m ≤ m' ∧ m' ≤ m + d ∧ (∀ k, k < m → N' k = N k) ∧ (∀ k, k < i → g' k = g k) ∧
    (∀ k, i ≤ k → k < i + d → (∀ j, wasN A Bh l.length n' k = some j → g' k = og j) ∧ (wasN A Bh l.length n' k = none → m ≤ g' k ∧ g' k < m' ∧ N' (g' k) = tkNd t (l.getD k (10, 0, 0)) e)) ∧
    (∀ k, m ≤ k → k < m' → ∃ i', i ≤ i' ∧ i' < i + d ∧ N' k = tkNd t (l.getD i' (10, 0, 0)) e) ∧
    (∀ k1 k2, i ≤ k1 → k1 < i + d → i ≤ k2 → k2 < i + d → wasN A Bh l.length n' k1 = none → wasN A Bh l.length n' k2 = none → g' k1 = g' k2 → k1 = k2)
  | 0, i, m, g, N, m', g', N', h => by
    cases h
    exact ⟨Nat.le_refl _, by omega, fun _ _ => rfl, fun _ _ => rfl, fun k h1 h2 => by omega, fun k h1 h2 => by omega, fun k1 k2 h1 h2 => by omega⟩
  | d + 1, i, m, g, N, m', g', N', h => by
    cases hw : wasN A Bh l.length n' i with
    | some j =>
      have h' : namF t l A Bh n' og e d (i + 1) m (fun k => if k = i then og j else g k) N = (m', g', N') := by
        rw [← h]
        show _ = (match wasN A Bh l.length n' i with
          | some j => namF t l A Bh n' og e d (i + 1) m (fun k => if k = i then og j else g k) N
          | none => namF t l A Bh n' og e d (i + 1) (m + 1) (fun k => if k = i then m else g k) (upN N m (tkNd t (l.getD i (10, 0, 0)) e)))
        rw [hw]
      obtain ⟨a1, a2, a3, a4, a5, a6, a7⟩ := namF_ok d (i + 1) m _ N m' g' N' h'
      refine ⟨a1, by omega, a3, fun k hk => ?_, fun k h1 h2 => ?_, fun k h1 h2 => ?_, fun k1 k2 h1 h2 h3 h4 w1 w2 he => ?_⟩
      · rw [a4 k (by omega), if_neg (by omega)]
      · by_cases u : k = i
        · subst u
          refine ⟨fun j' hj' => ?_, fun hn => ?_⟩
          · rw [a4 k (by omega), if_pos rfl]
            rw [hw] at hj'
            cases hj'
            rfl
          · rw [hw] at hn
            cases hn
        · exact a5 k (by omega) (by omega)
      · obtain ⟨i', b1, b2, b3⟩ := a6 k h1 h2
        exact ⟨i', by omega, by omega, b3⟩
      · have n1 : k1 ≠ i := fun u => by
          rw [u, hw] at w1
          cases w1
        have n2 : k2 ≠ i := fun u => by
          rw [u, hw] at w2
          cases w2
        exact a7 k1 k2 (by omega) (by omega) (by omega) (by omega) w1 w2 he
    | none =>
      have h' : namF t l A Bh n' og e d (i + 1) (m + 1) (fun k => if k = i then m else g k) (upN N m (tkNd t (l.getD i (10, 0, 0)) e)) = (m', g', N') := by
        rw [← h]
        show _ = (match wasN A Bh l.length n' i with
          | some j => namF t l A Bh n' og e d (i + 1) m (fun k => if k = i then og j else g k) N
          | none => namF t l A Bh n' og e d (i + 1) (m + 1) (fun k => if k = i then m else g k) (upN N m (tkNd t (l.getD i (10, 0, 0)) e)))
        rw [hw]
      obtain ⟨a1, a2, a3, a4, a5, a6, a7⟩ := namF_ok d (i + 1) (m + 1) _ _ m' g' N' h'
      have gi : g' i = m := by rw [a4 i (by omega), if_pos rfl]
      have Ni : N' m = tkNd t (l.getD i (10, 0, 0)) e := by rw [a3 m (by omega), upN_self]
      refine ⟨by omega, by omega, fun k hk => ?_, fun k hk => ?_, fun k h1 h2 => ?_, fun k h1 h2 => ?_, fun k1 k2 h1 h2 h3 h4 w1 w2 he => ?_⟩
      · rw [a3 k (by omega), upN_o (by omega)]
      · rw [a4 k (by omega), if_neg (by omega)]
      · by_cases u : k = i
        · subst u
          refine ⟨fun j' hj' => ?_, fun hn => ?_⟩
          · rw [hw] at hj'
            cases hj'
          · rw [gi]
            exact ⟨Nat.le_refl _, by omega, Ni⟩
        · obtain ⟨b1, b2⟩ := a5 k (by omega) (by omega)
          refine ⟨b1, fun hn => ?_⟩
          obtain ⟨c1, c2, c3⟩ := b2 hn
          exact ⟨by omega, c2, c3⟩
      · by_cases u : k = m
        · subst u
          exact ⟨i, Nat.le_refl _, by omega, Ni⟩
        · obtain ⟨i', b1, b2, b3⟩ := a6 k (by omega) h2
          exact ⟨i', by omega, by omega, b3⟩
      · by_cases u1 : k1 = i
        · by_cases u2 : k2 = i
          · omega
          · have := ((a5 k2 (by omega) (by omega)).2 w2).1
            rw [u1, gi] at he
            omega
        · by_cases u2 : k2 = i
          · have := ((a5 k1 (by omega) (by omega)).2 w1).1
            rw [u2, gi] at he
            omega
          · exact a7 k1 k2 (by omega) (by omega) (by omega) (by omega) w1 w2 he
/-- tokens of a TEXT: END alone is the last -/
def LxO (t : Nat → Int32) (l : List (Nat × Nat × Nat)) : Prop := (∀ x ∈ l, tkOk t x) ∧ 1 ≤ l.length ∧ l.length ≤ 100 ∧ ∀ (i : Nat) (x : Nat × Nat × Nat), l[i]? = some x → (x.1 = 10 ↔ i + 1 = l.length)
/-- the tokens' nodes are like them -/
def TkI (N : Nat → Nd) (t : Nat → Int32) (l : List (Nat × Nat × Nat)) (og : Nat → Nat) : Prop := ∀ (i : Nat) (x : Nat × Nat × Nat), l[i]? = some x → ndK (N (og i)) = x.1 ∧ ndY (N (og i)) = tkBs t x
theorem cntW_all {p : Nat → Bool} : ∀ f i j, j < cntW p f i → p (i + j) = true
  | 0, i, j, h => by
    change j < 0 at h
    omega
  | f + 1, i, j, h => by
    rw [cntW] at h
    by_cases c : p i = true
    · rw [if_pos c] at h
      cases j with
      | zero => exact c
      | succ j =>
        have := cntW_all (p := p) f (i + 1) j (by omega)
        rw [show i + (j + 1) = i + 1 + j by omega]
        exact this
    · rw [if_neg c] at h
      omega
theorem kept_le {t t' : Nat → Int32} {l l' : List (Nat × Nat × Nat)} (h : 1 ≤ l.length) (h' : 1 ≤ l'.length) : kAhead t' l' t l + kBehind t' l' t l ≤ l.length ∧ kAhead t' l' t l + kBehind t' l' t l ≤ l'.length ∧ 1 ≤ kBehind t' l' t l := by
  have h1 : kAhead t' l' t l ≤ min l'.length l.length - 1 := cntW_le _ _ _
  have h2 : kBehind t' l' t l ≤ min l'.length l.length - 1 - kAhead t' l' t l + 1 := Nat.succ_le_succ (cntW_le _ _ _)
  have h3 : 1 ≤ kBehind t' l' t l := Nat.succ_le_succ (Nat.zero_le _)
  omega
theorem tkA_bs {t t' : Nat → Int32} {x y : Nat × Nat × Nat} (h : tkA t' y t x) : y.1 = x.1 ∧ tkBs t' y = tkBs t x := by
  obtain ⟨h1, h2, h3⟩ := h
  refine ⟨h1, ?_⟩
  unfold tkBs
  rw [h2]
  exact List.map_congr_left (fun j hj => h3 j (by have := List.mem_range.mp hj; omega))
/-- a KEPT token is alike -/
theorem was_al {t t' : Nat → Int32} {l l' : List (Nat × Nat × Nat)} (hl : LxO t l) (hl' : LxO t' l') {i j : Nat} {x y : Nat × Nat × Nat} (hw : wasN (kAhead t' l' t l) (kBehind t' l' t l) l.length l'.length i = some j) (hx : l[i]? = some x) (hy : l'[j]? = some y) : y.1 = x.1 ∧ tkBs t' y = tkBs t x := by
  obtain ⟨k1, k2, k3⟩ := kept_le (t := t) (t' := t') hl.2.1 hl'.2.1
  have hi := (List.getElem?_eq_some_iff.mp hx).1
  have al : ∀ a b : Nat, l'[a]? = some y → l[b]? = some x → alA t' l' t l a b = true → y.1 = x.1 ∧ tkBs t' y = tkBs t x := by
    intro a b ha hb h
    unfold alA at h
    rw [ha, hb] at h
    exact tkA_bs (alB_iff.mp h)
  unfold wasN at hw
  by_cases c1 : i < kAhead t' l' t l
  · rw [if_pos c1] at hw
    cases hw
    have := cntW_all _ 0 i c1
    rw [Nat.zero_add] at this
    exact al i i hy hx this
  · rw [if_neg c1] at hw
    by_cases c2 : l.length - kBehind t' l' t l ≤ i
    · rw [if_pos c2] at hw
      cases hw
      by_cases c3 : i + 1 = l.length
      · have e1 := (hl.2.2.2 i x hx).mpr c3
        have e2 := (hl'.2.2.2 _ y hy).mpr (by omega)
        have w1 := (hl.1 x (List.mem_of_getElem? hx)).2.2.2.2.2.1 e1
        have w2 := (hl'.1 y (List.mem_of_getElem? hy)).2.2.2.2.2.1 e2
        refine ⟨by omega, ?_⟩
        unfold tkBs
        rw [w1, w2]
        rfl
      · have hb : l.length - 2 - i < cntW (fun i => alA t' l' t l (l'.length - 2 - i) (l.length - 2 - i)) (min l'.length l.length - 1 - kAhead t' l' t l) 0 := by
          have e : kBehind t' l' t l = cntW (fun i => alA t' l' t l (l'.length - 2 - i) (l.length - 2 - i)) (min l'.length l.length - 1 - kAhead t' l' t l) 0 + 1 := rfl
          omega
        have := cntW_all _ 0 _ hb
        rw [Nat.zero_add] at this
        rw [show l'.length - 2 - (l.length - 2 - i) = i + l'.length - l.length by omega, show l.length - 2 - (l.length - 2 - i) = i by omega] at this
        exact al _ _ hy hx this
    · rw [if_neg c2] at hw
      cases hw
theorem wasN_inj {A B n n' i j k : Nat} (h : A + B ≤ n) (h' : A + B ≤ n') (hi : i < n) (hj : j < n) (h1 : wasN A B n n' i = some k) (h2 : wasN A B n n' j = some k) : i = j := by
  unfold wasN at h1 h2
  by_cases c1 : i < A
  · rw [if_pos c1] at h1
    cases h1
    by_cases c2 : j < A
    · rw [if_pos c2] at h2
      cases h2
      rfl
    · rw [if_neg c2] at h2
      by_cases c3 : n - B ≤ j
      · rw [if_pos c3] at h2
        have := Option.some.inj h2
        omega
      · rw [if_neg c3] at h2
        cases h2
  · rw [if_neg c1] at h1
    by_cases c3 : n - B ≤ i
    · rw [if_pos c3] at h1
      have e1 := Option.some.inj h1
      by_cases c2 : j < A
      · rw [if_pos c2] at h2
        have := Option.some.inj h2
        omega
      · rw [if_neg c2] at h2
        by_cases c4 : n - B ≤ j
        · rw [if_pos c4] at h2
          have := Option.some.inj h2
          omega
        · rw [if_neg c4] at h2
          cases h2
    · rw [if_neg c3] at h1
      cases h1
/-- all that growing needs to begin with -/
theorem naming_ok {t t' : Nat → Int32} {l l' : List (Nat × Nat × Nat)} {og g : Nat → Nat} {e m0 m1 R : Nat} {N0 N1 : Nat → Nd} (h0 : NdOk m0 N0) (hu : UqE m0 N0) (t0 : TreeI m0 N0 R l'.length og) (tk0 : TkI N0 t' l' og) (hl : LxO t l) (hl' : LxO t' l') (hn : namF t l (kAhead t' l' t l) (kBehind t' l' t l) l'.length og e l.length 0 m0 (fun _ => 0) N0 = (m1, g, N1)) :
    GE (flR N0 R) (kAhead t' l' t l) (kBehind t' l' t l) l.length l'.length g (fun i => (l.getD i (10, 0, 0)).1) ∧
    GI (flR N0 R) l.length l'.length g (fun i => (l.getD i (10, 0, 0)).1) m1 0 m1 N1 [(0, 0)] 0 ∧ GJ m0 N0 g 0 m1 N1 [(0, 0)] ∧
    (∀ i, i < l.length → ∀ j, wasN (kAhead t' l' t l) (kBehind t' l' t l) l.length l'.length i = some j → g i = og j) ∧ (∀ i, i < l.length → wasN (kAhead t' l' t l) (kBehind t' l' t l) l.length l'.length i = none → m0 ≤ g i) ∧
    m0 ≤ m1 ∧ m1 ≤ m0 + l.length ∧ TkI N1 t l g ∧ (∀ i j, i < l.length → j < l.length → g i = g j → i = j) := by
  obtain ⟨k1, k2, k3⟩ := kept_le (t := t) (t' := t') hl.2.1 hl'.2.1
  obtain ⟨a1, a2, a3, -, a5, a6, a7⟩ := namF_ok _ _ _ _ _ _ _ _ hn
  have hat : ∀ (i : Nat), i < l.length → l[i]? = some (l.getD i (10, 0, 0)) := fun i hi => by
    rw [List.getD_eq_getElem?_getD, List.getElem?_eq_getElem hi]
    rfl
  have hat' : ∀ (i : Nat), i < l'.length → l'[i]? = some (l'.getD i (10, 0, 0)) := fun i hi => by
    rw [List.getD_eq_getElem?_getD, List.getElem?_eq_getElem hi]
    rfl
  have hog : ∀ i, i < l.length → ∀ j, wasN (kAhead t' l' t l) (kBehind t' l' t l) l.length l'.length i = some j → g i = og j := fun i hi j hj => (a5 i (by omega) (by omega)).1 j hj
  have hnew := fun i (hi : i < l.length) hw => (a5 i (by omega) (by omega)).2 hw
  obtain ⟨t1, t2, t3, t4, t5, t6, t7, t8⟩ := id t0
  have hjn : ∀ i, i < l.length → ∀ j, wasN (kAhead t' l' t l) (kBehind t' l' t l) l.length l'.length i = some j → j < l'.length := fun i hi j hj => wasN_lt hi (by omega) (by omega) (by omega) hj
  have tk1 : TkI N1 t l g := by
    intro i x hx
    have hi := (List.getElem?_eq_some_iff.mp hx).1
    cases hw : wasN (kAhead t' l' t l) (kBehind t' l' t l) l.length l'.length i with
    | some j =>
      have hj := hjn i hi j hw
      rw [hog i hi j hw, a3 _ (t5 j hj).1]
      obtain ⟨b1, b2⟩ := tk0 j _ (hat' j hj)
      obtain ⟨c1, c2⟩ := was_al hl hl' hw hx (hat' j hj)
      exact ⟨by rw [b1, c1], by rw [b2, c2]⟩
    | none =>
      obtain ⟨-, -, b3⟩ := hnew i hi hw
      rw [b3]
      have : l.getD i (10, 0, 0) = x := by
        rw [List.getD_eq_getElem?_getD, hx]
        rfl
      rw [this]
      exact ⟨rfl, rfl⟩
  have hN1 : NdOk m1 N1 := by
    intro k hk
    by_cases u : k < m0
    · refine (h0 k u).cg (fun c hc => ?_) (Or.inl (by rw [a3 k u]))
      rw [a3 c (by omega)]
      exact NdE.rf
    · obtain ⟨i', b1, b2, b3⟩ := a6 k (by omega) hk
      refine Or.inl ?_
      rw [b3]
      exact ⟨rfl, rfl, (hl.1 _ (List.mem_of_getElem? (hat i' (by omega)))).1, rfl, Or.inl rfl⟩
  have hC : ∀ k, m0 ≤ k → k < m1 → ndC (N1 k) = [] := fun k h1 h2 => by
    obtain ⟨i', b1, b2, b3⟩ := a6 k h1 h2
    rw [b3]
    rfl
  have htok : ∀ i, i < l.length → g i < m1 ∧ ndR (N1 (g i)) = -2 ∧ ndK (N1 (g i)) = (l.getD i (10, 0, 0)).1 := by
    intro i hi
    refine ⟨?_, ?_, (tk1 i _ (hat i hi)).1⟩
    · cases hw : wasN (kAhead t' l' t l) (kBehind t' l' t l) l.length l'.length i with
      | some j =>
        rw [hog i hi j hw]
        have := (t5 j (hjn i hi j hw)).1
        omega
      | none => exact (hnew i hi hw).2.1
    · cases hw : wasN (kAhead t' l' t l) (kBehind t' l' t l) l.length l'.length i with
      | some j =>
        obtain ⟨b1, b2⟩ := t5 j (hjn i hi j hw)
        rw [hog i hi j hw, a3 _ b1]
        exact b2
      | none =>
        rw [(hnew i hi hw).2.2]
        rfl
  have hU1 : UqE m1 N1 := by
    intro p1 p2 i1 i2 z hp1 hp2 hz1 hz2 hz0
    have c1 : p1 < m0 := Nat.lt_of_not_le (fun u => by rw [hC p1 u hp1] at hz1; cases hz1)
    have c2 : p2 < m0 := Nat.lt_of_not_le (fun u => by rw [hC p2 u hp2] at hz2; cases hz2)
    rw [a3 p1 c1] at hz1
    rw [a3 p2 c2] at hz2
    have hzm := h0.lt c1 (List.mem_of_getElem? hz1)
    rw [a3 z (by omega)] at hz0
    exact hu p1 p2 i1 i2 z c1 c2 hz1 hz2 hz0
  have hst1 : ∀ (j : Nat) (p : Nat × Nat), [((0 : Nat), (0 : Nat))][j]? = some p → j = 0 ∧ p = (0, 0) := by
    intro j p hp
    have hj := (List.getElem?_eq_some_iff.mp hp).1
    change j < 1 at hj
    have : j = 0 := by omega
    subst this
    cases hp
    exact ⟨rfl, rfl⟩
  have hF1 : FlG m1 (flR N0 R) N1 l'.length := by
    refine (t0.flG h0 hu).cg a1 (fun c hc => ?_) (fun c hc _ => ?_)
    · rw [a3 c hc]
      exact NdE.rf
    · rw [a3 c hc]
  refine ⟨⟨hl.2.2.1, hl'.2.2.1, k1, k2, k3, fun i hi => ⟨(hl.1 _ (List.mem_of_getElem? (hat i hi))).1, hl.2.2.2 i _ (hat i hi)⟩, fun i hi j hj => ⟨fun c p x hp => ?_, fun c => ?_⟩⟩, ⟨by have := hl.2.1; omega, ⟨Nat.le_refl 1, ⟨fun p hp => ?_, fun j p q hp hq => ?_⟩, fun j p hp => ?_, fun j p hj hp => ?_⟩, ?_, ⟨Nat.le_refl _, ?_⟩, hN1, hF1, htok⟩, ⟨rfl, fun p hp => ?_, hU1, fun j p hj hp => ?_, fun j1 j2 p1 p2 hj1 hj2 hp1 => ?_, a3⟩, hog, fun i hi hw => (hnew i hi hw).1, a1, by omega, tk1, fun i j hi hj he => ?_⟩
  · rw [hog i hi j hj, show j = l'.length - 1 by omega]
    exact t0.fin h0 p x hp
  · rw [hog i hi j hj]
    exact t0.tok h0 c
  · exact (congrArg Prod.snd (hst1 0 p hp).2).trans rfl
  · have := (hst1 (j + 1) q hq).1
    omega
  · obtain ⟨rfl, rfl⟩ := hst1 j p hp
    exact ⟨by show 0 < 21; omega, fun u => by omega⟩
  · have := (hst1 j p hp).1
    omega
  · have h1 : rkS (topS [((0 : Nat), (0 : Nat))]) = 9 := rfl
    have h2 : [((0 : Nat), (0 : Nat))].length = 1 := rfl
    have := hl.2.2.1
    omega
  · have h1 : wSum [((0 : Nat), (0 : Nat))] = 0 := rfl
    omega
  · cases hp
  · have := (hst1 j p hp).1
    omega
  · have := (hst1 j1 p1 hp1).1
    omega
  · cases hw1 : wasN (kAhead t' l' t l) (kBehind t' l' t l) l.length l'.length i with
    | some i1 =>
      have b1 := hjn i hi i1 hw1
      cases hw2 : wasN (kAhead t' l' t l) (kBehind t' l' t l) l.length l'.length j with
      | some j1 =>
        have b2 := hjn j hj j1 hw2
        rw [hog i hi i1 hw1, hog j hj j1 hw2] at he
        have e1 := t4 i1 j1 b1 b2 he
        subst e1
        exact wasN_inj (by omega) (by omega) hi hj hw1 hw2
      | none =>
        have b2 := (hnew j hj hw2).1
        have b3 := (t5 i1 b1).1
        rw [hog i hi i1 hw1] at he
        omega
    | none =>
      have b1 := (hnew i hi hw1).1
      cases hw2 : wasN (kAhead t' l' t l) (kBehind t' l' t l) l.length l'.length j with
      | some j1 =>
        have b3 := (t5 j1 (hjn j hj j1 hw2)).1
        rw [hog j hj j1 hw2] at he
        omega
      | none => exact a7 i j (by omega) (by omega) (by omega) (by omega) hw1 hw2 he
