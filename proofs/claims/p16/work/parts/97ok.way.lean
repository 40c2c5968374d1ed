/-! expected -/
theorem KdL.tl {y : Nat} {l : List Nat} (h : KdL (y :: l)) : KdL l := fun j z hz => by
  obtain ⟨z1, z2⟩ := h (j + 1) z (by rw [List.getElem?_cons_succ]; exact hz)
  refine ⟨z1, z2.trans ?_⟩
  rw [List.length_cons]
  omega
theorem stF_ok : ∀ (l : List Nat) (t : Nat) (st : List (Nat × Nat)), LV t st → KdL l → acL l st = false → (stF l st).1 < l.length ∧ rnF (l.take (stF l st).1) st = some (stF l st).2 ∧ LV (t + (stF l st).1) (stF l st).2 ∧ acF (l.getD (stF l st).1 0) 4 (stF l st).2 = none ∧ (l.getD (stF l st).1 0 = 10 → acE (stF l st).2 = false)
  | [], _, _, _, _, h => by cases h
  | y :: l, t, st, hv, hW, hf => by
    obtain ⟨w1, w2⟩ := hW 0 y rfl
    have eS : stF (y :: l) st = match acF y 4 st with
      | some st' => ((stF l st').1 + 1, (stF l st').2)
      | none => (0, st) := rfl
    rw [acL_cons] at hf
    rw [eS]
    have none_ : acF y 4 st = none → (y = 10 → acE st = false) → (0 : Nat) < (y :: l).length ∧ rnF ((y :: l).take 0) st = some st ∧ LV (t + 0) st ∧ acF ((y :: l).getD 0 0) 4 st = none ∧ ((y :: l).getD 0 0 = 10 → acE st = false) := fun ha he => ⟨Nat.succ_pos _, rfl, hv, ha, he⟩
    by_cases c : y = 10
    · rw [if_pos c] at hf
      have ha : acF y 4 st = none := acF_end (fun s hs => by rw [c]; exact end_fin s hs) 4 t st hv
      rw [ha]
      exact none_ ha (fun _ => hf)
    · rw [if_neg c] at hf
      cases ha : acF y 4 st with
      | none => exact none_ ha (fun u => absurd u c)
      | some st' =>
        rw [ha] at hf
        dsimp only at hf ⊢
        have h1 := ((ac_run (kd := fun _ => y) (i := 0) rfl w1 4 t st hv hv.top.2.1).1 st' ha).1
        obtain ⟨b1, b2, b3, b4, b5⟩ := stF_ok l (t + 1) st' h1 hW.tl hf
        refine ⟨by rw [List.length_cons]; omega, ?_, ?_, b4, b5⟩
        · rw [List.take_succ_cons]
          show (acF y 4 st).bind (rnF (l.take (stF l st').1)) = _
          rw [ha]
          exact b2
        · rw [show t + ((stF l st').1 + 1) = t + 1 + (stF l st').1 by omega]
          exact b3
theorem rch_pre {kd : Nat → Nat} : ∀ (W : List Nat) (t0 t : Nat) (st s : List (Nat × Nat)), LV t st → (∀ y ∈ W, y < 12) → (∀ (j y : Nat), W[j]? = some y → kd (t0 + j) = y) → rnF W st = some s → Rch kd (t0, st) (t0 + W.length, s)
  | [], t0, t, st, s, _, _, _, h => by
    cases h
    exact Rch.rf
  | y :: l, t0, t, st, s, hv, hW, hk, h => by
    have h' : (acF y 4 st).bind (rnF l) = some s := h
    cases ha : acF y 4 st with
    | none =>
      rw [ha] at h'
      cases h'
    | some st' =>
      rw [ha] at h'
      obtain ⟨c1, c2⟩ := (ac_run (hk 0 y rfl : kd t0 = y) (hW y (List.mem_cons_self ..)) 4 t st hv hv.top.2.1).1 st' ha
      have := rch_pre l (t0 + 1) (t + 1) st' s c1 (fun z hz => hW z (List.mem_cons_of_mem _ hz)) (fun j z hz => by
        have := hk (j + 1) z (by rw [List.getElem?_cons_succ]; exact hz)
        rw [show t0 + 1 + j = t0 + (j + 1) by omega]
        exact this) h'
      rw [List.length_cons, show t0 + (l.length + 1) = t0 + 1 + l.length by omega]
      exact c2.tr this
theorem u_try {l : List Nat} {i k : Nat} {s : List (Nat × Nat)} {I : zI} {K : Int32 → zI → Prop} (hW : KdL l) (hl : l.length ≤ 100) (hi : i < l.length) (hr : rnF (l.take i) [(0, 0)] = some s) (hv : LV i s) (hk : k < 11) (h5 : ∀ q, q < i → I.1 520 q = zi (l.getD q 0)) (h6 : I.1 520 i = zi k) (h7 : k ≠ 10 → I.1 520 (i + 1) = 11)
    (hK : ∀ J r, eqQ Qwr I J → (k = 10 → (r < 0 ↔ acE s = true)) → (k ≠ 10 → (zi i < r ↔ (acF k 4 s).isSome = true)) → K r J) : w_M_wrongOf I K := by
  have hpre : ∀ y ∈ l.take i, y < 12 := fun y hy => (hW.no10 (by omega) y hy).2
  generalize hkd : (fun q => if q < i then l.getD q 0 else if q = i then k else 11) = kd
  have k1 : ∀ q, q < i → kd q = l.getD q 0 := fun q hq => by
    rw [← hkd]
    exact if_pos hq
  have k2 : kd i = k := by
    rw [← hkd]
    dsimp only
    rw [if_neg (Nat.lt_irrefl i), if_pos rfl]
  have k3 : kd (i + 1) = 11 := by
    rw [← hkd]
    dsimp only
    rw [if_neg (by omega), if_neg (by omega)]
  have k12 : ∀ q, kd q < 12 := fun q => by
    rw [← hkd]
    dsimp only
    split
    · exact (hW q _ (getD_at (by omega))).1
    · split <;> omega
  have go := rch_pre (kd := kd) (l.take i) 0 0 [(0, 0)] s LV.st0 hpre (fun j y hj => by
    have hjl := (List.getElem?_eq_some_iff.mp hj).1
    rw [List.length_take] at hjl
    rw [List.getElem?_take, if_pos (by omega)] at hj
    rw [Nat.zero_add, k1 j (by omega), List.getD_eq_getElem?_getD, hj]
    rfl) hr
  rw [Nat.zero_add, List.length_take, Nat.min_eq_left (by omega)] at go
  obtain ⟨b1, b2⟩ := ac_run k2 (show k < 12 by omega) 4 i s hv hv.top.2.1
  by_cases c : k = 10
  · refine s_wrongOf (kd := kd) (e := i) ⟨fun q _ => k12 q, fun z hz => by rw [k2, c]; exact end_fin z hz⟩ (by omega) (fun q hq => ?_) (fun J i' st d q e1 e2 e3 => ?_)
    · by_cases u : q < i
      · rw [k1 q u]
        exact h5 q u
      · rw [show q = i by omega, k2]
        exact h6
    · have ha : acF k 4 s = none := acF_end (fun z hz => by rw [c]; exact end_fin z hz) 4 i s hv
      obtain ⟨c1, c2, c3⟩ := b2 ha
      have e := Rch.det ⟨d, e1⟩ (go.tr c2) e3 c3
      have ei : i' = i := congrArg Prod.fst e
      have es : st = rdF 4 s := congrArg Prod.snd e
      refine hK J _ q (fun _ => ?_) (fun u => absurd c u)
      rw [ei, es, k2]
      unfold acE
      by_cases t1 : topS (rdF 4 s) = 1
      · rw [if_pos ⟨c, t1⟩]
        exact ⟨fun _ => decide_eq_true t1, fun _ => by decide⟩
      · rw [if_neg (fun w => t1 w.2)]
        exact ⟨fun u => absurd u (zi_pos (by omega)), fun u => absurd (of_decide_eq_true u) t1⟩
  · refine s_wrongOf (kd := kd) (e := i + 1) ⟨fun q _ => k12 q, fun z hz => by rw [k3]; exact end_fin2 z hz⟩ (by omega) (fun q hq => ?_) (fun J i' st d q e1 e2 e3 => ?_)
    · by_cases u : q < i
      · rw [k1 q u]
        exact h5 q u
      · by_cases u2 : q = i
        · rw [u2, k2]
          exact h6
        · rw [show q = i + 1 by omega, k3]
          exact h7 c
    · refine hK J _ q (fun u => absurd u c) (fun _ => ?_)
      cases ha : acF k 4 s with
      | none =>
        obtain ⟨c1, c2, c3⟩ := b2 ha
        have e := Rch.det ⟨d, e1⟩ (go.tr c2) e3 c3
        have ei : i' = i := congrArg Prod.fst e
        rw [ei, k2, if_neg (fun w => c w.1)]
        exact ⟨fun u => absurd u Int32.lt_irrefl, fun u => by cases u⟩
      | some s' =>
        obtain ⟨c1, c2⟩ := b1 s' ha
        have ha2 : acF 11 4 s' = none := acF_end end_fin2 4 (i + 1) s' c1
        obtain ⟨d1, d2, d3⟩ := (ac_run k3 (by decide) 4 (i + 1) s' c1 c1.top.2.1).2 ha2
        have e := Rch.det ⟨d, e1⟩ ((go.tr c2).tr d2) e3 d3
        have ei : i' = i + 1 := congrArg Prod.fst e
        rw [ei, k3, if_neg (fun w => absurd w.1 (by decide))]
        exact ⟨fun _ => rfl, fun _ => (zi_lt (by omega) (by omega)).mpr (Nat.lt_succ_self i)⟩
def vExpected (x : Sg) : Int32 := if moB (sgC x) = true then -2 else vExp (kdsT x)
theorem not_acL {x : Sg} (hv : Iv x) (hL : Lv x) (hb : moB (sgC x) = false) : acL (kdsT x) [(0, 0)] = false := by
  obtain ⟨k1, k2, k3⟩ := kdsT_ok hv
  cases h : acL (kdsT x) [(0, 0)] with
  | false => rfl
  | true =>
    exfalso
    have hk : ∀ i, i < (lexL (moT (sgC x))).length → kdF (lexL (moT (sgC x))) i = (kdsT x).getD i 0 := fun i hi => by
      obtain ⟨z, z1, z2⟩ := kdsT_at (getD_at (l := kdsT x) (j := i) (by rw [kdsT_len]; exact hi))
      rw [kdF_at z1, z2]
    obtain ⟨i, s, d1, d2, d3, d4⟩ := run_w (kd := kdF (lexL (moT (sgC x)))) (kdsT x) 0 0 [(0, 0)] LV.st0 k1 (fun j y hj => by
      have hjl := (List.getElem?_eq_some_iff.mp hj).1
      rw [kdsT_len] at hjl
      rw [Nat.zero_add, hk j hjl, List.getD_eq_getElem?_getD, hj]
      rfl) (fun u => by
      rw [u] at k2
      exact absurd k2 (by decide))
    obtain ⟨w1, w2⟩ := d4.mpr h
    have hlast := (k1 i 10 w1).2.mp rfl
    rw [kdsT_len] at hlast
    rw [Nat.zero_add] at d2 d3
    have ei : i = (lexL (moT (sgC x))).length - 1 := by omega
    rw [ei] at d2 d3
    exact hL.1.2 hb ⟨s, d2, d3, w2⟩
theorem t_expected {x : Sg} {I : zI} {K : Int32 → zI → Prop} (hv : Iv x) (hL : Lv x) (hR : RX I x) (hK : ∀ J, eqQ Qcl I J → RX J x → K (vExpected x) J) : w_Desk_expected I K := by
  obtain ⟨k1, k2, k3⟩ := kdsT_ok hv
  unfold w_Desk_expected
  unfold vExpected at hK
  obtain ⟨s, hA⟩ := hR.now
  refine s_now hA.1 hA.2.1 ?_
  rw [show I.1 (zmom s) 3 = b01 (moB (sgC x)) from hA.2.2.2.2.2.1]
  cases hb : moB (sgC x) with
  | true =>
    rw [hb, if_pos rfl] at hK
    rw [if_neg (by decide)]
    exact hK I eqQ.rf hR
  | false =>
    rw [hb, if_neg (by decide)] at hK
    rw [if_pos (show b01 false = 0 from rfl)]
    exact t_kindsInPlace k1 k3 (not_acL hv hL hb) (kdsT_X hA) (fun J qJ => hK J (Qad_cl qJ) (hR.ad hv qJ))
theorem u_expected {x : Sg} {I : zI} {K : Int32 → zI → Prop} (hv : Iv x) (hL : Lv x) (hR : RM I x) (hK : ∀ J, eqQ Qmo I J → RM J x → K (vExpected x) J) : w_M_expected I K := by
  obtain ⟨k1, k2, k3⟩ := kdsT_ok hv
  have done : ∀ J, eqQ Qwy I J → K (vExpected x) J := fun J q => hK J (Qwy_mo q) (hR.wy hv q)
  unfold w_M_expected
  unfold vExpected at done
  rw [show I.1 491 8 = b01 (moB (sgC x)) from hR.2.2.2.2.2.2.2.1.2.2.2.2.2.2.2.2.1]
  cases hb : moB (sgC x) with
  | true =>
    rw [hb, if_pos rfl] at done
    rw [if_neg (by decide)]
    exact done I eqQ.rf
  | false =>
    rw [hb, if_neg (by decide)] at done
    rw [if_pos (show b01 false = 0 from rfl)]
    have hne := not_acL hv hL hb
    obtain ⟨f1, f2, f3, f4, f5⟩ := stF_ok (kdsT x) 0 [(0, 0)] LV.st0 k1 hne
    unfold vExp at done
    generalize hi : (stF (kdsT x) [(0, 0)]).1 = i at f1 f2 f3 f4 f5
    generalize (stF (kdsT x) [(0, 0)]).2 = s at f2 f3 f4 f5 done
    rw [Nat.zero_add] at f3
    have lay : ∀ (J : zI) (K' : zI → Prop), eqQ Qwy I J → (∀ B, eqQ Qlt J B → (∀ q, q < (kdsT x).length → B.1 520 q = zi ((kdsT x).getD q 0)) → K' B) → w_M_laysTry (-1) 0 (-1) (-1) J K' := fun J K' q hK' => by
      obtain ⟨n1, n2⟩ := kdsT_M hv (hR.wy hv q)
      exact s_laysAllK n1 k3 n2 hK'
    refine lay I _ eqQ.rf (fun B qB hB => ?_)
    have first : KdO (fun q => (kdsT x).getD q 0) ((kdsT x).length - 1) := ⟨fun q hq => (k1 q _ (getD_at (by omega))).1, fun z hz => by
      have := (k1 ((kdsT x).length - 1) _ (getD_at (by omega))).2.mpr (by omega)
      dsimp only
      rw [this]
      exact end_fin z hz⟩
    refine s_wrongOf first (by omega) (fun q hq => hB q (by omega)) (fun C i' st d qC e1 e2 e3 => ?_)
    have go := rch_pre (kd := fun q => (kdsT x).getD q 0) ((kdsT x).take i) 0 0 [(0, 0)] s LV.st0 (fun y hy => (k1.no10 (by omega) y hy).2) (fun j y hj => by
      have hjl := (List.getElem?_eq_some_iff.mp hj).1
      rw [List.length_take] at hjl
      rw [List.getElem?_take, if_pos (by omega)] at hj
      rw [Nat.zero_add, List.getD_eq_getElem?_getD, hj]
      rfl) f2
    rw [Nat.zero_add, List.length_take, Nat.min_eq_left (by omega)] at go
    obtain ⟨c1, c2, c3⟩ := (ac_run (kd := fun q => (kdsT x).getD q 0) (i := i) rfl (k1 i _ (getD_at f1)).1 4 i s f3 f3.top.2.1).2 f4
    have e := Rch.det ⟨d, e1⟩ (go.tr c2) e3 c3
    have ei : i' = i := congrArg Prod.fst e
    have es : st = rdF 4 s := congrArg Prod.snd e
    rw [ei, es, if_neg (fun w => by
      have := f5 w.1
      unfold acE at this
      rw [decide_eq_true w.2] at this
      cases this)]
    have qC1 : eqQ Qwy I C := (Qlt_wy qB).tr (Qwr_wy qC)
    intro P27 h27
    have main : ∀ (d k : Nat) (w : Int32) (J : zI), k + d = 11 → eqQ Qwy I J → (∀ L, eqQ Qwy I L → K (bitF s d k w) L) → P27 w (zi k) J := by
      intro d
      induction d with
      | zero =>
        intro k w J hkd q hK
        refine h27 _ _ _ ?_
        rw [if_pos (show (11 : Int32) ≤ zi k from (zi_le (a := 11) (by decide) (by omega)).mpr (by omega))]
        exact hK J q
      | succ d ih =>
        intro k w J hkd q hK
        refine h27 _ _ _ ?_
        rw [if_neg (show ¬ (11 : Int32) ≤ zi k from nle_zi (n := 11) (by omega) (by decide))]
        refine lay J _ q (fun A qA hA => ⟨(zin_iff (by omega)).mpr (by omega), fun I8 e8 => ?_⟩)
        rw [zi_tn (show i < 2147483648 by omega)] at e8
        have q8 : eqQ Qwy I I8 := by
          rw [e8]
          exact (q.tr (Qlt_wy qA)).zu (Or.inr (Or.inl rfl))
        have hK2 : ∀ L, eqQ Qwy I L → K (bitF s d (k + 1) (if acV k s = true then w ||| (1 <<< (zi k &&& 31)) else w)) L := hK
        have g8 : ∀ q, q < i → I8.1 520 q = zi ((kdsT x).getD q 0) := fun q hq => by
          rw [e8, zu_at, if_neg (by omega)]
          exact hA q (by omega)
        have h8i : I8.1 520 i = zi k := by rw [e8, zu_self]
        intro P64 h64
        have fin : ∀ (A2 : zI), eqQ Qwy I A2 → (∀ q, q < i → A2.1 520 q = zi ((kdsT x).getD q 0)) → A2.1 520 i = zi k → (k ≠ 10 → A2.1 520 (i + 1) = 11) → P64 A2 := by
          intro A2 qA2 g1 g2 g3
          refine h64 A2 ?_
          refine u_try k1 k3 f1 f2 f3 (show k < 11 by omega) g1 g2 g3 (fun L r qL r1 r2 => ?_)
          have qL2 := qA2.tr (Qwr_wy qL)
          intro P96 h96 P90 h90
          have yes : acV k s = true → P90 := fun hc => h90 (fun v2 e2 => h96 v2 (fun v3 e3 => by
            rw [e3, zi_succ]
            refine ih (k + 1) v2 L (by omega) qL2 (fun M qM => ?_)
            have := hK2 M qM
            rw [if_pos hc] at this
            rw [e2]
            exact this))
          have no : acV k s = false → P96 w := fun hc => h96 w (fun v3 e3 => by
            rw [e3, zi_succ]
            refine ih (k + 1) w L (by omega) qL2 (fun M qM => ?_)
            have := hK2 M qM
            rw [hc, if_neg (by decide)] at this
            exact this)
          by_cases c : k = 10
          · rw [if_pos (show zi k = 10 by rw [c]; rfl)]
            have ev : acV k s = acE s := if_pos c
            by_cases hr : r < 0
            · rw [if_neg (Int32.not_le.mpr hr)]
              exact yes (by rw [ev]; exact (r1 c).mp hr)
            · rw [if_pos (Int32.not_lt.mp hr)]
              refine no ?_
              rw [ev]
              cases ha : acE s with
              | false => rfl
              | true => exact absurd ((r1 c).mpr ha) hr
          · rw [if_neg (show ¬ zi k = 10 from zi_ne (b := 10) (by omega) (by decide) c)]
            have ev := acV_no (st := s) c
            by_cases hr : zi i < r
            · rw [if_neg (Int32.not_le.mpr hr)]
              exact yes (by rw [ev]; exact (r2 c).mp hr)
            · rw [if_pos (Int32.not_lt.mp hr)]
              refine no ?_
              rw [ev]
              cases ha : (acF k 4 s).isSome with
              | false => rfl
              | true => exact absurd ((r2 c).mpr ha) hr
        by_cases c : k = 10
        · rw [if_pos (show zi k = 10 by rw [c]; rfl)]
          exact fin I8 q8 g8 h8i (fun u => absurd c u)
        · rw [if_neg (show ¬ zi k = 10 from zi_ne (b := 10) (by omega) (by decide) c), zi_succ]
          refine ⟨(zin_iff (by omega)).mpr (by omega), fun I18 e18 => ?_⟩
          rw [zi_tn (show i + 1 < 2147483648 by omega)] at e18
          refine fin I18 ?_ (fun q hq => ?_) ?_ (fun _ => by rw [e18, zu_self])
          · rw [e18]
            exact q8.zu (Or.inr (Or.inl rfl))
          · rw [e18, zu_at, if_neg (by omega)]
            exact g8 q hq
          · rw [e18, zu_at, if_neg (by omega)]
            exact h8i
    exact main 11 0 0 C rfl qC1 done
