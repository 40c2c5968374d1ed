/-! ===== what is tried, the model ===== -/
def lyF (kl : Nat → Nat) (a b c : Int32) (kk i : Nat) : List Nat := (if zi i = c then [kk] else []) ++ (if zi i < a ∨ a + b ≤ zi i then [kl i] else [])
def lyL (kl : Nat → Nat) (a b c : Int32) (kk : Nat) : Nat → List Nat
  | 0 => []
  | n + 1 => lyL kl a b c kk n ++ lyF kl a b c kk n
theorem u_laysTry {n kk : Nat} {kl : Nat → Nat} {a b c k : Int32} {I : zI} {K : zI → Prop} (h15 : I.1 491 15 = zi n) (hn : n ≤ 100) (h1 : ∀ i, i < n → I.1 501 i = zi (kl i)) (hk : k = zi kk) (hb : ∀ i, i ≤ n → (lyL kl a b c kk i).length ≤ 110)
    (hK : ∀ J, eqQ Qlt I J → (∀ (q y : Nat), (lyL kl a b c kk n)[q]? = some y → J.1 520 q = zi y) → K J) : w_M_laysTry a b c k I K := by
  unfold w_M_laysTry
  intro I1 e1
  intro P8 h8
  have q1 : eqQ Qlt I I1 := by rw [e1]; exact eqQ.rf.zu (Or.inr ⟨rfl, rfl⟩)
  have push : ∀ (J I7 I8 : zI) (cur : List Nat) (y : Nat), cur.length < 120 → eqQ Qlt I J → J.1 491 41 = zi cur.length → (∀ (q z : Nat), cur[q]? = some z → J.1 520 q = zi z) → I7 = zu J 520 (Int32.toNatClampNeg (J.1 491 41)) (zi y) → I8 = zu I7 491 41 ((I7.1 491 41) + 1) → eqQ Qlt I I8 ∧ I8.1 491 41 = zi (cur ++ [y]).length ∧ ∀ (q z : Nat), (cur ++ [y])[q]? = some z → I8.1 520 q = zi z := by
    intro J I7 I8 cur y hm q h41 hcur e7 e8
    rw [h41, zi_tn (show cur.length < 2147483648 by omega)] at e7
    have g7 : I7.1 491 41 = zi cur.length := by rw [e7, zu_oo (by decide)]; exact h41
    rw [g7, zi_succ] at e8
    refine ⟨?_, by rw [e8, zu_self, List.length_append]; rfl, fun p z hp => ?_⟩
    · rw [e8, e7]
      exact (q.zu (Or.inl rfl)).zu (Or.inr ⟨rfl, rfl⟩)
    · rw [e8, zu_oo (by decide), e7]
      rcases snoc_at hp with hp | ⟨u1, u2⟩
      · have := (List.getElem?_eq_some_iff.mp hp).1
        rw [zu_at, if_neg (by omega)]
        exact hcur p z hp
      · rw [u1, u2, zu_self]
  have main : ∀ (d i : Nat) (J : zI), i + d = n → eqQ Qlt I J → J.1 491 41 = zi (lyL kl a b c kk i).length → (∀ (q z : Nat), (lyL kl a b c kk i)[q]? = some z → J.1 520 q = zi z) → P8 (zi i) J := by
    intro d
    induction d with
    | zero =>
      intro i J hi q h41 hcur
      refine h8 _ _ ?_
      rw [show J.1 491 15 = zi n by rw [q.1 491 15 (by unfold Qlt; omega)]; exact h15, if_pos ((zi_le (by omega) (by omega)).mpr (by omega))]
      have hin : i = n := by omega
      rw [hin] at hcur
      exact hK J q hcur
    | succ d ih =>
      intro i J hi q h41 hcur
      refine h8 _ _ ?_
      rw [show J.1 491 15 = zi n by rw [q.1 491 15 (by unfold Qlt; omega)]; exact h15, if_neg (nle_zi (by omega) (by omega))]
      have hb0 := hb i (by omega)
      have hb1 := hb (i + 1) (by omega)
      have eL : lyL kl a b c kk (i + 1) = (lyL kl a b c kk i ++ (if zi i = c then [kk] else [])) ++ (if zi i < a ∨ a + b ≤ zi i then [kl i] else []) := by
        show lyL kl a b c kk i ++ ((if zi i = c then [kk] else []) ++ (if zi i < a ∨ a + b ≤ zi i then [kl i] else [])) = _
        rw [List.append_assoc]
      intro P44 h44
      have two : ∀ (J' : zI) (cur : List Nat), cur = lyL kl a b c kk i ++ (if zi i = c then [kk] else []) → cur.length ≤ 112 → eqQ Qlt I J' → J'.1 491 41 = zi cur.length → (∀ (q z : Nat), cur[q]? = some z → J'.1 520 q = zi z) → P44 J' := by
        intro J' cur ec hcl q' h41' hcur'
        rw [← ec] at eL
        refine h44 J' ?_
        intro P87 h87 P61 h61
        have put : (zi i < a ∨ a + b ≤ zi i) → P61 := by
          intro hc
          rw [if_pos hc] at eL
          refine h61 ⟨(zin_iff (by omega)).mpr (by omega), ?_⟩
          rw [h41', zi_tn (show i < 2147483648 by omega), show J'.1 501 i = zi (kl i) by rw [q'.1 501 i (by unfold Qlt; omega)]; exact h1 i (by omega)]
          refine ⟨(zin_iff (by omega)).mpr (by omega), fun I7 e7 I8 e8 => ?_⟩
          rw [← h41'] at e7
          obtain ⟨p1, p2, p3⟩ := push J' I7 I8 cur (kl i) (by omega) q' h41' hcur' e7 e8
          refine h87 I8 (fun v ev => ?_)
          rw [ev, zi_succ]
          exact ih (i + 1) I8 (by omega) p1 (by rw [eL]; exact p2) (by rw [eL]; exact p3)
        by_cases n1 : zi i < a
        · rw [if_pos n1]
          exact put (Or.inl n1)
        · rw [if_neg n1]
          by_cases n2 : a + b ≤ zi i
          · rw [if_pos n2]
            exact put (Or.inr n2)
          · rw [if_neg n2]
            rw [if_neg (fun u => by rcases u with u | u; exact n1 u; exact n2 u), List.append_nil] at eL
            refine h87 J' (fun v ev => ?_)
            rw [ev, zi_succ]
            exact ih (i + 1) J' (by omega) q' (by rw [eL]; exact h41') (by rw [eL]; exact hcur')
      by_cases hic : zi i = c
      · rw [if_pos hic, h41]
        refine ⟨(zin_iff (by omega)).mpr (by omega), fun I11 e11 I12 e12 => ?_⟩
        rw [← h41, hk] at e11
        obtain ⟨p1, p2, p3⟩ := push J I11 I12 _ kk (by omega) q h41 hcur e11 e12
        exact two I12 _ (by rw [if_pos hic]) (by rw [List.length_append]; show _ + 1 ≤ 112; omega) p1 p2 p3
      · rw [if_neg hic]
        exact two J _ (by rw [if_neg hic, List.append_nil]) (by omega) q h41 hcur
  exact main n 0 I1 (by omega) q1 (by rw [e1, zu_self]; rfl) (fun q z hq => by cases hq)
theorem zi_m1 {i : Nat} (h : i < 2147483648) : ¬ zi i = -1 := fun u => by
  have := zi_ge h
  rw [u] at this
  revert this
  decide
theorem take_sn1 {l : List Nat} {i : Nat} (h : i < l.length) : l.take (i + 1) = l.take i ++ [l.getD i 0] := take_snoc (getD_at h)
theorem ly_all {l : List Nat} {kk : Nat} (hl : l.length ≤ 1000) : ∀ i, i ≤ l.length → lyL (fun i => l.getD i 0) (-1) 0 (-1) kk i = l.take i
  | 0, _ => by
    rw [List.take_zero]
    rfl
  | i + 1, h => by
    show lyL (fun i => l.getD i 0) (-1) 0 (-1) kk i ++ ((if zi i = -1 then [kk] else []) ++ (if zi i < -1 ∨ -1 + 0 ≤ zi i then [l.getD i 0] else [])) = _
    rw [ly_all hl i (by omega), if_neg (zi_m1 (by omega)), if_pos (Or.inr (Int32.le_trans (by decide) (zi_ge (by omega)))), take_sn1 (by omega)]
    rfl
theorem ly_put {l : List Nat} {kk i0 : Nat} (hl : l.length ≤ 1000) (hi0 : i0 < l.length) : ∀ i, i ≤ l.length → lyL (fun i => l.getD i 0) (-1) 0 (zi i0) kk i = if i ≤ i0 then l.take i else l.take i0 ++ kk :: (l.drop i0).take (i - i0)
  | 0, _ => by
    rw [if_pos (Nat.zero_le _), List.take_zero]
    rfl
  | i + 1, h => by
    show lyL (fun i => l.getD i 0) (-1) 0 (zi i0) kk i ++ ((if zi i = zi i0 then [kk] else []) ++ (if zi i < -1 ∨ -1 + 0 ≤ zi i then [l.getD i 0] else [])) = _
    rw [ly_put hl hi0 i (by omega), if_pos (show zi i < -1 ∨ (-1 : Int32) + 0 ≤ zi i from Or.inr (Int32.le_trans (by decide) (zi_ge (by omega))))]
    by_cases c : i = i0
    · rw [if_pos (show i ≤ i0 by omega), if_pos (show zi i = zi i0 by rw [c]), if_neg (by omega), c, show i0 + 1 - i0 = 1 by omega, drop_at (getD_at hi0)]
      rfl
    · rw [if_neg (zi_ne (by omega) (by omega) c)]
      by_cases c2 : i ≤ i0
      · rw [if_pos c2, if_pos (by omega), take_sn1 (by omega)]
        rfl
      · have e : ((l.drop i0).take (i + 1 - i0)) = (l.drop i0).take (i - i0) ++ [l.getD i 0] := by
          rw [show i + 1 - i0 = (i - i0) + 1 by omega]
          refine take_snoc ?_
          rw [List.getElem?_drop, show i0 + (i - i0) = i by omega]
          exact getD_at (by omega)
        rw [if_neg c2, if_neg (by omega), e, List.append_assoc]
        rfl
theorem ly_cut {l : List Nat} {kk f m : Nat} (hl : l.length ≤ 1000) (hf : f + m ≤ l.length) : ∀ i, i ≤ l.length → lyL (fun i => l.getD i 0) (zi f) (zi m) (-1) kk i = l.take (min i f) ++ (l.drop (f + m)).take (i - (f + m))
  | 0, _ => by
    rw [Nat.zero_min, Nat.zero_sub, List.take_zero, List.take_zero]
    rfl
  | i + 1, h => by
    show lyL (fun i => l.getD i 0) (zi f) (zi m) (-1) kk i ++ ((if zi i = -1 then [kk] else []) ++ (if zi i < zi f ∨ zi f + zi m ≤ zi i then [l.getD i 0] else [])) = _
    rw [ly_cut hl hf i (by omega), if_neg (zi_m1 (by omega)), zi_add]
    by_cases c1 : i < f
    · rw [if_pos (Or.inl ((zi_lt (by omega) (by omega)).mpr c1)), Nat.min_eq_left (by omega), Nat.min_eq_left (by omega), show i - (f + m) = 0 by omega, show i + 1 - (f + m) = 0 by omega, List.take_zero, take_sn1 (by omega)]
      show (l.take i ++ []) ++ [l.getD i 0] = _
      rw [List.append_nil, List.append_nil]
    · by_cases c2 : f + m ≤ i
      · have e : ((l.drop (f + m)).take (i + 1 - (f + m))) = (l.drop (f + m)).take (i - (f + m)) ++ [l.getD i 0] := by
          rw [show i + 1 - (f + m) = (i - (f + m)) + 1 by omega]
          refine take_snoc ?_
          rw [List.getElem?_drop, show f + m + (i - (f + m)) = i by omega]
          exact getD_at (by omega)
        rw [if_pos (Or.inr ((zi_le (by omega) (by omega)).mpr c2)), Nat.min_eq_right (by omega), Nat.min_eq_right (by omega), e]
        show _ ++ [l.getD i 0] = _
        rw [List.append_assoc]
      · rw [if_neg (fun u => by
          rcases u with u | u
          · exact c1 ((zi_lt (by omega) (by omega)).mp u)
          · exact c2 ((zi_le (by omega) (by omega)).mp u)), Nat.min_eq_right (by omega), Nat.min_eq_right (by omega), show i - (f + m) = 0 by omega, show i + 1 - (f + m) = 0 by omega]
        show _ ++ [] = _
        rw [List.append_nil]
theorem u_wrong {W : List Nat} {I : zI} {K : Int32 → zI → Prop} (hW : KdL W) (hne : W ≠ []) (hl : W.length ≤ 110) (h5 : ∀ (q y : Nat), W[q]? = some y → I.1 520 q = zi y) (hK : ∀ J r, eqQ Qwr I J → (r < 0 ↔ acL W [(0, 0)] = true) → K r J) : w_M_wrongOf I K := by
  have l1 : 1 ≤ W.length := Nat.pos_of_ne_zero (fun u => hne (List.length_eq_zero_iff.mp u))
  have hk : KdO (fun i => W.getD i 0) (W.length - 1) := ⟨fun i hi => (hW i _ (getD_at (by omega))).1, fun s hs => by
    have := (hW (W.length - 1) _ (getD_at (by omega))).2.mpr (by omega)
    dsimp only
    rw [this]
    exact end_fin s hs⟩
  refine s_wrongOf hk (by omega) (fun i hi => h5 i _ (getD_at (by omega))) (fun J i st d q e1 e2 e3 => ?_)
  obtain ⟨j, s, d1, d2, d3, d4⟩ := run_w (kd := fun i => W.getD i 0) W 0 0 [(0, 0)] LV.st0 hW (fun j y hj => by
    rw [Nat.zero_add, List.getD_eq_getElem?_getD, hj]
    rfl) hne
  have e : (i, st) = (0 + j, s) := Rch.det ⟨d, e1⟩ d2 e3 d3
  have ei : i = j := by
    have := congrArg Prod.fst e
    dsimp only at this
    omega
  have es : st = s := congrArg Prod.snd e
  subst ei
  subst es
  refine hK J _ q ?_
  have hgi := getD_at d1
  by_cases c : W.getD i 0 = 10 ∧ topS st = 1
  · rw [if_pos c]
    refine ⟨fun _ => d4.mp ⟨?_, c.2⟩, fun _ => by decide⟩
    rw [hgi, c.1]
  · rw [if_neg c]
    refine ⟨fun u => absurd u (zi_pos (by omega)), fun u => absurd ?_ c⟩
    obtain ⟨w1, w2⟩ := d4.mpr u
    rw [hgi] at w1
    exact ⟨Option.some.inj w1, w2⟩
/-- the KINDS of the text as it is -/
def kdsT (x : Sg) : List Nat := (lexL (moT (sgC x))).map (fun y => y.1)
theorem kdsT_len {x : Sg} : (kdsT x).length = (lexL (moT (sgC x))).length := List.length_map ..
theorem kdsT_at {x : Sg} {i y : Nat} (h : (kdsT x)[i]? = some y) : ∃ z, (lexL (moT (sgC x)))[i]? = some z ∧ z.1 = y := by
  unfold kdsT at h
  rw [List.getElem?_map] at h
  cases e : (lexL (moT (sgC x)))[i]? with
  | none =>
    rw [e] at h
    cases h
  | some z =>
    rw [e] at h
    exact ⟨z, rfl, Option.some.inj h⟩
theorem kdsT_ok {x : Sg} (hv : Iv x) : KdL (kdsT x) ∧ 1 ≤ (kdsT x).length ∧ (kdsT x).length ≤ 100 := by
  obtain ⟨o1, o2, o3, o4⟩ := lex_lxo hv.2.2.2.2.2.2.2.1.1
  rw [kdsT_len]
  refine ⟨fun j y hj => ?_, o2, o3⟩
  obtain ⟨z, z1, z2⟩ := kdsT_at hj
  rw [← z2, kdsT_len]
  exact ⟨(o1 z (List.mem_of_getElem? z1)).1, o4 j z z1⟩
theorem kdsT_M {x : Sg} {I : zI} (hv : Iv x) (hR : RM I x) : I.1 491 15 = zi (kdsT x).length ∧ ∀ i, i < (kdsT x).length → I.1 501 i = zi ((kdsT x).getD i 0) := by
  have nw := hR.2.2.2.2.2.2.2.1
  refine ⟨by rw [kdsT_len]; exact nw.2.2.1, fun i hi => ?_⟩
  obtain ⟨z, z1, z2⟩ := kdsT_at (getD_at hi)
  rw [← z2]
  exact (nw.2.2.2.1 i z z1).1
theorem kdsT_X {x : Sg} {I : zI} {s : Nat} (hA : AtX I x s) : TkX I (zmom s + 3) (kdsT x) := by
  obtain ⟨p1, p2⟩ := hA.2.2.2.2.1
  have zm : zmom s = 113 + 18 * s := rfl
  refine ⟨by omega, by rw [kdsT_len]; exact p1, fun j y hj => ?_, by omega, by omega⟩
  obtain ⟨z, z1, z2⟩ := kdsT_at hj
  rw [← z2]
  exact (p2 j z z1).1
/-! mend -/
def vMend (x : Sg) (a : Int32) : Int32 := match ixI 2 a with
  | some j => if moB (sgC x) = true then -2 else if j = 0 then resA (mnI (kdsT x) (kdsT x).length 0) else resB (mnI (kdsT x) (kdsT x).length 0)
  | none => -1
theorem KdL.put {l : List Nat} (h : KdL l) {i k : Nat} (hi : i < l.length) (hk : k < 10) : KdL (l.take i ++ k :: l.drop i) ∧ (l.take i ++ k :: l.drop i).length = l.length + 1 := by
  have hlen : (l.take i ++ k :: l.drop i).length = l.length + 1 := by
    rw [List.length_append, List.length_take, List.length_cons, List.length_drop]
    omega
  refine ⟨fun j y hj => ?_, hlen⟩
  rw [hlen]
  have htl : (l.take i).length = i := by rw [List.length_take]; omega
  by_cases c : j < i
  · rw [List.getElem?_append_left (by omega), List.getElem?_take, if_pos c] at hj
    obtain ⟨w1, w2⟩ := h j y hj
    refine ⟨w1, w2.trans ?_⟩
    omega
  · rw [List.getElem?_append_right (by omega), htl] at hj
    by_cases c2 : j = i
    · rw [c2, Nat.sub_self] at hj
      cases hj
      omega
    · rw [show j - i = (j - i - 1) + 1 by omega, List.getElem?_cons_succ, List.getElem?_drop] at hj
      obtain ⟨w1, w2⟩ := h _ y hj
      refine ⟨w1, w2.trans ?_⟩
      omega
theorem t_mend {x : Sg} {a : Int32} {I : zI} {K : Int32 → zI → Prop} (hv : Iv x) (hR : RX I x) (hK : ∀ J, eqQ Qcl I J → RX J x → K (vMend x a) J) : w_Desk_mend a I K := by
  obtain ⟨k1, k2, k3⟩ := kdsT_ok hv
  unfold w_Desk_mend
  unfold vMend at hK
  intro P11 h11
  have yes : ∀ j : Nat, j < 2 → a = zi j → P11 := fun j hj ea => by
    refine h11 ?_
    rw [ea, ixI_some (by decide) hj] at hK
    dsimp only at hK
    obtain ⟨s, hA⟩ := hR.now
    refine s_now hA.1 hA.2.1 ?_
    rw [show I.1 (zmom s) 3 = b01 (moB (sgC x)) from hA.2.2.2.2.2.1]
    cases hb : moB (sgC x) with
    | true =>
      rw [hb, if_pos rfl] at hK
      rw [if_neg (by decide)]
      exact hK I eqQ.rf hR
    | false =>
      rw [hb, if_neg (by decide)] at hK
      rw [if_pos (show b01 false = 0 from rfl)]
      refine t_findMend k1 k3 (kdsT_X hA) (fun J qJ m1 m2 => ?_)
      have hK2 := hK J (Qad_cl qJ) (hR.ad hv qJ)
      rw [ea]
      by_cases c : j = 0
      · rw [if_pos c] at hK2
        rw [if_pos (by rw [c]; rfl), m1]
        exact hK2
      · rw [if_neg c] at hK2
        rw [if_neg (show ¬ zi j = 0 from zi_ne (b := 0) (by omega) (by decide) c), m2]
        exact hK2
  by_cases c0 : a = 0
  · rw [if_pos c0]
    exact yes 0 (by decide) c0
  rw [if_neg c0]
  by_cases c1 : a = 1
  · rw [if_pos c1]
    exact yes 1 (by decide) c1
  rw [if_neg c1]
  have : ixI 2 a = none := by
    rcases ix_cs (n := 2) (by decide) a with ⟨k, hk, e, e2⟩ | ⟨e, -⟩
    · match k, hk with
      | 0, _ => exact absurd e c0
      | 1, _ => exact absurd e c1
    · exact e
  rw [this] at hK
  exact hK I eqQ.rf hR
theorem u_mend {x : Sg} {a : Int32} {I : zI} {K : Int32 → zI → Prop} (hv : Iv x) (hR : RM I x) (hK : ∀ J, eqQ Qmo I J → RM J x → K (vMend x a) J) : w_M_mend a I K := by
  obtain ⟨k1, k2, k3⟩ := kdsT_ok hv
  have done : ∀ J, eqQ Qwy I J → K (vMend x a) J := fun J q => hK J (Qwy_mo q) (hR.wy hv q)
  unfold w_M_mend
  unfold vMend at done
  refine u_in (n := 2) (by decide) (fun j hj ea e2 => ?_) (fun e2 => ?_)
  · rw [e2] at done
    dsimp only at done
    rw [if_neg (by decide), show I.1 491 8 = b01 (moB (sgC x)) from hR.2.2.2.2.2.2.2.1.2.2.2.2.2.2.2.2.1]
    cases hb : moB (sgC x) with
    | true =>
      rw [hb, if_pos rfl] at done
      rw [if_neg (by decide)]
      exact done I eqQ.rf
    | false =>
      rw [hb, if_neg (by decide)] at done
      rw [if_pos (show b01 false = 0 from rfl)]
      intro P23 h23
      have outer : ∀ (d i : Nat) (J : zI), i + d = (kdsT x).length → eqQ Qwy I J → (∀ L, eqQ Qwy I L → K (if j = 0 then resA (mnI (kdsT x) d i) else resB (mnI (kdsT x) d i)) L) → P23 (zi i) J := by
        intro d
        induction d with
        | zero =>
          intro i J hid q hK
          refine h23 _ _ ?_
          rw [(kdsT_M hv (hR.wy hv q)).1, if_pos ((zi_le (by omega) (by omega)).mpr (by omega))]
          have := hK J q
          by_cases c : j = 0
          · rw [if_pos c] at this
            exact this
          · rw [if_neg c] at this
            exact this
        | succ d ih =>
          intro i J hid q hK
          refine h23 _ _ ?_
          rw [(kdsT_M hv (hR.wy hv q)).1, if_neg (nle_zi (by omega) (by omega))]
          intro P33 h33
          have inner : ∀ (e k : Nat) (A : zI), k + e = 10 → eqQ Qwy I A → (∀ L, eqQ Qwy I L → K (if j = 0 then resA (match mnK (kdsT x) i e k with
              | some k => some (i, k)
              | none => mnI (kdsT x) d (i + 1)) else resB (match mnK (kdsT x) i e k with
              | some k => some (i, k)
              | none => mnI (kdsT x) d (i + 1))) L) → P33 (zi k) A := by
            intro e
            induction e with
            | zero =>
              intro k A hke q2 hK2
              refine h33 _ _ ?_
              rw [if_pos (show (10 : Int32) ≤ zi k from (zi_le (a := 10) (by decide) (by omega)).mpr (by omega))]
              intro v ev
              rw [ev, zi_succ]
              exact ih (i + 1) A (by omega) q2 hK2
            | succ e ih2 =>
              intro k A hke q2 hK2
              refine h33 _ _ ?_
              rw [if_neg (show ¬ (10 : Int32) ≤ zi k from nle_zi (n := 10) (by omega) (by decide))]
              obtain ⟨n1, n2⟩ := kdsT_M hv (hR.wy hv q2)
              have eL := ly_put (kk := k) (show (kdsT x).length ≤ 1000 by omega) (show i < (kdsT x).length by omega)
              obtain ⟨p1, p2⟩ := k1.put (show i < (kdsT x).length by omega) (show k < 10 by omega)
              refine u_laysTry (kk := k) (kl := fun i => (kdsT x).getD i 0) n1 k3 n2 rfl (fun r hr => ?_) (fun B qB hB => ?_)
              · rw [eL r hr]
                split
                · rw [List.length_take]
                  omega
                · rw [List.length_append, List.length_cons, List.length_take, List.length_take, List.length_drop]
                  omega
              · rw [eL _ (Nat.le_refl _), if_neg (by omega), List.take_of_length_le (show ((kdsT x).drop i).length ≤ (kdsT x).length - i by rw [List.length_drop]; exact Nat.le_refl _)] at hB
                refine u_wrong p1 (fun u => by
                  rw [u] at p2
                  cases p2) (by omega) hB (fun C r qC hr => ?_)
                have q4 := (q2.tr (Qlt_wy qB)).tr (Qwr_wy qC)
                have hr2 : r < 0 ↔ mnP (kdsT x) i k = true := hr
                cases hm : mnP (kdsT x) i k with
                | true =>
                  rw [if_neg (fun u => absurd (hr2.mpr hm) (Int32.not_lt.mpr u))]
                  have hK3 : K (if j = 0 then resA (match (if mnP (kdsT x) i k = true then some k else mnK (kdsT x) i e (k + 1)) with
                    | some k => some (i, k)
                    | none => mnI (kdsT x) d (i + 1)) else resB (match (if mnP (kdsT x) i k = true then some k else mnK (kdsT x) i e (k + 1)) with
                    | some k => some (i, k)
                    | none => mnI (kdsT x) d (i + 1))) C := hK2 C q4
                  rw [hm, if_pos rfl] at hK3
                  rw [ea]
                  by_cases c : j = 0
                  · rw [if_pos c] at hK3
                    rw [if_pos (by rw [c]; rfl)]
                    exact hK3
                  · rw [if_neg c] at hK3
                    rw [if_neg (show ¬ zi j = 0 from zi_ne (b := 0) (by omega) (by decide) c)]
                    exact hK3
                | false =>
                  rw [if_pos (Int32.not_lt.mp (fun u => by
                    have := hr2.mp u
                    rw [hm] at this
                    cases this))]
                  intro v ev
                  rw [ev, zi_succ]
                  refine ih2 (k + 1) C (by omega) q4 (fun L qL => ?_)
                  have hK3 : K (if j = 0 then resA (match (if mnP (kdsT x) i k = true then some k else mnK (kdsT x) i e (k + 1)) with
                    | some k => some (i, k)
                    | none => mnI (kdsT x) d (i + 1)) else resB (match (if mnP (kdsT x) i k = true then some k else mnK (kdsT x) i e (k + 1)) with
                    | some k => some (i, k)
                    | none => mnI (kdsT x) d (i + 1))) L := hK2 L qL
                  rw [hm, if_neg (show ¬ (false = true) by decide)] at hK3
                  exact hK3
          exact inner 10 0 J rfl q hK
      exact outer (kdsT x).length 0 I (by omega) eqQ.rf done
  · rw [e2] at done
    rw [if_pos rfl]
    exact done I eqQ.rf
