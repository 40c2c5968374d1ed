/-! ===== what is answered, alike on both sides ===== -/
/-- a number below n -/
def ixI (n : Nat) (a : Int32) : Option Nat := if 0 ≤ a ∧ a < zi n then some a.toNatClampNeg else none
theorem ixI_some {n k : Nat} (hn : n < 2147483648) (hk : k < n) : ixI n (zi k) = some k := by
  unfold ixI
  rw [if_pos ⟨zi_ge (by omega), (zi_lt (by omega) hn).mpr hk⟩, zi_tn (by omega)]
theorem ixI_none {n : Nat} {a : Int32} (h : ¬ (0 ≤ a ∧ a < zi n)) : ixI n a = none := if_neg h
theorem ix_cs {n : Nat} (hn : n < 2147483648) (a : Int32) : (∃ k, k < n ∧ a = zi k ∧ ixI n a = some k) ∨ (ixI n a = none ∧ (a < 0 ∨ (¬ a < 0 ∧ zi n ≤ a))) := by
  by_cases c0 : a < 0
  · exact Or.inr ⟨ixI_none (fun u => Int32.not_le.mpr c0 u.1), Or.inl c0⟩
  · obtain ⟨k, hk, rfl⟩ := zi_of (Int32.not_lt.mp c0)
    by_cases c1 : k < n
    · exact Or.inl ⟨k, c1, rfl, ixI_some hn c1⟩
    · exact Or.inr ⟨ixI_none (fun u => c1 ((zi_lt hk hn).mp u.2)), Or.inr ⟨c0, (zi_le hn hk).mpr (by omega)⟩⟩
theorem u_in {n : Nat} {a : Int32} {I : zI} {K : Int32 → Prop} (hn : n < 2147483648) (h1 : ∀ k, k < n → a = zi k → ixI n a = some k → K 1) (h0 : ixI n a = none → K 0) : w_M_in a 0 (zi n - 1) I K := by
  refine s_in (fun c => ?_) (fun c => ?_)
  · obtain ⟨k, hk, e⟩ := in_idx hn c
    exact h1 k hk e (by rw [e]; exact ixI_some hn hk)
  · refine h0 (ixI_none (fun u => c ⟨u.1, ?_⟩))
    obtain ⟨k, hk, e⟩ := zi_of u.1
    have u2 := u.2
    rw [e] at u2 ⊢
    have hkn := (zi_lt hk hn).mp u2
    rw [show zi n - 1 = zi (n - 1) from zi_sub (b := 1) (by omega)]
    exact (zi_le hk (by omega)).mpr (by omega)
theorem zi_ne {a b : Nat} (ha : a < 2147483648) (hb : b < 2147483648) (h : a ≠ b) : ¬ zi a = zi b := fun u => h ((zi_eq ha hb).mp u)
theorem nle_zi {k n : Nat} (hk : k < n) (hn : n < 2147483648) : ¬ zi n ≤ zi k := fun u => by
  have := (zi_le hn (by omega)).mp u
  omega
/-! text -/
theorem t_has {n : Nat} {a : Int32} {I : zI} {K : Int32 → Prop} (hn : n < 2147483648) (h9 : I.1 24 9 = zi n) (h1 : ∀ i, i < n → a = zi i → ixI n a = some i → K 1) (h0 : ixI n a = none → K 0) : w_Nodes_has a I K := by
  unfold w_Nodes_has
  rw [h9]
  rcases ix_cs hn a with ⟨i, hi, e, e2⟩ | ⟨e, c | ⟨c, d⟩⟩
  · rw [e, if_neg (zi_pos (by omega)), if_neg (nle_zi hi hn)]
    exact h1 i hi e e2
  · rw [if_pos c]
    exact h0 e
  · rw [if_neg c, if_pos d]
    exact h0 e
def rnR (x : Sg) : List Nat := runsOf (sgN x) (moR (sgC x))
def vRun (x : Sg) (a : Int32) : Int32 := match ixI (rnR x).length a with
  | some k => zi ((rnR x).getD k 0)
  | none => -1
theorem rnR_at {x : Sg} {k : Nat} (h : k < (rnR x).length) : (rnR x)[k]? = some ((rnR x).getD k 0) := by
  rw [List.getD_eq_getElem?_getD, List.getElem?_eq_getElem h]
  rfl
theorem rnR_99 {x : Sg} (hv : Iv x) : (rnR x).length ≤ 99 := (runs_ok hv.2.1 hv.2.2.1 hv.2.2.2.2.2.2.2.1.2.2.2.1).2
theorem t_hasRun {x : Sg} {a : Int32} {I : zI} {K : Int32 → Prop} (hv : Iv x) (hR : RX I x) (h1 : ∀ k, k < (rnR x).length → a = zi k → ixI (rnR x).length a = some k → K 1) (h0 : ixI (rnR x).length a = none → K 0) : w_TreeView_hasRun a I K := by
  have l := rnR_99 hv
  unfold w_TreeView_hasRun
  rw [show I.1 43 11 = zi (rnR x).length from hR.2.2.1.2.2.2.1.1]
  rcases ix_cs (n := (rnR x).length) (by omega) a with ⟨i, hi, e, e2⟩ | ⟨e, c | ⟨c, d⟩⟩
  · rw [e, if_neg (zi_pos (by omega)), if_neg (nle_zi hi (by omega))]
    exact h1 i hi e e2
  · rw [if_pos c]
    exact h0 e
  · rw [if_neg c, if_pos d]
    exact h0 e
theorem u_isRun {x : Sg} {a : Int32} {I : zI} {K : Int32 → Prop} (hv : Iv x) (hR : RM I x) (h1 : ∀ k, k < (rnR x).length → a = zi k → ixI (rnR x).length a = some k → K 1) (h0 : ixI (rnR x).length a = none → K 0) : w_M_isRun a I K := by
  have l := rnR_99 hv
  unfold w_M_isRun
  rw [show I.1 491 51 = zi (rnR x).length from hR.2.2.1.2.2.2.1]
  exact u_in (by omega) (fun k hk e e2 => ⟨Or.inr rfl, h1 k hk e e2⟩) (fun e => ⟨Or.inl rfl, h0 e⟩)
theorem t_run {x : Sg} {a : Int32} {I : zI} {K : Int32 → Prop} (hv : Iv x) (hR : RX I x) (h : K (vRun x a)) : w_Desk_run a I K := by
  have l := rnR_99 hv
  unfold w_Desk_run
  unfold vRun at h
  refine t_hasRun hv hR (fun k hk e e2 => ?_) (fun e => ?_)
  · rw [e2] at h
    rw [if_neg (by decide), e]
    refine (w_get (by decide)).mpr ?_
    rw [rg_in (by decide) (show k < 100 by omega), show I.1 (62 + 1) k = zi ((rnR x).getD k 0) from hR.2.2.1.2.2.2.1.2 k _ (rnR_at hk)]
    exact h
  · rw [e] at h
    rw [if_pos rfl]
    exact h
theorem u_run {x : Sg} {a : Int32} {I : zI} {K : Int32 → Prop} (hv : Iv x) (hR : RM I x) (h : K (vRun x a)) : w_M_run a I K := by
  have l := rnR_99 hv
  unfold w_M_run
  unfold vRun at h
  refine u_isRun hv hR (fun k hk e e2 => ?_) (fun e => ?_)
  · rw [e2] at h
    rw [if_neg (by decide), e, zi_tn (show k < 2147483648 by omega), show I.1 528 k = zi ((rnR x).getD k 0) from hR.2.2.1.2.2.2.2.2.1 k _ (rnR_at hk)]
    exact ⟨(zin_iff (by omega)).mpr (by omega), h⟩
  · rw [e] at h
    rw [if_pos rfl]
    exact h
/-! ===== what is asked of the TREE, alike on both sides ===== -/
abbrev FF (x : Sg) : List Fl := flR (sgN x) (moR (sgC x))
abbrev nG (x : Sg) : Nat := (lexL (moG (sgC x))).length
theorem Iv.fg {x : Sg} (hv : Iv x) : FlG (sgM x) (FF x) (sgN x) (nG x) := hv.2.2.2.2.2.2.2.1.2.2.2.1.flG hv.2.1 hv.2.2.1
theorem Iv.tr {x : Sg} (hv : Iv x) : TreeI (sgM x) (sgN x) (moR (sgC x)) (nG x) (moO (sgC x)) := hv.2.2.2.2.2.2.2.1.2.2.2.1
theorem Iv.f248 {x : Sg} (hv : Iv x) : (FF x).length ≤ 248 := by
  have h2 : (FF x).length = sz (sgN x) (moR (sgC x)) := fl_len hv.2.1 _ hv.tr.1 0 0 0 1
  rw [h2]
  exact hv.tr.few hv.2.1
def ffA (x : Sg) (p : Nat) : Fl := (FF x).getD p (0, 0, 0, 0, 0)
theorem ffA_at {x : Sg} {p : Nat} {f : Fl} (h : (FF x)[p]? = some f) : ffA x p = f := by
  unfold ffA
  rw [List.getD_eq_getElem?_getD, h]
  rfl
theorem ffA_is {x : Sg} {p : Nat} (h : p < (FF x).length) : (FF x)[p]? = some (ffA x p) := by
  unfold ffA
  rw [List.getD_eq_getElem?_getD, List.getElem?_eq_getElem h]
  rfl
/-- a node's place -/
def plT (x : Sg) (c : Nat) : Option Nat := (FF x).findIdx? (fun y => y.1 == c)
theorem plT_is {x : Sg} {c p : Nat} (h : plT x c = some p) : ∃ f, (FF x)[p]? = some f ∧ f.1 = c := by
  obtain ⟨h1, h2, -⟩ := List.findIdx?_eq_some_iff_getElem.mp h
  exact ⟨_, List.getElem?_eq_getElem h1, beq_iff_eq.mp h2⟩
theorem plT_no {x : Sg} {c : Nat} (h : plT x c = none) : ∀ (p : Nat) (f : Fl), (FF x)[p]? = some f → f.1 ≠ c := by
  intro p f hf u
  have := List.findIdx?_eq_none_iff.mp h f (List.mem_of_getElem? hf)
  rw [u, beq_self_eq_true] at this
  cases this
theorem plT_at {x : Sg} (hv : Iv x) {p : Nat} {f : Fl} (h : (FF x)[p]? = some f) : plT x f.1 = some p := by
  cases e : plT x f.1 with
  | none => exact absurd rfl (plT_no e p f h)
  | some q =>
    obtain ⟨g, g1, g2⟩ := plT_is e
    rw [hv.fg.2.1 q p g f g1 h g2]
def inT (x : Sg) (a : Int32) : Option Nat := match ixI (sgM x) a with
  | some c => plT x c
  | none => none
theorem t_holds {x : Sg} {a : Int32} {I : zI} {K : Int32 → Prop} (hv : Iv x) (hR : RX I x) (h1 : ∀ p f, (FF x)[p]? = some f → a = zi f.1 → f.1 < sgM x → inT x a = some p → K 1) (h0 : inT x a = none → K 0) : w_TreeView_holds a I K := by
  have hm := hv.2.2.2.1
  obtain ⟨-, rep, ⟨-, hF, -, -, hpl⟩, -⟩ := hR
  have fl := hv.f248
  unfold w_TreeView_holds
  refine t_has (n := sgM x) (by omega) rep.1 (fun c hc e e2 => ?_) (fun e => ?_)
  · rw [if_neg (by decide), e]
    have e3 : inT x a = plT x c := by
      unfold inT
      rw [e2]
    obtain ⟨p', p1, p2⟩ := hpl.1 c (by omega)
    refine (w_get (by decide)).mpr ?_
    rw [rg_in (by decide) (show c < 3400 by omega), show I.1 (46 + 1) c = zi p' from p2, hF.1]
    by_cases u : zi (FF x).length ≤ zi p'
    · rw [if_pos u]
      refine h0 ?_
      rw [e3]
      cases ep : plT x c with
      | none => rfl
      | some q =>
        obtain ⟨g, g1, g2⟩ := plT_is ep
        have w := (hF.2 q g g1).2.1
        rw [g2, p2] at w
        have ql := (List.getElem?_eq_some_iff.mp g1).1
        have := (zi_eq (by omega) (by omega)).mp w
        have := (zi_le (by omega) (by omega)).mp u
        omega
    · rw [if_neg u]
      have hp : p' < (FF x).length := Nat.lt_of_not_le (fun v => u ((zi_le (by omega) (by omega)).mpr v))
      have hx := ffA_is hp
      refine (w_get (by decide)).mpr ?_
      rw [rg_in (by decide) (show p' < 400 by omega), show I.1 (44 + 1) p' = zi (ffA x p').1 from (hF.2 p' _ hx).1]
      have hlt := (hv.fg.1.2 p' _ hx).1
      by_cases w : (ffA x p').1 = c
      · rw [if_pos (by rw [w])]
        exact h1 p' _ hx (by rw [e, w]) hlt (by rw [e3, ← w]; exact plT_at hv hx)
      · rw [if_neg (zi_ne (by omega) (by omega) w)]
        refine h0 ?_
        rw [e3]
        cases ep : plT x c with
        | none => rfl
        | some q =>
          exfalso
          obtain ⟨g, g1, g2⟩ := plT_is ep
          have w2 := (hF.2 q g g1).2.1
          rw [g2, p2] at w2
          have ql := (List.getElem?_eq_some_iff.mp g1).1
          have := (zi_eq (by omega) (by omega)).mp w2
          subst this
          rw [ffA_at g1] at w
          exact w g2
  · rw [if_pos rfl]
    refine h0 ?_
    unfold inT
    rw [e]
theorem rule_lt {x : Sg} (hv : Iv x) {c r : Nat} (hc : c < sgM x) (hr : r < 11) : Int32.ofInt (ndR (sgN x c)) < zi r ↔ ndR (sgN x c) < (r : Int) := by
  rcases hv.2.1 c hc with ⟨f1, -⟩ | ⟨r', s, f1, -, f3, -⟩
  · rw [f1]
    constructor
    · intro _
      omega
    · intro _
      exact Int32.lt_of_lt_of_le (by decide : Int32.ofInt (-2) < 0) (zi_ge (by omega))
  · rw [f3, zi_int]
    constructor
    · intro u
      have := (zi_lt (by omega) (by omega)).mp u
      omega
    · intro u
      exact (zi_lt (by omega) (by omega)).mpr (by omega)
theorem t_holdsE {x : Sg} {a : Int32} {I : zI} {K : Int32 → Prop} (hv : Iv x) (hR : RX I x) (h1 : ∀ p f, (FF x)[p]? = some f → a = zi f.1 → f.1 < sgM x → inT x a = some p → 4 ≤ ndR (sgN x f.1) → K 1) (h2 : ∀ p f, (FF x)[p]? = some f → inT x a = some p → ¬ 4 ≤ ndR (sgN x f.1) → K 0) (h0 : inT x a = none → K 0) : w_TreeView_holdsExpression a I K := by
  have hm := hv.2.2.2.1
  unfold w_TreeView_holdsExpression
  refine t_holds hv hR (fun p f hp e hlt e2 => ?_) (fun e => ?_)
  · rw [if_neg (by decide), e]
    refine (w_get (by decide)).mpr ?_
    rw [rg_in (by decide) (show f.1 < 3400 by omega), show I.1 (25 + 1) f.1 = Int32.ofInt (ndR (sgN x f.1)) from (hR.2.1.2 _ hlt).1]
    by_cases u : ndR (sgN x f.1) < 4
    · rw [if_pos (show _ < (4 : Int32) from (rule_lt (r := 4) hv hlt (by decide)).mpr u)]
      exact h2 p f hp e2 (by omega)
    · rw [if_neg (show ¬ _ < (4 : Int32) from fun w => u ((rule_lt (r := 4) hv hlt (by decide)).mp w))]
      exact h1 p f hp e hlt e2 (by omega)
  · rw [if_pos rfl]
    exact h0 e
/-! young -/
/-- by which EDIT: a small number -/
def Eb (x : Sg) : Prop := sgE x < 2000000 ∧ ∀ c, c < sgM x → ndB (sgN x c) < 2000000
theorem Ev.eb {x : Sg} (hv : Iv x) (h : Ev x) : Eb x := by
  have := hv.2.2.2.2.2.2.1
  exact ⟨by omega, fun c hc => by have := h.1 c hc; omega⟩
/-! ===== growing from nothing, a token at a time ===== -/
def rk3T : List Nat := [1, 0, 1, 0, 1, 0, 0, 0, 1, 2, 3, 3, 0, 2, 2, 0, 0, 0, 1, 2, 3]
def rk3 (s : Nat) : Nat := rk3T.getD s 0
theorem rk3_le : ∀ s, s < 21 → rk3 s ≤ 3 := by decide +kernel
/-- a stack that can stand behind t tokens -/
def LV (t : Nat) (st : List (Nat × Nat)) : Prop := 1 ≤ st.length ∧ StP st ∧ StOk 1 st ∧ 8 * st.length + rkS (topS st) ≤ 18 * t + 17
theorem LV.st0 : LV 0 [(0, 0)] := by
  obtain ⟨-, a, b, c, d⟩ := LI.st0 (e := 0)
  exact ⟨a, b, c, by omega⟩
theorem LV.li {t : Nat} {st : List (Nat × Nat)} (h : LV t st) (e : Nat) (he : t ≤ e) : LI e t st 0 := by
  obtain ⟨a, b, c, d⟩ := h
  exact ⟨he, a, b, c, by omega⟩
theorem LV.top {t : Nat} {st : List (Nat × Nat)} (h : LV t st) : topS st < 21 ∧ rk3 (topS st) < 4 ∧ ∃ p0 : Nat × Nat, st[st.length - 1]? = some p0 ∧ p0.2 = topS st := by
  obtain ⟨s1, s2, s3, s4⟩ := h
  obtain ⟨p0, t1, t2⟩ := top_at s1
  have hs : topS st < 21 := t2 ▸ (s3 _ p0 t1).1
  have := rk3_le _ hs
  exact ⟨hs, by omega, p0, t1, t2⟩
theorem LV.sh {t y : Nat} {st : List (Nat × Nat)} (h : LV t st) (hy : y < 12) (hl : ldN (topS st) (5 + y) ≠ 0) : LV (t + 1) (st ++ [(0, ldN (topS st) (5 + y))]) := by
  have hn : ∀ kd : Nat → Nat, kd t = y → lNx kd t st = some (t + 1, st ++ [(0, ldN (topS st) (5 + y))]) := fun kd e => by
    unfold lNx
    rw [e, if_neg hl]
  have hk : KdO (fun i => if i = t then y else 11) (t + 1) := ⟨fun i _ => by
    dsimp only
    split <;> omega, fun s hs => by
    dsimp only
    rw [if_neg (by omega)]
    exact end_fin2 s hs⟩
  obtain ⟨-, a, b, c, d⟩ := (h.li (t + 1) (Nat.le_succ t)).nx hk (hn _ (if_pos rfl))
  dsimp only at a b c d
  exact ⟨a, b, c, by omega⟩
/-- a row of KINDS, END at last and nowhere else -/
def KdL (W : List Nat) : Prop := ∀ (j y : Nat), W[j]? = some y → y < 12 ∧ (y = 10 ↔ j + 1 = W.length)
def TrX (I : zI) (k : Nat) (st : List (Nat × Nat)) : Prop := I.1 k 1 = zi (st.length - 1) ∧ ∀ (j : Nat) (p : Nat × Nat), st[j]? = some p → I.1 (k + 2) j = zi p.2
def Qtk (k a j : Nat) : Prop := (a = k ∧ j = 1) ∨ a = k + 2
/-! ===== what could be put, and what mends ===== -/
theorem TrX.kp {I J : zI} {k : Nat} {st : List (Nat × Nat)} (h : TrX I k st) (e : ∀ a j, a = k ∨ a = k + 2 → J.1 a j = I.1 a j) : TrX J k st := ⟨(e _ _ (Or.inl rfl)).trans h.1, fun j p hj => (e _ _ (Or.inr rfl)).trans (h.2 j p hj)⟩
theorem TrX.o4 {I J : zI} {st : List (Nat × Nat)} (h : TrX I 101 st) (q : eqQ (Qtk 104) I J) : TrX J 101 st := h.kp (fun a j u => q.1 a j (by unfold Qtk; omega))
theorem TrX.o1 {I J : zI} {st : List (Nat × Nat)} (h : TrX I 104 st) (q : eqQ (Qtk 101) I J) : TrX J 104 st := h.kp (fun a j u => q.1 a j (by unfold Qtk; omega))
/-- the tokens of a text by their KINDS -/
def TkX (I : zI) (tk : Nat) (l : List Nat) : Prop := (tk < 100 ∨ 112 < tk) ∧ I.1 tk 5 = zi l.length ∧ (∀ (j y : Nat), l[j]? = some y → I.1 (tk + 2) j = zi y) ∧ tk + 2 ≠ 100 ∧ tk + 2 ≠ 101
theorem TkX.ad {I J : zI} {tk : Nat} {l : List Nat} (h : TkX I tk l) (q : eqQ Qad I J) : TkX J tk l := by
  obtain ⟨h1, h2, h3, h4, h5⟩ := h
  exact ⟨h1, by rw [q.1 _ _ (by unfold Qad; omega)]; exact h2, fun j y hj => by rw [q.1 _ _ (by unfold Qad; omega)]; exact h3 j y hj, h4, h5⟩
/-! ===== what is tried, the model ===== -/
theorem KdL.put {l : List Nat} (h : KdL l) {i k : Nat} (hi : i < l.length) (hk : k < 10) : KdL (l.take i ++ k :: l.drop i) ∧ (l.take i ++ k :: l.drop i).length = l.length + 1 := by
  have hlen : (l.take i ++ k :: l.drop i).length = l.length + 1 := by
    rw [List.length_append, List.length_take, List.length_cons, List.length_drop]
    omega
  refine ⟨fun j y hj => ?_, hlen⟩
  rw [hlen]
  have htl : (l.take i).length = i := by rw [List.length_take]; omega
  by_cases c : j < i
  · rw [List.getElem?_append_left (by omega), List.getElem?_take, if_pos c] at hj
    obtain ⟨w1, w2⟩ := h j y hj
    refine ⟨w1, w2.trans ?_⟩
    omega
  · rw [List.getElem?_append_right (by omega), htl] at hj
    by_cases c2 : j = i
    · rw [c2, Nat.sub_self] at hj
      cases hj
      omega
    · rw [show j - i = (j - i - 1) + 1 by omega, List.getElem?_cons_succ, List.getElem?_drop] at hj
      obtain ⟨w1, w2⟩ := h _ y hj
      refine ⟨w1, w2.trans ?_⟩
      omega
/-! expected -/
theorem KdL.tl {y : Nat} {l : List Nat} (h : KdL (y :: l)) : KdL l := fun j z hz => by
  obtain ⟨z1, z2⟩ := h (j + 1) z (by rw [List.getElem?_cons_succ]; exact hz)
  refine ⟨z1, z2.trans ?_⟩
  rw [List.length_cons]
  omega
/-! ===== in the way ===== -/
def wS (y : Nat) : Int := if y = 11 then 1 else if y = 12 then -1 else if y = 13 then 1000 else if y = 14 then -1000 else 0
def wB (st : List (Nat × Nat)) : Int := (st.map (fun p => wS (acS p.2))).sum
def wL (l : List Nat) : Int := (l.map (fun y => wS (5 + y))).sum
theorem KdL.cut {l : List Nat} (h : KdL l) {a m : Nat} (hm : a + m < l.length) : KdL (l.take a ++ l.drop (a + m)) ∧ (l.take a ++ l.drop (a + m)).length = l.length - m := by
  have hlen : (l.take a ++ l.drop (a + m)).length = l.length - m := by
    rw [List.length_append, List.length_take, List.length_drop]
    omega
  have htl : (l.take a).length = a := by rw [List.length_take]; omega
  refine ⟨fun j y hj => ?_, hlen⟩
  rw [hlen]
  by_cases c : j < a
  · rw [List.getElem?_append_left (by omega), List.getElem?_take, if_pos c] at hj
    obtain ⟨w1, w2⟩ := h j y hj
    refine ⟨w1, w2.trans ?_⟩
    omega
  · rw [List.getElem?_append_right (by omega), htl, List.getElem?_drop] at hj
    obtain ⟨w1, w2⟩ := h _ y hj
    refine ⟨w1, w2.trans ?_⟩
    omega
/-! in the way: what is found out at a glance -/
def BaX (I : zI) (l : List Nat) : Prop := ∀ j, j ≤ l.length → I.1 108 j = Int32.ofInt (wL (l.take j))
theorem BaX.kp {I J : zI} {l : List Nat} (h : BaX I l) (e : ∀ j, J.1 108 j = I.1 108 j) : BaX J l := fun j hj => (e j).trans (h j hj)
/-! ===== alike: two nodes printed, compared ===== -/
def vAlike (x : Sg) (a b : Int32) : Int32 := match inT x a with
  | some p => if 4 ≤ ndR (sgN x (ffA x p).1) then (match inT x b with
    | some q => if 4 ≤ ndR (sgN x (ffA x q).1) then (if prt (sgN x) (ffA x p).1 = prt (sgN x) (ffA x q).1 then 1 else 0) else -1
    | none => -1) else -1
  | none => -1
theorem Qpw_cl {b : Nat} {I J : zI} (hb : b < 491) (q : eqQ (Qpw b) I J) : eqQ Qcl I J := q.mono (fun a j h => by unfold Qpw at h; unfold Qcl; omega)
theorem t_prAlike {x : Sg} {p q : Nat} {f g : Fl} {I : zI} {K : Int32 → zI → Prop} (hv : Iv x) (hR : RX I x) (hp : (FF x)[p]? = some f) (hq : (FF x)[q]? = some g) (hK : ∀ J, eqQ Qcl I J → RX J x → K (if prt (sgN x) f.1 = prt (sgN x) g.1 then 1 else 0) J) : w_Desk_printsAlike (zi f.1) (zi g.1) I (fun r_3 I_4 => (if r_3 = 0 then K 0 I_4 else K 1 I_4)) := by
  have hN := hv.2.1
  have hm := hv.2.2.2.1
  have hC := hv.2.2.2.2.2.2.2.1
  have hf := (hv.fg.1.2 p f hp).1
  have hg := (hv.fg.1.2 q g hq).1
  obtain ⟨f1, f2, f3⟩ := prt_in hN hC (fl_po hN hv.tr.1 hp)
  obtain ⟨g1, g2, g3⟩ := prt_in hN hC (fl_po hN hv.tr.1 hq)
  obtain ⟨r1, r2, r3⟩ := prt_in hN hC (c := moR (sgC x)) (by
    rw [po_eq hN hv.tr.1]
    exact List.mem_cons_self ..)
  obtain ⟨s, hA⟩ := hR.now
  have zs : zmom s = 113 + 18 * s := rfl
  unfold w_Desk_printsAlike
  refine s_write (a2 := 109) (Or.inl rfl) hR.2.1 hN (by omega) hf (by omega) (by omega) f3 (fun I2 q2 o2 => ?_)
  refine s_write (a2 := 111) (Or.inr rfl) (hR.2.1.kp hN.ch (fun a j u1 u2 _ => q2.1 a j (by unfold Qpw; omega))) hN (by omega) hg (by omega) (by omega) g3 (fun I4 q4 o4 => ?_)
  have oA : OutX 110 I4 (prt (sgN x) f.1) := fun i v hi => (q4.1 110 i (by unfold Qpw; omega)).trans (o2 i v hi)
  have k4 : ∀ a j, ¬ (a = 97 ∧ (j = 2 ∨ j = 3)) → a ≠ 99 → a ≠ 110 → a ≠ 112 → I4.1 a j = I.1 a j := fun a j u1 u2 u3 u4 => (q4.1 a j (by unfold Qpw; omega)).trans (q2.1 a j (by unfold Qpw; omega))
  have c4 : eqQ Qcl I I4 := (Qpw_cl (by decide) q2).tr (Qpw_cl (by decide) q4)
  have stop : ∀ u : Int32, u = (if prt (sgN x) f.1 = prt (sgN x) g.1 then 1 else 0) → w_Desk_now I4 (fun r_8 => w_Printer_write (I4.1 r_8 7) 109 700 I4 (fun r_9 I_10 => zb u ∧ (if u = 0 then K 0 I_10 else K 1 I_10))) := by
    intro u hu
    refine s_now hA.1 (by rw [k4 0 4 (by omega) (by omega) (by omega) (by omega)]; exact hA.2.1) ?_
    rw [k4 (zmom s) 7 (by omega) (by omega) (by omega) (by omega), show I.1 (zmom s) 7 = zi (moR (sgC x)) from hA.2.2.2.2.2.2.2.2.2.1]
    refine s_write (a2 := 109) (Or.inl rfl) (hR.2.1.kp hN.ch (fun a j u1 u2 _ => k4 a j (by omega) (by omega) (by omega) (by omega))) hN (by omega) hv.tr.1 (by omega) (by omega) r3 (fun J qJ oJ => ?_)
    have RJ : RX J x := hR.pr hv (fun a j w => by rw [qJ.1 a j (by unfold Qpw; omega)]; exact k4 a j (by omega) (by omega) (by omega) (by omega)) ⟨by rw [qJ.1 0 18 (by unfold Qpw; omega), k4 0 18 (by omega) (by omega) (by omega) (by omega)]; exact hR.2.2.1.2.2.2.2.2.2.2.1, oJ⟩
    have hKJ := hK J (c4.tr (Qpw_cl (by decide) qJ)) RJ
    rw [hu]
    by_cases c : prt (sgN x) f.1 = prt (sgN x) g.1
    · rw [if_pos c] at hKJ ⊢
      rw [if_neg (show ¬ (1 : Int32) = 0 by decide)]
      exact ⟨Or.inr rfl, hKJ⟩
    · rw [if_neg c] at hKJ ⊢
      rw [if_pos (show (0 : Int32) = 0 from rfl)]
      exact ⟨Or.inl rfl, hKJ⟩
  intro P38 h38
  by_cases hl : (prt (sgN x) f.1).length = (prt (sgN x) g.1).length
  · rw [if_pos (show zi (prt (sgN x) f.1).length = zi (prt (sgN x) g.1).length by rw [hl])]
    refine h38 1 ?_
    intro P43 h43
    have main : ∀ (d i : Nat), i + d = (prt (sgN x) f.1).length → (∀ k : Nat, k < i → (prt (sgN x) f.1)[k]? = (prt (sgN x) g.1)[k]?) → P43 1 (zi i) := by
      intro d
      induction d with
      | zero =>
        intro i hi hk
        refine h43 _ _ ?_
        intro P88 h88
        rw [if_neg (show ¬ (1 : Int32) = 0 by decide), if_pos ((zi_le (by omega) (by omega)).mpr (by omega))]
        refine h88 (stop 1 ?_)
        have he : prt (sgN x) f.1 = prt (sgN x) g.1 := by
          refine List.ext_getElem? (fun k => ?_)
          by_cases hki : k < i
          · exact hk k hki
          · rw [List.getElem?_eq_none (by omega), List.getElem?_eq_none (by omega)]
        rw [if_pos he]
      | succ d ih =>
        intro i hi hk
        refine h43 _ _ ?_
        intro P88 h88
        rw [if_neg (show ¬ (1 : Int32) = 0 by decide), if_neg (nle_zi (by omega) (by omega))]
        have e1 : (prt (sgN x) f.1)[i]? = some ((prt (sgN x) f.1)[i]'(by omega)) := List.getElem?_eq_getElem (by omega)
        have e2 : (prt (sgN x) g.1)[i]? = some ((prt (sgN x) g.1)[i]'(by omega)) := List.getElem?_eq_getElem (by omega)
        generalize (prt (sgN x) f.1)[i]'(by omega) = y1 at e1
        generalize (prt (sgN x) g.1)[i]'(by omega) = y2 at e2
        refine (w_get (by decide)).mpr ((w_get (by decide)).mpr ?_)
        rw [rg_in (by decide) (show i < 700 by omega), rg_in (by decide) (show i < 700 by omega), show I4.1 (109 + 1) i = y1 from oA i y1 e1, show I4.1 (111 + 1) i = y2 from o4 i y2 e2]
        intro P80 h80
        by_cases c : y1 = y2
        · rw [if_pos c]
          refine h80 1 (fun v ev => ?_)
          rw [ev, zi_succ]
          refine ih (i + 1) (by omega) (fun k hk' => ?_)
          by_cases u : k = i
          · rw [u, e1, e2, c]
          · exact hk k (by omega)
        · rw [if_neg c]
          refine h80 0 (fun v ev => ?_)
          refine h43 _ _ ?_
          intro P88' h88'
          rw [if_pos (show (0 : Int32) = 0 from rfl)]
          refine h88' (stop 0 ?_)
          rw [if_neg (fun w => c (by rw [w, e2] at e1; exact (Option.some.inj e1).symm))]
    exact main _ 0 (Nat.zero_add _) (fun k hk => absurd hk (Nat.not_lt_zero k))
  · rw [if_neg (show ¬ zi (prt (sgN x) f.1).length = zi (prt (sgN x) g.1).length from fun u => hl ((zi_eq (by omega) (by omega)).mp u))]
    refine h38 0 ?_
    intro P43 h43
    refine h43 _ _ ?_
    intro P88 h88
    rw [if_pos (show (0 : Int32) = 0 from rfl)]
    refine h88 (stop 0 ?_)
    rw [if_neg (fun w => hl (by rw [w]))]
theorem t_alike {x : Sg} {a b : Int32} {I : zI} {K : Int32 → zI → Prop} (hv : Iv x) (hR : RX I x) (hK : ∀ J, eqQ Qcl I J → RX J x → K (vAlike x a b) J) : w_Desk_alike a b I K := by
  unfold w_Desk_alike
  unfold vAlike at hK
  refine t_holdsE hv hR (fun p f hp e hlt e2 hr => ?_) (fun p f hp e2 hr => ?_) (fun e => ?_)
  · rw [e2] at hK
    dsimp only at hK
    rw [ffA_at hp, if_pos hr] at hK
    rw [if_neg (show ¬ (1 : Int32) = 0 by decide)]
    refine t_holdsE hv hR (fun q g hq e' hlt' e2' hr' => ?_) (fun q g hq e2' hr' => ?_) (fun e' => ?_)
    · rw [e2'] at hK
      dsimp only at hK
      rw [ffA_at hq, if_pos hr'] at hK
      rw [if_neg (show ¬ (1 : Int32) = 0 by decide), e, e']
      exact t_prAlike hv hR hp hq hK
    · rw [e2'] at hK
      dsimp only at hK
      rw [ffA_at hq, if_neg hr'] at hK
      rw [if_pos rfl]
      exact hK I eqQ.rf hR
    · rw [e'] at hK
      dsimp only at hK
      rw [if_pos rfl]
      exact hK I eqQ.rf hR
  · rw [e2] at hK
    dsimp only at hK
    rw [ffA_at hp, if_neg hr] at hK
    rw [if_pos rfl]
    exact hK I eqQ.rf hR
  · rw [e] at hK
    dsimp only at hK
    rw [if_pos rfl]
    exact hK I eqQ.rf hR
theorem q_alike {x : Sg} {a b : Int32} {I : zI} {K : Int32 → zI → Prop} (hv : Iv x) (hR : RX I x) (h : ∀ v J, eqQ Qcl I J → RX J x → K v J) : w_Desk_alike a b I K := t_alike hv hR (fun J q r => h _ J q r)
/-! ===== NAMES, what was RUN: what the class answers ===== -/
theorem RX.ev {I : zI} {x : Sg} (h : RX I x) : EvX I (sgN x) (moR (sgC x)) := h.2.2.1.2.2.2.2.2.2.1
/-! ===== what NAMES are when all was RUN: the model ===== -/
/-- the model's list of NAMES, and what they are -/
def NvM (I : zI) (S : List Int64) (en : Int64 → Int32) : Prop := ∃ nm : List Int64, I.1 491 55 = zi nm.length ∧ (∀ (i : Nat) (v : Int64), nm[i]? = some v → I.2 530 i = v ∧ I.1 531 i = en v) ∧ nm.Nodup ∧ (∀ v ∈ nm, v ∈ S) ∧ ∀ v, v ∉ nm → en v = 0
theorem NvM.kp {I J : zI} {S : List Int64} {en : Int64 → Int32} (h : NvM I S en) (e1 : J.1 491 55 = I.1 491 55) (e2 : ∀ j, J.2 530 j = I.2 530 j) (e3 : ∀ j, J.1 531 j = I.1 531 j) : NvM J S en := by
  obtain ⟨nm, n1, n2, n3, n4, n5⟩ := h
  exact ⟨nm, e1.trans n1, fun i v hi => ⟨(e2 i).trans (n2 i v hi).1, (e3 i).trans (n2 i v hi).2⟩, n3, n4, n5⟩
theorem NvM.nm {I : zI} {S : List Int64} {en : Int64 → Int32} (h : NvM I S en) : NmM I S := by
  obtain ⟨nm, n1, n2, n3, n4, n5⟩ := h
  exact ⟨nm, n1, fun i v hi => (n2 i v hi).1, n3, n4⟩
/-! ===== the cases one by one ===== -/
theorem zcm {a : Int32} {P : Prop} (h : P) : (if a = a then P else False) := by
  rw [if_pos rfl]
  exact h
theorem lw_0 {L : Nat} {xs : Nat → Int32} {v3 : Int32} {I : zI} {x : Sg} {J : zI → Prop} (B : Bov I x) (he : sgE x < 100000) (v1 : vp_in (v3 + 1) L) (v2 : vp_in (v3 + 2) L) (v3h : vp_in (v3 + 3) L) (v4 : vp_in (v3 + 4) L) (v5 : vp_in (v3 + 5) L) (hJ : ∀ I2 x2, Bov I2 x2 → sgE x2 ≤ sgE x + 1 → J I2) : w_lawc_0 L xs v3 I J := by
  unfold w_lawc_0
  have hl := B.2.2.1.1.1
  have qc : ∀ {A C : zI}, eqQ Qtx A C → eqQ Qcl A C := fun q => q.mono (fun a j h => by unfold Qtx at h; unfold Qcl; omega)
  have qm : ∀ {A C : zI}, eqQ Qtm A C → eqQ Qmo A C := fun q => q.mono (fun a j h => by unfold Qtm at h; unfold Qmo; omega)
  refine ⟨v1, v2, v3h, v4, v5, s_feed B.1.1 hl (fun h20 I2 q t => ?_) (fun h20 => ?_)⟩
  · refine ⟨v1, v2, v3h, v4, v5, s_Mfeed (B.2.1.cl B.2.2.1 (qc q)).1 hl (fun _ I4 q4 t4 => ?_) (fun h0 => absurd h20 h0)⟩
    have ls : Lsv (sgT x ++ by20 (xs (Int32.toNatClampNeg (v3 + 1))) (xs (Int32.toNatClampNeg (v3 + 2))) (xs (Int32.toNatClampNeg (v3 + 3))) (xs (Int32.toNatClampNeg (v3 + 4))) (xs (Int32.toNatClampNeg (v3 + 5))), x.2) := tape_ls B.2.2 (by rw [List.length_append]; exact h20) (fun b hb => by
      rcases List.mem_append.mp hb with hb | hb
      · exact B.2.2.1.1.2 b hb
      · exact by20_bt _ _ _ _ _ b hb)
    exact hJ I4 _ ⟨(B.1.tp B.2.2.1 q t).mo ls.1 (qm q4), (B.2.1.cl B.2.2.1 (qc q)).tp B.2.2.1 q4 t4, ls⟩ (Nat.le_succ _)
  · exact ⟨v1, v2, v3h, v4, v5, s_Mfeed B.2.1.1 hl (fun h0 => absurd h0 h20) (fun _ => hJ I x B (Nat.le_succ _))⟩
theorem lw_1 {L : Nat} {xs : Nat → Int32} {v3 : Int32} {I : zI} {x : Sg} {J : zI → Prop} (B : Bov I x) (he : sgE x < 100000) (v1 : vp_in (v3 + 1) L) (v2 : vp_in (v3 + 2) L) (v3h : vp_in (v3 + 3) L) (v4 : vp_in (v3 + 4) L) (v5 : vp_in (v3 + 5) L) (hJ : ∀ I2 x2, Bov I2 x2 → sgE x2 ≤ sgE x + 1 → J I2) : w_lawc_1 L xs v3 I J := by
  unfold w_lawc_1
  have hl := B.2.2.1.1.1
  have qc : ∀ {A C : zI}, eqQ Qtx A C → eqQ Qcl A C := fun q => q.mono (fun a j h => by unfold Qtx at h; unfold Qcl; omega)
  have qm : ∀ {A C : zI}, eqQ Qtm A C → eqQ Qmo A C := fun q => q.mono (fun a j h => by unfold Qtm at h; unfold Qmo; omega)
  refine ⟨v1, s_back B.1.1 hl (fun k hk I2 q t => ⟨v1, ?_⟩) (fun hk => ⟨v1, ?_⟩)⟩
  · refine s_Mback (B.2.1.cl B.2.2.1 (qc q)).1 hl (fun k' hk' I4 q4 t4 => ?_) (fun hk' => ?_)
    · change backN (sgT x) _ = some k' at hk'
      rw [hk] at hk'
      cases hk'
      have ls : Lsv ((sgT x).take ((sgT x).length - k), x.2) := tape_ls B.2.2 (by rw [List.length_take]; omega) (fun b hb => B.2.2.1.1.2 b (List.mem_of_mem_take hb))
      exact hJ I4 _ ⟨(B.1.tp B.2.2.1 q t).mo ls.1 (qm q4), (B.2.1.cl B.2.2.1 (qc q)).tp B.2.2.1 q4 t4, ls⟩ (Nat.le_succ _)
    · change backN (sgT x) _ = none at hk'
      rw [hk] at hk'
      cases hk'
  · refine s_Mback B.2.1.1 hl (fun k' hk' I4 q4 t4 => ?_) (fun hk' => ?_)
    · change backN (sgT x) _ = some k' at hk'
      rw [hk] at hk'
      cases hk'
    · exact hJ I x B (Nat.le_succ _)
theorem lw_2 {L : Nat} {xs : Nat → Int32} {v3 : Int32} {I : zI} {x : Sg} {J : zI → Prop} (B : Bov I x) (he : sgE x < 100000) (v1 : vp_in (v3 + 1) L) (v2 : vp_in (v3 + 2) L) (v3h : vp_in (v3 + 3) L) (v4 : vp_in (v3 + 4) L) (v5 : vp_in (v3 + 5) L) (hJ : ∀ I2 x2, Bov I2 x2 → sgE x2 ≤ sgE x + 1 → J I2) : w_lawc_2 L xs v3 I J := by
  unfold w_lawc_2
  exact ⟨v1, ⟨v2, s_edit B.2.2.1 B.1 he (fun I2 q rx => ⟨v1, ⟨v2, s_Medit B.2.2.1 (B.2.1.cl B.2.2.1 q) he (fun I4 q4 r4 => hJ I4 _ ⟨rx.mo (edit_ls B.2.2 he).1.1 q4, r4, (edit_ls B.2.2 he).1⟩ (edit_ls B.2.2 he).2)⟩⟩)⟩⟩
theorem lw_3 {L : Nat} {xs : Nat → Int32} {v3 : Int32} {I : zI} {x : Sg} {J : zI → Prop} (B : Bov I x) (he : sgE x < 100000) (v1 : vp_in (v3 + 1) L) (v2 : vp_in (v3 + 2) L) (v3h : vp_in (v3 + 3) L) (v4 : vp_in (v3 + 4) L) (v5 : vp_in (v3 + 5) L) (hJ : ∀ I2 x2, Bov I2 x2 → sgE x2 ≤ sgE x + 1 → J I2) : w_lawc_3 L xs v3 I J := by
  unfold w_lawc_3
  exact ⟨v1, s_rename B.2.2.1 B.1 he (fun I2 q rx => ⟨v1, s_Mrename B.2.2.1 (B.2.1.cl B.2.2.1 q) he (fun I4 q4 r4 => hJ I4 _ ⟨rx.mo (ren_ls B.2.2 he).1.1 q4, r4, (ren_ls B.2.2 he).1⟩ (ren_ls B.2.2 he).2)⟩)⟩
theorem lw_4 {L : Nat} {xs : Nat → Int32} {v3 : Int32} {I : zI} {x : Sg} {J : zI → Prop} (B : Bov I x) (he : sgE x < 100000) (v1 : vp_in (v3 + 1) L) (v2 : vp_in (v3 + 2) L) (v3h : vp_in (v3 + 3) L) (v4 : vp_in (v3 + 4) L) (v5 : vp_in (v3 + 5) L) (hJ : ∀ I2 x2, Bov I2 x2 → sgE x2 ≤ sgE x + 1 → J I2) : w_lawc_4 L xs v3 I J := by
  unfold w_lawc_4
  exact ⟨v1, s_cut B.2.2.1 B.1 he (fun I2 q rx => ⟨v1, s_Mcut B.2.2.1 (B.2.1.cl B.2.2.1 q) he (fun I4 q4 r4 => hJ I4 _ ⟨rx.mo (run_ls B.2.2 (fun k => ((tx_bt B.2.2.1).sg).app ((tx_bt B.2.2.1).sg)) he).1.1 q4, r4, (run_ls B.2.2 (fun k => ((tx_bt B.2.2.1).sg).app ((tx_bt B.2.2.1).sg)) he).1⟩ (run_ls B.2.2 (fun k => ((tx_bt B.2.2.1).sg).app ((tx_bt B.2.2.1).sg)) he).2)⟩)⟩
theorem lw_5 {L : Nat} {xs : Nat → Int32} {v3 : Int32} {I : zI} {x : Sg} {J : zI → Prop} (B : Bov I x) (he : sgE x < 100000) (v1 : vp_in (v3 + 1) L) (v2 : vp_in (v3 + 2) L) (v3h : vp_in (v3 + 3) L) (v4 : vp_in (v3 + 4) L) (v5 : vp_in (v3 + 5) L) (hJ : ∀ I2 x2, Bov I2 x2 → sgE x2 ≤ sgE x + 1 → J I2) : w_lawc_5 L xs v3 I J := by
  unfold w_lawc_5
  exact ⟨v1, s_twin B.2.2.1 B.1 he (fun I2 q rx => ⟨v1, s_Mtwin B.2.2.1 (B.2.1.cl B.2.2.1 q) he (fun I4 q4 r4 => hJ I4 _ ⟨rx.mo (run_ls B.2.2 (fun k => ((tx_bt B.2.2.1).sg).app ((tx_bt B.2.2.1).sg)) he).1.1 q4, r4, (run_ls B.2.2 (fun k => ((tx_bt B.2.2.1).sg).app ((tx_bt B.2.2.1).sg)) he).1⟩ (run_ls B.2.2 (fun k => ((tx_bt B.2.2.1).sg).app ((tx_bt B.2.2.1).sg)) he).2)⟩)⟩
theorem lw_6 {L : Nat} {xs : Nat → Int32} {v3 : Int32} {I : zI} {x : Sg} {J : zI → Prop} (B : Bov I x) (he : sgE x < 100000) (v1 : vp_in (v3 + 1) L) (v2 : vp_in (v3 + 2) L) (v3h : vp_in (v3 + 3) L) (v4 : vp_in (v3 + 4) L) (v5 : vp_in (v3 + 5) L) (hJ : ∀ I2 x2, Bov I2 x2 → sgE x2 ≤ sgE x + 1 → J I2) : w_lawc_6 L xs v3 I J := by
  unfold w_lawc_6
  exact ⟨v1, s_swap B.2.2.1 B.1 he (fun I2 q rx => ⟨v1, s_Mswap B.2.2.1 (B.2.1.cl B.2.2.1 q) he (fun I4 q4 r4 => hJ I4 _ ⟨rx.mo (swap_ls B.2.2 he).1.1 q4, r4, (swap_ls B.2.2 he).1⟩ (swap_ls B.2.2 he).2)⟩)⟩
theorem lw_7 {L : Nat} {xs : Nat → Int32} {v3 : Int32} {I : zI} {x : Sg} {J : zI → Prop} (B : Bov I x) (he : sgE x < 100000) (v1 : vp_in (v3 + 1) L) (v2 : vp_in (v3 + 2) L) (v3h : vp_in (v3 + 3) L) (v4 : vp_in (v3 + 4) L) (v5 : vp_in (v3 + 5) L) (hJ : ∀ I2 x2, Bov I2 x2 → sgE x2 ≤ sgE x + 1 → J I2) : w_lawc_7 L xs v3 I J := by
  unfold w_lawc_7
  exact s_undo B.2.2.1 B.1 (fun I2 q rx => s_Mundo B.2.2.1 (B.2.1.cl B.2.2.1 q) (fun I4 q4 r4 => hJ I4 _ ⟨rx.mo (undo_ls B.2.2).1.1 q4, r4, (undo_ls B.2.2).1⟩ (undo_ls B.2.2).2))
theorem lw_8 {L : Nat} {xs : Nat → Int32} {v3 : Int32} {I : zI} {x : Sg} {J : zI → Prop} (B : Bov I x) (he : sgE x < 100000) (v1 : vp_in (v3 + 1) L) (v2 : vp_in (v3 + 2) L) (v3h : vp_in (v3 + 3) L) (v4 : vp_in (v3 + 4) L) (v5 : vp_in (v3 + 5) L) (hJ : ∀ I2 x2, Bov I2 x2 → sgE x2 ≤ sgE x + 1 → J I2) : w_lawc_8 L xs v3 I J := by
  unfold w_lawc_8
  exact s_redo B.2.2.1 B.1 (fun I2 q rx => s_Mredo B.2.2.1 (B.2.1.cl B.2.2.1 q) (fun I4 q4 r4 => hJ I4 _ ⟨rx.mo (redo_ls B.2.2).1.1 q4, r4, (redo_ls B.2.2).1⟩ (redo_ls B.2.2).2))
theorem lw_9 {L : Nat} {xs : Nat → Int32} {v3 : Int32} {I : zI} {x : Sg} {J : zI → Prop} (B : Bov I x) (he : sgE x < 100000) (v1 : vp_in (v3 + 1) L) (v2 : vp_in (v3 + 2) L) (v3h : vp_in (v3 + 3) L) (v4 : vp_in (v3 + 4) L) (v5 : vp_in (v3 + 5) L) (hJ : ∀ I2 x2, Bov I2 x2 → sgE x2 ≤ sgE x + 1 → J I2) : w_lawc_9 L xs v3 I J := by
  unfold w_lawc_9
  exact ⟨v1, q_text B.1 (fun _ => ⟨v1, m_text B.2.2.1 B.2.1 (fun _ => hJ I x B (Nat.le_succ _))⟩)⟩
theorem lw_10 {L : Nat} {xs : Nat → Int32} {v3 : Int32} {I : zI} {x : Sg} {J : zI → Prop} (B : Bov I x) (he : sgE x < 100000) (v1 : vp_in (v3 + 1) L) (v2 : vp_in (v3 + 2) L) (v3h : vp_in (v3 + 3) L) (v4 : vp_in (v3 + 4) L) (v5 : vp_in (v3 + 5) L) (hJ : ∀ I2 x2, Bov I2 x2 → sgE x2 ≤ sgE x + 1 → J I2) : w_lawc_10 L xs v3 I J := by
  unfold w_lawc_10
  exact ⟨v1, ⟨v2, q_token B.1 (fun _ => ⟨v1, ⟨v2, m_token B.2.2.1 B.2.1 (fun _ => hJ I x B (Nat.le_succ _))⟩⟩)⟩⟩
theorem lw_11 {L : Nat} {xs : Nat → Int32} {v3 : Int32} {I : zI} {x : Sg} {J : zI → Prop} (B : Bov I x) (he : sgE x < 100000) (v1 : vp_in (v3 + 1) L) (v2 : vp_in (v3 + 2) L) (v3h : vp_in (v3 + 3) L) (v4 : vp_in (v3 + 4) L) (v5 : vp_in (v3 + 5) L) (hJ : ∀ I2 x2, Bov I2 x2 → sgE x2 ≤ sgE x + 1 → J I2) : w_lawc_11 L xs v3 I J := by
  unfold w_lawc_11
  exact ⟨v1, q_good B.1 (fun _ => ⟨v1, m_good (B.2.1.view B.2.2.1) (fun _ => hJ I x B (Nat.le_succ _))⟩)⟩
theorem lw_12 {L : Nat} {xs : Nat → Int32} {v3 : Int32} {I : zI} {x : Sg} {J : zI → Prop} (B : Bov I x) (he : sgE x < 100000) (v1 : vp_in (v3 + 1) L) (v2 : vp_in (v3 + 2) L) (v3h : vp_in (v3 + 3) L) (v4 : vp_in (v3 + 4) L) (v5 : vp_in (v3 + 5) L) (hJ : ∀ I2 x2, Bov I2 x2 → sgE x2 ≤ sgE x + 1 → J I2) : w_lawc_12 L xs v3 I J := by
  unfold w_lawc_12
  exact ⟨v1, ⟨v2, q_node B.1 (fun _ => ⟨v1, ⟨v2, m_node (B.2.1.view B.2.2.1) (fun _ => hJ I x B (Nat.le_succ _))⟩⟩)⟩⟩
theorem lw_13 {L : Nat} {xs : Nat → Int32} {v3 : Int32} {I : zI} {x : Sg} {J : zI → Prop} (B : Bov I x) (he : sgE x < 100000) (v1 : vp_in (v3 + 1) L) (v2 : vp_in (v3 + 2) L) (v3h : vp_in (v3 + 3) L) (v4 : vp_in (v3 + 4) L) (v5 : vp_in (v3 + 5) L) (hJ : ∀ I2 x2, Bov I2 x2 → sgE x2 ≤ sgE x + 1 → J I2) : w_lawc_13 L xs v3 I J := by
  unfold w_lawc_13
  exact ⟨v1, ⟨v2, q_child  (fun _ => ⟨v1, ⟨v2, m_child (B.2.1.view B.2.2.1) (fun _ => hJ I x B (Nat.le_succ _))⟩⟩)⟩⟩
theorem lw_14 {L : Nat} {xs : Nat → Int32} {v3 : Int32} {I : zI} {x : Sg} {J : zI → Prop} (B : Bov I x) (he : sgE x < 100000) (v1 : vp_in (v3 + 1) L) (v2 : vp_in (v3 + 2) L) (v3h : vp_in (v3 + 3) L) (v4 : vp_in (v3 + 4) L) (v5 : vp_in (v3 + 5) L) (hJ : ∀ I2 x2, Bov I2 x2 → sgE x2 ≤ sgE x + 1 → J I2) : w_lawc_14 L xs v3 I J := by
  unfold w_lawc_14
  exact ⟨v1, q_last  (fun _ => ⟨v1, m_last (fun _ => hJ I x B (Nat.le_succ _))⟩)⟩
theorem lw_15 {L : Nat} {xs : Nat → Int32} {v3 : Int32} {I : zI} {x : Sg} {J : zI → Prop} (B : Bov I x) (he : sgE x < 100000) (v1 : vp_in (v3 + 1) L) (v2 : vp_in (v3 + 2) L) (v3h : vp_in (v3 + 3) L) (v4 : vp_in (v3 + 4) L) (v5 : vp_in (v3 + 5) L) (hJ : ∀ I2 x2, Bov I2 x2 → sgE x2 ≤ sgE x + 1 → J I2) : w_lawc_15 L xs v3 I J := by
  unfold w_lawc_15
  unfold w_Desk_fresh
  exact s_fresh B.2.2.1 B.2.1 (fun _ I2 q r => hJ I2 x ⟨B.1.mo B.2.2.1 q, r, B.2.2⟩ (Nat.le_succ _))
theorem lw_16 {L : Nat} {xs : Nat → Int32} {v3 : Int32} {I : zI} {x : Sg} {J : zI → Prop} (B : Bov I x) (he : sgE x < 100000) (v1 : vp_in (v3 + 1) L) (v2 : vp_in (v3 + 2) L) (v3h : vp_in (v3 + 3) L) (v4 : vp_in (v3 + 4) L) (v5 : vp_in (v3 + 5) L) (hJ : ∀ I2 x2, Bov I2 x2 → sgE x2 ≤ sgE x + 1 → J I2) : w_lawc_16 L xs v3 I J := by
  unfold w_lawc_16
  exact ⟨v1, q_inTheWay B.2.2.1 B.1 (fun _ I2 q rx => ⟨v1, s_inTheWay B.2.2.1 (B.2.1.cl B.2.2.1 q) (fun _ I4 q4 r4 => hJ I4 x ⟨rx.mo B.2.2.1 q4, r4, B.2.2⟩ (Nat.le_succ _))⟩)⟩
theorem lw_17 {L : Nat} {xs : Nat → Int32} {v3 : Int32} {I : zI} {x : Sg} {J : zI → Prop} (B : Bov I x) (he : sgE x < 100000) (v1 : vp_in (v3 + 1) L) (v2 : vp_in (v3 + 2) L) (v3h : vp_in (v3 + 3) L) (v4 : vp_in (v3 + 4) L) (v5 : vp_in (v3 + 5) L) (hJ : ∀ I2 x2, Bov I2 x2 → sgE x2 ≤ sgE x + 1 → J I2) : w_lawc_17 L xs v3 I J := by
  unfold w_lawc_17
  exact q_expected B.2.2.1 B.1 (fun _ I2 q rx => s_expected B.2.2.1 B.2.2.2.1 (B.2.1.cl B.2.2.1 q) (fun _ I4 q4 r4 => hJ I4 x ⟨rx.mo B.2.2.1 q4, r4, B.2.2⟩ (Nat.le_succ _)))
theorem lw_18 {L : Nat} {xs : Nat → Int32} {v3 : Int32} {I : zI} {x : Sg} {J : zI → Prop} (B : Bov I x) (he : sgE x < 100000) (v1 : vp_in (v3 + 1) L) (v2 : vp_in (v3 + 2) L) (v3h : vp_in (v3 + 3) L) (v4 : vp_in (v3 + 4) L) (v5 : vp_in (v3 + 5) L) (hJ : ∀ I2 x2, Bov I2 x2 → sgE x2 ≤ sgE x + 1 → J I2) : w_lawc_18 L xs v3 I J := by
  unfold w_lawc_18
  exact ⟨v1, q_mend B.2.2.1 B.1 (fun _ I2 q rx => ⟨v1, s_mend B.2.2.1 (B.2.1.cl B.2.2.1 q) (fun _ I4 q4 r4 => hJ I4 x ⟨rx.mo B.2.2.1 q4, r4, B.2.2⟩ (Nat.le_succ _))⟩)⟩
theorem lw_19 {L : Nat} {xs : Nat → Int32} {v3 : Int32} {I : zI} {x : Sg} {J : zI → Prop} (B : Bov I x) (he : sgE x < 100000) (v1 : vp_in (v3 + 1) L) (v2 : vp_in (v3 + 2) L) (v3h : vp_in (v3 + 3) L) (v4 : vp_in (v3 + 4) L) (v5 : vp_in (v3 + 5) L) (hJ : ∀ I2 x2, Bov I2 x2 → sgE x2 ≤ sgE x + 1 → J I2) : w_lawc_19 L xs v3 I J := by
  unfold w_lawc_19
  exact ⟨v1, q_print  (fun _ => ⟨v1, m_print B.2.2.1 B.2.1 (fun _ I2 q r => hJ I2 x ⟨B.1.mo B.2.2.1 q, r, B.2.2⟩ (Nat.le_succ _))⟩)⟩
theorem lw_20 {L : Nat} {xs : Nat → Int32} {v3 : Int32} {I : zI} {x : Sg} {J : zI → Prop} (B : Bov I x) (he : sgE x < 100000) (v1 : vp_in (v3 + 1) L) (v2 : vp_in (v3 + 2) L) (v3h : vp_in (v3 + 3) L) (v4 : vp_in (v3 + 4) L) (v5 : vp_in (v3 + 5) L) (hJ : ∀ I2 x2, Bov I2 x2 → sgE x2 ≤ sgE x + 1 → J I2) : w_lawc_20 L xs v3 I J := by
  unfold w_lawc_20
  exact ⟨v1, q_ruled  (fun _ => ⟨v1, m_ruled (B.2.1.view B.2.2.1) (fun _ => hJ I x B (Nat.le_succ _))⟩)⟩
theorem lw_21 {L : Nat} {xs : Nat → Int32} {v3 : Int32} {I : zI} {x : Sg} {J : zI → Prop} (B : Bov I x) (he : sgE x < 100000) (v1 : vp_in (v3 + 1) L) (v2 : vp_in (v3 + 2) L) (v3h : vp_in (v3 + 3) L) (v4 : vp_in (v3 + 4) L) (v5 : vp_in (v3 + 5) L) (hJ : ∀ I2 x2, Bov I2 x2 → sgE x2 ≤ sgE x + 1 → J I2) : w_lawc_21 L xs v3 I J := by
  unfold w_lawc_21
  exact ⟨v1, q_row B.1 (fun _ => ⟨v1, m_row B.2.2.1 B.2.2.2.2.1 B.2.1 (fun _ I2 q r => hJ I2 x ⟨B.1.mo B.2.2.1 q, r, B.2.2⟩ (Nat.le_succ _))⟩)⟩
theorem lw_22 {L : Nat} {xs : Nat → Int32} {v3 : Int32} {I : zI} {x : Sg} {J : zI → Prop} (B : Bov I x) (he : sgE x < 100000) (v1 : vp_in (v3 + 1) L) (v2 : vp_in (v3 + 2) L) (v3h : vp_in (v3 + 3) L) (v4 : vp_in (v3 + 4) L) (v5 : vp_in (v3 + 5) L) (hJ : ∀ I2 x2, Bov I2 x2 → sgE x2 ≤ sgE x + 1 → J I2) : w_lawc_22 L xs v3 I J := by
  unfold w_lawc_22
  exact ⟨v1, ⟨v2, q_pair  (fun _ => ⟨v1, ⟨v2, m_pair B.2.2.1 B.2.1 (fun _ => hJ I x B (Nat.le_succ _))⟩⟩)⟩⟩
theorem lw_23 {L : Nat} {xs : Nat → Int32} {v3 : Int32} {I : zI} {x : Sg} {J : zI → Prop} (B : Bov I x) (he : sgE x < 100000) (v1 : vp_in (v3 + 1) L) (v2 : vp_in (v3 + 2) L) (v3h : vp_in (v3 + 3) L) (v4 : vp_in (v3 + 4) L) (v5 : vp_in (v3 + 5) L) (hJ : ∀ I2 x2, Bov I2 x2 → sgE x2 ≤ sgE x + 1 → J I2) : w_lawc_23 L xs v3 I J := by
  unfold w_lawc_23
  exact ⟨v1, q_young  (fun _ => ⟨v1, m_young B.2.2.1 B.2.1 (fun _ => hJ I x B (Nat.le_succ _))⟩)⟩
theorem lw_24 {L : Nat} {xs : Nat → Int32} {v3 : Int32} {I : zI} {x : Sg} {J : zI → Prop} (B : Bov I x) (he : sgE x < 100000) (v1 : vp_in (v3 + 1) L) (v2 : vp_in (v3 + 2) L) (v3h : vp_in (v3 + 3) L) (v4 : vp_in (v3 + 4) L) (v5 : vp_in (v3 + 5) L) (hJ : ∀ I2 x2, Bov I2 x2 → sgE x2 ≤ sgE x + 1 → J I2) : w_lawc_24 L xs v3 I J := by
  unfold w_lawc_24
  exact ⟨v1, q_beside  (fun _ => ⟨v1, m_besideOf (B.2.1.view B.2.2.1) (fun _ => hJ I x B (Nat.le_succ _))⟩)⟩
theorem lw_25 {L : Nat} {xs : Nat → Int32} {v3 : Int32} {I : zI} {x : Sg} {J : zI → Prop} (B : Bov I x) (he : sgE x < 100000) (v1 : vp_in (v3 + 1) L) (v2 : vp_in (v3 + 2) L) (v3h : vp_in (v3 + 3) L) (v4 : vp_in (v3 + 4) L) (v5 : vp_in (v3 + 5) L) (hJ : ∀ I2 x2, Bov I2 x2 → sgE x2 ≤ sgE x + 1 → J I2) : w_lawc_25 L xs v3 I J := by
  unfold w_lawc_25
  exact ⟨v1, ⟨v2, q_span B.1 (fun _ => ⟨v1, ⟨v2, m_span (B.2.1.view B.2.2.1) (fun _ => hJ I x B (Nat.le_succ _))⟩⟩)⟩⟩
theorem lw_26 {L : Nat} {xs : Nat → Int32} {v3 : Int32} {I : zI} {x : Sg} {J : zI → Prop} (B : Bov I x) (he : sgE x < 100000) (v1 : vp_in (v3 + 1) L) (v2 : vp_in (v3 + 2) L) (v3h : vp_in (v3 + 3) L) (v4 : vp_in (v3 + 4) L) (v5 : vp_in (v3 + 5) L) (hJ : ∀ I2 x2, Bov I2 x2 → sgE x2 ≤ sgE x + 1 → J I2) : w_lawc_26 L xs v3 I J := by
  unfold w_lawc_26
  exact ⟨v1, q_under B.1 (fun _ => ⟨v1, m_under B.2.2.1 B.2.1 (fun _ => hJ I x B (Nat.le_succ _))⟩)⟩
theorem lw_27 {L : Nat} {xs : Nat → Int32} {v3 : Int32} {I : zI} {x : Sg} {J : zI → Prop} (B : Bov I x) (he : sgE x < 100000) (v1 : vp_in (v3 + 1) L) (v2 : vp_in (v3 + 2) L) (v3h : vp_in (v3 + 3) L) (v4 : vp_in (v3 + 4) L) (v5 : vp_in (v3 + 5) L) (hJ : ∀ I2 x2, Bov I2 x2 → sgE x2 ≤ sgE x + 1 → J I2) : w_lawc_27 L xs v3 I J := by
  unfold w_lawc_27
  exact ⟨v1, q_before  (fun _ => ⟨v1, m_besideOf (B.2.1.view B.2.2.1) (fun _ => hJ I x B (Nat.le_succ _))⟩)⟩
theorem lw_28 {L : Nat} {xs : Nat → Int32} {v3 : Int32} {I : zI} {x : Sg} {J : zI → Prop} (B : Bov I x) (he : sgE x < 100000) (v1 : vp_in (v3 + 1) L) (v2 : vp_in (v3 + 2) L) (v3h : vp_in (v3 + 3) L) (v4 : vp_in (v3 + 4) L) (v5 : vp_in (v3 + 5) L) (hJ : ∀ I2 x2, Bov I2 x2 → sgE x2 ≤ sgE x + 1 → J I2) : w_lawc_28 L xs v3 I J := by
  unfold w_lawc_28
  exact hJ I x B (Nat.le_succ _)
theorem lw_29 {L : Nat} {xs : Nat → Int32} {v3 : Int32} {I : zI} {x : Sg} {J : zI → Prop} (B : Bov I x) (he : sgE x < 100000) (v1 : vp_in (v3 + 1) L) (v2 : vp_in (v3 + 2) L) (v3h : vp_in (v3 + 3) L) (v4 : vp_in (v3 + 4) L) (v5 : vp_in (v3 + 5) L) (hJ : ∀ I2 x2, Bov I2 x2 → sgE x2 ≤ sgE x + 1 → J I2) : w_lawc_29 L xs v3 I J := by
  unfold w_lawc_29
  exact ⟨v1, t_run B.2.2.1 B.1 ⟨v1, u_run B.2.2.1 B.2.1 (zcm (hJ I x B (Nat.le_succ _)))⟩⟩
theorem lw_30 {L : Nat} {xs : Nat → Int32} {v3 : Int32} {I : zI} {x : Sg} {J : zI → Prop} (B : Bov I x) (he : sgE x < 100000) (v1 : vp_in (v3 + 1) L) (v2 : vp_in (v3 + 2) L) (v3h : vp_in (v3 + 3) L) (v4 : vp_in (v3 + 4) L) (v5 : vp_in (v3 + 5) L) (hJ : ∀ I2 x2, Bov I2 x2 → sgE x2 ≤ sgE x + 1 → J I2) : w_lawc_30 L xs v3 I J := by
  unfold w_lawc_30
  exact ⟨v1, q_value B.1 (fun _ => ⟨v1, m_value B.2.2.1 B.2.1 (fun _ I2 q r => hJ I2 x ⟨B.1.mo B.2.2.1 q, r, B.2.2⟩ (Nat.le_succ _))⟩)⟩
theorem lw_31 {L : Nat} {xs : Nat → Int32} {v3 : Int32} {I : zI} {x : Sg} {J : zI → Prop} (B : Bov I x) (he : sgE x < 100000) (v1 : vp_in (v3 + 1) L) (v2 : vp_in (v3 + 2) L) (v3h : vp_in (v3 + 3) L) (v4 : vp_in (v3 + 4) L) (v5 : vp_in (v3 + 5) L) (hJ : ∀ I2 x2, Bov I2 x2 → sgE x2 ≤ sgE x + 1 → J I2) : w_lawc_31 L xs v3 I J := by
  unfold w_lawc_31
  exact ⟨v1, q_worth  (fun _ => ⟨v1, m_worth B.2.2.1 B.2.1 (fun _ I2 q r => hJ I2 x ⟨B.1.mo B.2.2.1 q, r, B.2.2⟩ (Nat.le_succ _))⟩)⟩
theorem lw_32 {L : Nat} {xs : Nat → Int32} {v3 : Int32} {I : zI} {x : Sg} {J : zI → Prop} (B : Bov I x) (he : sgE x < 100000) (v1 : vp_in (v3 + 1) L) (v2 : vp_in (v3 + 2) L) (v3h : vp_in (v3 + 3) L) (v4 : vp_in (v3 + 4) L) (v5 : vp_in (v3 + 5) L) (hJ : ∀ I2 x2, Bov I2 x2 → sgE x2 ≤ sgE x + 1 → J I2) : w_lawc_32 L xs v3 I J := by
  unfold w_lawc_32
  exact ⟨v1, ⟨v2, q_above B.1 (fun _ => ⟨v1, ⟨v2, m_above (B.2.1.view B.2.2.1) (fun _ => hJ I x B (Nat.le_succ _))⟩⟩)⟩⟩
theorem lw_33 {L : Nat} {xs : Nat → Int32} {v3 : Int32} {I : zI} {x : Sg} {J : zI → Prop} (B : Bov I x) (he : sgE x < 100000) (v1 : vp_in (v3 + 1) L) (v2 : vp_in (v3 + 2) L) (v3h : vp_in (v3 + 3) L) (v4 : vp_in (v3 + 4) L) (v5 : vp_in (v3 + 5) L) (hJ : ∀ I2 x2, Bov I2 x2 → sgE x2 ≤ sgE x + 1 → J I2) : w_lawc_33 L xs v3 I J := by
  unfold w_lawc_33
  exact ⟨v1, ⟨v2, q_common B.1 (fun _ => ⟨v1, ⟨v2, m_common (B.2.1.view B.2.2.1) (fun _ => hJ I x B (Nat.le_succ _))⟩⟩)⟩⟩
theorem lw_34 {L : Nat} {xs : Nat → Int32} {v3 : Int32} {I : zI} {x : Sg} {J : zI → Prop} (B : Bov I x) (he : sgE x < 100000) (v1 : vp_in (v3 + 1) L) (v2 : vp_in (v3 + 2) L) (v3h : vp_in (v3 + 3) L) (v4 : vp_in (v3 + 4) L) (v5 : vp_in (v3 + 5) L) (hJ : ∀ I2 x2, Bov I2 x2 → sgE x2 ≤ sgE x + 1 → J I2) : w_lawc_34 L xs v3 I J := by
  unfold w_lawc_34
  exact ⟨v1, q_uses B.1 (fun _ => ⟨v1, m_uses B.2.2.1 B.2.1 (fun _ => hJ I x B (Nat.le_succ _))⟩)⟩
theorem lw_35 {L : Nat} {xs : Nat → Int32} {v3 : Int32} {I : zI} {x : Sg} {J : zI → Prop} (B : Bov I x) (he : sgE x < 100000) (v1 : vp_in (v3 + 1) L) (v2 : vp_in (v3 + 2) L) (v3h : vp_in (v3 + 3) L) (v4 : vp_in (v3 + 4) L) (v5 : vp_in (v3 + 5) L) (hJ : ∀ I2 x2, Bov I2 x2 → sgE x2 ≤ sgE x + 1 → J I2) : w_lawc_35 L xs v3 I J := by
  unfold w_lawc_35
  exact ⟨v1, q_idle  (fun _ => ⟨v1, m_idle (B.2.1.view B.2.2.1) (fun _ => hJ I x B (Nat.le_succ _))⟩)⟩
theorem lw_36 {L : Nat} {xs : Nat → Int32} {v3 : Int32} {I : zI} {x : Sg} {J : zI → Prop} (B : Bov I x) (he : sgE x < 100000) (v1 : vp_in (v3 + 1) L) (v2 : vp_in (v3 + 2) L) (v3h : vp_in (v3 + 3) L) (v4 : vp_in (v3 + 4) L) (v5 : vp_in (v3 + 5) L) (hJ : ∀ I2 x2, Bov I2 x2 → sgE x2 ≤ sgE x + 1 → J I2) : w_lawc_36 L xs v3 I J := by
  unfold w_lawc_36
  exact ⟨v1, q_firm  (fun _ => ⟨v1, m_firm (B.2.1.view B.2.2.1) (fun _ => hJ I x B (Nat.le_succ _))⟩)⟩
theorem lw_37 {L : Nat} {xs : Nat → Int32} {v3 : Int32} {I : zI} {x : Sg} {J : zI → Prop} (B : Bov I x) (he : sgE x < 100000) (v1 : vp_in (v3 + 1) L) (v2 : vp_in (v3 + 2) L) (v3h : vp_in (v3 + 3) L) (v4 : vp_in (v3 + 4) L) (v5 : vp_in (v3 + 5) L) (hJ : ∀ I2 x2, Bov I2 x2 → sgE x2 ≤ sgE x + 1 → J I2) : w_lawc_37 L xs v3 I J := by
  unfold w_lawc_37
  exact ⟨v1, ⟨v2, q_alike B.2.2.1 B.1 (fun _ I2 q rx => ⟨v1, ⟨v2, m_alike B.2.2.1 (B.2.1.cl B.2.2.1 q) (fun _ I4 q4 r4 => hJ I4 x ⟨rx.mo B.2.2.1 q4, r4, B.2.2⟩ (Nat.le_succ _))⟩⟩)⟩⟩
theorem lw_38 {L : Nat} {xs : Nat → Int32} {v3 : Int32} {I : zI} {x : Sg} {J : zI → Prop} (B : Bov I x) (he : sgE x < 100000) (v1 : vp_in (v3 + 1) L) (v2 : vp_in (v3 + 2) L) (v3h : vp_in (v3 + 3) L) (v4 : vp_in (v3 + 4) L) (v5 : vp_in (v3 + 5) L) (hJ : ∀ I2 x2, Bov I2 x2 → sgE x2 ≤ sgE x + 1 → J I2) : w_lawc_38 L xs v3 I J := by
  unfold w_lawc_38
  exact ⟨v1, ⟨v2, q_path B.1 (fun _ => ⟨v1, ⟨v2, m_path (B.2.1.view B.2.2.1) (fun _ => hJ I x B (Nat.le_succ _))⟩⟩)⟩⟩
theorem lw_39 {L : Nat} {xs : Nat → Int32} {v3 : Int32} {I : zI} {x : Sg} {J : zI → Prop} (B : Bov I x) (he : sgE x < 100000) (v1 : vp_in (v3 + 1) L) (v2 : vp_in (v3 + 2) L) (v3h : vp_in (v3 + 3) L) (v4 : vp_in (v3 + 4) L) (v5 : vp_in (v3 + 5) L) (hJ : ∀ I2 x2, Bov I2 x2 → sgE x2 ≤ sgE x + 1 → J I2) : w_lawc_39 L xs v3 I J := by
  unfold w_lawc_39
  exact ⟨v1, q_sets B.1 (fun _ => ⟨v1, m_sets B.2.2.1 B.2.1 (fun _ => hJ I x B (Nat.le_succ _))⟩)⟩
theorem lw_40 {L : Nat} {xs : Nat → Int32} {v3 : Int32} {I : zI} {x : Sg} {J : zI → Prop} (B : Bov I x) (he : sgE x < 100000) (v1 : vp_in (v3 + 1) L) (v2 : vp_in (v3 + 2) L) (v3h : vp_in (v3 + 3) L) (v4 : vp_in (v3 + 4) L) (v5 : vp_in (v3 + 5) L) (hJ : ∀ I2 x2, Bov I2 x2 → sgE x2 ≤ sgE x + 1 → J I2) : w_lawc_40 L xs v3 I J := by
  unfold w_lawc_40
  exact ⟨v1, q_count B.1 (fun _ => ⟨v1, m_count B.2.2.1 B.2.1 (fun _ I2 q r => hJ I2 x ⟨B.1.mo B.2.2.1 q, r, B.2.2⟩ (Nat.le_succ _))⟩)⟩
/-! ===== the law's turns ===== -/
theorem lw_sw {L : Nat} {xs : Nat → Int32} {a v3 : Int32} {I : zI} {x : Sg} {J : zI → Prop} (B : Bov I x) (he : sgE x < 100000) (v1 : vp_in (v3 + 1) L) (v2 : vp_in (v3 + 2) L) (v3h : vp_in (v3 + 3) L) (v4 : vp_in (v3 + 4) L) (v5 : vp_in (v3 + 5) L) (hJ : ∀ I2 x2, Bov I2 x2 → sgE x2 ≤ sgE x + 1 → J I2) : w_law_sw L xs a v3 I J := by
  unfold w_law_sw
  by_cases c0 : a = 0
  · rw [if_pos c0]
    exact lw_0 B he v1 v2 v3h v4 v5 hJ
  rw [if_neg c0]
  by_cases c1 : a = 1
  · rw [if_pos c1]
    exact lw_1 B he v1 v2 v3h v4 v5 hJ
  rw [if_neg c1]
  by_cases c2 : a = 2
  · rw [if_pos c2]
    exact lw_2 B he v1 v2 v3h v4 v5 hJ
  rw [if_neg c2]
  by_cases c3 : a = 3
  · rw [if_pos c3]
    exact lw_3 B he v1 v2 v3h v4 v5 hJ
  rw [if_neg c3]
  by_cases c4 : a = 4
  · rw [if_pos c4]
    exact lw_4 B he v1 v2 v3h v4 v5 hJ
  rw [if_neg c4]
  by_cases c5 : a = 5
  · rw [if_pos c5]
    exact lw_5 B he v1 v2 v3h v4 v5 hJ
  rw [if_neg c5]
  by_cases c6 : a = 6
  · rw [if_pos c6]
    exact lw_6 B he v1 v2 v3h v4 v5 hJ
  rw [if_neg c6]
  by_cases c7 : a = 7
  · rw [if_pos c7]
    exact lw_7 B he v1 v2 v3h v4 v5 hJ
  rw [if_neg c7]
  by_cases c8 : a = 8
  · rw [if_pos c8]
    exact lw_8 B he v1 v2 v3h v4 v5 hJ
  rw [if_neg c8]
  by_cases c9 : a = 9
  · rw [if_pos c9]
    exact lw_9 B he v1 v2 v3h v4 v5 hJ
  rw [if_neg c9]
  by_cases c10 : a = 10
  · rw [if_pos c10]
    exact lw_10 B he v1 v2 v3h v4 v5 hJ
  rw [if_neg c10]
  by_cases c11 : a = 11
  · rw [if_pos c11]
    exact lw_11 B he v1 v2 v3h v4 v5 hJ
  rw [if_neg c11]
  by_cases c12 : a = 12
  · rw [if_pos c12]
    exact lw_12 B he v1 v2 v3h v4 v5 hJ
  rw [if_neg c12]
  by_cases c13 : a = 13
  · rw [if_pos c13]
    exact lw_13 B he v1 v2 v3h v4 v5 hJ
  rw [if_neg c13]
  by_cases c14 : a = 14
  · rw [if_pos c14]
    exact lw_14 B he v1 v2 v3h v4 v5 hJ
  rw [if_neg c14]
  by_cases c15 : a = 15
  · rw [if_pos c15]
    exact lw_15 B he v1 v2 v3h v4 v5 hJ
  rw [if_neg c15]
  by_cases c16 : a = 16
  · rw [if_pos c16]
    exact lw_16 B he v1 v2 v3h v4 v5 hJ
  rw [if_neg c16]
  by_cases c17 : a = 17
  · rw [if_pos c17]
    exact lw_17 B he v1 v2 v3h v4 v5 hJ
  rw [if_neg c17]
  by_cases c18 : a = 18
  · rw [if_pos c18]
    exact lw_18 B he v1 v2 v3h v4 v5 hJ
  rw [if_neg c18]
  by_cases c19 : a = 19
  · rw [if_pos c19]
    exact lw_19 B he v1 v2 v3h v4 v5 hJ
  rw [if_neg c19]
  by_cases c20 : a = 20
  · rw [if_pos c20]
    exact lw_20 B he v1 v2 v3h v4 v5 hJ
  rw [if_neg c20]
  by_cases c21 : a = 21
  · rw [if_pos c21]
    exact lw_21 B he v1 v2 v3h v4 v5 hJ
  rw [if_neg c21]
  by_cases c22 : a = 22
  · rw [if_pos c22]
    exact lw_22 B he v1 v2 v3h v4 v5 hJ
  rw [if_neg c22]
  by_cases c23 : a = 23
  · rw [if_pos c23]
    exact lw_23 B he v1 v2 v3h v4 v5 hJ
  rw [if_neg c23]
  by_cases c24 : a = 24
  · rw [if_pos c24]
    exact lw_24 B he v1 v2 v3h v4 v5 hJ
  rw [if_neg c24]
  by_cases c25 : a = 25
  · rw [if_pos c25]
    exact lw_25 B he v1 v2 v3h v4 v5 hJ
  rw [if_neg c25]
  by_cases c26 : a = 26
  · rw [if_pos c26]
    exact lw_26 B he v1 v2 v3h v4 v5 hJ
  rw [if_neg c26]
  by_cases c27 : a = 27
  · rw [if_pos c27]
    exact lw_27 B he v1 v2 v3h v4 v5 hJ
  rw [if_neg c27]
  by_cases c28 : a = 28
  · rw [if_pos c28]
    exact lw_28 B he v1 v2 v3h v4 v5 hJ
  rw [if_neg c28]
  by_cases c29 : a = 29
  · rw [if_pos c29]
    exact lw_29 B he v1 v2 v3h v4 v5 hJ
  rw [if_neg c29]
  by_cases c30 : a = 30
  · rw [if_pos c30]
    exact lw_30 B he v1 v2 v3h v4 v5 hJ
  rw [if_neg c30]
  by_cases c31 : a = 31
  · rw [if_pos c31]
    exact lw_31 B he v1 v2 v3h v4 v5 hJ
  rw [if_neg c31]
  by_cases c32 : a = 32
  · rw [if_pos c32]
    exact lw_32 B he v1 v2 v3h v4 v5 hJ
  rw [if_neg c32]
  by_cases c33 : a = 33
  · rw [if_pos c33]
    exact lw_33 B he v1 v2 v3h v4 v5 hJ
  rw [if_neg c33]
  by_cases c34 : a = 34
  · rw [if_pos c34]
    exact lw_34 B he v1 v2 v3h v4 v5 hJ
  rw [if_neg c34]
  by_cases c35 : a = 35
  · rw [if_pos c35]
    exact lw_35 B he v1 v2 v3h v4 v5 hJ
  rw [if_neg c35]
  by_cases c36 : a = 36
  · rw [if_pos c36]
    exact lw_36 B he v1 v2 v3h v4 v5 hJ
  rw [if_neg c36]
  by_cases c37 : a = 37
  · rw [if_pos c37]
    exact lw_37 B he v1 v2 v3h v4 v5 hJ
  rw [if_neg c37]
  by_cases c38 : a = 38
  · rw [if_pos c38]
    exact lw_38 B he v1 v2 v3h v4 v5 hJ
  rw [if_neg c38]
  by_cases c39 : a = 39
  · rw [if_pos c39]
    exact lw_39 B he v1 v2 v3h v4 v5 hJ
  rw [if_neg c39]
  by_cases c40 : a = 40
  · rw [if_pos c40]
    exact lw_40 B he v1 v2 v3h v4 v5 hJ
  rw [if_neg c40]
  exact hJ I x B (Nat.le_succ _)
theorem lw_small : ∀ L, L < 6 → zi L - 6 < zi 0 := by decide
theorem lw_body {L : Nat} (hL : L ≤ 3072) {xs : Nat → Int32} {I : zI} {x : Sg} (B : Bov I x) (h0 : sgE x = 0) : w_law_body L xs I := by
  intro P hP
  have main : ∀ (d k : Nat) (I : zI) (x : Sg), L < 6 * (k + d) + 6 → 6 * k ≤ L → Bov I x → sgE x ≤ k → P (zi (6 * k)) I := by
    intro d
    induction d with
    | zero =>
      intro k I x h1 h2 B he
      refine hP _ _ ?_
      have : Int32.ofNat L - 6 < zi (6 * k) := by
        show zi L - 6 < zi (6 * k)
        by_cases u : L < 6
        · rw [show 6 * k = 0 by omega]
          exact lw_small L u
        · rw [show zi L - 6 = zi (L - 6) from zi_sub (b := 6) (by omega)]
          exact (zi_lt (by omega) (by omega)).mpr (by omega)
      rw [if_pos this]
      trivial
    | succ d ih =>
      intro k I x h1 h2 B he
      refine hP _ _ ?_
      by_cases w : L < 6 * k + 6
      · have : Int32.ofNat L - 6 < zi (6 * k) := by
          show zi L - 6 < zi (6 * k)
          by_cases u : L < 6
          · rw [show 6 * k = 0 by omega]
            exact lw_small L u
          · rw [show zi L - 6 = zi (L - 6) from zi_sub (b := 6) (by omega)]
            exact (zi_lt (by omega) (by omega)).mpr (by omega)
        rw [if_pos this]
        trivial
      · rw [if_neg (show ¬ Int32.ofNat L - 6 < zi (6 * k) from fun u => by
          have e : Int32.ofNat L - 6 = zi (L - 6) := zi_sub (a := L) (b := 6) (by omega)
          rw [e] at u
          have := (zi_lt (by omega) (by omega)).mp u
          omega)]
        have vin : ∀ j : Nat, j < 6 → vp_in (zi (6 * k) + zi j) L := fun j hj => by
          rw [zi_add]
          exact (zin_iff (by omega)).mpr (by omega)
        refine ⟨(zin_iff (by omega)).mpr (by omega), fun a _ => lw_sw B (by omega) (vin 1 (by decide)) (vin 2 (by decide)) (vin 3 (by decide)) (vin 4 (by decide)) (vin 5 (by decide)) (fun I2 x2 B2 he2 => ?_)⟩
        rw [show zi (6 * k) + 6 = zi (6 * (k + 1)) from zi_add (6 * k) 6]
        exact ih (k + 1) I2 x2 (by omega) (by omega) B2 (by omega)
  exact main (L + 1) 0 I x (by omega) (by omega) B (by omega)
/-! ===== the state at the start ===== -/
def nEnd : Nd := (-2, 10, -2, 1, 0, [], [])
def N00 : Nat → Nd := upN (fun _ => nEnd) 0 nEnd
def N01 : Nat → Nd := upN N00 1 (rlNd 0 0 0 0 [])
def mo0 : Mo := ([], [], true, 1, fun _ => 0, -2)
def x0 : Sg := ([], (2, N01), [], 0, [], mo0, [])
theorem n01 : NdOk 2 N01 := by
  intro k hk
  by_cases u : k = 0
  · rw [u]
    exact Or.inl ⟨rfl, rfl, by decide, rfl, Or.inl rfl⟩
  · rw [show k = 1 by omega]
    exact Or.inr ⟨0, 0, by decide, by decide, rfl, rfl, by decide +kernel, rfl, fun c hc => (by cases hc), rfl⟩
theorem lex0 : lexL [] = [(10, 0, 0)] := rfl
theorem c01 : ∀ k, k < 2 → ndC (N01 k) = [] := by
  intro k hk
  by_cases u : k = 0
  · rw [u]
    rfl
  · rw [show k = 1 by omega]
    rfl
theorem tx0 : txOk [] := ⟨Nat.zero_le _, fun j hj => absurd hj (Nat.not_lt_zero _), by rw [lex0]; decide⟩
theorem tr0 : TreeI 2 N01 1 1 (fun _ => 0) := by
  have hy : yl N01 1 = [] := rfl
  refine ⟨by decide, rfl, hy, fun i j h1 h2 _ => by omega, fun i hi => ⟨(show 0 < 2 by decide), rfl⟩, fun z hz => ?_, Nat.le_refl _, by decide⟩
  rw [hy] at hz
  cases hz
theorem mo0_ok : MoOk 2 N01 mo0 := by
  refine ⟨tx0, tx0, fun _ => rfl, tr0, fun i x hx => ?_⟩
  have hx' : ([(10, 0, 0)] : List (Nat × Nat × Nat))[i]? = some x := hx
  cases i with
  | zero =>
    cases hx'
    exact ⟨rfl, rfl⟩
  | succ i => cases hx'
theorem x0_iv : Iv x0 := by
  refine ⟨⟨Nat.zero_le _, fun b hb => (by cases hb)⟩, n01, ?_, by decide, fun c hc => ?_, ⟨fun i j p hi => (by cases hi), Nat.zero_le _⟩, Nat.zero_le _, mo0_ok, fun y hy => (by cases hy), fun y hy => (by cases hy), Nat.zero_le _⟩
  · intro p1 p2 i1 i2 z h1 h2 h3 h4
    change (ndC (N01 p1))[i1]? = some z at h3
    rw [c01 p1 h1] at h3
    cases h3
  · change ndT (N01 c) ≤ 100
    change c < 2 at hc
    by_cases u : c = 0
    · rw [u]
      decide
    · rw [show c = 1 by omega]
      decide
theorem x0_lv : Lv x0 := by
  refine ⟨⟨?_, fun u => by cases u⟩, fun y hy => (by cases hy), fun y hy => by cases hy⟩
  show TL N01 (kdF [(10, 0, 0)]) 1 0
  refine TL_eq.mpr ⟨fun r s hr e1 e2 st l1 l2 => ?_, trivial⟩
  have hr0 : r = 0 := by
    have : (0 : Int) = r := e1
    omega
  have hs0 : s = 0 := by
    have : (0 : Int) = s := e2
    omega
  subst hr0
  subst hs0
  rw [show sz N01 1 = 1 from rfl]
  refine RC.one ?_
  unfold lNx
  rw [l2, if_pos (show ldN 0 (5 + kdF [(10, 0, 0)] 0) = 0 from end_fin 0 (by decide))]
  have hr : rlN 0 = some 0 := by decide +kernel
  rw [hr]
  have := byT_app (r := 0) (l := []) l1 rfl
  rw [List.append_nil, l2] at this
  dsimp only
  rw [this]
  rfl
theorem x0_pc : Pc x0 := by
  have e : runsOf N01 1 = [] := rfl
  refine ⟨⟨?_, ?_⟩, fun y hy => (by cases hy), fun y hy => by cases hy⟩
  · show layAllR (runsOf N01 1) [] = []
    rw [e]
    rfl
  · show (-2 : Int32) = rowI (runsOf N01 1) []
    rw [e]
    rfl
theorem x0_ev : Ev x0 := by
  refine ⟨fun c hc => ?_, fun c hc => ?_, fun _ => ⟨rfl, rfl, rfl⟩⟩
  · change c < 2 at hc
    show ndB (N01 c) ≤ 0
    by_cases u : c = 0
    · rw [u]
      decide
    · rw [show c = 1 by omega]
      decide
  · change c < 2 at hc
    show ndM (N01 c) = 15 ↔ c = 0
    by_cases u : c = 0
    · rw [u]
      exact ⟨fun _ => rfl, fun _ => rfl⟩
    · rw [show c = 1 by omega]
      exact ⟨fun v => absurd v (by decide), fun v => absurd v (by decide)⟩
theorem x0_fr : Fr x0 := by
  refine ⟨?_, fun y hy => (by cases hy), fun y hy => by cases hy⟩
  show lIt (kdF [(10, 0, 0)]) (sz N01 1) (0, [(0, 0)]) = some (0, [(0, 0), (0, 1)])
  decide +kernel
theorem x0_ls : Lsv x0 := ⟨x0_iv, x0_lv, x0_pc, x0_ev, x0_fr⟩
/-! ===== the class at the start ===== -/
theorem start_X {K : zI → Prop} (hK : ∀ I1, RX I1 x0 → zZ I1 491 → K I1) : w_Desk_init z00 K := by
  unfold w_Desk_init
  have rep0 : RepNX z00 0 (fun _ => nEnd) := ⟨rfl, fun k hk => absurd hk (Nat.not_lt_zero _)⟩
  refine s_makeToken (kd := 10) (e := 0) (bs := []) rep0 (fun k hk => absurd hk (Nat.not_lt_zero _)) (by decide) (fun I2 q2 rep2 => ?_)
  refine s_makeRuled (N := N00) (m := 1) (r := 0) (s := 0) (e := 0) rep2 (fun k hk => by rw [show k = 0 by omega]; exact Nat.zero_le _) (by decide) (by decide) (fun I4 q4 rep4 => ?_)
  have rep4' : RepNX I4 2 N01 := rep4
  have o4 : ∀ a j, ¬ Qnx 0 a j → I4.1 a j = 0 := fun a j u => by
    rw [q4.1 a j (by unfold Qnx at u ⊢; omega), q2.1 a j u]
    rfl
  have o42 : ∀ a j, ¬ Qnx 0 a j → I4.2 a j = 0 := fun a j u => by
    rw [q4.2 a j (by unfold Qnx at u ⊢; omega), q2.2 a j u]
    rfl
  have hlen0 : (lexF (txF []) 0 0 0).length = 0 := rfl
  refine s_readAll (k := 7) (a := 5) (an := 300) (n := 0) (t := txF []) (by decide) (Nat.zero_le _) (fun j hj => absurd hj (Nat.not_lt_zero _)) (by decide) (fun _ I6 q6 t6 => ?_) (fun h => absurd h (by rw [hlen0]; decide))
  have t6' : RepT I6 7 (txF []) [(10, 0, 0)] := t6
  refine s_beGood (R := 1) (c := 1) (by decide) t6'.1 (fun I7 q7 b1 b2 b3 b4 b5 => ?_)
  refine (w_set (by decide)).mpr ?_
  intro I9 e9
  refine (w_set (by decide)).mpr ?_
  have e8' : rs I7 (4 + 14 + 1) 100 0 (zi 0) = zu I7 19 0 (zi 0) := rs_in (i := 0) (by decide) (show 0 < 100 by decide)
  have e10' : rs I9 (22 + 1) 10 6 (-2) = zu I9 23 6 (-2) := rs_in (i := 6) (by decide) (show 6 < 10 by decide)
  rw [e8'] at e9
  rw [e10']
  generalize e10' : zu I9 23 6 (-2) = I10
  have k10 : ∀ a j, a ≠ 19 → a ≠ 23 → ¬ (a = 4 ∧ j = 8) → I10.1 a j = I7.1 a j := fun a j u1 u2 u3 => by
    rw [← e10', zu_oo u2, e9, zu_at, if_neg u3, zu_oo u1]
  have k102 : I10.2 = I7.2 := by rw [← e10', zu_2, e9, zu_2, zu_2]
  have o10 : ∀ a j, 22 ≤ a → a ≠ 23 → I10.1 a j = I4.1 a j := fun a j u v => by
    rw [k10 a j (by omega) v (by omega), (q7 a (Or.inr (by omega))).1, (q6 a (Or.inr (by omega))).1]
  have o10b : ∀ a j, a < 4 → I10.1 a j = I4.1 a j := fun a j u => by
    rw [k10 a j (by omega) (by omega) (by omega), (q7 a (Or.inl (by omega))).1, (q6 a (Or.inl (by omega))).1]
  have o102 : ∀ a j, 22 ≤ a → I10.2 a j = I4.2 a j := fun a j u => by
    rw [k102, (q7 a (Or.inr (by omega))).2, (q6 a (Or.inr (by omega))).2]
  have h04 : I10.1 0 4 = zi 0 := by
    rw [o10b 0 4 (by decide)]
    exact o4 0 4 (by unfold Qnx; omega)
  have lx : lexL [] = [(10, 0, 0)] := rfl
  have mo4 : MoX I10 4 mo0 := by
    have tk : ∀ a j, 7 ≤ a → a < 18 → I10.1 a j = I6.1 a j := fun a j u1 u2 => by
      rw [k10 a j (by omega) (by omega) (by omega)]
      exact b5 a j (Or.inl (by omega))
    refine ⟨?_, fun j hj => absurd hj (Nat.not_lt_zero _), ⟨?_, fun j y hy => ?_⟩, ?_, ?_, fun j hj => ?_, fun j y hy => ?_, ?_, ?_⟩
    · rw [k10 4 1 (by decide) (by decide) (by decide), b5 4 1 (Or.inr ⟨rfl, by decide⟩), (q6 4 (Or.inl (by decide))).1]
      exact o4 4 1 (by unfold Qnx; omega)
    · rw [tk 7 5 (by decide) (by decide)]
      exact t6'.1
    · have := t6'.2 j y hy
      rw [tk (4 + 3 + 2) j (by decide) (by decide), tk (4 + 3 + 4) j (by decide) (by decide), tk (4 + 3 + 6) j (by decide) (by decide), tk (4 + 3 + 8) j (by decide) (by decide), tk (4 + 3 + 10) j (by decide) (by decide)]
      exact this
    · rw [k10 4 3 (by decide) (by decide) (by decide)]
      exact b1
    · rw [k10 4 6 (by decide) (by decide) (by decide)]
      exact b3
    · change j < 1 at hj
      rw [show j = 0 by omega, ← e10', zu_oo (by decide), e9, zu_oo (by decide), zu_self]
      rfl
    · have hj := (List.getElem?_eq_some_iff.mp hy).1
      change j < 1 at hj
      have hj0 : j = 0 := by omega
      subst hj0
      have hy' : ([(10, 0, 0)] : List (Nat × Nat × Nat))[0]? = some y := hy
      have h2 := (t6'.2 0 y hy').2.1
      rw [k10 (4 + 17) 0 (by decide) (by decide) (by decide), b4 0 (by decide)]
      exact h2
    · rw [k10 4 7 (by decide) (by decide) (by decide)]
      exact b2
    · rw [← e10', zu_oo (by decide), e9]
      exact zu_self
  refine s_now (s := 0) (by decide) h04 ?_
  refine s_momCopy (k := 113) (a := 4) (x := mo0) (Or.inr (by decide)) tx0 tx0 mo4 (fun I12 q12 m12 => ?_)
  have h04' : I12.1 0 4 = zi 0 := by rw [(q12 0 (Or.inl (by decide))).1]; exact h04
  refine s_now (s := 0) (by decide) h04' ?_
  have rep12 : RepNX I12 2 N01 := rep4'.kp n01.ch (fun a j h1 h2 h3 => by
    rw [(q12 a (Or.inl (by omega))).1]
    exact o10 a j (by omega) (by omega))
  have z12 : ∀ a j, 43 ≤ a → a < 113 → I12.1 a j = 0 := fun a j h1 h2 => by
    rw [(q12 a (Or.inl h2)).1, o10 a j (by omega) (by omega)]
    exact o4 a j (by unfold Qnx; omega)
  refine s_deskLook (a := 113) rep12 n01 x0_iv.2.2.1 (by decide) tr0 (fun c hc => by have := x0_iv.2.2.2.2.1 c hc; exact Nat.le_trans this (by decide)) (fun c hc => ⟨0, by decide, z12 47 c (by decide) (by decide)⟩) (prt_R n01 x0_iv.2.2.2.2.2.2.2.1).1 (prt_R n01 x0_iv.2.2.2.2.2.2.2.1).2 (Or.inr (by decide)) m12.2.2.2.2.2.2.2.1 ⟨m12.2.2.2.2.1, m12.2.2.2.2.2.1, tkz_R n01 x0_iv.2.2.2.2.2.2.2.1⟩ (fun J qJ vJ => ?_)
  have kJ : ∀ a j, ¬ Qla a j → J.1 a j = I12.1 a j := fun a j u => qJ.1 a j u
  have z0c : ∀ j, j ≠ 18 → J.1 0 j = 0 := fun j hj => by
    rw [kJ 0 j (by unfold Qla Qvi Qrr Qpn; omega), (q12 0 (Or.inl (by decide))).1, o10b 0 j (by decide)]
    exact o4 0 j (by unfold Qnx; omega)
  refine hK J ⟨⟨z0c 1 (by decide), fun j v hv => (by cases hv)⟩, ?_, vJ, ⟨?_, fun i p hi => (by cases hi), fun v hv => ?_, fun i p hi => (by cases hi)⟩, z0c 7 (by decide), z0c 5 (by decide), z0c 6 (by decide), 0, by decide, z0c 4 (by decide), ?_, fun k y hk => (by cases hk), fun k y hk => (by cases hk)⟩ ?_
  · exact rep12.kp n01.ch (fun a j h1 h2 h3 => kJ a j (by unfold Qla Qvi Qrr Qpn; omega))
  · rw [kJ 88 4 (by unfold Qla Qvi Qrr Qpn; omega)]
    exact z12 88 4 (by decide) (by decide)
  · rw [kJ 96 _ (by unfold Qla Qvi Qrr Qpn; omega)]
    exact z12 96 _ (by decide) (by decide)
  · exact m12.kp (fun a j u1 u2 => kJ a j (by unfold Qla Qvi Qrr Qpn; have : zmom 0 = 113 := rfl; omega))
  · intro a ha
    refine ⟨fun j => ?_, fun j => ?_⟩
    · rw [kJ a j (by unfold Qla Qvi Qrr Qpn; omega), (q12 a (Or.inr (by omega))).1, o10 a j (by omega) (by omega)]
      exact o4 a j (by unfold Qnx; omega)
    · rw [qJ.2 a j (by unfold Qla Qvi Qrr Qpn; omega), (q12 a (Or.inr (by omega))).2, o102 a j (by omega)]
      exact o42 a j (by unfold Qnx; omega)
/-! ===== the model at the start ===== -/
theorem newNode_long {a b : Int32} {I : zI} {K : Int32 → zI → Prop} (h : w_M_newNode a b I (fun v J => J.2 511 (Int32.toNatClampNeg v) = 0 → K v J)) : w_M_newNode a b I K := by
  intro v ev
  obtain ⟨p1, h1⟩ := h v ev
  refine ⟨p1, fun I2 e2 => ?_⟩
  obtain ⟨p2, h2⟩ := h1 I2 e2
  refine ⟨p2, fun I3 e3 => ?_⟩
  obtain ⟨p3, h3⟩ := h2 I3 e3
  refine ⟨p3, fun I4 e4 => ?_⟩
  obtain ⟨p4, h4⟩ := h3 I4 e4
  refine ⟨p4, fun I5 e5 => ?_⟩
  obtain ⟨p5, h5⟩ := h4 I5 e5
  refine ⟨p5, fun I6 e6 => ?_⟩
  obtain ⟨p6, h6⟩ := h5 I6 e6
  refine ⟨p6, fun I7 e7 => ?_⟩
  obtain ⟨p7, h7⟩ := h6 I7 e7
  refine ⟨p7, fun I8 e8 => ?_⟩
  obtain ⟨p8, h8⟩ := h7 I8 e8
  refine ⟨p8, fun I9 e9 I10 e10 => ?_⟩
  refine h8 I9 e9 I10 e10 ?_
  rw [e10, zu_2, e9, zu_2, e8, zu_2, e7, zu_2, e6, zu_2, e5, zu_2, e4]
  show (if _ then (0 : Int64) else _) = 0
  rw [if_pos ⟨rfl, rfl⟩]
theorem start_M {I : zI} {K : zI → Prop} (hX : RX I x0) (hz : zZ I 491) (hK : ∀ J, RX J x0 → RM J x0 → K J) : w_M_init I K := by
  have z1 : ∀ a j, 491 ≤ a → I.1 a j = 0 := fun a j h => (hz a h).1 j
  have z2 : ∀ a j, 491 ≤ a → I.2 a j = 0 := fun a j h => (hz a h).2 j
  unfold w_M_init
  have rep0 : RepNM I 0 (fun _ => nEnd) := ⟨z1 491 25 (by decide), fun k hk => absurd hk (Nat.not_lt_zero _)⟩
  have v0 : ∀ n, 0 < n → vp_in 0 n := fun n hn => by
    show vp_in (zi 0) n
    exact (zin_iff (by decide)).mpr hn
  show w_M_newNode (Int32.ofInt (-2)) (zi 0) I _
  refine newNode_long ?_
  refine s_newNode (m := 0) (tk := 0) (e := 0) (r := -2) (N := fun _ => nEnd) rep0 (fun k hk => absurd hk (Nat.not_lt_zero _)) (by decide) (z1 491 36 (by decide)) (fun I2 q2 m2 k2 n1 n2 n3 n4 n5 l511 => ?_)
  refine ⟨v0 _ (by decide), fun I3 e3 => ⟨v0 _ (by decide), fun I4 e4 => ⟨v0 _ (by decide), fun I5 e5 => ?_⟩⟩⟩
  have k5 : ∀ a j, ¬ (a = 508 ∧ j = 0) → ¬ (a = 510 ∧ j = 0) → ¬ (a = 515 ∧ j = 0) → I5.1 a j = I2.1 a j := fun a j u1 u2 u3 => by
    rw [e5, zu_at, if_neg u3, e4, zu_at, if_neg u2, e3, zu_at, if_neg u1]
  have k52 : I5.2 = I2.2 := by rw [e5, zu_2, e4, zu_2, e3, zu_2]
  have rep5 : RepNM I5 1 N00 := by
    refine ⟨(k5 491 25 (by decide) (by decide) (by decide)).trans m2, fun k hk => ?_⟩
    rw [show k = 0 by omega]
    refine ⟨(k5 _ _ (by decide) (by decide) (by decide)).trans n1, (k5 _ _ (by decide) (by decide) (by decide)).trans n2, ?_, (k5 _ _ (by decide) (by decide) (by decide)).trans n4, (k5 _ _ (by decide) (by decide) (by decide)).trans n5, fun i c hi => (by cases hi), fun _ => ⟨?_, ?_⟩⟩
    · rw [e5, zu_self]
      rfl
    · rw [e5, zu_oo (by decide), e4, zu_self]
      rfl
    · rw [k52]
      exact l511
  have o5 : ∀ a j, 491 ≤ a → ¬ Qnm 0 a j → ¬ (a = 508 ∧ j = 0) → I5.1 a j = 0 := fun a j h u v => by
    rw [k5 a j v (by unfold Qnm at u; omega) (by unfold Qnm at u; omega), q2.1 a j u]
    exact z1 a j h
  show w_M_newNode (Int32.ofInt ((0 : Nat) : Int)) (zi 0) I5 _
  refine s_newNode (m := 1) (tk := 0) (e := 0) (r := ((0 : Nat) : Int)) (N := N00) rep5 (fun k hk => by rw [show k = 0 by omega]; exact Nat.zero_le _) (by decide) (o5 491 36 (by decide) (by unfold Qnm; omega) (by decide)) (fun I7 q7 m7 k7 p1 p2 p3 p4 p5 => ?_)
  intro I8 e8
  refine ⟨show vp_in (zi 1) 3700 from (zin_iff (by decide)).mpr (by decide), fun I9 e9 I10 e10 => ?_⟩
  have e9' : I9 = zu I8 514 1 0 := e9
  have k10 : ∀ a j, ¬ (a = 491 ∧ j = 37) → ¬ (a = 491 ∧ j = 8) → ¬ (a = 514 ∧ j = 1) → I10.1 a j = I7.1 a j := fun a j u1 u2 u3 => by
    rw [e10, zu_at, if_neg u2, e9', zu_at, if_neg u3, e8, zu_at, if_neg u1]
  have k102 : I10.2 = I7.2 := by rw [e10, zu_2, e9', zu_2, e8, zu_2]
  have rep10 : RepNM I10 2 N01 := by
    refine ⟨(k10 491 25 (by decide) (by decide) (by decide)).trans m7, fun k hk => ?_⟩
    by_cases u : k = 0
    · rw [u]
      exact (k7 0 (by decide)).kept (Nat.zero_le _) (fun a h1 h2 _ => k10 a 0 (by omega) (by omega) (by omega)) (fun i hi => k10 513 _ (by omega) (by omega) (by omega)) (by rw [k102])
    · rw [show k = 1 by omega]
      refine ⟨(k10 _ _ (by decide) (by decide) (by decide)).trans p1, ?_, (k10 _ _ (by decide) (by decide) (by decide)).trans p3, (k10 _ _ (by decide) (by decide) (by decide)).trans p4, (k10 _ _ (by decide) (by decide) (by decide)).trans p5, fun i c hi => (by cases hi), fun w => absurd w (by decide)⟩
      rw [e10, zu_oo (by decide), e9', zu_self]
      rfl
  have o10 : ∀ a j, 491 ≤ a → ¬ Qnm 0 a j → ¬ (a = 508 ∧ j = 0) → ¬ (a = 491 ∧ j = 37) → ¬ (a = 491 ∧ j = 8) → I10.1 a j = 0 := fun a j h u v w1 w2 => by
    rw [k10 a j w1 w2 (by unfold Qnm at u; omega), q7.1 a j (by unfold Qnm at u ⊢; omega)]
    exact o5 a j h u v
  have g508 : I10.1 508 0 = zi 0 := by
    rw [k10 508 0 (by decide) (by decide) (by decide), q7.1 508 0 (by unfold Qnm; omega), e5, zu_oo (by decide), e4, zu_oo (by decide), e3, zu_self]
  have g37 : I10.1 491 37 = zi 1 := by
    rw [e10, zu_at, if_neg (by decide), e9', zu_oo (by decide), e8, zu_self]
  have g8 : I10.1 491 8 = b01 true := by
    rw [e10, zu_self]
    rfl
  show w_M_cutsUp (zi 0) I10 _
  refine s_cutsUp (n := 0) (t := txF []) (by decide) (fun j hj => absurd hj (Nat.not_lt_zero _)) (fun I11 q11 m11 u11 => ?_)
  have nt : NewT I11 [] := ⟨m11, fun j hj => absurd hj (Nat.not_lt_zero _), u11⟩
  refine s_keepsTokens (gd := true) tx0 nt (by rw [q11.1 491 8 (by unfold Qcut; omega)]; exact g8) (fun I12 q12 now12 good12 => ?_)
  have c12 : ∀ a j, ¬ Qcut a j → ¬ Qkt a j → ¬ Qkg a j → I12.1 a j = I10.1 a j := fun a j u1 u2 u3 => by
    rw [q12.1 a j (fun w => w.elim u2 (fun w => u3 w.2)), q11.1 a j u1]
  have c122 : ∀ a j, ¬ Qcut a j → ¬ Qkt a j → ¬ Qkg a j → I12.2 a j = I10.2 a j := fun a j u1 u2 u3 => by
    rw [q12.2 a j (fun w => w.elim u2 (fun w => u3 w.2)), q11.2 a j u1]
  have rep12 : RepNM I12 2 N01 := rep10.kp2 (c12 _ _ (by unfold Qcut; omega) (by unfold Qkt; omega) (by unfold Qkg; omega)) (fun a j h1 h2 => c12 a j (by unfold Qcut; omega) (by unfold Qkt; omega) (by unfold Qkg; omega)) (fun j => c122 511 j (by unfold Qcut; omega) (by unfold Qkt; omega) (by unfold Qkg; omega))
  have h37 : I12.1 491 37 = zi 1 := (c12 _ _ (by unfold Qcut; omega) (by unfold Qkt; omega) (by unfold Qkg; omega)).trans g37
  refine s_Mtree rep12 n01 x0_iv.2.2.1 (by decide) tr0 h37 (fun I13 q13 vi13 => ?_)
  refine ⟨show vp_in (zi 6) 10 from (zin_iff (by decide)).mpr (by decide), fun I14 e14 => ?_⟩
  have e14' : I14 = zu I13 538 6 (-2) := e14
  have c14 : ∀ a j, ¬ Qft a j → a ≠ 538 → I14.1 a j = I12.1 a j := fun a j u v => by
    rw [e14', zu_oo v, q13.1 a j u]
  have c142 : ∀ a j, ¬ Qft a j → I14.2 a j = I12.2 a j := fun a j u => by
    rw [e14', zu_2, q13.2 a j u]
  have t12 : GoodT I12 [] := good12 rfl
  have gd : GoodT I14 [] := t12.kp (c14 _ _ (by unfold Qft; omega) (by decide)) (c14 _ _ (by unfold Qft; omega) (by decide)) (fun a j u => c14 a j (by unfold Qft; omega) (by omega)) (fun j => c142 507 j (by unfold Qft; omega))
  have nw : NowT I14 [] := now12.kp (c14 _ _ (by unfold Qft; omega) (by decide)) (c14 _ _ (by unfold Qft; omega) (by decide)) (fun a j u => c14 a j (by unfold Qft; omega) (by omega))
  have all14 : ∀ a j, ¬ Qft a j → a ≠ 538 → ¬ Qcut a j → ¬ Qkt a j → ¬ Qkg a j → I14.1 a j = I10.1 a j := fun a j u1 u2 u3 u4 u5 => (c14 a j u1 u2).trans (c12 a j u3 u4 u5)
  have z14 : ∀ j, ¬ (j = 43 ∨ j = 51 ∨ j = 53) → ¬ (j = 9 ∨ j = 3) → ¬ (j = 5 ∨ j = 15) → ¬ (j = 7 ∨ j = 19) → j ≠ 25 → j ≠ 37 → j ≠ 8 → I14.1 491 j = 0 := fun j h1 h2 h3 h4 h5 h6 h7 => by
    rw [all14 491 j (by unfold Qft; omega) (by decide) (by unfold Qcut; omega) (by unfold Qkt; omega) (by unfold Qkg; omega)]
    exact o10 491 j (Nat.le_refl _) (by unfold Qnm; omega) (by omega) (by omega) (by omega)
  have now14 : NowM I14 mo0 := by
    obtain ⟨a1, a2, a3, a4⟩ := nw
    obtain ⟨b1, b2, b3⟩ := gd
    refine ⟨a1, a2, a3, a4, b1, b2, b3, fun j hj => ?_, ?_, ?_⟩
    · change j < 1 at hj
      rw [show j = 0 by omega, all14 508 0 (by unfold Qft; omega) (by decide) (by unfold Qcut; omega) (by unfold Qkt; omega) (by unfold Qkg; omega)]
      exact g508
    · rw [all14 491 8 (by unfold Qft; omega) (by decide) (by unfold Qcut; omega) (by unfold Qkt; omega) (by unfold Qkg; omega)]
      exact g8
    · rw [all14 491 37 (by unfold Qft; omega) (by decide) (by unfold Qcut; omega) (by unfold Qkt; omega) (by unfold Qkg; omega)]
      exact g37
  show w_M_keeps (zi 0) I14 _
  refine s_keeps (s := 0) (x := mo0) (by decide) tx0 tx0 now14 (fun J qJ mJ => ?_)
  have cJ : ∀ a j, a ≠ 542 → J.1 a j = I14.1 a j := fun a j u => qJ.1 a j (fun w => u w.1)
  have cJ2 : ∀ a j, a ≠ 542 → J.2 a j = I14.2 a j := fun a j u => qJ.2 a j (fun w => u w.1)
  have rep14 : RepNM I14 2 N01 := rep12.kp2 (c14 _ _ (by unfold Qft; omega) (by decide)) (fun a j h1 h2 => c14 a j (by unfold Qft; omega) (by omega)) (fun j => c142 511 j (by unfold Qft; omega))
  have vi14 : ViM I14 N01 1 1 := vi13.kp (fun a j u => by rw [e14', zu_oo (by omega)])
  refine hK J ?_ ⟨⟨(cJ _ _ (by decide)).trans (z14 0 (by decide) (by decide) (by decide) (by decide) (by decide) (by decide) (by decide)), fun j v hv => (by cases hv)⟩, rep14.kp2 (cJ _ _ (by decide)) (fun a j h1 h2 => cJ a j (by omega)) (fun j => cJ2 511 j (by decide)), vi14.kp (fun a j u => cJ a j (by omega)), ⟨(cJ _ _ (by decide)).trans (z14 59 (by decide) (by decide) (by decide) (by decide) (by decide) (by decide) (by decide)), fun i p hi => (by cases hi), fun i p hi => (by cases hi)⟩, (cJ _ _ (by decide)).trans (z14 36 (by decide) (by decide) (by decide) (by decide) (by decide) (by decide) (by decide)), (cJ _ _ (by decide)).trans (z14 75 (by decide) (by decide) (by decide) (by decide) (by decide) (by decide) (by decide)), (cJ _ _ (by decide)).trans (z14 76 (by decide) (by decide) (by decide) (by decide) (by decide) (by decide) (by decide)), now14.kp (fun a j u => cJ a j (by omega)) (fun j => cJ2 507 j (by decide)), mJ, fun k y hk => (by cases hk), fun k y hk => (by cases hk)⟩
  refine hX.kp x0_iv (fun a j u => ?_)
  have ha : a < 491 := by omega
  rw [cJ a j (by omega), all14 a j (by unfold Qft; omega) (by omega) (by unfold Qcut; omega) (by unfold Qkt; omega) (by unfold Qkg; omega), k10 a j (by omega) (by omega) (by omega), q7.1 a j (by unfold Qnm; omega), k5 a j (by omega) (by omega) (by omega), q2.1 a j (by unfold Qnm; omega)]
