/-! ===== what is answered, alike on both sides ===== -/
/-- a number below n -/
def ixI (n : Nat) (a : Int32) : Option Nat := if 0 ≤ a ∧ a < zi n then some a.toNatClampNeg else none
theorem ixI_some {n k : Nat} (hn : n < 2147483648) (hk : k < n) : ixI n (zi k) = some k := by
  unfold ixI
  rw [if_pos ⟨zi_ge (by omega), (zi_lt (by omega) hn).mpr hk⟩, zi_tn (by omega)]
theorem ixI_none {n : Nat} {a : Int32} (h : ¬ (0 ≤ a ∧ a < zi n)) : ixI n a = none := if_neg h
theorem ix_cs {n : Nat} (hn : n < 2147483648) (a : Int32) : (∃ k, k < n ∧ a = zi k ∧ ixI n a = some k) ∨ (ixI n a = none ∧ (a < 0 ∨ (¬ a < 0 ∧ zi n ≤ a))) := by
  by_cases c0 : a < 0
  · exact Or.inr ⟨ixI_none (fun u => Int32.not_le.mpr c0 u.1), Or.inl c0⟩
  · obtain ⟨k, hk, rfl⟩ := zi_of (Int32.not_lt.mp c0)
    by_cases c1 : k < n
    · exact Or.inl ⟨k, c1, rfl, ixI_some hn c1⟩
    · exact Or.inr ⟨ixI_none (fun u => c1 ((zi_lt hk hn).mp u.2)), Or.inr ⟨c0, (zi_le hn hk).mpr (by omega)⟩⟩
theorem zi_ne {a b : Nat} (ha : a < 2147483648) (hb : b < 2147483648) (h : a ≠ b) : ¬ zi a = zi b := fun u => h ((zi_eq ha hb).mp u)
theorem nle_zi {k n : Nat} (hk : k < n) (hn : n < 2147483648) : ¬ zi n ≤ zi k := fun u => by
  have := (zi_le hn (by omega)).mp u
  omega
/-! text -/
def vText (x : Sg) (a : Int32) : Int32 := match ixI (moT (sgC x)).length a with
  | some k => txF (moT (sgC x)) k
  | none => -1
theorem t_text {x : Sg} {a : Int32} {I : zI} {K : Int32 → Prop} (hv : Iv x) (hR : RX I x) (h : K (vText x a)) : w_Desk_text a I K := by
  obtain ⟨s, hA⟩ := hR.now
  have l300 := hv.2.2.2.2.2.2.2.1.1.1
  refine s_now hA.1 hA.2.1 ?_
  rw [hA.2.2.1]
  unfold vText at h
  rcases ix_cs (n := (moT (sgC x)).length) (by omega) a with ⟨k, hk, rfl, e⟩ | ⟨e, c | ⟨c, d⟩⟩
  · rw [e] at h
    rw [if_neg (zi_pos (by omega)), if_neg (nle_zi hk (by omega))]
    refine (w_get (by decide)).mpr ?_
    rw [rg_in (by decide) (show k < 300 by omega), hA.2.2.txt k hk]
    exact h
  · rw [e] at h
    rw [if_pos c]
    exact h
  · rw [e] at h
    rw [if_neg c, if_pos d]
    exact h
def tkT (x : Sg) (k : Nat) : Nat × Nat × Nat := (lexL (moT (sgC x))).getD k (10, 0, 0)
theorem tkT_at {x : Sg} {k : Nat} (h : k < (lexL (moT (sgC x))).length) : (lexL (moT (sgC x)))[k]? = some (tkT x k) := by
  unfold tkT
  rw [List.getD_eq_getElem?_getD, List.getElem?_eq_getElem h]
  rfl
theorem tkG_at {x : Sg} {k : Nat} (h : k < (lexL (moG (sgC x))).length) : (lexL (moG (sgC x)))[k]? = some (tkG x k) := by
  unfold tkG
  rw [List.getD_eq_getElem?_getD, List.getElem?_eq_getElem h]
  rfl
def vToken (x : Sg) (a b : Int32) : Int32 := match ixI (lexL (moT (sgC x))).length a with
  | some k => if b = 0 then zi (tkT x k).1 else if b = 1 then zi (tkT x k).2.1 else if b = 2 then zi (tkT x k).2.2 else -1
  | none => -1
theorem t_tkhas {k n : Nat} {a : Int32} {I : zI} {K : Int32 → Prop} (hn : n < 2147483648) (h5 : I.1 k 5 = zi n) (h1 : ∀ i, i < n → a = zi i → ixI n a = some i → K 1) (h0 : ixI n a = none → K 0) : w_Tokens_has k a I K := by
  unfold w_Tokens_has
  rw [h5]
  rcases ix_cs hn a with ⟨i, hi, e, e2⟩ | ⟨e, c | ⟨c, d⟩⟩
  · rw [e, if_neg (zi_pos (by omega)), if_neg (nle_zi hi hn)]
    exact h1 i hi e e2
  · rw [if_pos c]
    exact h0 e
  · rw [if_neg c, if_pos d]
    exact h0 e
theorem t_hasGood {k n : Nat} {a : Int32} {I : zI} {K : Int32 → Prop} (hn : n < 2147483648) (h6 : I.1 k 6 = zi n) (h1 : ∀ i, i < n → a = zi i → ixI n a = some i → K 1) (h0 : ixI n a = none → K 0) : w_Moment_hasGood k a I K := by
  unfold w_Moment_hasGood
  rw [h6]
  rcases ix_cs hn a with ⟨i, hi, e, e2⟩ | ⟨e, c | ⟨c, d⟩⟩
  · rw [e, if_neg (zi_pos (by omega)), if_neg (nle_zi hi hn)]
    exact h1 i hi e e2
  · rw [if_pos c]
    exact h0 e
  · rw [if_neg c, if_pos d]
    exact h0 e
theorem t_token {x : Sg} {a b : Int32} {I : zI} {K : Int32 → Prop} (hv : Iv x) (hR : RX I x) (h : K (vToken x a b)) : w_Desk_token a b I K := by
  obtain ⟨s, hA⟩ := hR.now
  have l100 := hv.2.2.2.2.2.2.2.1.1.2.2
  refine s_now hA.1 hA.2.1 ?_
  obtain ⟨p1, p2⟩ := hA.2.2.2.2.1
  unfold vToken at h
  refine t_tkhas (n := (lexL (moT (sgC x))).length) (by omega) p1 (fun k hk e e2 => ?_) (fun e => ?_)
  · rw [e2] at h
    dsimp only at h
    obtain ⟨q1, q2, q3, -⟩ := p2 k _ (tkT_at hk)
    rw [if_neg (by decide), e]
    by_cases c0 : b = 0
    · rw [if_pos c0] at h ⊢
      refine (w_get (by decide)).mpr ?_
      rw [rg_in (by decide) (show k < 100 by omega)]
      change K (I.1 (zmom s + 3 + 2) k)
      rw [q1]
      exact h
    rw [if_neg c0] at h ⊢
    by_cases c1 : b = 1
    · rw [if_pos c1] at h ⊢
      refine (w_get (by decide)).mpr ?_
      rw [rg_in (by decide) (show k < 100 by omega)]
      change K (I.1 (zmom s + 3 + 4) k)
      rw [q2]
      exact h
    rw [if_neg c1] at h ⊢
    by_cases c2 : b = 2
    · rw [if_pos c2] at h ⊢
      refine (w_get (by decide)).mpr ?_
      rw [rg_in (by decide) (show k < 100 by omega)]
      change K (I.1 (zmom s + 3 + 6) k)
      rw [q3]
      exact h
    rw [if_neg c2] at h ⊢
    exact h
  · rw [e] at h
    rw [if_pos rfl]
    exact h
def vGood (x : Sg) (a : Int32) : Int32 := match ixI (lexL (moG (sgC x))).length a with
  | some k => zi (moO (sgC x) k)
  | none => -1
theorem t_good {x : Sg} {a : Int32} {I : zI} {K : Int32 → Prop} (hv : Iv x) (hR : RX I x) (h : K (vGood x a)) : w_Desk_good a I K := by
  obtain ⟨s, hA⟩ := hR.now
  have l100 := hv.2.2.2.2.2.2.2.1.2.1.2.2
  refine s_now hA.1 hA.2.1 ?_
  unfold vGood at h
  refine t_hasGood (n := (lexL (moG (sgC x))).length) (by omega) hA.2.2.2.2.2.2.1 (fun k hk e e2 => ?_) (fun e => ?_)
  · rw [e2] at h
    rw [if_neg (by decide), e]
    refine (w_get (by decide)).mpr ?_
    rw [rg_in (by decide) (show k < 100 by omega), show I.1 (zmom s + 14 + 1) k = zi (moO (sgC x) k) from hA.2.2.2.2.2.2.2.1 k hk]
    exact h
  · rw [e] at h
    rw [if_pos rfl]
    exact h
def vChild (x : Sg) (a b : Int32) : Int32 := match ixI (sgM x) a with
  | some k => (match ixI (ndC (sgN x k)).length b with
    | some i => zi ((ndC (sgN x k)).getD i 0)
    | none => -1)
  | none => -1
theorem t_has {n : Nat} {a : Int32} {I : zI} {K : Int32 → Prop} (hn : n < 2147483648) (h9 : I.1 24 9 = zi n) (h1 : ∀ i, i < n → a = zi i → ixI n a = some i → K 1) (h0 : ixI n a = none → K 0) : w_Nodes_has a I K := by
  unfold w_Nodes_has
  rw [h9]
  rcases ix_cs hn a with ⟨i, hi, e, e2⟩ | ⟨e, c | ⟨c, d⟩⟩
  · rw [e, if_neg (zi_pos (by omega)), if_neg (nle_zi hi hn)]
    exact h1 i hi e e2
  · rw [if_pos c]
    exact h0 e
  · rw [if_neg c, if_pos d]
    exact h0 e
theorem t_child {x : Sg} {a b : Int32} {I : zI} {K : Int32 → Prop} (hv : Iv x) (hR : RX I x) (h : K (vChild x a b)) : w_Desk_child a b I K := by
  obtain ⟨-, rep, -⟩ := hR
  have hN := hv.2.1
  have hm := hv.2.2.2.1
  unfold w_Desk_child
  unfold vChild at h
  refine t_has (n := sgM x) (by omega) rep.1 (fun k hk e e2 => ?_) (fun e => ?_)
  · rw [e2] at h
    dsimp only at h
    have hch := hN.ch k hk
    rw [if_neg (by decide), e]
    rcases ix_cs (n := (ndC (sgN x k)).length) (by omega) b with ⟨i, hi, rfl, eb⟩ | ⟨eb, c | ⟨c, d⟩⟩
    · rw [eb] at h
      rw [if_neg (zi_pos (by omega))]
      refine s_childrenOf rep hN (by omega) hk ?_
      rw [if_pos ((zi_lt (by omega) (by omega)).mpr hi)]
      exact s_childOf rep (by omega) hk hch (by rw [List.getElem?_eq_getElem hi]) (by
        dsimp only at h
        rw [List.getD_eq_getElem?_getD, List.getElem?_eq_getElem hi] at h
        exact h)
    · rw [eb] at h
      rw [if_pos c]
      exact h
    · rw [eb] at h
      rw [if_neg c]
      refine s_childrenOf rep hN (by omega) hk ?_
      rw [if_neg (Int32.not_lt.mpr d)]
      exact h
  · rw [e] at h
    rw [if_pos rfl]
    exact h
def rnR (x : Sg) : List Nat := runsOf (sgN x) (moR (sgC x))
def vRuns (x : Sg) : Int32 := zi (rnR x).length
theorem t_runs {x : Sg} {I : zI} {K : Int32 → Prop} (hR : RX I x) (h : K (vRuns x)) : w_Desk_runs I K := by
  unfold w_Desk_runs
  rw [show I.1 43 11 = zi (rnR x).length from hR.2.2.1.2.2.2.1.1]
  exact h
def vRun (x : Sg) (a : Int32) : Int32 := match ixI (rnR x).length a with
  | some k => zi ((rnR x).getD k 0)
  | none => -1
theorem rnR_at {x : Sg} {k : Nat} (h : k < (rnR x).length) : (rnR x)[k]? = some ((rnR x).getD k 0) := by
  rw [List.getD_eq_getElem?_getD, List.getElem?_eq_getElem h]
  rfl
theorem rnR_99 {x : Sg} (hv : Iv x) : (rnR x).length ≤ 99 := (runs_ok hv.2.1 hv.2.2.1 hv.2.2.2.2.2.2.2.1.2.2.2.1).2
theorem t_hasRun {x : Sg} {a : Int32} {I : zI} {K : Int32 → Prop} (hv : Iv x) (hR : RX I x) (h1 : ∀ k, k < (rnR x).length → a = zi k → ixI (rnR x).length a = some k → K 1) (h0 : ixI (rnR x).length a = none → K 0) : w_TreeView_hasRun a I K := by
  have l := rnR_99 hv
  unfold w_TreeView_hasRun
  rw [show I.1 43 11 = zi (rnR x).length from hR.2.2.1.2.2.2.1.1]
  rcases ix_cs (n := (rnR x).length) (by omega) a with ⟨i, hi, e, e2⟩ | ⟨e, c | ⟨c, d⟩⟩
  · rw [e, if_neg (zi_pos (by omega)), if_neg (nle_zi hi (by omega))]
    exact h1 i hi e e2
  · rw [if_pos c]
    exact h0 e
  · rw [if_neg c, if_pos d]
    exact h0 e
theorem t_run {x : Sg} {a : Int32} {I : zI} {K : Int32 → Prop} (hv : Iv x) (hR : RX I x) (h : K (vRun x a)) : w_Desk_run a I K := by
  have l := rnR_99 hv
  unfold w_Desk_run
  unfold vRun at h
  refine t_hasRun hv hR (fun k hk e e2 => ?_) (fun e => ?_)
  · rw [e2] at h
    rw [if_neg (by decide), e]
    refine (w_get (by decide)).mpr ?_
    rw [rg_in (by decide) (show k < 100 by omega), show I.1 (62 + 1) k = zi ((rnR x).getD k 0) from hR.2.2.1.2.2.2.1.2 k _ (rnR_at hk)]
    exact h
  · rw [e] at h
    rw [if_pos rfl]
    exact h
/-! ===== what is asked of the TREE, alike on both sides ===== -/
abbrev FF (x : Sg) : List Fl := flR (sgN x) (moR (sgC x))
abbrev nG (x : Sg) : Nat := (lexL (moG (sgC x))).length
theorem Iv.fg {x : Sg} (hv : Iv x) : FlG (sgM x) (FF x) (sgN x) (nG x) := hv.2.2.2.2.2.2.2.1.2.2.2.1.flG hv.2.1 hv.2.2.1
theorem Iv.tr {x : Sg} (hv : Iv x) : TreeI (sgM x) (sgN x) (moR (sgC x)) (nG x) (moO (sgC x)) := hv.2.2.2.2.2.2.2.1.2.2.2.1
theorem Iv.f248 {x : Sg} (hv : Iv x) : (FF x).length ≤ 248 := by
  have h2 : (FF x).length = sz (sgN x) (moR (sgC x)) := fl_len hv.2.1 _ hv.tr.1 0 0 0 1
  rw [h2]
  exact hv.tr.few hv.2.1
def ffA (x : Sg) (p : Nat) : Fl := (FF x).getD p (0, 0, 0, 0, 0)
theorem ffA_at {x : Sg} {p : Nat} {f : Fl} (h : (FF x)[p]? = some f) : ffA x p = f := by
  unfold ffA
  rw [List.getD_eq_getElem?_getD, h]
  rfl
theorem ffA_is {x : Sg} {p : Nat} (h : p < (FF x).length) : (FF x)[p]? = some (ffA x p) := by
  unfold ffA
  rw [List.getD_eq_getElem?_getD, List.getElem?_eq_getElem h]
  rfl
/-- a node's place -/
def plT (x : Sg) (c : Nat) : Option Nat := (FF x).findIdx? (fun y => y.1 == c)
theorem plT_is {x : Sg} {c p : Nat} (h : plT x c = some p) : ∃ f, (FF x)[p]? = some f ∧ f.1 = c := by
  obtain ⟨h1, h2, -⟩ := List.findIdx?_eq_some_iff_getElem.mp h
  exact ⟨_, List.getElem?_eq_getElem h1, beq_iff_eq.mp h2⟩
theorem plT_no {x : Sg} {c : Nat} (h : plT x c = none) : ∀ (p : Nat) (f : Fl), (FF x)[p]? = some f → f.1 ≠ c := by
  intro p f hf u
  have := List.findIdx?_eq_none_iff.mp h f (List.mem_of_getElem? hf)
  rw [u, beq_self_eq_true] at this
  cases this
theorem plT_at {x : Sg} (hv : Iv x) {p : Nat} {f : Fl} (h : (FF x)[p]? = some f) : plT x f.1 = some p := by
  cases e : plT x f.1 with
  | none => exact absurd rfl (plT_no e p f h)
  | some q =>
    obtain ⟨g, g1, g2⟩ := plT_is e
    rw [hv.fg.2.1 q p g f g1 h g2]
def inT (x : Sg) (a : Int32) : Option Nat := match ixI (sgM x) a with
  | some c => plT x c
  | none => none
theorem inT_at {x : Sg} (hv : Iv x) {p : Nat} {f : Fl} (h : (FF x)[p]? = some f) : inT x (zi f.1) = some p := by
  have hm := hv.2.2.2.1
  unfold inT
  rw [ixI_some (by omega) (hv.fg.1.2 p f h).1]
  exact plT_at hv h
theorem t_holds {x : Sg} {a : Int32} {I : zI} {K : Int32 → Prop} (hv : Iv x) (hR : RX I x) (h1 : ∀ p f, (FF x)[p]? = some f → a = zi f.1 → f.1 < sgM x → inT x a = some p → K 1) (h0 : inT x a = none → K 0) : w_TreeView_holds a I K := by
  have hm := hv.2.2.2.1
  obtain ⟨-, rep, ⟨-, hF, -, -, hpl⟩, -⟩ := hR
  have fl := hv.f248
  unfold w_TreeView_holds
  refine t_has (n := sgM x) (by omega) rep.1 (fun c hc e e2 => ?_) (fun e => ?_)
  · rw [if_neg (by decide), e]
    have e3 : inT x a = plT x c := by
      unfold inT
      rw [e2]
    obtain ⟨p', p1, p2⟩ := hpl.1 c (by omega)
    refine (w_get (by decide)).mpr ?_
    rw [rg_in (by decide) (show c < 3400 by omega), show I.1 (46 + 1) c = zi p' from p2, hF.1]
    by_cases u : zi (FF x).length ≤ zi p'
    · rw [if_pos u]
      refine h0 ?_
      rw [e3]
      cases ep : plT x c with
      | none => rfl
      | some q =>
        obtain ⟨g, g1, g2⟩ := plT_is ep
        have w := (hF.2 q g g1).2.1
        rw [g2, p2] at w
        have ql := (List.getElem?_eq_some_iff.mp g1).1
        have := (zi_eq (by omega) (by omega)).mp w
        have := (zi_le (by omega) (by omega)).mp u
        omega
    · rw [if_neg u]
      have hp : p' < (FF x).length := Nat.lt_of_not_le (fun v => u ((zi_le (by omega) (by omega)).mpr v))
      have hx := ffA_is hp
      refine (w_get (by decide)).mpr ?_
      rw [rg_in (by decide) (show p' < 400 by omega), show I.1 (44 + 1) p' = zi (ffA x p').1 from (hF.2 p' _ hx).1]
      have hlt := (hv.fg.1.2 p' _ hx).1
      by_cases w : (ffA x p').1 = c
      · rw [if_pos (by rw [w])]
        exact h1 p' _ hx (by rw [e, w]) hlt (by rw [e3, ← w]; exact plT_at hv hx)
      · rw [if_neg (zi_ne (by omega) (by omega) w)]
        refine h0 ?_
        rw [e3]
        cases ep : plT x c with
        | none => rfl
        | some q =>
          exfalso
          obtain ⟨g, g1, g2⟩ := plT_is ep
          have w2 := (hF.2 q g g1).2.1
          rw [g2, p2] at w2
          have ql := (List.getElem?_eq_some_iff.mp g1).1
          have := (zi_eq (by omega) (by omega)).mp w2
          subst this
          rw [ffA_at g1] at w
          exact w g2
  · rw [if_pos rfl]
    refine h0 ?_
    unfold inT
    rw [e]
/-- up to the node above -/
theorem t_parP {x : Sg} {p : Nat} {f : Fl} {I : zI} {K : Int32 → Prop} (hv : Iv x) (hR : RX I x) (hp : (FF x)[p]? = some f) (h0 : p = 0 → K (-2)) (h1 : 1 ≤ p → f.2.1 < p → (FF x)[f.2.1]? = some (ffA x f.2.1) → K (zi (ffA x f.2.1).1)) : w_TreeView_parentOf (zi f.1) I K := by
  have hm := hv.2.2.2.1
  obtain ⟨-, rep, ⟨hT, hF, -, -, hpl⟩, -⟩ := hR
  have fg := hv.fg
  by_cases u : p = 0
  · subst u
    have e0 := fl_0 (q := 0) (p := 0) (t := 0) (dep := 1) hv.2.1 hv.tr.1
    have : f.1 = moR (sgC x) := by
      have e := hp.symm.trans e0
      cases e
      rfl
    exact s_parentOf0 rep (by omega) hF fg.1 hp (by rw [this]; exact hT) (h0 rfl)
  · have hq := (fg.1.2 p f hp).2 (by omega)
    have hpl := (List.getElem?_eq_some_iff.mp hp).1
    have hy : (FF x)[f.2.1]? = some (ffA x f.2.1) := ffA_is (by omega)
    refine s_parentOf rep (by omega) hF fg.1 hp (by omega) hT hv.tr.1 (fun e => u ?_) hy (h1 (by omega) hq hy)
    have e0 := fl_0 (q := 0) (p := 0) (t := 0) (dep := 1) hv.2.1 hv.tr.1
    exact fg.2.1 p 0 _ _ hp e0 e
/-! young -/
/-- by which EDIT: a small number -/
def Eb (x : Sg) : Prop := sgE x < 2000000 ∧ ∀ c, c < sgM x → ndB (sgN x c) < 2000000
theorem Ev.eb {x : Sg} (hv : Iv x) (h : Ev x) : Eb x := by
  have := hv.2.2.2.2.2.2.1
  exact ⟨by omega, fun c hc => by have := h.1 c hc; omega⟩
/-! beside, before -/
theorem inT_is {x : Sg} {a : Int32} {p : Nat} (h : inT x a = some p) (hm : sgM x < 2147483648) : ∃ f, (FF x)[p]? = some f ∧ a = zi f.1 := by
  unfold inT at h
  rcases ix_cs hm a with ⟨c, hc, e, e2⟩ | ⟨e2, -⟩
  · rw [e2] at h
    obtain ⟨f, f1, f2⟩ := plT_is h
    exact ⟨f, f1, by rw [e, f2]⟩
  · rw [e2] at h
    cases h
theorem idx_at {l : List Nat} {j z : Nat} (hu : ∀ i, l[i]? = some z → i = j) (hj : l[j]? = some z) : l.findIdx? (fun w => w == z) = some j := by
  cases e : l.findIdx? (fun w => w == z) with
  | none =>
    have := List.findIdx?_eq_none_iff.mp e z (List.mem_of_getElem? hj)
    rw [beq_self_eq_true] at this
    cases this
  | some i =>
    obtain ⟨h1, h2, -⟩ := List.findIdx?_eq_some_iff_getElem.mp e
    rw [hu i (by rw [List.getElem?_eq_getElem h1, beq_iff_eq.mp h2])]
def chU (x : Sg) (p : Nat) : List Nat := ndC (sgN x (ffA x (ffA x p).2.1).1)
theorem ch_lt {x : Sg} (hv : Iv x) {q i j z : Nat} {g : Fl} (hq : (FF x)[q]? = some g) (hij : i < j) (hi : (ndC (sgN x g.1))[i]? = some z) (hj : (ndC (sgN x g.1))[j]? = some z) : False := by
  obtain ⟨i', y, a1, a2, a3, -⟩ := fl_ch hv.2.1 hv.tr.1 hq hi
  obtain ⟨j', w, b1, b2, b3, -⟩ := fl_ch hv.2.1 hv.tr.1 hq hj
  have e := hv.fg.2.1 i' j' y w a2 b2 (a3.trans b3.symm)
  have hz : z < sgM x := by
    rw [← a3]
    exact (hv.fg.1.2 i' y a2).1
  have h1 := szS_take (N := sgN x) (show ((ndC (sgN x g.1)).take j)[i]? = some z by rw [List.getElem?_take, if_pos hij]; exact hi)
  rw [List.take_take, Nat.min_eq_left (by omega)] at h1
  have := sz_pos hv.2.1 hz
  omega
theorem ch_one {x : Sg} (hv : Iv x) {q i j z : Nat} {g : Fl} (hq : (FF x)[q]? = some g) (hi : (ndC (sgN x g.1))[i]? = some z) (hj : (ndC (sgN x g.1))[j]? = some z) : i = j := by
  rcases Nat.lt_trichotomy i j with u | u | u
  · exact absurd (ch_lt hv hq u hi hj) id
  · exact u
  · exact absurd (ch_lt hv hq u hj hi) id
theorem ch_ix {x : Sg} (hv : Iv x) {p : Nat} {f : Fl} (hp : (FF x)[p]? = some f) (h1 : 1 ≤ p) : ∃ j, (chU x p)[j]? = some f.1 ∧ (chU x p).findIdx? (fun w => w == f.1) = some j ∧ ∀ i, (chU x p)[i]? = some f.1 → i = j := by
  obtain ⟨-, b2, -⟩ := fl_in hv.2.1 _ hv.tr.1 _ _ _ _ _ _ hp
  obtain ⟨y, i', y1, y2, y3, y4, y5⟩ := b2 h1
  rw [Nat.zero_add] at y2
  have y3' : (FF x)[i']? = some y := y3
  have e : chU x p = ndC (sgN x y.1) := by
    unfold chU
    rw [ffA_at hp, y2, ffA_at y3']
  obtain ⟨j, hj⟩ := List.mem_iff_getElem?.mp y4
  have hu : ∀ i, (chU x p)[i]? = some f.1 → i = j := fun i hi => by
    rw [e] at hi
    exact ch_one hv y3' hi hj
  rw [← e] at hj
  exact ⟨j, hj, idx_at hu hj, hu⟩
def sblV (x : Sg) (p : Nat) (up : Bool) : Int32 := match (chU x p).findIdx? (fun z => z == (ffA x p).1) with
  | some j => if up = true then (if j + 1 < (chU x p).length then zi ((chU x p).getD (j + 1) 0) else -2) else (if 1 ≤ j then zi ((chU x p).getD (j - 1) 0) else -2)
  | none => -2
def vBes (x : Sg) (a : Int32) (up : Bool) : Int32 := match inT x a with
  | some p => if p = 0 then -2 else sblV x p up
  | none => -2
theorem t_parN {x : Sg} {a : Int32} {I : zI} {K : Int32 → Prop} (hv : Iv x) (hR : RX I x) (e : inT x a = none) (h : K (-2)) : w_TreeView_parentOf a I K := by
  unfold w_TreeView_parentOf
  refine t_holds hv hR (fun p f hp ea hlt e2 => ?_) (fun _ => ?_)
  · rw [e] at e2
    cases e2
  · rw [if_pos rfl]
    exact h
theorem getD_at {l : List Nat} {j : Nat} (h : j < l.length) : l[j]? = some (l.getD j 0) := by
  rw [List.getD_eq_getElem?_getD, List.getElem?_eq_getElem h]
  rfl
theorem t_sib {x : Sg} {a st : Int32} {up : Bool} {I : zI} {K : Int32 → Prop} (hv : Iv x) (hR : RX I x) (hst : (up = true ∧ st = 1) ∨ (up = false ∧ st = -1)) (h : K (vBes x a up)) : w_TreeView_sibling a st I K := by
  have hm := hv.2.2.2.1
  unfold vBes at h
  unfold w_TreeView_sibling
  cases e : inT x a with
  | none =>
    rw [e] at h
    refine t_parN hv hR e ?_
    rw [if_neg (by decide)]
    exact h
  | some p =>
    rw [e] at h
    dsimp only at h
    obtain ⟨f, hp, rfl⟩ := inT_is e (by omega)
    have flt := (hv.fg.1.2 _ _ hp).1
    refine t_parP hv hR hp (fun w => ?_) (fun z1 z2 z3 => ?_)
    · rw [if_pos w] at h
      rw [if_neg (by decide)]
      exact h
    · rw [if_neg (by omega)] at h
      have ylt := (hv.fg.1.2 _ _ z3).1
      obtain ⟨j, hj, hj2, hju⟩ := ch_ix hv hp z1
      have ec : chU x p = ndC (sgN x (ffA x f.2.1).1) := by
        unfold chU
        rw [ffA_at hp]
      have hS : sblV x p up = if up = true then (if j + 1 < (chU x p).length then zi ((chU x p).getD (j + 1) 0) else -2) else (if 1 ≤ j then zi ((chU x p).getD (j - 1) 0) else -2) := by
        unfold sblV
        rw [ffA_at hp, hj2]
      have hch : (chU x p).length ≤ 4 := by
        rw [ec]
        exact hv.2.1.ch _ ylt
      have hjl := (List.getElem?_eq_some_iff.mp hj).1
      rw [if_pos (zi_ge (by omega))]
      refine s_childrenOf hR.2.1 hv.2.1 (by omega) ylt ?_
      rw [← ec]
      intro P26 h26
      have get : ∀ i (K' : Int32 → Prop), i < (chU x p).length → K' (zi ((chU x p).getD i 0)) → w_Nodes_childOf (zi (ffA x f.2.1).1) (zi i) I K' := fun i K' hi hK' => s_childOf hR.2.1 (by omega) ylt (hv.2.1.ch _ ylt) (by rw [← ec]; exact getD_at hi) hK'
      have main : ∀ (d i : Nat), i + d = (chU x p).length → (i ≤ j → K (sblV x p up)) → (j < i → K (-2)) → P26 (zi i) := by
        intro d
        induction d with
        | zero =>
          intro i hi h1 h2
          refine h26 _ ?_
          rw [if_pos ((zi_le (by omega) (by omega)).mpr (by omega))]
          exact h2 (by omega)
        | succ d ih =>
          intro i hi h1 h2
          refine h26 _ ?_
          rw [if_neg (nle_zi (by omega) (by omega))]
          intro v6 ev6
          refine get i _ (by omega) ?_
          intro P76 h76
          have clt : (chU x p).getD i 0 < sgM x := by
            have := hv.2.1.lt ylt (List.mem_of_getElem? (by rw [← ec]; exact getD_at (l := chU x p) (j := i) (by omega)))
            omega
          by_cases c : i = j
          · subst c
            have hK := h1 (Nat.le_refl _)
            have e1 : (chU x p).getD i 0 = f.1 := by
              have := (getD_at hjl).symm.trans hj
              exact Option.some.inj this
            rw [if_pos (by rw [e1])]
            rw [hS] at hK
            have nx : K (-2) → P76 := fun k2 => h76 (fun v ev => by
              rw [ev, zi_succ]
              exact ih (i + 1) (by omega) (fun u => by omega) (fun _ => k2))
            rcases hst with ⟨u1, u2⟩ | ⟨u1, u2⟩
            · rw [if_pos u1] at hK
              rw [u2, zi_succ] at ev6
              rw [ev6, if_neg (zi_pos (by omega))]
              by_cases c2 : i + 1 < (chU x p).length
              · rw [if_pos c2] at hK
                rw [if_neg (nle_zi c2 (by omega))]
                exact get (i + 1) _ c2 hK
              · rw [if_neg c2] at hK
                rw [if_pos ((zi_le (by omega) (by omega)).mpr (by omega))]
                exact nx hK
            · rw [if_neg (by rw [u1]; decide)] at hK
              by_cases c2 : 1 ≤ i
              · rw [if_pos c2] at hK
                rw [u2, zi_pred c2] at ev6
                rw [ev6, if_neg (zi_pos (by omega)), if_neg (nle_zi (by omega) (by omega))]
                exact get (i - 1) _ (by omega) hK
              · rw [if_neg c2] at hK
                rw [ev6, u2, show i = 0 by omega, if_pos (by decide)]
                exact nx hK
          · rw [if_neg (fun w => c (hju i (by rw [getD_at (show i < (chU x p).length by omega), (zi_eq (by omega) (by omega)).mp w])))]
            refine h76 (fun v ev => ?_)
            rw [ev, zi_succ]
            exact ih (i + 1) (by omega) (fun u => h1 (by omega)) (fun u => h2 (by omega))
      exact main _ 0 (Nat.zero_add _) (fun _ => h) (fun u => by omega)
theorem t_beside {x : Sg} {a : Int32} {I : zI} {K : Int32 → Prop} (hv : Iv x) (hR : RX I x) (h : K (vBes x a true)) : w_Desk_beside a I K := t_sib hv hR (Or.inl ⟨rfl, rfl⟩) h
theorem t_before {x : Sg} {a : Int32} {I : zI} {K : Int32 → Prop} (hv : Iv x) (hR : RX I x) (h : K (vBes x a false)) : w_Desk_before a I K := t_sib hv hR (Or.inr ⟨rfl, rfl⟩) h
def fsT (x : Sg) (p : Nat) : Nat := (ffA x p).2.2.1.toNat
def laT (x : Sg) (p : Nat) : Nat := fsT x p + ndT (sgN x (ffA x p).1) - 1
def spS (x : Sg) (p : Nat) : Nat := (tkG x (fsT x p)).2.1
def spE (x : Sg) (p : Nat) : Nat := (tkG x (laT x p)).2.1 + (tkG x (laT x p)).2.2
def vSpan (x : Sg) (a b : Int32) : Int32 := match ixI 2 b with
  | some k => (match inT x a with
    | some p => if ndT (sgN x (ffA x p).1) = 0 then -1 else if k = 0 then zi (spS x p) else zi (spE x p) - zi (spS x p)
    | none => -1)
  | none => -1
theorem ff_fst {x : Sg} (hv : Iv x) {p : Nat} {f : Fl} (hp : (FF x)[p]? = some f) : (ndT (sgN x f.1) = 0 ∧ f.2.2.1 = -2) ∨ (1 ≤ ndT (sgN x f.1) ∧ f.2.2.1 = (fsT x p : Int) ∧ fsT x p + ndT (sgN x f.1) < nG x) := by
  have a1 := (hv.fg.2.2 p f hp).1
  obtain ⟨-, -, o, -, e4, -⟩ := fl_in hv.2.1 _ hv.tr.1 _ _ _ _ _ _ hp
  have ef : f.2.2.1 = if ndT (sgN x f.1) = 0 then (-2 : Int) else ((0 + o : Nat) : Int) := by
    rw [e4]
    rfl
  by_cases u : ndT (sgN x f.1) = 0
  · rw [if_pos u] at ef
    exact Or.inl ⟨u, ef⟩
  · rw [if_neg u] at ef
    rcases a1 with w | ⟨t, t1, t2, t3⟩
    · omega
    · refine Or.inr ⟨t2, ?_, ?_⟩
      · unfold fsT
        rw [ffA_at hp, t1, Int.toNat_natCast]
      · unfold fsT
        rw [ffA_at hp, t1, Int.toNat_natCast]
        exact t3
theorem t_startOf {x : Sg} {p : Nat} {f : Fl} {I : zI} {K : Int32 → Prop} (hv : Iv x) (hR : RX I x) (hp : (FF x)[p]? = some f) (ht : f.2.2.1 = (fsT x p : Int)) (htl : fsT x p < nG x) (h : K (zi (spS x p))) : w_Desk_startOf (zi f.1) I K := by
  obtain ⟨s, hA⟩ := hR.now
  have hm := hv.2.2.2.1
  have l100 : nG x ≤ 100 := hv.2.2.2.2.2.2.2.1.2.1.2.2
  unfold w_Desk_startOf
  refine s_now hA.1 hA.2.1 ?_
  refine s_firstOf hR.2.1 (by omega) hR.2.2.1.2.1 hv.fg.1 hp ?_
  rw [ht, zi_int]
  refine (w_get (by decide)).mpr ?_
  rw [rg_in (by decide) (show fsT x p < 100 by omega), show I.1 (zmom s + 16 + 1) (fsT x p) = zi (tkG x (fsT x p)).2.1 from hA.2.2.2.2.2.2.2.2.1 _ _ (tkG_at htl)]
  exact h
theorem t_endOf {x : Sg} {p : Nat} {f : Fl} {I : zI} {K : Int32 → Prop} (hv : Iv x) (hR : RX I x) (hp : (FF x)[p]? = some f) (ht : f.2.2.1 = (fsT x p : Int)) (h1 : 1 ≤ ndT (sgN x f.1)) (htl : fsT x p + ndT (sgN x f.1) < nG x) (h : K (zi (spE x p))) : w_Desk_endOf (zi f.1) I K := by
  obtain ⟨s, hA⟩ := hR.now
  have hm := hv.2.2.2.1
  have l100 : nG x ≤ 100 := hv.2.2.2.2.2.2.2.1.2.1.2.2
  have flt := (hv.fg.1.2 _ _ hp).1
  have hla : fsT x p + ndT (sgN x f.1) - 1 = laT x p := by
    unfold laT
    rw [ffA_at hp]
  have hll : laT x p < nG x := by omega
  unfold w_Desk_endOf
  refine s_now hA.1 hA.2.1 ?_
  refine s_firstOf hR.2.1 (by omega) hR.2.2.1.2.1 hv.fg.1 hp ?_
  rw [ht, zi_int]
  refine (w_get (by decide)).mpr ?_
  rw [rg_in (by decide) (show f.1 < 3400 by omega), show I.1 (31 + 1) f.1 = zi (ndT (sgN x f.1)) from (hR.2.1.2 _ flt).2.2.2.1]
  intro v ev
  rw [zi_add, show zi (fsT x p + ndT (sgN x f.1)) - 1 = zi (fsT x p + ndT (sgN x f.1) - 1) from zi_sub (b := 1) (by omega), hla] at ev
  rw [ev]
  have hx := tkG_at hll
  refine (w_get (by decide)).mpr ?_
  rw [rg_in (by decide) (show laT x p < 100 by omega), show I.1 (zmom s + 16 + 1) (laT x p) = zi (tkG x (laT x p)).2.1 from hA.2.2.2.2.2.2.2.2.1 _ _ hx]
  refine (w_get (by decide)).mpr ?_
  rw [rg_in (by decide) (show laT x p < 100 by omega), show I.1 (zmom s + 14 + 1) (laT x p) = zi (moO (sgC x) (laT x p)) from hA.2.2.2.2.2.2.2.1 _ hll]
  obtain ⟨t1, t2⟩ := hv.tr.2.2.2.2.1 _ hll
  obtain ⟨n1, n2, n3, n4, n5, n6, n7⟩ := hR.2.1.2 _ t1
  refine (w_get (by decide)).mpr ?_
  rw [rg_in (by decide) (show moO (sgC x) (laT x p) < 3400 by omega), show I.1 (35 + 1) (moO (sgC x) (laT x p)) = zi (tkG x (laT x p)).2.2 by
    rw [show (35 + 1 : Nat) = 36 from rfl, (n7 (by omega)).1, (hv.2.2.2.2.2.2.2.1.2.2.2.2 _ _ hx).2, tkBs_len], zi_add]
  exact h
theorem t_span {x : Sg} {a b : Int32} {I : zI} {K : Int32 → Prop} (hv : Iv x) (hR : RX I x) (h : K (vSpan x a b)) : w_Desk_span a b I K := by
  have hm := hv.2.2.2.1
  unfold w_Desk_span
  unfold vSpan at h
  intro P9 h9
  have yes : ∀ k : Nat, k < 2 → b = zi k → P9 := fun k hk ek => by
    rw [ek, ixI_some (by decide) hk] at h
    dsimp only at h
    refine h9 (t_holds hv hR (fun p f hp e hlt e2 => ?_) (fun e => ?_))
    · rw [e2] at h
      dsimp only at h
      rw [ffA_at hp] at h
      rw [if_neg (by decide), e]
      refine s_firstOf hR.2.1 (by omega) hR.2.2.1.2.1 hv.fg.1 hp ?_
      rcases ff_fst hv hp with ⟨f1, f2⟩ | ⟨f1, f2, f3⟩
      · rw [if_pos f1] at h
        rw [f2, if_neg (by decide)]
        exact h
      · have l100 : nG x ≤ 100 := hv.2.2.2.2.2.2.2.1.2.1.2.2
        rw [if_neg (by omega)] at h
        rw [f2, zi_int, if_pos (zi_ge (by omega)), ek]
        by_cases c : k = 0
        · rw [if_pos c] at h
          rw [if_pos (by rw [c]; rfl)]
          exact t_startOf hv hR hp f2 (by omega) h
        · rw [if_neg c] at h
          rw [if_neg (show ¬ zi k = 0 from zi_ne (b := 0) (by omega) (by decide) c)]
          exact t_endOf hv hR hp f2 f1 f3 (t_startOf hv hR hp f2 (by omega) h)
    · rw [e] at h
      rw [if_pos rfl]
      exact h
  by_cases c0 : b = 0
  · rw [if_pos c0]
    exact yes 0 (by decide) c0
  rw [if_neg c0]
  by_cases c1 : b = 1
  · rw [if_pos c1]
    exact yes 1 (by decide) c1
  rw [if_neg c1]
  have : ixI 2 b = none := by
    rcases ix_cs (n := 2) (by decide) b with ⟨k, hk, e, e2⟩ | ⟨e, -⟩
    · match k, hk with
      | 0, _ => exact absurd e c0
      | 1, _ => exact absurd e c1
    · exact e
  rw [this] at h
  exact h
/-! node -/
def nodV (x : Sg) (k : Nat) (a : Int32) : Nat → Int32
  | 0 => Int32.ofInt (ndR (sgN x k))
  | 1 => zi (ndM (sgN x k))
  | 2 => zi (ndC (sgN x k)).length
  | 3 => Int32.ofInt (ndS (sgN x k))
  | 4 => zi (ndT (sgN x k))
  | 5 => zi (ndB (sgN x k))
  | 6 => if k = 0 then 1 else (match inT x a with
    | some _ => 1
    | none => 0)
  | 7 => (match inT x a with
    | some p => if p = 0 then -2 else zi (ffA x (ffA x p).2.1).1
    | none => -2)
  | _ => if k = 0 then zi (nG x - 1) else (match inT x a with
    | some p => if ndT (sgN x k) = 0 then -2 else zi (fsT x p)
    | none => -2)
def vNode (x : Sg) (a b : Int32) : Int32 := match ixI (sgM x) a with
  | some k => (match ixI 9 b with
    | some j => nodV x k a j
    | none => -1000)
  | none => -1000
theorem t_isEnd {x : Sg} {k : Nat} {I : zI} {K : Int32 → Prop} (hv : Iv x) (hw : Ev x) (hR : RX I x) (hk : k < sgM x) (h1 : k = 0 → K 1) (h0 : k ≠ 0 → K 0) : w_Desk_isEnd (zi k) I K := by
  have hm := hv.2.2.2.1
  unfold w_Desk_isEnd
  refine (w_get (by decide)).mpr ?_
  rw [rg_in (by decide) (show k < 3400 by omega), show I.1 (27 + 1) k = zi (ndM (sgN x k)) from (hR.2.1.2 k hk).2.1]
  have hM := hv.2.1.sym k hk
  by_cases u : ndM (sgN x k) = 15
  · rw [if_pos (show zi (ndM (sgN x k)) = 15 by rw [u]; rfl)]
    exact h1 ((hw.2.1 k hk).mp u)
  · rw [if_neg (show ¬ zi (ndM (sgN x k)) = 15 from zi_ne (b := 15) (by omega) (by decide) u)]
    exact h0 (fun v => u ((hw.2.1 k hk).mpr v))
theorem ix9 {b : Int32} : (∃ j, j < 9 ∧ b = zi j ∧ ixI 9 b = some j) ∨ (ixI 9 b = none ∧ ∀ j, j < 9 → b ≠ zi j) := by
  rcases ix_cs (n := 9) (by decide) b with ⟨j, hj, e, e2⟩ | ⟨e, -⟩
  · exact Or.inl ⟨j, hj, e, e2⟩
  · refine Or.inr ⟨e, fun j hj u => ?_⟩
    rw [u, ixI_some (by decide) hj] at e
    cases e
theorem t_node {x : Sg} {a b : Int32} {I : zI} {K : Int32 → Prop} (hv : Iv x) (hw : Ev x) (hR : RX I x) (h : K (vNode x a b)) : w_Desk_node a b I K := by
  have hm := hv.2.2.2.1
  have rep := hR.2.1
  unfold w_Desk_node
  unfold vNode at h
  refine t_has (n := sgM x) (by omega) rep.1 (fun k hk e e2 => ?_) (fun e => ?_)
  · rw [e2] at h
    dsimp only at h
    have nd := rep.2 k hk
    have inr : ∀ n : Nat, k < 3400 := fun _ => by omega
    rw [if_neg (by decide), e]
    rw [e] at h
    rcases ix9 (b := b) with ⟨j, hj, eb, e3⟩ | ⟨e3, no⟩
    · rw [e3] at h
      dsimp only at h
      rw [eb]
      match j, hj with
      | 0, _ =>
        rw [if_pos (show zi 0 = 0 from rfl)]
        refine (w_get (by decide)).mpr ?_
        rw [rg_in (by decide) (inr 0), show I.1 (25 + 1) k = _ from nd.1]
        exact h
      | 1, _ =>
        rw [if_neg (by decide), if_pos (show zi 1 = 1 from rfl)]
        refine (w_get (by decide)).mpr ?_
        rw [rg_in (by decide) (inr 0), show I.1 (27 + 1) k = _ from nd.2.1]
        exact h
      | 2, _ =>
        rw [if_neg (by decide), if_neg (by decide), if_pos (show zi 2 = 2 from rfl)]
        exact s_childrenOf rep hv.2.1 (by omega) hk h
      | 3, _ =>
        rw [if_neg (by decide), if_neg (by decide), if_neg (by decide), if_pos (show zi 3 = 3 from rfl)]
        refine (w_get (by decide)).mpr ?_
        rw [rg_in (by decide) (inr 0), show I.1 (29 + 1) k = _ from nd.2.2.1]
        exact h
      | 4, _ =>
        rw [if_neg (by decide), if_neg (by decide), if_neg (by decide), if_neg (by decide), if_pos (show zi 4 = 4 from rfl)]
        refine (w_get (by decide)).mpr ?_
        rw [rg_in (by decide) (inr 0), show I.1 (31 + 1) k = _ from nd.2.2.2.1]
        exact h
      | 5, _ =>
        rw [if_neg (by decide), if_neg (by decide), if_neg (by decide), if_neg (by decide), if_neg (by decide), if_pos (show zi 5 = 5 from rfl)]
        refine (w_get (by decide)).mpr ?_
        rw [rg_in (by decide) (inr 0), show I.1 (33 + 1) k = _ from nd.2.2.2.2.1]
        exact h
      | 6, _ =>
        rw [if_neg (by decide), if_neg (by decide), if_neg (by decide), if_neg (by decide), if_neg (by decide), if_neg (by decide), if_pos (show zi 6 = 6 from rfl)]
        change K (if k = 0 then 1 else (match inT x (zi k) with
          | some _ => 1
          | none => 0)) at h
        refine t_isEnd hv hw hR hk (fun u => ?_) (fun u => ?_)
        · rw [if_pos u] at h
          rw [if_neg (by decide)]
          exact h
        · rw [if_neg u] at h
          rw [if_pos rfl]
          refine t_holds hv hR (fun p f hp ea hlt e4 => ?_) (fun e4 => ?_)
          · rw [e4] at h
            rw [if_neg (by decide)]
            exact h
          · rw [e4] at h
            rw [if_pos rfl]
            exact h
      | 7, _ =>
        rw [if_neg (by decide), if_neg (by decide), if_neg (by decide), if_neg (by decide), if_neg (by decide), if_neg (by decide), if_neg (by decide), if_pos (show zi 7 = 7 from rfl)]
        change K (match inT x (zi k) with
          | some p => if p = 0 then -2 else zi (ffA x (ffA x p).2.1).1
          | none => -2) at h
        cases e4 : inT x (zi k) with
        | none =>
          rw [e4] at h
          exact t_parN hv hR e4 h
        | some p =>
          rw [e4] at h
          dsimp only at h
          obtain ⟨f, hp, ea⟩ := inT_is e4 (by omega)
          rw [ea]
          rw [ffA_at hp] at h
          refine t_parP hv hR hp (fun w => ?_) (fun z1 z2 z3 => ?_)
          · rw [if_pos w] at h
            exact h
          · rw [if_neg (by omega)] at h
            exact h
      | 8, _ =>
        rw [if_neg (by decide), if_neg (by decide), if_neg (by decide), if_neg (by decide), if_neg (by decide), if_neg (by decide), if_neg (by decide), if_neg (by decide), if_pos (show zi 8 = 8 from rfl)]
        change K (if k = 0 then zi (nG x - 1) else (match inT x (zi k) with
          | some p => if ndT (sgN x k) = 0 then -2 else zi (fsT x p)
          | none => -2)) at h
        refine t_isEnd hv hw hR hk (fun u => ?_) (fun u => ?_)
        · rw [if_pos u] at h
          rw [if_neg (by decide)]
          obtain ⟨s, hA⟩ := hR.now
          refine s_now hA.1 hA.2.1 ?_
          have n1 : 1 ≤ nG x := hv.tr.2.2.2.2.2.2.1
          rw [show I.1 (zmom s) 6 = zi (nG x) from hA.2.2.2.2.2.2.1, show zi (nG x) - 1 = zi (nG x - 1) from zi_sub (b := 1) n1]
          exact h
        · rw [if_neg u] at h
          rw [if_pos rfl]
          cases e4 : inT x (zi k) with
          | none =>
            rw [e4] at h
            unfold w_TreeView_firstOf
            refine t_holds hv hR (fun p f hp ea hlt e5 => ?_) (fun _ => ?_)
            · rw [e4] at e5
              cases e5
            · rw [if_pos rfl]
              exact h
          | some p =>
            rw [e4] at h
            dsimp only at h
            obtain ⟨f, hp, ea⟩ := inT_is e4 (by omega)
            have hlt := (hv.fg.1.2 p f hp).1
            have ek : k = f.1 := (zi_eq (by omega) (by omega)).mp ea
            rw [ea]
            refine s_firstOf rep (by omega) hR.2.2.1.2.1 hv.fg.1 hp ?_
            rw [ek] at h
            rcases ff_fst hv hp with ⟨f1, f2⟩ | ⟨f1, f2, f3⟩
            · rw [if_pos f1] at h
              rw [f2]
              exact h
            · rw [if_neg (by omega)] at h
              rw [f2, zi_int]
              exact h
    · rw [e3] at h
      have nn : ∀ j : Nat, j < 9 → ¬ b = zi j := no
      rw [if_neg (show ¬ b = 0 from nn 0 (by decide)), if_neg (show ¬ b = 1 from nn 1 (by decide)), if_neg (show ¬ b = 2 from nn 2 (by decide)), if_neg (show ¬ b = 3 from nn 3 (by decide)), if_neg (show ¬ b = 4 from nn 4 (by decide)), if_neg (show ¬ b = 5 from nn 5 (by decide)), if_neg (show ¬ b = 6 from nn 6 (by decide)), if_neg (show ¬ b = 7 from nn 7 (by decide)), if_neg (show ¬ b = 8 from nn 8 (by decide))]
      exact h
  · rw [e] at h
    rw [if_pos rfl]
    exact h
/-! fresh -/
def vFresh (x : Sg) : Int32 := zi (FF x).length
theorem t_fresh {x : Sg} {I : zI} {K : Int32 → Prop} (hR : RX I x) (h : K (vFresh x)) : w_Desk_fresh I K := by
  unfold w_Desk_fresh
  rw [show I.1 43 12 = zi (FF x).length from hR.2.2.1.2.1.1]
  exact h
/-! ===== growing from nothing, a token at a time ===== -/
def rk3T : List Nat := [1, 0, 1, 0, 1, 0, 0, 0, 1, 2, 3, 3, 0, 2, 2, 0, 0, 0, 1, 2, 3]
def rk3 (s : Nat) : Nat := rk3T.getD s 0
theorem rk3_fin : ((List.range 21).all (fun s => match rlN s with
  | none => true
  | some r => (bkT (lnN r) s).all (fun a => decide (rk3 (ldN a (syN r)) < rk3 s)))) = true := by decide +kernel
theorem rk3_le : ∀ s, s < 21 → rk3 s ≤ 3 := by decide +kernel
/-- a stack that can stand behind t tokens -/
def LV (t : Nat) (st : List (Nat × Nat)) : Prop := 1 ≤ st.length ∧ StP st ∧ StOk 1 st ∧ 8 * st.length + rkS (topS st) ≤ 18 * t + 17
theorem LV.st0 : LV 0 [(0, 0)] := by
  obtain ⟨-, a, b, c, d⟩ := LI.st0 (e := 0)
  exact ⟨a, b, c, by omega⟩
theorem LV.li {t : Nat} {st : List (Nat × Nat)} (h : LV t st) (e : Nat) (he : t ≤ e) : LI e t st 0 := by
  obtain ⟨a, b, c, d⟩ := h
  exact ⟨he, a, b, c, by omega⟩
theorem LV.top {t : Nat} {st : List (Nat × Nat)} (h : LV t st) : topS st < 21 ∧ rk3 (topS st) < 4 ∧ ∃ p0 : Nat × Nat, st[st.length - 1]? = some p0 ∧ p0.2 = topS st := by
  obtain ⟨s1, s2, s3, s4⟩ := h
  obtain ⟨p0, t1, t2⟩ := top_at s1
  have hs : topS st < 21 := t2 ▸ (s3 _ p0 t1).1
  have := rk3_le _ hs
  exact ⟨hs, by omega, p0, t1, t2⟩
theorem LV.red {t r : Nat} {st : List (Nat × Nat)} (h : LV t st) (hr : rlN (topS st) = some r) : LV t (byT 0 st r) ∧ r < 11 ∧ lnN r < st.length ∧ ldN (byS st r) (syN r) ≠ 0 ∧ rk3 (topS (byT 0 st r)) < rk3 (topS st) ∧ byS st r < 21 ∧ byS st r ∈ bkT (lnN r) (topS st) := by
  obtain ⟨s1, s2, s3, s4⟩ := id h
  obtain ⟨p0, t1, t2⟩ := top_at s1
  have hs21 : topS st < 21 := t2 ▸ (s3 _ p0 t1).1
  have hn : ∀ kd : Nat → Nat, kd t = 11 → lNx kd t st = some (t, byT 0 st r) := fun kd hk => by
    unfold lNx
    rw [hk, if_pos (end_fin2 _ hs21), hr]
  obtain ⟨-, a, b, c, d⟩ := (h.li t (Nat.le_refl t)).nx (kd := fun _ => 11) ⟨fun _ _ => (by decide : 11 < 12), fun s hs => end_fin2 s hs⟩ (hn _ rfl)
  obtain ⟨f1, f2⟩ := st_fits s2 s3 s1 t1 t2 hr
  have hb : st[st.length - lnN r - 1]? = some (st.getD (st.length - lnN r - 1) (0, 0)) := by
    rw [List.getD_eq_getElem?_getD, List.getElem?_eq_getElem (by omega)]
    rfl
  have hbs : byS st r ∈ bkT (lnN r) (topS st) := by
    have := bk_mem s2 s3 t1 (lnN r) (st.getD (st.length - lnN r - 1) (0, 0)) (by omega) (by
      rw [show st.length - 1 - lnN r = st.length - lnN r - 1 by omega]
      exact hb)
    rw [t2] at this
    exact this
  dsimp only at a b c d
  refine ⟨⟨a, b, c, by omega⟩, rlN_lt hs21 hr, f1, f2, ?_, (s3 _ _ hb).1, hbs⟩
  have h1 := List.all_eq_true.mp rk3_fin (topS st) (List.mem_range.mpr hs21)
  rw [hr] at h1
  have h2 := List.all_eq_true.mp h1 _ hbs
  unfold byT
  rw [topS_snoc]
  exact of_decide_eq_true h2
theorem LV.sh {t y : Nat} {st : List (Nat × Nat)} (h : LV t st) (hy : y < 12) (hl : ldN (topS st) (5 + y) ≠ 0) : LV (t + 1) (st ++ [(0, ldN (topS st) (5 + y))]) := by
  have hn : ∀ kd : Nat → Nat, kd t = y → lNx kd t st = some (t + 1, st ++ [(0, ldN (topS st) (5 + y))]) := fun kd e => by
    unfold lNx
    rw [e, if_neg hl]
  have hk : KdO (fun i => if i = t then y else 11) (t + 1) := ⟨fun i _ => by
    dsimp only
    split <;> omega, fun s hs => by
    dsimp only
    rw [if_neg (by omega)]
    exact end_fin2 s hs⟩
  obtain ⟨-, a, b, c, d⟩ := (h.li (t + 1) (Nat.le_succ t)).nx hk (hn _ (if_pos rfl))
  dsimp only at a b c d
  exact ⟨a, b, c, by omega⟩
def acF (y : Nat) : Nat → List (Nat × Nat) → Option (List (Nat × Nat))
  | 0, _ => none
  | d + 1, st => if ldN (topS st) (5 + y) = 0 then (match rlN (topS st) with
    | some r => acF y d (byT 0 st r)
    | none => none) else some (st ++ [(0, ldN (topS st) (5 + y))])
/-- all that can be reduced -/
def rdF : Nat → List (Nat × Nat) → List (Nat × Nat)
  | 0, st => st
  | d + 1, st => match rlN (topS st) with
    | some r => rdF d (byT 0 st r)
    | none => st
def acE (st : List (Nat × Nat)) : Bool := decide (topS (rdF 4 st) = 1)
def acV (y : Nat) (st : List (Nat × Nat)) : Bool := if y = 10 then acE st else (acF y 4 st).isSome
theorem acF_at {y d : Nat} {st : List (Nat × Nat)} : acF y (d + 1) st = if ldN (topS st) (5 + y) = 0 then (match rlN (topS st) with
    | some r => acF y d (byT 0 st r)
    | none => none) else some (st ++ [(0, ldN (topS st) (5 + y))]) := rfl
theorem rdF_at {d : Nat} {st : List (Nat × Nat)} : rdF (d + 1) st = match rlN (topS st) with
    | some r => rdF d (byT 0 st r)
    | none => st := rfl
theorem ac_run {kd : Nat → Nat} {y i : Nat} (hk : kd i = y) (hy : y < 12) : ∀ (d t : Nat) (st : List (Nat × Nat)), LV t st → rk3 (topS st) < d →
    (∀ st', acF y d st = some st' → LV (t + 1) st' ∧ Rch kd (i, st) (i + 1, st')) ∧
    (acF y d st = none → LV t (rdF d st) ∧ Rch kd (i, st) (i, rdF d st) ∧ lNx kd i (rdF d st) = none)
  | 0, t, st, _, h2 => absurd h2 (Nat.not_lt_zero _)
  | d + 1, t, st, h1, h2 => by
    rw [acF_at, rdF_at]
    by_cases hz : ldN (topS st) (5 + y) = 0
    · rw [if_pos hz]
      cases hr : rlN (topS st) with
      | none =>
        dsimp only
        refine ⟨fun st' e => (by cases e), fun _ => ⟨h1, Rch.rf, ?_⟩⟩
        unfold lNx
        rw [hk, if_pos hz, hr]
      | some r =>
        dsimp only
        obtain ⟨a1, -, -, -, a5, -⟩ := h1.red hr
        obtain ⟨b1, b2⟩ := ac_run hk hy d t (byT 0 st r) a1 (by omega)
        have one : Rch kd (i, st) (i, byT 0 st r) := Rch.one (by
          unfold lNx
          rw [hk, if_pos hz, hr])
        exact ⟨fun st' e => ⟨(b1 st' e).1, one.tr (b1 st' e).2⟩, fun e => ⟨(b2 e).1, one.tr (b2 e).2.1, (b2 e).2.2⟩⟩
    · rw [if_neg hz]
      refine ⟨fun st' e => ?_, fun e => (by cases e)⟩
      cases e
      exact ⟨h1.sh hy hz, Rch.one (by
        unfold lNx
        rw [hk, if_neg hz])⟩
theorem acF_end {y : Nat} (hy : ∀ s, s < 21 → ldN s (5 + y) = 0) : ∀ (d t : Nat) (st : List (Nat × Nat)), LV t st → acF y d st = none
  | 0, _, _, _ => rfl
  | d + 1, t, st, h => by
    rw [acF_at, if_pos (hy _ h.top.1)]
    cases hr : rlN (topS st) with
    | none => rfl
    | some r => exact acF_end hy d t _ (h.red hr).1
/-- all tokens of a row, END at last -/
def acL : List Nat → List (Nat × Nat) → Bool
  | [], _ => true
  | y :: l, st => if y = 10 then acE st else (match acF y 4 st with
    | some st' => acL l st'
    | none => false)
def rnF : List Nat → List (Nat × Nat) → Option (List (Nat × Nat))
  | [], st => some st
  | y :: l, st => (acF y 4 st).bind (rnF l)
theorem acL_app {v : List Nat} : ∀ {u : List Nat} {st : List (Nat × Nat)}, (∀ y ∈ u, y ≠ 10) → acL (u ++ v) st = match rnF u st with
    | some st' => acL v st'
    | none => false
  | [], st, _ => rfl
  | y :: u, st, h => by
    show (if y = 10 then acE st else (match acF y 4 st with
      | some st' => acL (u ++ v) st'
      | none => false)) = match (acF y 4 st).bind (rnF u) with
      | some st' => acL v st'
      | none => false
    rw [if_neg (h y (List.mem_cons_self ..))]
    cases acF y 4 st with
    | none => rfl
    | some st' => exact acL_app (fun z hz => h z (List.mem_cons_of_mem _ hz))
theorem rnF_app {v : List Nat} : ∀ {u : List Nat} {st : List (Nat × Nat)}, rnF (u ++ v) st = (rnF u st).bind (rnF v)
  | [], st => rfl
  | y :: u, st => by
    show (acF y 4 st).bind (rnF (u ++ v)) = ((acF y 4 st).bind (rnF u)).bind (rnF v)
    cases acF y 4 st with
    | none => rfl
    | some st' => exact rnF_app
theorem rnF_lv : ∀ {u : List Nat} {t : Nat} {st st' : List (Nat × Nat)}, (∀ y ∈ u, y < 12) → LV t st → rnF u st = some st' → LV (t + u.length) st'
  | [], t, st, st', _, h, e => by
    cases e
    exact h
  | y :: u, t, st, st', hu, h, e => by
    have e' : (acF y 4 st).bind (rnF u) = some st' := e
    cases ha : acF y 4 st with
    | none =>
      rw [ha] at e'
      cases e'
    | some s =>
      rw [ha] at e'
      have h1 := ((ac_run (kd := fun _ => y) (i := 0) rfl (hu y (List.mem_cons_self ..)) 4 t st h h.top.2.1).1 s ha).1
      have := rnF_lv (fun z hz => hu z (List.mem_cons_of_mem _ hz)) h1 e'
      rw [List.length_cons, show t + (u.length + 1) = t + 1 + u.length by omega]
      exact this
/-- a row of KINDS, END at last and nowhere else -/
def KdL (W : List Nat) : Prop := ∀ (j y : Nat), W[j]? = some y → y < 12 ∧ (y = 10 ↔ j + 1 = W.length)
theorem run_w {kd : Nat → Nat} : ∀ (W : List Nat) (t0 t : Nat) (st : List (Nat × Nat)), LV t st → KdL W → (∀ (j y : Nat), W[j]? = some y → kd (t0 + j) = y) → W ≠ [] → ∃ i s, i < W.length ∧ Rch kd (t0, st) (t0 + i, s) ∧ lNx kd (t0 + i) s = none ∧ ((W[i]? = some 10 ∧ topS s = 1) ↔ acL W st = true)
  | [], _, _, _, _, _, _, h => absurd rfl h
  | y :: l, t0, t, st, hl, hW, hk, _ => by
    obtain ⟨y1, y2⟩ := hW 0 y rfl
    have k0 : kd t0 = y := hk 0 y rfl
    obtain ⟨b1, b2⟩ := ac_run k0 y1 4 t st hl hl.top.2.1
    by_cases c : y = 10
    · have ha : acF y 4 st = none := acF_end (fun s hs => by rw [c]; exact end_fin s hs) 4 t st hl
      obtain ⟨c1, c2, c3⟩ := b2 ha
      refine ⟨0, rdF 4 st, Nat.succ_pos _, c2, c3, ?_⟩
      show (some y = some 10 ∧ _) ↔ (if y = 10 then acE st else _) = true
      rw [if_pos c, c]
      unfold acE
      constructor
      · exact fun w => decide_eq_true w.2
      · exact fun w => ⟨rfl, of_decide_eq_true w⟩
    · have hln : l ≠ [] := fun u => c (y2.mpr (by rw [u]; rfl))
      cases ha : acF y 4 st with
      | none =>
        obtain ⟨c1, c2, c3⟩ := b2 ha
        refine ⟨0, rdF 4 st, Nat.succ_pos _, c2, c3, ?_⟩
        show (some y = some 10 ∧ _) ↔ (if y = 10 then acE st else (match acF y 4 st with
          | some st' => acL l st'
          | none => false)) = true
        rw [if_neg c, ha]
        constructor
        · exact fun w => absurd (Option.some.inj w.1) c
        · intro w
          cases w
      | some st' =>
        obtain ⟨c1, c2⟩ := b1 st' ha
        obtain ⟨i, s, d1, d2, d3, d4⟩ := run_w l (t0 + 1) (t + 1) st' c1 (fun j z hz => by
          obtain ⟨z1, z2⟩ := hW (j + 1) z (by rw [List.getElem?_cons_succ]; exact hz)
          refine ⟨z1, z2.trans ?_⟩
          rw [List.length_cons]
          omega) (fun j z hz => by
          have := hk (j + 1) z (by rw [List.getElem?_cons_succ]; exact hz)
          rw [show t0 + 1 + j = t0 + (j + 1) by omega]
          exact this) hln
        refine ⟨i + 1, s, by rw [List.length_cons]; omega, ?_, ?_, ?_⟩
        · rw [show t0 + (i + 1) = t0 + 1 + i by omega]
          exact c2.tr d2
        · rw [show t0 + (i + 1) = t0 + 1 + i by omega]
          exact d3
        · rw [List.getElem?_cons_succ, d4]
          show acL l st' = true ↔ (if y = 10 then acE st else (match acF y 4 st with
            | some st' => acL l st'
            | none => false)) = true
          rw [if_neg c, ha]
/-! ===== the trials ===== -/
def TrX (I : zI) (k : Nat) (st : List (Nat × Nat)) : Prop := I.1 k 1 = zi (st.length - 1) ∧ ∀ (j : Nat) (p : Nat × Nat), st[j]? = some p → I.1 (k + 2) j = zi p.2
def Qtk (k a j : Nat) : Prop := (a = k ∧ j = 1) ∨ a = k + 2
theorem t_begin {k : Nat} {I : zI} {K : zI → Prop} (hK : ∀ J, eqQ (Qtk k) I J → TrX J k [(0, 0)] → K J) : w_Trial_begin k I K := by
  intro I1 e1
  refine (w_set (by decide)).mpr ?_
  change K (rs I1 (k + 1 + 1) 300 (zi 0) 0)
  rw [rs_in (by decide) (by decide)]
  refine hK _ ?_ ⟨?_, fun j p hj => ?_⟩
  · rw [e1]
    exact (eqQ.rf.zu (Or.inl ⟨rfl, rfl⟩)).zu (Or.inr rfl)
  · rw [zu_oo (by omega), e1, zu_self]
    rfl
  · have hj0 : j = 0 := by
      have := (List.getElem?_eq_some_iff.mp hj).1
      change j < 1 at this
      omega
    subst hj0
    cases hj
    show (zu I1 (k + 2) 0 0).1 (k + 2) 0 = zi 0
    rw [zu_self]
    rfl
theorem t_trialCopy {k a : Nat} {st : List (Nat × Nat)} {I : zI} {K : zI → Prop} (hka : k + 2 < a ∨ a + 2 < k) (h1 : 1 ≤ st.length) (h2 : st.length ≤ 299) (hT : TrX I a st) (hK : ∀ J, eqQ (Qtk k) I J → TrX J k st → K J) : w_Trial_copyFrom k a I K := by
  intro I1 e1
  have g1 : I1.1 k 1 = zi (st.length - 1) := by
    rw [e1, zu_self]
    exact hT.1
  rw [g1, zi_succ, show st.length - 1 + 1 = st.length by omega]
  refine s_copy (by decide) (by decide) (by omega) (by omega) (fun J q v => hK J ?_ ⟨?_, fun j p hj => ?_⟩)
  · refine eqX.q ?_ q (fun b j w1 w2 => ?_)
    · rw [e1]
      exact eqQ.rf.zu (Or.inl ⟨rfl, rfl⟩)
    · exact Or.inr (by omega)
  · rw [(q k (by omega)).1]
    exact g1
  · have hjl := (List.getElem?_eq_some_iff.mp hj).1
    have w := v j
    rw [if_pos hjl] at w
    refine Eq.trans w ?_
    show I1.1 (a + 2) j = zi p.2
    rw [e1, zu_oo (by omega)]
    exact hT.2 j p hj
theorem t_accepts {k t y : Nat} {st : List (Nat × Nat)} {I : zI} {K : Int32 → zI → Prop} (hT : TrX I k st) (hl : LV t st) (ht : t ≤ 105) (hy : y < 12) (hK : ∀ J, eqQ (Qtk k) I J → (∀ st', acF y 4 st = some st' → TrX J k st') → K (b01 (acV y st)) J) : w_Trial_accepts k (zi y) I K := by
  intro P2 h2
  have main : ∀ (d n : Nat) (st : List (Nat × Nat)) (J : zI), LV t st → rk3 (topS st) < d → n + d ≤ 900 → eqQ (Qtk k) I J → TrX J k st → (∀ L, eqQ (Qtk k) I L → (∀ st', acF y d st = some st' → TrX L k st') → K (b01 (if y = 10 then decide (topS (rdF d st) = 1) else (acF y d st).isSome)) L) → P2 (zi n) J := by
    intro d
    induction d with
    | zero =>
      intro n st J _ h
      exact absurd h (Nat.not_lt_zero _)
    | succ d ih =>
      intro n st J hl hd hn q hT hK
      obtain ⟨hs21, -, p0, t1, t2⟩ := hl.top
      obtain ⟨l1, l2, l3, l4⟩ := id hl
      refine h2 _ _ ?_
      rw [if_neg (show ¬ (1000 : Int32) ≤ zi n from nle_zi (n := 1000) (by omega) (by decide)), hT.1]
      refine (w_get (by decide)).mpr ?_
      rw [rg_in (by decide) (show st.length - 1 < 300 by omega), show J.1 (k + 1 + 1) (st.length - 1) = zi (topS st) by rw [← t2]; exact hT.2 _ p0 t1, show (5 : Int32) + zi y = zi (5 + y) from zi_add 5 y]
      refine s_leadsTo hs21 (by omega) (s_ruleAt hs21 ?_)
      rw [acF_at, rdF_at] at hK
      by_cases hz : ldN (topS st) (5 + y) = 0
      · rw [if_pos hz] at hK
        rw [if_pos (show zi (ldN (topS st) (5 + y)) ≤ 0 by rw [hz]; decide)]
        intro P83 h83
        unfold rlI
        cases hr : rlN (topS st) with
        | none =>
          rw [hr] at hK
          dsimp only at hK ⊢
          rw [if_pos (by decide)]
          refine h83 ?_
          have hK2 := hK J q (fun st' e => by cases e)
          by_cases c : y = 10
          · rw [if_pos c] at hK2
            rw [if_pos (show zi y = 10 by rw [c]; rfl)]
            by_cases c2 : topS st = 1
            · rw [decide_eq_true c2] at hK2
              rw [if_pos (show zi (topS st) = 1 by rw [c2]; rfl)]
              exact hK2
            · rw [decide_eq_false c2] at hK2
              rw [if_neg (show ¬ zi (topS st) = 1 from zi_ne (b := 1) (by omega) (by decide) c2)]
              exact hK2
          · rw [if_neg c] at hK2
            rw [if_neg (show ¬ zi y = 10 from zi_ne (b := 10) (by omega) (by decide) c)]
            exact hK2
        | some r =>
          rw [hr] at hK
          dsimp only at hK ⊢
          obtain ⟨a1, a2, a3, a4, a5, a6, -⟩ := hl.red hr
          have hsy5 := (sy_fin r a2).2
          change syN r < 5 at hsy5
          rw [if_neg (zi_pos (by omega))]
          refine s_lengthOf a2 ?_
          rw [if_pos ((zi_le (by omega) (by omega)).mpr (by omega))]
          refine s_lengthOf a2 (fun I10 e10 I11 e11 => ?_)
          rw [zi_sub (by omega)] at e10
          have g10 : I10.1 k 1 = zi (st.length - 1 - lnN r) := by rw [e10, zu_self]
          rw [g10, zi_succ] at e11
          have g11 : I11.1 k 1 = zi (st.length - 1 - lnN r + 1) := by rw [e11, zu_self]
          have o11 : ∀ j, I11.1 (k + 2) j = J.1 (k + 2) j := fun j => by rw [e11, zu_oo (by omega), e10, zu_oo (by omega)]
          have hb : st[st.length - lnN r - 1]? = some (st.getD (st.length - lnN r - 1) (0, 0)) := by
            rw [List.getD_eq_getElem?_getD, List.getElem?_eq_getElem (by omega)]
            rfl
          rw [g11, show zi (st.length - 1 - lnN r + 1) - 1 = zi (st.length - 1 - lnN r) from zi_sub (b := 1) (Nat.le_add_left 1 _)]
          refine (w_get (by decide)).mpr ?_
          rw [rg_in (by decide) (show st.length - 1 - lnN r < 300 by omega), show I11.1 (k + 1 + 1) (st.length - 1 - lnN r) = zi (byS st r) by
            rw [show k + 1 + 1 = k + 2 from rfl, o11, show st.length - 1 - lnN r = st.length - lnN r - 1 by omega]
            exact hT.2 _ _ hb]
          refine s_symbolOf a2 (s_leadsTo a6 (by omega) ?_)
          refine (w_set (by decide)).mpr (fun v ev => ?_)
          rw [rs_in (by decide) (show st.length - 1 - lnN r + 1 < 300 by omega), ev, zi_succ]
          have htl : (st.take (st.length - lnN r)).length = st.length - lnN r := by rw [List.length_take]; omega
          refine ih (n + 1) (byT 0 st r) _ a1 (by omega) (by omega) ?_ ⟨?_, fun j p hj => ?_⟩ hK
          · rw [e11, e10]
            exact ((q.zu (Or.inl ⟨rfl, rfl⟩)).zu (Or.inl ⟨rfl, rfl⟩)).zu (Or.inr rfl)
          · rw [zu_oo (by omega), g11]
            unfold byT
            rw [List.length_append, htl]
            show zi (st.length - 1 - lnN r + 1) = zi (st.length - lnN r + 1 - 1)
            rw [show st.length - 1 - lnN r + 1 = st.length - lnN r + 1 - 1 by omega]
          · show (zu I11 (k + 2) (st.length - 1 - lnN r + 1) (zi (ldN (byS st r) (syN r)))).1 (k + 2) j = zi p.2
            unfold byT at hj
            by_cases u : j < st.length - lnN r
            · rw [List.getElem?_append_left (by omega), List.getElem?_take, if_pos u] at hj
              rw [zu_at, if_neg (by omega), o11]
              exact hT.2 j p hj
            · have hj2 := (List.getElem?_eq_some_iff.mp hj).1
              rw [List.length_append, htl] at hj2
              change j < st.length - lnN r + 1 at hj2
              have hje : j = st.length - lnN r := by omega
              subst hje
              rw [List.getElem?_append_right (by omega), htl, Nat.sub_self] at hj
              cases hj
              rw [show st.length - 1 - lnN r + 1 = st.length - lnN r by omega, zu_self]
      · rw [if_neg hz] at hK
        have h21 := ldN_lt (s := topS st) (y := 5 + y) hs21 (by omega)
        rw [if_neg (fun w => hz (by have := (zi_le (b := 0) (by omega) (by decide)).mp w; omega))]
        intro I19 e19
        have g19 : I19.1 k 1 = zi (st.length - 1 + 1) := by rw [e19, zu_self, zi_succ]
        rw [g19]
        refine (w_set (by decide)).mpr ?_
        rw [rs_in (by decide) (show st.length - 1 + 1 < 300 by omega)]
        have c : y ≠ 10 := fun c => hz (by rw [c]; exact end_fin _ hs21)
        have hK2 := hK (zu I19 (k + 1 + 1) (st.length - 1 + 1) (zi (ldN (topS st) (5 + y)))) (by
          rw [e19]
          exact (q.zu (Or.inl ⟨rfl, rfl⟩)).zu (Or.inr rfl)) (fun st' e => by
          cases e
          refine ⟨?_, fun j p hj => ?_⟩
          · rw [zu_oo (by omega), g19, List.length_append]
            show zi (st.length - 1 + 1) = zi (st.length + 1 - 1)
            rw [show st.length - 1 + 1 = st.length + 1 - 1 by omega]
          · show (zu I19 (k + 2) (st.length - 1 + 1) (zi (ldN (topS st) (5 + y)))).1 (k + 2) j = zi p.2
            rw [show st.length - 1 + 1 = st.length by omega]
            rcases snoc_at hj with hj | ⟨e1, e2⟩
            · have := (List.getElem?_eq_some_iff.mp hj).1
              rw [zu_at, if_neg (by omega), e19, zu_oo (by omega)]
              exact hT.2 j p hj
            · rw [e1, e2, zu_self])
        rw [if_neg c] at hK2
        exact hK2
  exact main 4 0 st I hl hl.top.2.1 (by decide) eqQ.rf hT hK
/-! ===== what could be put, and what mends ===== -/
theorem TrX.kp {I J : zI} {k : Nat} {st : List (Nat × Nat)} (h : TrX I k st) (e : ∀ a j, a = k ∨ a = k + 2 → J.1 a j = I.1 a j) : TrX J k st := ⟨(e _ _ (Or.inl rfl)).trans h.1, fun j p hj => (e _ _ (Or.inr rfl)).trans (h.2 j p hj)⟩
theorem Qtk_ad1 {I J : zI} (q : eqQ (Qtk 101) I J) : eqQ Qad I J := q.mono (fun a j h => by unfold Qtk at h; unfold Qad; omega)
theorem Qtk_ad4 {I J : zI} (q : eqQ (Qtk 104) I J) : eqQ Qad I J := q.mono (fun a j h => by unfold Qtk at h; unfold Qad; omega)
theorem TrX.o4 {I J : zI} {st : List (Nat × Nat)} (h : TrX I 101 st) (q : eqQ (Qtk 104) I J) : TrX J 101 st := h.kp (fun a j u => q.1 a j (by unfold Qtk; omega))
theorem TrX.o1 {I J : zI} {st : List (Nat × Nat)} (h : TrX I 104 st) (q : eqQ (Qtk 101) I J) : TrX J 104 st := h.kp (fun a j u => q.1 a j (by unfold Qtk; omega))
/-- the tokens of a text by their KINDS -/
def TkX (I : zI) (tk : Nat) (l : List Nat) : Prop := (tk < 100 ∨ 112 < tk) ∧ I.1 tk 5 = zi l.length ∧ (∀ (j y : Nat), l[j]? = some y → I.1 (tk + 2) j = zi y) ∧ tk + 2 ≠ 100 ∧ tk + 2 ≠ 101
theorem TkX.ad {I J : zI} {tk : Nat} {l : List Nat} (h : TkX I tk l) (q : eqQ Qad I J) : TkX J tk l := by
  obtain ⟨h1, h2, h3, h4, h5⟩ := h
  exact ⟨h1, by rw [q.1 _ _ (by unfold Qad; omega)]; exact h2, fun j y hj => by rw [q.1 _ _ (by unfold Qad; omega)]; exact h3 j y hj, h4, h5⟩
theorem drop_at {l : List Nat} {i y : Nat} (h : l[i]? = some y) : l.drop i = y :: l.drop (i + 1) := by
  obtain ⟨h1, h2⟩ := List.getElem?_eq_some_iff.mp h
  rw [List.drop_eq_getElem_cons h1, h2]
theorem acL_cons {y : Nat} {l : List Nat} {st : List (Nat × Nat)} : acL (y :: l) st = if y = 10 then acE st else (match acF y 4 st with
    | some st' => acL l st'
    | none => false) := rfl
theorem acV_no {y : Nat} {st : List (Nat × Nat)} (h : y ≠ 10) : acV y st = (acF y 4 st).isSome := if_neg h
theorem t_acceptsFrom {k tk t i : Nat} {st : List (Nat × Nat)} {l : List Nat} {I : zI} {K : Int32 → zI → Prop} (hk : k = 101 ∨ k = 104) (hW : KdL l) (hl : l.length ≤ 100) (hX : TkX I tk l) (hT : TrX I k st) (hv : LV t st) (hi : i ≤ l.length) (ht : t + (l.length - i) ≤ 104) (hK : ∀ J, eqQ (Qtk k) I J → K (b01 (acL (l.drop i) st)) J) : w_Trial_acceptsFrom k tk (zi i) I K := by
  intro P2 h2
  have qa : ∀ {A B : zI}, eqQ (Qtk k) A B → eqQ Qad A B := fun q => q.mono (fun a j h => by unfold Qtk at h; unfold Qad; omega)
  have main : ∀ (d i t : Nat) (st : List (Nat × Nat)) (J : zI), i + d = l.length → LV t st → t + d ≤ 104 → eqQ (Qtk k) I J → TrX J k st → (∀ L, eqQ (Qtk k) I L → K (b01 (acL (l.drop i) st)) L) → P2 (zi i) J := by
    intro d
    induction d with
    | zero =>
      intro i t st J hid hv ht q hT hK
      refine h2 _ _ ?_
      obtain ⟨-, x2, -⟩ := hX.ad (qa q)
      rw [x2, if_pos ((zi_le (by omega) (by omega)).mpr (by omega))]
      have := hK J q
      rw [List.drop_of_length_le (by omega)] at this
      exact this
    | succ d ih =>
      intro i t st J hid hv ht q hT hK
      refine h2 _ _ ?_
      obtain ⟨-, x2, x3, -⟩ := hX.ad (qa q)
      rw [x2, if_neg (nle_zi (by omega) (by omega))]
      have hat := getD_at (l := l) (j := i) (by omega)
      generalize l.getD i 0 = y at hat
      obtain ⟨w1, w2⟩ := hW i y hat
      rw [drop_at hat] at hK
      refine (w_get (by decide)).mpr ?_
      rw [rg_in (by decide) (show i < 100 by omega), show J.1 (tk + 1 + 1) i = zi y from x3 i y hat]
      refine t_accepts hT hv (by omega) w1 (fun L qL tr => ?_)
      have q2 := q.tr qL
      by_cases c : y = 10
      · have hK2 := hK L q2
        rw [acL_cons, if_pos c] at hK2
        have ev : acV y st = acE st := if_pos c
        rw [ev]
        cases he : acE st with
        | false =>
          rw [he] at hK2
          rw [if_pos (show b01 false = 0 from rfl)]
          exact hK2
        | true =>
          rw [he] at hK2
          rw [if_neg (by decide)]
          intro v ev
          rw [ev, zi_succ]
          refine h2 _ _ ?_
          obtain ⟨-, y2, -⟩ := hX.ad (qa q2)
          have := w2.mp c
          rw [y2, if_pos ((zi_le (by omega) (by omega)).mpr (by omega))]
          exact hK2
      · rw [acV_no c]
        cases ha : acF y 4 st with
        | none =>
          have hK2 := hK L q2
          rw [acL_cons, if_neg c, ha] at hK2
          exact hK2
        | some st' =>
          rw [if_neg (show ¬ b01 (some st').isSome = 0 from (by decide : ¬ b01 true = 0))]
          intro v ev
          rw [ev, zi_succ]
          have h1 := ((ac_run (kd := fun _ => y) (i := 0) rfl w1 4 t st hv hv.top.2.1).1 st' ha).1
          refine ih (i + 1) (t + 1) st' L (by omega) h1 (by omega) q2 (tr st' ha) (fun M qM => ?_)
          have hK2 := hK M qM
          rw [acL_cons, if_neg c, ha] at hK2
          exact hK2
  exact main (l.length - i) i t st I (by omega) hv ht eqQ.rf hT hK
/-! mend -/
def mnP (l : List Nat) (i k : Nat) : Bool := acL (l.take i ++ k :: l.drop i) [(0, 0)]
def mnK (l : List Nat) (i : Nat) : Nat → Nat → Option Nat
  | 0, _ => none
  | d + 1, k => if mnP l i k = true then some k else mnK l i d (k + 1)
def mnI (l : List Nat) : Nat → Nat → Option (Nat × Nat)
  | 0, _ => none
  | d + 1, i => match mnK l i 10 0 with
    | some k => some (i, k)
    | none => mnI l d (i + 1)
def resA : Option (Nat × Nat) → Int32
  | some p => zi p.1
  | none => -2
def resB : Option (Nat × Nat) → Int32
  | some p => zi p.2
  | none => -2
theorem KdL.no10 {l : List Nat} (h : KdL l) {i : Nat} (hi : i + 1 ≤ l.length) : ∀ y ∈ l.take i, y ≠ 10 ∧ y < 12 := by
  intro y hy
  obtain ⟨j, hj⟩ := List.mem_iff_getElem?.mp hy
  have hjl := (List.getElem?_eq_some_iff.mp hj).1
  rw [List.length_take] at hjl
  rw [List.getElem?_take, if_pos (by omega)] at hj
  obtain ⟨w1, w2⟩ := h j y hj
  exact ⟨fun u => by
    have := w2.mp u
    omega, w1⟩
theorem rnF_none {l : List Nat} {i j : Nat} {st : List (Nat × Nat)} (h : rnF (l.take j) st = none) (hij : j ≤ i) : rnF (l.take i) st = none := by
  have e : l.take i = l.take j ++ (l.take i).drop j := by
    have := (List.take_append_drop j (l.take i)).symm
    rw [List.take_take, Nat.min_eq_left hij] at this
    exact this
  rw [e, rnF_app, h]
  rfl
theorem mnP_no {l : List Nat} (hW : KdL l) {i j k : Nat} (hi : i + 1 ≤ l.length) (h : rnF (l.take j) [(0, 0)] = none) (hij : j ≤ i) : mnP l i k = false := by
  unfold mnP
  rw [acL_app (fun y hy => (hW.no10 hi y hy).1), rnF_none h hij]
theorem mnK_no {l : List Nat} {i : Nat} (h : ∀ k, mnP l i k = false) : ∀ d k, mnK l i d k = none
  | 0, _ => rfl
  | d + 1, k => by
    show (if mnP l i k = true then some k else mnK l i d (k + 1)) = none
    rw [h k, if_neg (by decide)]
    exact mnK_no h d (k + 1)
theorem mnI_no {l : List Nat} (hW : KdL l) {j : Nat} (h : rnF (l.take j) [(0, 0)] = none) : ∀ d i, i + d ≤ l.length → j ≤ i → mnI l d i = none
  | 0, _, _, _ => rfl
  | d + 1, i, h1, h2 => by
    show (match mnK l i 10 0 with
      | some k => some (i, k)
      | none => mnI l d (i + 1)) = none
    rw [mnK_no (fun k => mnP_no hW (by omega) h h2)]
    exact mnI_no hW h d (i + 1) (by omega) (by omega)
theorem mnP_at {l : List Nat} (hW : KdL l) {i k : Nat} {st : List (Nat × Nat)} (hi : i + 1 ≤ l.length) (hk : k ≠ 10) (h : rnF (l.take i) [(0, 0)] = some st) : mnP l i k = match acF k 4 st with
    | some st' => acL (l.drop i) st'
    | none => false := by
  unfold mnP
  rw [acL_app (fun y hy => (hW.no10 hi y hy).1), h]
  dsimp only
  rw [acL_cons, if_neg hk]
theorem t_found {a b : Int32} {I : zI} {K : zI → Prop} (hK : ∀ J, eqQ Qad I J → J.1 100 3 = a → J.1 100 4 = b → K J) : w_Adviser_found a b I K := by
  intro I1 e1 I2 e2
  refine hK I2 ?_ ?_ ?_
  · rw [e2, e1]
    exact (eqQ.rf.zu ⟨by decide, by decide⟩).zu ⟨by decide, by decide⟩
  · rw [e2, zu_i (by decide), e1, zu_self]
  · rw [e2, zu_self]
theorem take_snoc {l : List Nat} {i y : Nat} (h : l[i]? = some y) : l.take (i + 1) = l.take i ++ [y] := by
  rw [List.take_add_one, h]
  rfl
theorem t_findMend {tk : Nat} {l : List Nat} {I : zI} {K : zI → Prop} (hW : KdL l) (hl : l.length ≤ 100) (hX : TkX I tk l) (hK : ∀ J, eqQ Qad I J → J.1 100 3 = resA (mnI l l.length 0) → J.1 100 4 = resB (mnI l l.length 0) → K J) : w_Adviser_findMend tk I K := by
  refine t_begin (fun I1 q1 tr1 => ?_)
  intro P11 h11
  have stop : ∀ (v w : Int32) (J : zI), eqQ Qad I J → (v = 0 ∨ zi l.length ≤ w) → (∀ L, eqQ Qad I L → L.1 100 3 = -2 → L.1 100 4 = -2 → K L) → P11 v w J := by
    intro v w J q hvw hK
    refine h11 _ _ _ ?_
    intro P104 h104
    have fin : P104 := h104 (t_found (fun L qL e3 e4 => hK L (q.tr qL) e3 e4))
    by_cases c : v = 0
    · rw [if_pos c]
      exact fin
    · rw [if_neg c, (hX.ad q).2.1, if_pos (by
        rcases hvw with u | u
        · exact absurd u c
        · exact u)]
      exact fin
  have main : ∀ (d i : Nat) (st : List (Nat × Nat)) (J : zI), i + d = l.length → eqQ Qad I J → TrX J 101 st → rnF (l.take i) [(0, 0)] = some st → LV i st → (∀ L, eqQ Qad I L → L.1 100 3 = resA (mnI l d i) → L.1 100 4 = resB (mnI l d i) → K L) → P11 1 (zi i) J := by
    intro d
    induction d with
    | zero =>
      intro i st J hid q hT hr hv hK
      exact stop 1 (zi i) J q (Or.inr ((zi_le (by omega) (by omega)).mpr (by omega))) hK
    | succ d ih =>
      intro i st J hid q hT hr hv hK
      refine h11 _ _ _ ?_
      intro P104 _
      rw [if_neg (by decide), (hX.ad q).2.1, if_neg (nle_zi (by omega) (by omega))]
      have hat := getD_at (l := l) (j := i) (by omega)
      generalize l.getD i 0 = y at hat
      obtain ⟨w1, w2⟩ := hW i y hat
      have hlen : st.length ≤ 299 := by
        have := hv.2.2.2
        omega
      intro P26 h26
      have inner : ∀ (e k : Nat) (A : zI), k + e = 10 → eqQ Qad I A → TrX A 101 st → (∀ L, eqQ Qad I L → L.1 100 3 = resA (match mnK l i e k with
          | some k => some (i, k)
          | none => mnI l d (i + 1)) → L.1 100 4 = resB (match mnK l i e k with
          | some k => some (i, k)
          | none => mnI l d (i + 1)) → K L) → P26 (zi k) A := by
        intro e
        induction e with
        | zero =>
          intro k A hke q2 hT2 hK2
          refine h26 _ _ ?_
          rw [if_pos (show (10 : Int32) ≤ zi k from (zi_le (a := 10) (by decide) (by omega)).mpr (by omega))]
          refine (w_get (by decide)).mpr ?_
          rw [rg_in (by decide) (show i < 100 by omega), show A.1 (tk + 1 + 1) i = zi y from (hX.ad q2).2.2.1 i y hat]
          refine t_accepts hT2 hv (by omega) w1 (fun L qL tr v ev => ?_)
          rw [ev, zi_succ]
          have q3 := q2.tr (Qtk_ad1 qL)
          by_cases c : y = 10
          · have hlast := w2.mp c
            have hd0 : d = 0 := by omega
            subst hd0
            exact stop _ _ L q3 (Or.inr ((zi_le (by omega) (by omega)).mpr (by omega))) hK2
          · rw [acV_no c]
            cases ha : acF y 4 st with
            | none =>
              have hn : rnF (l.take (i + 1)) [(0, 0)] = none := by
                rw [take_snoc hat, rnF_app, hr]
                show (acF y 4 st).bind (rnF []) = none
                rw [ha]
                rfl
              have e0 := mnI_no hW hn d (i + 1) (by omega) (Nat.le_refl _)
              refine stop _ _ L q3 (Or.inl rfl) (fun M qM m1 m2 => hK2 M qM ?_ ?_)
              · show M.1 100 3 = resA (mnI l d (i + 1))
                rw [e0]
                exact m1
              · show M.1 100 4 = resB (mnI l d (i + 1))
                rw [e0]
                exact m2
            | some st' =>
              have h1 := ((ac_run (kd := fun _ => y) (i := 0) rfl w1 4 i st hv hv.top.2.1).1 st' ha).1
              refine ih (i + 1) st' L (by omega) q3 (tr st' ha) ?_ h1 hK2
              rw [take_snoc hat, rnF_app, hr]
              show (acF y 4 st).bind (rnF []) = some st'
              rw [ha]
              rfl
        | succ e ih2 =>
          intro k A hke q2 hT2 hK2
          refine h26 _ _ ?_
          rw [if_neg (show ¬ (10 : Int32) ≤ zi k from nle_zi (n := 10) (by omega) (by decide))]
          refine t_trialCopy (by omega) hv.1 hlen hT2 (fun B qB trB => ?_)
          have q3 := q2.tr (Qtk_ad4 qB)
          refine t_accepts trB hv (by omega) (show k < 12 by omega) (fun C qC trC => ?_)
          have q4 := q3.tr (Qtk_ad4 qC)
          have tr101 : TrX C 101 st := (hT2.o4 qB).o4 qC
          have hmP := mnP_at hW (show i + 1 ≤ l.length by omega) (show k ≠ 10 by omega) hr
          intro P76 h76
          have nx : ∀ L, eqQ Qad I L → TrX L 101 st → mnP l i k = false → P76 L := fun L qL tL hf => h76 L (fun v ev => by
            rw [ev, zi_succ]
            refine ih2 (k + 1) L (by omega) qL tL (fun M qM m1 m2 => hK2 M qM ?_ ?_)
            · show M.1 100 3 = resA (match (if mnP l i k = true then some k else mnK l i e (k + 1)) with
                | some k => some (i, k)
                | none => mnI l d (i + 1))
              rw [hf, if_neg (by decide)]
              exact m1
            · show M.1 100 4 = resB (match (if mnP l i k = true then some k else mnK l i e (k + 1)) with
                | some k => some (i, k)
                | none => mnI l d (i + 1))
              rw [hf, if_neg (by decide)]
              exact m2)
          rw [acV_no (show k ≠ 10 by omega)]
          cases ha : acF k 4 st with
          | none =>
            rw [ha] at hmP
            rw [if_pos (show b01 (none : Option (List (Nat × Nat))).isSome = 0 from rfl)]
            exact nx C q4 tr101 hmP
          | some st' =>
            rw [ha] at hmP
            dsimp only at hmP
            rw [if_neg (show ¬ b01 (some st').isSome = 0 from (by decide : ¬ b01 true = 0))]
            have h1 := ((ac_run (kd := fun _ => k) (i := 0) rfl (show k < 12 by omega) 4 i st hv hv.top.2.1).1 st' ha).1
            refine t_acceptsFrom (Or.inr rfl) hW hl (hX.ad q4) (trC st' ha) h1 (by omega) (by omega) (fun D qD => ?_)
            have q5 := q4.tr (Qtk_ad4 qD)
            rw [← hmP]
            cases hm : mnP l i k with
            | false =>
              rw [if_pos (show b01 false = 0 from rfl)]
              exact nx D q5 (tr101.o4 qD) hm
            | true =>
              rw [if_neg (by decide)]
              refine t_found (fun M qM m1 m2 => hK2 M (q5.tr qM) ?_ ?_)
              · show M.1 100 3 = resA (match (if mnP l i k = true then some k else mnK l i e (k + 1)) with
                  | some k => some (i, k)
                  | none => mnI l d (i + 1))
                rw [hm, if_pos rfl]
                exact m1
              · show M.1 100 4 = resB (match (if mnP l i k = true then some k else mnK l i e (k + 1)) with
                  | some k => some (i, k)
                  | none => mnI l d (i + 1))
                rw [hm, if_pos rfl]
                exact m2
      refine inner 10 0 J rfl q hT (fun L qL m1 m2 => hK L qL ?_ ?_)
      · exact m1
      · exact m2
  refine main l.length 0 [(0, 0)] I1 (by omega) (Qtk_ad1 q1) tr1 ?_ LV.st0 hK
  rw [List.take_zero]
  rfl
/-! what may come in the wrong one's place -/
/-- how many tokens pass; the stack then -/
def stF : List Nat → List (Nat × Nat) → Nat × List (Nat × Nat)
  | [], st => (0, st)
  | y :: l, st => match acF y 4 st with
    | some st' => ((stF l st').1 + 1, (stF l st').2)
    | none => (0, st)
def bitF (st : List (Nat × Nat)) : Nat → Nat → Int32 → Int32
  | 0, _, w => w
  | d + 1, k, w => bitF st d (k + 1) (if acV k st = true then w ||| (1 <<< (zi k &&& 31)) else w)
def vExp (l : List Nat) : Int32 := bitF (stF l [(0, 0)]).2 11 0 0
theorem bit_or0 (w : Int32) : w ||| 0 = w := by
  exact Int32.or_zero
theorem t_goToWrong {tk : Nat} {l : List Nat} {I : zI} {K : zI → Prop} (hW : KdL l) (hl : l.length ≤ 100) (hne : acL l [(0, 0)] = false) (hX : TkX I tk l) (hK : ∀ J t, eqQ Qad I J → t ≤ 100 → LV t (stF l [(0, 0)]).2 → TrX J 101 (stF l [(0, 0)]).2 → K J) : w_Adviser_goToWrong tk I K := by
  refine t_begin (fun I1 q1 tr1 => t_begin (fun I2 q2 tr2 => ?_))
  intro P16 h16
  have main : ∀ (d i : Nat) (st : List (Nat × Nat)) (J : zI), i + d = l.length → eqQ Qad I J → TrX J 101 st → TrX J 104 st → LV i st → acL (l.drop i) st = false → (∀ J t, eqQ Qad I J → t ≤ 100 → LV t (stF (l.drop i) st).2 → TrX J 101 (stF (l.drop i) st).2 → K J) → P16 (zi i) J := by
    intro d
    induction d with
    | zero =>
      intro i st J hid q hT hT4 hv hf hK
      rw [List.drop_of_length_le (by omega)] at hf
      cases hf
    | succ d ih =>
      intro i st J hid q hT hT4 hv hf hK
      refine h16 _ _ ?_
      obtain ⟨-, x2, x3, -⟩ := hX.ad q
      rw [x2, if_neg (nle_zi (by omega) (by omega))]
      have hat := getD_at (l := l) (j := i) (by omega)
      generalize l.getD i 0 = y at hat
      obtain ⟨w1, w2⟩ := hW i y hat
      have hlen : st.length ≤ 299 := by
        have := hv.2.2.2
        omega
      rw [drop_at hat] at hK hf
      rw [acL_cons] at hf
      refine (w_get (by decide)).mpr ?_
      rw [rg_in (by decide) (show i < 100 by omega), show J.1 (tk + 1 + 1) i = zi y from x3 i y hat]
      refine t_accepts hT4 hv (by omega) w1 (fun L qL tr => ?_)
      have q3 := q.tr (Qtk_ad4 qL)
      have eS : stF (y :: l.drop (i + 1)) st = match acF y 4 st with
        | some st' => ((stF (l.drop (i + 1)) st').1 + 1, (stF (l.drop (i + 1)) st').2)
        | none => (0, st) := rfl
      rw [eS] at hK
      by_cases c : y = 10
      · rw [if_pos c] at hf
        have ev : acV y st = acE st := if_pos c
        have ha : acF y 4 st = none := acF_end (fun s hs => by rw [c]; exact end_fin s hs) 4 i st hv
        rw [ha] at hK
        rw [ev, hf, if_pos (show b01 false = 0 from rfl)]
        exact hK L i q3 (by omega) hv (hT.o4 qL)
      · rw [if_neg c] at hf
        rw [acV_no c]
        cases ha : acF y 4 st with
        | none =>
          rw [ha] at hK
          rw [if_pos (show b01 (none : Option (List (Nat × Nat))).isSome = 0 from rfl)]
          exact hK L i q3 (by omega) hv (hT.o4 qL)
        | some st' =>
          rw [ha] at hK hf
          dsimp only at hK hf
          rw [if_neg (show ¬ b01 (some st').isSome = 0 from (by decide : ¬ b01 true = 0))]
          have h1 := ((ac_run (kd := fun _ => y) (i := 0) rfl w1 4 i st hv hv.top.2.1).1 st' ha).1
          have hlen' : st'.length ≤ 299 := by
            have := h1.2.2.2
            omega
          refine t_trialCopy (by omega) h1.1 hlen' (tr st' ha) (fun M qM trM v ev => ?_)
          rw [ev, zi_succ]
          exact ih (i + 1) st' M (by omega) (q3.tr (Qtk_ad1 qM)) trM ((tr st' ha).o1 qM) h1 hf hK
  exact main l.length 0 [(0, 0)] I2 (by omega) ((Qtk_ad1 q1).tr (Qtk_ad4 q2)) (tr1.o4 q2) tr2 LV.st0 hne hK
theorem t_kindsInPlace {tk : Nat} {l : List Nat} {I : zI} {K : Int32 → zI → Prop} (hW : KdL l) (hl : l.length ≤ 100) (hne : acL l [(0, 0)] = false) (hX : TkX I tk l) (hK : ∀ J, eqQ Qad I J → K (vExp l) J) : w_Adviser_kindsInPlace tk I K := by
  refine t_goToWrong hW hl hne hX (fun I1 t q1 ht hv tr1 => ?_)
  have hlen : (stF l [(0, 0)]).2.length ≤ 299 := by
    have := hv.2.2.2
    omega
  unfold vExp at hK
  generalize (stF l [(0, 0)]).2 = st at hv tr1 hlen hK
  intro P9 h9
  have main : ∀ (d k : Nat) (w : Int32) (J : zI), k + d = 11 → eqQ Qad I J → TrX J 101 st → (∀ L, eqQ Qad I L → K (bitF st d k w) L) → P9 w (zi k) J := by
    intro d
    induction d with
    | zero =>
      intro k w J hk q hT hK
      refine h9 _ _ _ ?_
      rw [if_pos (show (10 : Int32) < zi k from (zi_lt (a := 10) (by decide) (by omega)).mpr (by omega))]
      exact hK J q
    | succ d ih =>
      intro k w J hk q hT hK
      refine h9 _ _ _ ?_
      rw [if_neg (show ¬ (10 : Int32) < zi k from fun u => by have := (zi_lt (a := 10) (by decide) (by omega)).mp u; omega)]
      refine t_trialCopy (by omega) hv.1 hlen hT (fun A qA trA => ?_)
      refine t_accepts trA hv (by omega) (show k < 12 by omega) (fun B qB _ => ?_)
      have q3 := (q.tr (Qtk_ad4 qA)).tr (Qtk_ad4 qB)
      intro P45 h45
      have nx : P45 (if acV k st = true then (1 <<< (zi k &&& 31)) else 0) := h45 _ (fun v2 e2 v3 e3 => by
        rw [e3, zi_succ]
        refine ih (k + 1) v2 B (by omega) q3 ((hT.o4 qA).o4 qB) (fun L qL => ?_)
        have hK2 : K (bitF st d (k + 1) (if acV k st = true then w ||| (1 <<< (zi k &&& 31)) else w)) L := hK L qL
        have e4 : v2 = if acV k st = true then w ||| (1 <<< (zi k &&& 31)) else w := by
          rw [e2]
          by_cases c : acV k st = true
          · rw [if_pos c, if_pos c]
          · rw [if_neg c, if_neg c, bit_or0]
        rw [e4]
        exact hK2)
      cases hc : acV k st with
      | false =>
        rw [hc, if_neg (by decide)] at nx
        rw [if_pos (show b01 false = 0 from rfl)]
        exact nx
      | true =>
        rw [hc, if_pos rfl] at nx
        rw [if_neg (by decide)]
        exact nx
  exact main 11 0 0 I1 rfl q1 tr1 hK
/-! ===== what is tried, the model ===== -/
/-- the KINDS of the text as it is -/
def kdsT (x : Sg) : List Nat := (lexL (moT (sgC x))).map (fun y => y.1)
theorem kdsT_len {x : Sg} : (kdsT x).length = (lexL (moT (sgC x))).length := List.length_map ..
theorem kdsT_at {x : Sg} {i y : Nat} (h : (kdsT x)[i]? = some y) : ∃ z, (lexL (moT (sgC x)))[i]? = some z ∧ z.1 = y := by
  unfold kdsT at h
  rw [List.getElem?_map] at h
  cases e : (lexL (moT (sgC x)))[i]? with
  | none =>
    rw [e] at h
    cases h
  | some z =>
    rw [e] at h
    exact ⟨z, rfl, Option.some.inj h⟩
theorem kdsT_ok {x : Sg} (hv : Iv x) : KdL (kdsT x) ∧ 1 ≤ (kdsT x).length ∧ (kdsT x).length ≤ 100 := by
  obtain ⟨o1, o2, o3, o4⟩ := lex_lxo hv.2.2.2.2.2.2.2.1.1
  rw [kdsT_len]
  refine ⟨fun j y hj => ?_, o2, o3⟩
  obtain ⟨z, z1, z2⟩ := kdsT_at hj
  rw [← z2, kdsT_len]
  exact ⟨(o1 z (List.mem_of_getElem? z1)).1, o4 j z z1⟩
theorem kdsT_X {x : Sg} {I : zI} {s : Nat} (hA : AtX I x s) : TkX I (zmom s + 3) (kdsT x) := by
  obtain ⟨p1, p2⟩ := hA.2.2.2.2.1
  have zm : zmom s = 113 + 18 * s := rfl
  refine ⟨by omega, by rw [kdsT_len]; exact p1, fun j y hj => ?_, by omega, by omega⟩
  obtain ⟨z, z1, z2⟩ := kdsT_at hj
  rw [← z2]
  exact (p2 j z z1).1
/-! mend -/
def vMend (x : Sg) (a : Int32) : Int32 := match ixI 2 a with
  | some j => if moB (sgC x) = true then -2 else if j = 0 then resA (mnI (kdsT x) (kdsT x).length 0) else resB (mnI (kdsT x) (kdsT x).length 0)
  | none => -1
theorem KdL.put {l : List Nat} (h : KdL l) {i k : Nat} (hi : i < l.length) (hk : k < 10) : KdL (l.take i ++ k :: l.drop i) ∧ (l.take i ++ k :: l.drop i).length = l.length + 1 := by
  have hlen : (l.take i ++ k :: l.drop i).length = l.length + 1 := by
    rw [List.length_append, List.length_take, List.length_cons, List.length_drop]
    omega
  refine ⟨fun j y hj => ?_, hlen⟩
  rw [hlen]
  have htl : (l.take i).length = i := by rw [List.length_take]; omega
  by_cases c : j < i
  · rw [List.getElem?_append_left (by omega), List.getElem?_take, if_pos c] at hj
    obtain ⟨w1, w2⟩ := h j y hj
    refine ⟨w1, w2.trans ?_⟩
    omega
  · rw [List.getElem?_append_right (by omega), htl] at hj
    by_cases c2 : j = i
    · rw [c2, Nat.sub_self] at hj
      cases hj
      omega
    · rw [show j - i = (j - i - 1) + 1 by omega, List.getElem?_cons_succ, List.getElem?_drop] at hj
      obtain ⟨w1, w2⟩ := h _ y hj
      refine ⟨w1, w2.trans ?_⟩
      omega
theorem t_mend {x : Sg} {a : Int32} {I : zI} {K : Int32 → zI → Prop} (hv : Iv x) (hR : RX I x) (hK : ∀ J, eqQ Qcl I J → RX J x → K (vMend x a) J) : w_Desk_mend a I K := by
  obtain ⟨k1, k2, k3⟩ := kdsT_ok hv
  unfold w_Desk_mend
  unfold vMend at hK
  intro P11 h11
  have yes : ∀ j : Nat, j < 2 → a = zi j → P11 := fun j hj ea => by
    refine h11 ?_
    rw [ea, ixI_some (by decide) hj] at hK
    dsimp only at hK
    obtain ⟨s, hA⟩ := hR.now
    refine s_now hA.1 hA.2.1 ?_
    rw [show I.1 (zmom s) 3 = b01 (moB (sgC x)) from hA.2.2.2.2.2.1]
    cases hb : moB (sgC x) with
    | true =>
      rw [hb, if_pos rfl] at hK
      rw [if_neg (by decide)]
      exact hK I eqQ.rf hR
    | false =>
      rw [hb, if_neg (by decide)] at hK
      rw [if_pos (show b01 false = 0 from rfl)]
      refine t_findMend k1 k3 (kdsT_X hA) (fun J qJ m1 m2 => ?_)
      have hK2 := hK J (Qad_cl qJ) (hR.ad hv qJ)
      rw [ea]
      by_cases c : j = 0
      · rw [if_pos c] at hK2
        rw [if_pos (by rw [c]; rfl), m1]
        exact hK2
      · rw [if_neg c] at hK2
        rw [if_neg (show ¬ zi j = 0 from zi_ne (b := 0) (by omega) (by decide) c), m2]
        exact hK2
  by_cases c0 : a = 0
  · rw [if_pos c0]
    exact yes 0 (by decide) c0
  rw [if_neg c0]
  by_cases c1 : a = 1
  · rw [if_pos c1]
    exact yes 1 (by decide) c1
  rw [if_neg c1]
  have : ixI 2 a = none := by
    rcases ix_cs (n := 2) (by decide) a with ⟨k, hk, e, e2⟩ | ⟨e, -⟩
    · match k, hk with
      | 0, _ => exact absurd e c0
      | 1, _ => exact absurd e c1
    · exact e
  rw [this] at hK
  exact hK I eqQ.rf hR
/-! expected -/
theorem KdL.tl {y : Nat} {l : List Nat} (h : KdL (y :: l)) : KdL l := fun j z hz => by
  obtain ⟨z1, z2⟩ := h (j + 1) z (by rw [List.getElem?_cons_succ]; exact hz)
  refine ⟨z1, z2.trans ?_⟩
  rw [List.length_cons]
  omega
def vExpected (x : Sg) : Int32 := if moB (sgC x) = true then -2 else vExp (kdsT x)
theorem not_acL {x : Sg} (hv : Iv x) (hL : Lv x) (hb : moB (sgC x) = false) : acL (kdsT x) [(0, 0)] = false := by
  obtain ⟨k1, k2, k3⟩ := kdsT_ok hv
  cases h : acL (kdsT x) [(0, 0)] with
  | false => rfl
  | true =>
    exfalso
    have hk : ∀ i, i < (lexL (moT (sgC x))).length → kdF (lexL (moT (sgC x))) i = (kdsT x).getD i 0 := fun i hi => by
      obtain ⟨z, z1, z2⟩ := kdsT_at (getD_at (l := kdsT x) (j := i) (by rw [kdsT_len]; exact hi))
      rw [kdF_at z1, z2]
    obtain ⟨i, s, d1, d2, d3, d4⟩ := run_w (kd := kdF (lexL (moT (sgC x)))) (kdsT x) 0 0 [(0, 0)] LV.st0 k1 (fun j y hj => by
      have hjl := (List.getElem?_eq_some_iff.mp hj).1
      rw [kdsT_len] at hjl
      rw [Nat.zero_add, hk j hjl, List.getD_eq_getElem?_getD, hj]
      rfl) (fun u => by
      rw [u] at k2
      exact absurd k2 (by decide))
    obtain ⟨w1, w2⟩ := d4.mpr h
    have hlast := (k1 i 10 w1).2.mp rfl
    rw [kdsT_len] at hlast
    rw [Nat.zero_add] at d2 d3
    have ei : i = (lexL (moT (sgC x))).length - 1 := by omega
    rw [ei] at d2 d3
    exact hL.1.2 hb ⟨s, d2, d3, w2⟩
theorem t_expected {x : Sg} {I : zI} {K : Int32 → zI → Prop} (hv : Iv x) (hL : Lv x) (hR : RX I x) (hK : ∀ J, eqQ Qcl I J → RX J x → K (vExpected x) J) : w_Desk_expected I K := by
  obtain ⟨k1, k2, k3⟩ := kdsT_ok hv
  unfold w_Desk_expected
  unfold vExpected at hK
  obtain ⟨s, hA⟩ := hR.now
  refine s_now hA.1 hA.2.1 ?_
  rw [show I.1 (zmom s) 3 = b01 (moB (sgC x)) from hA.2.2.2.2.2.1]
  cases hb : moB (sgC x) with
  | true =>
    rw [hb, if_pos rfl] at hK
    rw [if_neg (by decide)]
    exact hK I eqQ.rf hR
  | false =>
    rw [hb, if_neg (by decide)] at hK
    rw [if_pos (show b01 false = 0 from rfl)]
    exact t_kindsInPlace k1 k3 (not_acL hv hL hb) (kdsT_X hA) (fun J qJ => hK J (Qad_cl qJ) (hR.ad hv qJ))
/-! ===== in the way ===== -/
def ftN (a b : Nat) : Bool := decide (((zst_FOLLOWERS.getD a 0) >>> (zi b &&& 31)) &&& 1 = 1)
theorem t_fits {a b : Nat} {I : zI} {K : Int32 → Prop} (ha : a < 13) (h : K (b01 (ftN a b))) : w_Desk_fits (zi a) (zi b) I K := by
  unfold w_Desk_fits
  rw [if_neg (zi_pos (by omega)), if_neg (show ¬ (13 : Int32) ≤ zi a from nle_zi (n := 13) ha (by decide)), zi_tn (show a < 2147483648 by omega)]
  refine ⟨(zin_iff (by omega)).mpr (by show a < 13; exact ha), ?_⟩
  unfold ftN at h
  by_cases c : ((zst_FOLLOWERS.getD a 0) >>> (zi b &&& 31)) &&& 1 = 1
  · rw [decide_eq_true c] at h
    rw [if_pos c]
    exact h
  · rw [decide_eq_false c] at h
    rw [if_neg c]
    exact h
/-- whether a KIND can be put behind a STATE, as far as the tables tell -/
def canS (z : Nat) : Nat → Nat → Bool
  | 0, _ => false
  | d + 1, s => if ldN s (5 + z) = 0 then (match rlN s with
    | some r => (bkT (lnN r) s).any (fun a => canS z d (ldN a (syN r)))
    | none => z == 10 && s == 1) else true
theorem canS_at {z d s : Nat} : canS z (d + 1) s = if ldN s (5 + z) = 0 then (match rlN s with
    | some r => (bkT (lnN r) s).any (fun a => canS z d (ldN a (syN r)))
    | none => z == 10 && s == 1) else true := rfl
set_option maxRecDepth 100000 in
theorem ft_fin : ∀ y, y < 12 → ∀ z, z < 12 → ∀ s, s < 21 → ldN s (5 + y) ≠ 0 → canS z 4 (ldN s (5 + y)) = true → ftN y z = true := by decide +kernel
theorem ft_fin0 : ∀ z, z < 12 → canS z 4 0 = true → ftN 12 z = true := by decide +kernel
theorem byT_top {st : List (Nat × Nat)} {r : Nat} : topS (byT 0 st r) = ldN (byS st r) (syN r) := by
  unfold byT
  rw [topS_snoc]
theorem canS_ac {z : Nat} : ∀ (d t : Nat) (st : List (Nat × Nat)), LV t st → (if z = 10 then decide (topS (rdF d st) = 1 ∧ rk3 (topS st) < d) else (acF z d st).isSome) = true → canS z d (topS st) = true
  | 0, t, st, hv, h => by
    by_cases c : z = 10
    · rw [if_pos c] at h
      have := (of_decide_eq_true h).2
      exact absurd this (Nat.not_lt_zero _)
    · rw [if_neg c] at h
      cases h
  | d + 1, t, st, hv, h => by
    rw [canS_at]
    by_cases hz : ldN (topS st) (5 + z) = 0
    · rw [if_pos hz]
      rw [acF_at, rdF_at, if_pos hz] at h
      cases hr : rlN (topS st) with
      | none =>
        rw [hr] at h
        dsimp only at h ⊢
        by_cases c : z = 10
        · rw [if_pos c] at h
          rw [c, (of_decide_eq_true h).1]
          rfl
        · rw [if_neg c] at h
          cases h
      | some r =>
        rw [hr] at h
        dsimp only at h ⊢
        obtain ⟨a1, -, -, -, a5, a6, a7⟩ := hv.red hr
        refine List.any_eq_true.mpr ⟨byS st r, a7, ?_⟩
        rw [← byT_top (st := st)]
        refine canS_ac d t (byT 0 st r) a1 ?_
        by_cases c : z = 10
        · rw [if_pos c] at h ⊢
          obtain ⟨h1, h2⟩ := of_decide_eq_true h
          exact decide_eq_true ⟨h1, by omega⟩
        · rw [if_neg c] at h ⊢
          exact h
    · rw [if_neg hz]
theorem canS_V {z t : Nat} {st : List (Nat × Nat)} (hv : LV t st) (h : acV z st = true) : canS z 4 (topS st) = true := by
  refine canS_ac 4 t st hv ?_
  unfold acV at h
  by_cases c : z = 10
  · rw [if_pos c] at h ⊢
    exact decide_eq_true ⟨of_decide_eq_true h, hv.top.2.1⟩
  · rw [if_neg c] at h ⊢
    exact h
theorem acF_top {y : Nat} : ∀ (d t : Nat) (st st' : List (Nat × Nat)), LV t st → acF y d st = some st' → ∃ a, a < 21 ∧ ldN a (5 + y) ≠ 0 ∧ topS st' = ldN a (5 + y)
  | 0, _, _, _, _, h => by cases h
  | d + 1, t, st, st', hv, h => by
    rw [acF_at] at h
    by_cases hz : ldN (topS st) (5 + y) = 0
    · rw [if_pos hz] at h
      cases hr : rlN (topS st) with
      | none =>
        rw [hr] at h
        cases h
      | some r =>
        rw [hr] at h
        exact acF_top d t _ st' (hv.red hr).1 h
    · rw [if_neg hz] at h
      cases h
      exact ⟨topS st, hv.top.1, hz, topS_snoc⟩
theorem acL_V {z : Nat} {l : List Nat} {st : List (Nat × Nat)} (h : acL (z :: l) st = true) : acV z st = true := by
  rw [acL_cons] at h
  unfold acV
  by_cases c : z = 10
  · rw [if_pos c] at h ⊢
    exact h
  · rw [if_neg c] at h ⊢
    cases ha : acF z 4 st with
    | none =>
      rw [ha] at h
      cases h
    | some s => rfl
theorem acL_fit {z y : Nat} {u v : List Nat} (hu : ∀ w ∈ u, w ≠ 10 ∧ w < 12) (hy : y ≠ 10 ∧ y < 12) (hz : z < 12) (h : acL (u ++ y :: z :: v) [(0, 0)] = true) : ftN y z = true := by
  rw [acL_app (fun w hw => (hu w hw).1)] at h
  cases hr : rnF u [(0, 0)] with
  | none =>
    rw [hr] at h
    cases h
  | some st =>
    rw [hr] at h
    dsimp only at h
    rw [acL_cons, if_neg hy.1] at h
    have hv := rnF_lv (fun w hw => (hu w hw).2) LV.st0 hr
    cases ha : acF y 4 st with
    | none =>
      rw [ha] at h
      cases h
    | some st' =>
      rw [ha] at h
      dsimp only at h
      have h1 := ((ac_run (kd := fun _ => y) (i := 0) rfl hy.2 4 _ st hv hv.top.2.1).1 st' ha).1
      obtain ⟨a, a1, a2, a3⟩ := acF_top 4 _ st st' hv ha
      have := canS_V h1 (acL_V h)
      rw [a3] at this
      exact ft_fin y hy.2 z hz a a1 a2 this
theorem acL_fit0 {z : Nat} {v : List Nat} (hz : z < 12) (h : acL (z :: v) [(0, 0)] = true) : ftN 12 z = true := by
  have h1 := canS_V LV.st0 (acL_V h)
  have e : topS [(0, 0)] = 0 := rfl
  rw [e] at h1
  exact ft_fin0 z hz h1
/-! brackets -/
def wS (y : Nat) : Int := if y = 11 then 1 else if y = 12 then -1 else if y = 13 then 1000 else if y = 14 then -1000 else 0
def wB (st : List (Nat × Nat)) : Int := (st.map (fun p => wS (acS p.2))).sum
def wL (l : List Nat) : Int := (l.map (fun y => wS (5 + y))).sum
theorem wB_app {a b : List (Nat × Nat)} : wB (a ++ b) = wB a + wB b := by
  unfold wB
  rw [List.map_append, List.sum_append]
theorem wL_app {a b : List Nat} : wL (a ++ b) = wL a + wL b := by
  unfold wL
  rw [List.map_append, List.sum_append]
theorem wL_cons {y : Nat} {l : List Nat} : wL (y :: l) = wS (5 + y) + wL l := by
  unfold wL
  rw [List.map_cons, List.sum_cons]
theorem wr_fin : ∀ r, r < 11 → ((rhS r).map wS).sum = 0 ∧ wS (syN r) = 0 := by decide +kernel
theorem wB_red {t r : Nat} {st : List (Nat × Nat)} (hv : LV t st) (hr : rlN (topS st) = some r) : wB (byT 0 st r) = wB st := by
  obtain ⟨a1, a2, a3, a4, a5, a6, a7⟩ := hv.red hr
  obtain ⟨s1, s2, s3, s4⟩ := id hv
  obtain ⟨-, -, p0, t1, t2⟩ := hv.top
  have hR := st_rhs s2 s3 s1 t1 t2 hr
  obtain ⟨w1, w2⟩ := wr_fin r a2
  have hsy := (sy_fin r a2).2
  change syN r < 5 at hsy
  have e1 : wB (st.drop (st.length - lnN r)) = 0 := by
    unfold wB
    rw [show (st.drop (st.length - lnN r)).map (fun p => wS (acS p.2)) = ((st.drop (st.length - lnN r)).map (fun p => acS p.2)).map wS by rw [List.map_map]; rfl, hR]
    exact w1
  have e2 : wB st = wB (st.take (st.length - lnN r)) + wB (st.drop (st.length - lnN r)) := by
    rw [← wB_app, List.take_append_drop]
  have e3 : wB [(0, ldN (byS st r) (syN r))] = 0 := by
    show wS (acS (ldN (byS st r) (syN r))) + 0 = 0
    rw [ac_fin _ a6 _ (by omega) a4, w2]
    rfl
  unfold byT
  rw [wB_app, e3, e2, e1]
theorem acF_w {y : Nat} (hy : y < 12) : ∀ (d t : Nat) (st st' : List (Nat × Nat)), LV t st → acF y d st = some st' → wB st' = wB st + wS (5 + y)
  | 0, _, _, _, _, h => by cases h
  | d + 1, t, st, st', hv, h => by
    rw [acF_at] at h
    by_cases hz : ldN (topS st) (5 + y) = 0
    · rw [if_pos hz] at h
      cases hr : rlN (topS st) with
      | none =>
        rw [hr] at h
        cases h
      | some r =>
        rw [hr] at h
        rw [acF_w hy d t _ st' (hv.red hr).1 h, wB_red hv hr]
    · rw [if_neg hz] at h
      cases h
      rw [wB_app]
      show _ + (wS (acS (ldN (topS st) (5 + y))) + 0) = _
      rw [ac_fin _ hv.top.1 _ (by omega) hz, Int.add_zero]
theorem rdF_w : ∀ (d t : Nat) (st : List (Nat × Nat)), LV t st → wB (rdF d st) = wB st ∧ LV t (rdF d st)
  | 0, _, _, h => ⟨rfl, h⟩
  | d + 1, t, st, h => by
    rw [rdF_at]
    cases hr : rlN (topS st) with
    | none => exact ⟨rfl, h⟩
    | some r =>
      obtain ⟨a, b⟩ := rdF_w d t _ (h.red hr).1
      exact ⟨a.trans (wB_red h hr), b⟩
theorem ld1_fin : ∀ a, a < 21 → ∀ y, y < 17 → ldN a y = 1 → a = 0 := by decide +kernel
theorem wB_one {t : Nat} {st : List (Nat × Nat)} (hv : LV t st) (h : topS st = 1) : wB st = 0 := by
  obtain ⟨s1, s2, s3, s4⟩ := id hv
  obtain ⟨-, -, p0, t1, t2⟩ := hv.top
  have b0 := s2.1
  have hlen : st.length = 2 := by
    have n1 : st.length ≠ 1 := fun u => by
      have := b0 p0 (by rw [u] at t1; exact t1)
      omega
    refine Classical.byContradiction (fun n2 => ?_)
    have hq : st[st.length - 2]? = some (st.getD (st.length - 2) (0, 0)) := by
      rw [List.getD_eq_getElem?_getD, List.getElem?_eq_getElem (by omega)]
      rfl
    obtain ⟨y, y1, y2, y3⟩ := s2.2 (st.length - 2) _ p0 hq (by rw [show st.length - 2 + 1 = st.length - 1 by omega]; exact t1)
    have z0 := ld1_fin _ (s3 _ _ hq).1 y y1 (by rw [y2, t2, h])
    have hq' : st[st.length - 3]? = some (st.getD (st.length - 3) (0, 0)) := by
      rw [List.getD_eq_getElem?_getD, List.getElem?_eq_getElem (by omega)]
      rfl
    obtain ⟨y', -, -, y4⟩ := s2.2 (st.length - 3) _ _ hq' (by rw [show st.length - 3 + 1 = st.length - 2 by omega]; exact hq)
    exact y4 z0
  match st, hlen with
  | [p, q], _ =>
    have hp : p.2 = 0 := b0 p rfl
    have hq : q.2 = 1 := h
    show wS (acS p.2) + (wS (acS q.2) + 0) = 0
    rw [hp, hq]
    decide
theorem acL_w {W : List Nat} : ∀ {t : Nat} {st : List (Nat × Nat)}, LV t st → KdL W → W ≠ [] → acL W st = true → wB st + wL W = 0 := by
  induction W with
  | nil =>
    intro t st _ _ h
    exact absurd rfl h
  | cons y l ih =>
    intro t st hv hW _ h
    obtain ⟨w1, w2⟩ := hW 0 y rfl
    rw [acL_cons] at h
    rw [wL_cons]
    by_cases c : y = 10
    · rw [if_pos c] at h
      have hl0 : l = [] := by
        have := w2.mp c
        rw [List.length_cons] at this
        exact List.length_eq_zero_iff.mp (by omega)
      obtain ⟨e1, e2⟩ := rdF_w 4 t st hv
      have := wB_one e2 (of_decide_eq_true h)
      rw [hl0, c, ← e1, this]
      decide
    · rw [if_neg c] at h
      cases ha : acF y 4 st with
      | none =>
        rw [ha] at h
        cases h
      | some st' =>
        rw [ha] at h
        dsimp only at h
        have h1 := ((ac_run (kd := fun _ => y) (i := 0) rfl w1 4 t st hv hv.top.2.1).1 st' ha).1
        have hln : l ≠ [] := fun u => c (w2.mpr (by rw [u]; rfl))
        have := ih h1 hW.tl hln h
        rw [acF_w w1 4 t st st' hv ha] at this
        omega
/-! which are left out -/
def wyP (l : List Nat) (m a : Nat) : Bool := acL (l.take a ++ l.drop (a + m)) [(0, 0)]
def wyA (l : List Nat) (m : Nat) : Nat → Nat → Option Nat
  | 0, _ => none
  | d + 1, a => if wyP l m a = true then some a else wyA l m d (a + 1)
def wyM (l : List Nat) : Nat → Nat → Option (Nat × Nat)
  | 0, _ => none
  | d + 1, m => match wyA l m (l.length - m) 0 with
    | some a => some (a, m)
    | none => wyM l d (m + 1)
theorem KdL.cut {l : List Nat} (h : KdL l) {a m : Nat} (hm : a + m < l.length) : KdL (l.take a ++ l.drop (a + m)) ∧ (l.take a ++ l.drop (a + m)).length = l.length - m := by
  have hlen : (l.take a ++ l.drop (a + m)).length = l.length - m := by
    rw [List.length_append, List.length_take, List.length_drop]
    omega
  have htl : (l.take a).length = a := by rw [List.length_take]; omega
  refine ⟨fun j y hj => ?_, hlen⟩
  rw [hlen]
  by_cases c : j < a
  · rw [List.getElem?_append_left (by omega), List.getElem?_take, if_pos c] at hj
    obtain ⟨w1, w2⟩ := h j y hj
    refine ⟨w1, w2.trans ?_⟩
    omega
  · rw [List.getElem?_append_right (by omega), htl, List.getElem?_drop] at hj
    obtain ⟨w1, w2⟩ := h _ y hj
    refine ⟨w1, w2.trans ?_⟩
    omega
theorem wyP_none {l : List Nat} (hW : KdL l) {m a j : Nat} (ha : a + 1 ≤ l.length) (h : rnF (l.take j) [(0, 0)] = none) (hj : j ≤ a) : wyP l m a = false := by
  unfold wyP
  rw [acL_app (fun y hy => (hW.no10 ha y hy).1), rnF_none h hj]
theorem wyP_at {l : List Nat} (hW : KdL l) {m a : Nat} {st : List (Nat × Nat)} (ha : a + 1 ≤ l.length) (h : rnF (l.take a) [(0, 0)] = some st) : wyP l m a = acL (l.drop (a + m)) st := by
  unfold wyP
  rw [acL_app (fun y hy => (hW.no10 ha y hy).1), h]
/-- tokens that never stand beside one another must not both stay behind -/
theorem wyP_mis {l : List Nat} (hW : KdL l) {m a q : Nat} (hq : q + 1 < l.length) (hm : a + m ≤ q) (hf : ftN (l.getD q 0) (l.getD (q + 1) 0) = false) : wyP l m a = false := by
  cases hp : wyP l m a with
  | false => rfl
  | true =>
    exfalso
    obtain ⟨c1, c2⟩ := hW.cut (a := a) (m := m) (by omega)
    have e1 : l.drop (a + m) = (l.drop (a + m)).take (q - (a + m)) ++ l.drop q := by
      have := (List.take_append_drop (q - (a + m)) (l.drop (a + m))).symm
      rw [List.drop_drop, show a + m + (q - (a + m)) = q by omega] at this
      exact this
    have g1 := getD_at (l := l) (j := q) (by omega)
    have g2 := getD_at (l := l) (j := q + 1) (by omega)
    unfold wyP at hp
    rw [e1, drop_at g1, drop_at g2, ← List.append_assoc] at hp
    have hy := hW q _ g1
    have hu : ∀ w ∈ l.take a ++ (l.drop (a + m)).take (q - (a + m)), w ≠ 10 ∧ w < 12 := by
      intro w hw
      rcases List.mem_append.mp hw with hw | hw
      · exact hW.no10 (by omega) w hw
      · obtain ⟨j, hj⟩ := List.mem_iff_getElem?.mp hw
        have hjl := (List.getElem?_eq_some_iff.mp hj).1
        rw [List.length_take, List.length_drop] at hjl
        rw [List.getElem?_take, if_pos (by omega), List.getElem?_drop] at hj
        obtain ⟨z1, z2⟩ := hW _ w hj
        exact ⟨fun u => by
          have := z2.mp u
          omega, z1⟩
    have := acL_fit hu ⟨fun u => by
      have := hy.2.mp u
      omega, hy.1⟩ (hW _ _ g2).1 hp
    rw [hf] at this
    cases this
theorem wyP_fit {l : List Nat} (hW : KdL l) {m a : Nat} (hm : a + m < l.length) (hf : ftN (if a = 0 then 12 else l.getD (a - 1) 0) (l.getD (a + m) 0) = false) : wyP l m a = false := by
  cases hp : wyP l m a with
  | false => rfl
  | true =>
    exfalso
    have g2 := getD_at (l := l) (j := a + m) hm
    unfold wyP at hp
    rw [drop_at g2] at hp
    by_cases c : a = 0
    · rw [if_pos c] at hf
      rw [c, List.take_zero] at hp
      have g3 : l[0 + m]? = some (l.getD (0 + m) 0) := by
        rw [c] at g2
        exact g2
      rw [c] at hf
      have := acL_fit0 (v := l.drop (0 + m + 1)) (hW _ _ g3).1 hp
      rw [hf] at this
      cases this
    · rw [if_neg c] at hf
      have g1 := getD_at (l := l) (j := a - 1) (by omega)
      have e1 : l.take a = l.take (a - 1) ++ [l.getD (a - 1) 0] := by
        have := take_snoc g1
        rw [show a - 1 + 1 = a by omega] at this
        exact this
      rw [e1, List.append_assoc] at hp
      have hy := hW _ _ g1
      have := acL_fit (fun w hw => hW.no10 (by omega) w hw) ⟨fun u => by
        have := hy.2.mp u
        omega, hy.1⟩ (hW _ _ g2).1 hp
      rw [hf] at this
      cases this
theorem wyP_bal {l : List Nat} (hW : KdL l) {m a : Nat} (hm : a + m < l.length) (hp : wyP l m a = true) : wL (l.take (a + m)) - wL (l.take a) = wL l := by
  obtain ⟨c1, c2⟩ := hW.cut hm
  have h1 := acL_w LV.st0 c1 (fun u => by
    rw [u] at c2
    change 0 = _ at c2
    omega) hp
  have e0 : wB [(0, 0)] = 0 := by decide
  have e1 : wL l = wL (l.take (a + m)) + wL (l.drop (a + m)) := by rw [← wL_app, List.take_append_drop]
  rw [e0, wL_app] at h1
  omega
/-! in the way: what is found out at a glance -/
def BaX (I : zI) (l : List Nat) : Prop := ∀ j, j ≤ l.length → I.1 108 j = Int32.ofInt (wL (l.take j))
theorem BaX.kp {I J : zI} {l : List Nat} (h : BaX I l) (e : ∀ j, J.1 108 j = I.1 108 j) : BaX J l := fun j hj => (e j).trans (h j hj)
theorem wS_at {y : Nat} : wS (5 + y) = if y = 6 then 1 else if y = 7 then -1 else if y = 8 then 1000 else if y = 9 then -1000 else 0 := by
  unfold wS
  by_cases c6 : y = 6
  · rw [if_pos (by omega), if_pos c6]
  rw [if_neg (by omega), if_neg c6]
  by_cases c7 : y = 7
  · rw [if_pos (by omega), if_pos c7]
  rw [if_neg (by omega), if_neg c7]
  by_cases c8 : y = 8
  · rw [if_pos (by omega), if_pos c8]
  rw [if_neg (by omega), if_neg c8]
  by_cases c9 : y = 9
  · rw [if_pos (by omega), if_pos c9]
  rw [if_neg (by omega), if_neg c9]
def Qwe (a j : Nat) : Prop := a = 108
theorem t_weigh {tk : Nat} {l : List Nat} {I : zI} {K : zI → Prop} (hW : KdL l) (hl : l.length ≤ 100) (hX : TkX I tk l) (hK : ∀ J, eqQ Qwe I J → BaX J l → K J) : w_Adviser_weigh tk I K := by
  intro P4 h4
  have xw : ∀ J, eqQ Qwe I J → TkX J tk l := fun J q => hX.ad (q.mono (fun a j h => by unfold Qwe at h; unfold Qad; omega))
  have main : ∀ (d i : Nat) (J : zI), i + d = l.length → eqQ Qwe I J → (∀ j, j < i → J.1 108 j = Int32.ofInt (wL (l.take j))) → P4 (Int32.ofInt (wL (l.take i))) (zi i) J := by
    intro d
    induction d with
    | zero =>
      intro i J hid q hB
      refine h4 _ _ _ ?_
      rw [(xw J q).2.1, if_pos ((zi_le (by omega) (by omega)).mpr (by omega))]
      refine (w_set (by decide)).mpr ?_
      rw [rs_in (by decide) (show l.length < 101 by omega)]
      refine hK _ (q.zu rfl) (fun j hj => ?_)
      by_cases u : j = l.length
      · rw [u, show (107 + 1 : Nat) = 108 from rfl, zu_self, show i = l.length by omega]
      · rw [show (107 + 1 : Nat) = 108 from rfl, zu_at, if_neg (by omega)]
        exact hB j (by omega)
    | succ d ih =>
      intro i J hid q hB
      refine h4 _ _ _ ?_
      rw [(xw J q).2.1, if_neg (nle_zi (by omega) (by omega))]
      refine (w_set (by decide)).mpr ?_
      rw [rs_in (by decide) (show i < 101 by omega)]
      have hat := getD_at (l := l) (j := i) (by omega)
      generalize l.getD i 0 = y at hat
      obtain ⟨w1, w2⟩ := hW i y hat
      have q2 : eqQ Qwe I (zu J (107 + 1) i (Int32.ofInt (wL (l.take i)))) := q.zu rfl
      refine (w_get (by decide)).mpr ?_
      rw [rg_in (by decide) (show i < 100 by omega), show (zu J (107 + 1) i (Int32.ofInt (wL (l.take i)))).1 (tk + 1 + 1) i = zi y from (xw _ q2).2.2.1 i y hat]
      intro P90 h90
      have eS : wL (l.take (i + 1)) = wL (l.take i) + wS (5 + y) := by
        rw [take_snoc hat, wL_app]
        show _ + (wS (5 + y) + 0) = _
        rw [Int.add_zero]
      rw [wS_at] at eS
      have nx : ∀ v : Int32, v = Int32.ofInt (wL (l.take (i + 1))) → P90 v := fun v ev => h90 v (fun v' ev' => by
        rw [ev', zi_succ, ev]
        refine ih (i + 1) _ (by omega) q2 (fun j hj => ?_)
        rw [show (107 + 1 : Nat) = 108 from rfl]
        by_cases u : j = i
        · rw [u, zu_self]
        · rw [zu_at, if_neg (by omega)]
          exact hB j (by omega))
      by_cases c6 : y = 6
      · rw [if_pos c6] at eS
        rw [if_pos (show zi y = 6 by rw [c6]; rfl)]
        intro v ev
        exact nx v (by rw [ev, eS, Int32.ofInt_add]; rfl)
      rw [if_neg c6] at eS
      rw [if_neg (show ¬ zi y = 6 from zi_ne (b := 6) (by omega) (by decide) c6)]
      by_cases c7 : y = 7
      · rw [if_pos c7] at eS
        rw [if_pos (show zi y = 7 by rw [c7]; rfl)]
        intro v ev
        exact nx v (by rw [ev, eS, Int32.ofInt_add]; rfl)
      rw [if_neg c7] at eS
      rw [if_neg (show ¬ zi y = 7 from zi_ne (b := 7) (by omega) (by decide) c7)]
      by_cases c8 : y = 8
      · rw [if_pos c8] at eS
        rw [if_pos (show zi y = 8 by rw [c8]; rfl)]
        intro v ev
        exact nx v (by rw [ev, eS, Int32.ofInt_add]; rfl)
      rw [if_neg c8] at eS
      rw [if_neg (show ¬ zi y = 8 from zi_ne (b := 8) (by omega) (by decide) c8)]
      by_cases c9 : y = 9
      · rw [if_pos c9] at eS
        rw [if_pos (show zi y = 9 by rw [c9]; rfl)]
        intro v ev
        exact nx v (by rw [ev, eS, Int32.ofInt_add]; rfl)
      rw [if_neg c9] at eS
      rw [if_neg (show ¬ zi y = 9 from zi_ne (b := 9) (by omega) (by decide) c9)]
      exact nx _ (by rw [eS, Int.add_zero])
  refine main l.length 0 I (by omega) eqQ.rf (fun j hj => absurd hj (Nat.not_lt_zero _))
/-- one that does not go with the one behind it, or none -/
def MisI (l : List Nat) (v : Int32) : Prop := v = -1 ∨ ∃ q, q + 1 < l.length ∧ v = zi q ∧ ftN (l.getD q 0) (l.getD (q + 1) 0) = false
theorem t_lastMisfit {tk : Nat} {l : List Nat} {I : zI} {K : Int32 → Prop} (hW : KdL l) (hl : 1 ≤ l.length ∧ l.length ≤ 100) (hX : TkX I tk l) (hK : ∀ v, MisI l v → K v) : w_Adviser_lastMisfit tk I K := by
  obtain ⟨-, x2, x3, -⟩ := hX
  intro v1 ev1 P7 h7
  rw [x2] at ev1
  have main : ∀ i, i + 1 < l.length + 1 → P7 (zi i - 1) := by
    intro i
    induction i with
    | zero =>
      intro _
      refine h7 _ ?_
      rw [if_pos (by decide)]
      exact hK _ (Or.inl rfl)
    | succ i ih =>
      intro hi
      refine h7 _ ?_
      rw [show zi (i + 1) - 1 = zi i from zi_sub (b := 1) (Nat.le_add_left 1 i), if_neg (zi_pos (by omega))]
      have g1 := getD_at (l := l) (j := i) (by omega)
      by_cases hlast : i + 1 < l.length
      · have g2 := getD_at (l := l) (j := i + 1) hlast
        refine (w_get (by decide)).mpr ?_
        rw [rg_in (by decide) (show i < 100 by omega), show I.1 (tk + 1 + 1) i = zi (l.getD i 0) from x3 i _ g1, zi_succ]
        refine (w_get (by decide)).mpr ?_
        rw [rg_in (by decide) (show i + 1 < 100 by omega), show I.1 (tk + 1 + 1) (i + 1) = zi (l.getD (i + 1) 0) from x3 _ _ g2]
        refine t_fits (by have := (hW _ _ g1).1; omega) ?_
        cases hf : ftN (l.getD i 0) (l.getD (i + 1) 0) with
        | false =>
          rw [if_pos (show b01 false = 0 from rfl)]
          exact hK _ (Or.inr ⟨i, hlast, rfl, hf⟩)
        | true =>
          rw [if_neg (by decide)]
          intro v ev
          rw [ev, ← Int32.sub_eq_add_neg]
          exact ih (by omega)
      · omega
  have e : v1 = zi (l.length - 1) - 1 := by
    rw [ev1, show zi (l.length - 1) = zi l.length - 1 from (zi_sub (b := 1) hl.1).symm, Int32.sub_sub]
    rfl
  rw [e]
  exact main _ (by omega)
theorem t_couldGo {tk a m : Nat} {l : List Nat} {I : zI} {K : Int32 → Prop} (hW : KdL l) (hl : l.length ≤ 100) (hX : TkX I tk l) (hB : BaX I l) (hm : a + m < l.length) (h1 : K 1) (h0 : wyP l m a = false → K 0) : w_Adviser_couldGo tk (zi a) (zi m) I K := by
  obtain ⟨-, x2, x3, -⟩ := hX
  unfold w_Adviser_couldGo
  rw [zi_add, x2]
  refine (w_get (by decide)).mpr ?_
  rw [rg_in (by decide) (show a + m < 101 by omega), show I.1 (107 + 1) (a + m) = _ from hB (a + m) (by omega)]
  refine (w_get (by decide)).mpr ?_
  rw [rg_in (by decide) (show a < 101 by omega), show I.1 (107 + 1) a = _ from hB a (by omega)]
  refine (w_get (by decide)).mpr ?_
  rw [rg_in (by decide) (show l.length < 101 by omega), show I.1 (107 + 1) l.length = _ from hB l.length (Nat.le_refl _), List.take_length]
  intro P38 h38
  have g2 := getD_at (l := l) (j := a + m) hm
  have rest : ∀ t : Int32, (t = 0 → wyP l m a = false) → P38 t := by
    intro t ht
    refine h38 t ?_
    intro P59 h59
    have fin : ∀ k, k < 13 → k = (if a = 0 then 12 else l.getD (a - 1) 0) → P59 (zi k) := by
      intro k hk ek
      refine h59 _ ?_
      by_cases c : t = 0
      · rw [if_pos c]
        exact h0 (ht c)
      · rw [if_neg c]
        refine (w_get (by decide)).mpr ?_
        rw [rg_in (by decide) (show a + m < 100 by omega), show I.1 (tk + 1 + 1) (a + m) = _ from x3 _ _ g2]
        refine t_fits hk ?_
        cases hf : ftN k (l.getD (a + m) 0) with
        | false =>
          rw [if_pos (show b01 false = 0 from rfl)]
          rw [ek] at hf
          exact h0 (wyP_fit hW hm hf)
        | true =>
          rw [if_neg (by decide)]
          exact h1
    by_cases c : a = 0
    · rw [if_pos (show zi a = 0 by rw [c]; rfl)]
      exact fin 12 (by decide) (by rw [if_pos c])
    · rw [if_neg (show ¬ zi a = 0 from zi_ne (b := 0) (by omega) (by decide) c), show zi a - 1 = zi (a - 1) from zi_sub (b := 1) (by omega)]
      have g1 := getD_at (l := l) (j := a - 1) (by omega)
      refine (w_get (by decide)).mpr ?_
      rw [rg_in (by decide) (show a - 1 < 100 by omega), show I.1 (tk + 1 + 1) (a - 1) = _ from x3 _ _ g1]
      exact fin _ (by have := (hW _ _ g1).1; omega) (by rw [if_neg c])
  by_cases c : Int32.ofInt (wL (l.take (a + m))) - Int32.ofInt (wL (l.take a)) = Int32.ofInt (wL l)
  · rw [if_pos c]
    exact rest 1 (fun u => absurd u (by decide))
  · rw [if_neg c]
    refine rest 0 (fun _ => ?_)
    cases hp : wyP l m a with
    | false => rfl
    | true =>
      refine absurd ?_ c
      have hb := wyP_bal hW hm hp
      rw [show wL (l.take (a + m)) = wL l + wL (l.take a) by omega, Int32.ofInt_add, Int32.add_sub_cancel]
theorem t_findWay {tk : Nat} {l : List Nat} {I : zI} {K : zI → Prop} (hW : KdL l) (hl : 1 ≤ l.length ∧ l.length ≤ 100) (hX : TkX I tk l) (hK : ∀ J, eqQ Qad I J → J.1 100 3 = resA (wyM l (l.length - 1) 1) → J.1 100 4 = resB (wyM l (l.length - 1) 1) → K J) : w_Adviser_findWay tk I K := by
  refine t_weigh hW hl.2 hX (fun I1 q1w ba1 => ?_)
  have q1 : eqQ Qad I I1 := q1w.mono (fun a j h => by unfold Qwe at h; unfold Qad; omega)
  refine t_lastMisfit hW hl (hX.ad q1) (fun mf hmf => ?_)
  intro P12 h12
  have Qbe : ∀ {A B : zI}, (eqQ (Qtk 101) A B ∨ eqQ (Qtk 104) A B) → BaX A l → BaX B l := fun q hb => hb.kp (fun j => by
    rcases q with q | q
    · exact q.1 108 j (by unfold Qtk; omega)
    · exact q.1 108 j (by unfold Qtk; omega))
  have outer : ∀ (d m : Nat) (J : zI), m + d = l.length → 1 ≤ m → eqQ Qad I J → BaX J l → (∀ L, eqQ Qad I L → L.1 100 3 = resA (wyM l d m) → L.1 100 4 = resB (wyM l d m) → K L) → P12 (zi m) J := by
    intro d
    induction d with
    | zero =>
      intro m J hmd h1 q hb hK
      refine h12 _ _ ?_
      rw [(hX.ad q).2.1, if_pos ((zi_le (by omega) (by omega)).mpr (by omega))]
      exact t_found (fun L qL e3 e4 => hK L (q.tr qL) e3 e4)
    | succ d ih =>
      intro m J hmd h1 q hb hK
      refine h12 _ _ ?_
      rw [(hX.ad q).2.1, if_neg (nle_zi (by omega) (by omega))]
      refine t_begin (fun A qA trA => ?_)
      have q2 := q.tr (Qtk_ad1 qA)
      have hb2 := Qbe (Or.inl qA) hb
      intro P33 h33
      have hK1 : ∀ L, eqQ Qad I L → L.1 100 3 = resA (match wyA l m (l.length - m) 0 with
          | some a => some (a, m)
          | none => wyM l d (m + 1)) → L.1 100 4 = resB (match wyA l m (l.length - m) 0 with
          | some a => some (a, m)
          | none => wyM l d (m + 1)) → K L := hK
      -- none of this length any more
      have stop : ∀ (v : Int32) (a : Nat) (B : zI), eqQ Qad I B → BaX B l → (v = 0 ∨ l.length ≤ a + m) → a ≤ l.length → (∀ L, eqQ Qad I L → L.1 100 3 = resA (wyM l d (m + 1)) → L.1 100 4 = resB (wyM l d (m + 1)) → K L) → P33 v (zi a) B := by
        intro v a B qB hbB hva ha hK2
        refine h33 _ _ _ ?_
        intro P126 h126
        have fin : P126 := h126 (fun v' ev => by
          rw [ev, zi_succ]
          exact ih (m + 1) B (by omega) (by omega) qB hbB hK2)
        by_cases c : v = 0
        · rw [if_pos c]
          exact fin
        · rw [if_neg c, (hX.ad qB).2.1, zi_add, if_pos ((zi_le (by omega) (by omega)).mpr (by
            rcases hva with u | u
            · exact absurd u c
            · exact u))]
          exact fin
      have inner : ∀ (e a : Nat) (st : List (Nat × Nat)) (B : zI), a + m + e = l.length → eqQ Qad I B → BaX B l → TrX B 101 st → rnF (l.take a) [(0, 0)] = some st → LV a st → (∀ L, eqQ Qad I L → L.1 100 3 = resA (match wyA l m e a with
          | some a => some (a, m)
          | none => wyM l d (m + 1)) → L.1 100 4 = resB (match wyA l m e a with
          | some a => some (a, m)
          | none => wyM l d (m + 1)) → K L) → P33 1 (zi a) B := by
        intro e
        induction e with
        | zero =>
          intro a st B hae qB hbB tr hr hv hK2
          exact stop 1 a B qB hbB (Or.inr (by omega)) (by omega) hK2
        | succ e ih2 =>
          intro a st B hae qB hbB tr hr hv hK2
          refine h33 _ _ _ ?_
          intro P126 _
          rw [if_neg (by decide), (hX.ad qB).2.1, zi_add, if_neg (nle_zi (by omega) (by omega))]
          have hat := getD_at (l := l) (j := a) (by omega)
          generalize l.getD a 0 = y at hat
          obtain ⟨w1, w2⟩ := hW a y hat
          have y10 : y ≠ 10 := fun u => by
            have := w2.mp u
            omega
          have hlen : st.length ≤ 299 := by
            have := hv.2.2.2
            omega
          intro P102 h102
          have nx : ∀ C, eqQ Qad I C → BaX C l → TrX C 101 st → wyP l m a = false → P102 C := by
            intro C qC hbC trC hf
            have hK3 : ∀ L, eqQ Qad I L → L.1 100 3 = resA (match wyA l m e (a + 1) with
                | some a => some (a, m)
                | none => wyM l d (m + 1)) → L.1 100 4 = resB (match wyA l m e (a + 1) with
                | some a => some (a, m)
                | none => wyM l d (m + 1)) → K L := fun L qL m1 m2 => hK2 L qL (by
              show L.1 100 3 = resA (match (if wyP l m a = true then some a else wyA l m e (a + 1)) with
                | some a => some (a, m)
                | none => wyM l d (m + 1))
              rw [hf, if_neg (by decide)]
              exact m1) (by
              show L.1 100 4 = resB (match (if wyP l m a = true then some a else wyA l m e (a + 1)) with
                | some a => some (a, m)
                | none => wyM l d (m + 1))
              rw [hf, if_neg (by decide)]
              exact m2)
            refine h102 C ?_
            refine (w_get (by decide)).mpr ?_
            rw [rg_in (by decide) (show a < 100 by omega), show C.1 (tk + 1 + 1) a = zi y from (hX.ad qC).2.2.1 a y hat]
            refine t_accepts trC hv (by omega) w1 (fun L qL trL v ev => ?_)
            rw [ev, zi_succ, acV_no y10]
            have q5 := qC.tr (Qtk_ad1 qL)
            have hb5 := Qbe (Or.inl qL) hbC
            cases ha : acF y 4 st with
            | none =>
              have hn : rnF (l.take (a + 1)) [(0, 0)] = none := by
                rw [take_snoc hat, rnF_app, hr]
                show (acF y 4 st).bind (rnF []) = none
                rw [ha]
                rfl
              have e0 : ∀ f b, a + 1 ≤ b → b + f ≤ l.length → wyA l m f b = none := by
                intro f
                induction f with
                | zero => exact fun _ _ _ => rfl
                | succ f ihf =>
                  intro b hb1 hb2
                  show (if wyP l m b = true then some b else wyA l m f (b + 1)) = none
                  rw [wyP_none hW (by omega) hn hb1, if_neg (by decide)]
                  exact ihf (b + 1) (by omega) (by omega)
              rw [e0 e (a + 1) (Nat.le_refl _) (by omega)] at hK3
              exact stop _ (a + 1) L q5 hb5 (Or.inl rfl) (by omega) hK3
            | some st' =>
              have h1' := ((ac_run (kd := fun _ => y) (i := 0) rfl w1 4 a st hv hv.top.2.1).1 st' ha).1
              refine ih2 (a + 1) st' L (by omega) q5 hb5 (trL st' ha) ?_ h1' hK3
              rw [take_snoc hat, rnF_app, hr]
              show (acF y 4 st).bind (rnF []) = some st'
              rw [ha]
              rfl
          by_cases cm : zi (a + m) ≤ mf
          · rw [if_pos cm]
            refine nx B qB hbB tr ?_
            rcases hmf with u | ⟨q, u1, u2, u3⟩
            · rw [u] at cm
              have := Int32.le_trans (zi_ge (show a + m < 2147483648 by omega)) cm
              exact absurd this (by decide)
            · rw [u2] at cm
              exact wyP_mis hW u1 ((zi_le (by omega) (by omega)).mp cm) u3
          · rw [if_neg cm]
            refine t_couldGo hW hl.2 (hX.ad qB) hbB (by omega) ?_ (fun hf => ?_)
            · rw [if_neg (by decide)]
              refine t_trialCopy (by omega) hv.1 hlen tr (fun C qC trC => ?_)
              have q4 := qB.tr (Qtk_ad4 qC)
              refine t_acceptsFrom (Or.inr rfl) hW hl.2 (hX.ad q4) trC hv (by omega) (by omega) (fun D qD => ?_)
              have q5 := q4.tr (Qtk_ad4 qD)
              rw [← wyP_at hW (by omega) hr]
              cases hp : wyP l m a with
              | false =>
                rw [if_pos (show b01 false = 0 from rfl)]
                exact nx D q5 (Qbe (Or.inr qD) (Qbe (Or.inr qC) hbB)) ((tr.o4 qC).o4 qD) hp
              | true =>
                rw [if_neg (by decide)]
                refine t_found (fun L qL m1 m2 => hK2 L (q5.tr qL) ?_ ?_)
                · show L.1 100 3 = resA (match (if wyP l m a = true then some a else wyA l m e (a + 1)) with
                    | some a => some (a, m)
                    | none => wyM l d (m + 1))
                  rw [hp, if_pos rfl]
                  exact m1
                · show L.1 100 4 = resB (match (if wyP l m a = true then some a else wyA l m e (a + 1)) with
                    | some a => some (a, m)
                    | none => wyM l d (m + 1))
                  rw [hp, if_pos rfl]
                  exact m2
            · rw [if_pos rfl]
              exact nx B qB hbB tr hf
      refine inner (l.length - m) 0 [(0, 0)] A (by omega) q2 hb2 trA ?_ LV.st0 hK1
      rw [List.take_zero]
      rfl
  exact outer (l.length - 1) 1 I1 (by omega) (Nat.le_refl 1) q1 ba1 hK
def vWay (x : Sg) (a : Int32) : Int32 := match ixI 2 a with
  | some j => if moB (sgC x) = true then -2 else if j = 0 then resA (wyM (kdsT x) ((kdsT x).length - 1) 1) else resB (wyM (kdsT x) ((kdsT x).length - 1) 1)
  | none => -1
theorem t_inTheWay {x : Sg} {a : Int32} {I : zI} {K : Int32 → zI → Prop} (hv : Iv x) (hR : RX I x) (hK : ∀ J, eqQ Qcl I J → RX J x → K (vWay x a) J) : w_Desk_inTheWay a I K := by
  obtain ⟨k1, k2, k3⟩ := kdsT_ok hv
  unfold w_Desk_inTheWay
  unfold vWay at hK
  intro P11 h11
  have yes : ∀ j : Nat, j < 2 → a = zi j → P11 := fun j hj ea => by
    refine h11 ?_
    rw [ea, ixI_some (by decide) hj] at hK
    dsimp only at hK
    obtain ⟨s, hA⟩ := hR.now
    refine s_now hA.1 hA.2.1 ?_
    rw [show I.1 (zmom s) 3 = b01 (moB (sgC x)) from hA.2.2.2.2.2.1]
    cases hb : moB (sgC x) with
    | true =>
      rw [hb, if_pos rfl] at hK
      rw [if_neg (by decide)]
      exact hK I eqQ.rf hR
    | false =>
      rw [hb, if_neg (by decide)] at hK
      rw [if_pos (show b01 false = 0 from rfl)]
      refine t_findWay k1 ⟨k2, k3⟩ (kdsT_X hA) (fun J qJ m1 m2 => ?_)
      have hK2 := hK J (Qad_cl qJ) (hR.ad hv qJ)
      rw [ea]
      by_cases c : j = 0
      · rw [if_pos c] at hK2
        rw [if_pos (by rw [c]; rfl), m1]
        exact hK2
      · rw [if_neg c] at hK2
        rw [if_neg (show ¬ zi j = 0 from zi_ne (b := 0) (by omega) (by decide) c), m2]
        exact hK2
  by_cases c0 : a = 0
  · rw [if_pos c0]
    exact yes 0 (by decide) c0
  rw [if_neg c0]
  by_cases c1 : a = 1
  · rw [if_pos c1]
    exact yes 1 (by decide) c1
  rw [if_neg c1]
  have : ixI 2 a = none := by
    rcases ix_cs (n := 2) (by decide) a with ⟨k, hk, e, e2⟩ | ⟨e, -⟩
    · match k, hk with
      | 0, _ => exact absurd e c0
      | 1, _ => exact absurd e c1
    · exact e
  rw [this] at hK
  exact hK I eqQ.rf hR
/-! ===== print: both sides write the same ===== -/
def prR (x : Sg) : List Int32 := prt (sgN x) (moR (sgC x))
def vPrint (x : Sg) (a : Int32) : Int32 := match ixI (prR x).length a with
  | some i => (prR x).getD i 0
  | none => -1
theorem prR_len {x : Sg} (hv : Iv x) : (prR x).length ≤ 498 := (prt_in hv.2.1 hv.2.2.2.2.2.2.2.1 (by
  rw [po_eq hv.2.1 hv.tr.1]
  exact List.mem_cons_self ..)).1
theorem t_print {x : Sg} {a : Int32} {I : zI} {K : Int32 → Prop} (hv : Iv x) (hR : RX I x) (h : K (vPrint x a)) : w_Desk_print a I K := by
  have hl := prR_len hv
  obtain ⟨p1, p2⟩ := hR.2.2.1.2.2.2.2.2.2.2
  unfold w_Desk_print
  unfold vPrint at h
  rw [show I.1 0 18 = zi (prR x).length from p1]
  rcases ix_cs (n := (prR x).length) (by omega) a with ⟨i, hi, rfl, ea⟩ | ⟨ea, c | ⟨c, d⟩⟩
  · rw [ea] at h
    dsimp only at h
    rw [if_neg (zi_pos (by omega)), if_neg (nle_zi (by omega) (by omega))]
    refine (w_get (by decide)).mpr ?_
    have hg : (prR x)[i]? = some ((prR x).getD i 0) := by
      rw [List.getD_eq_getElem?_getD, List.getElem?_eq_getElem hi]
      rfl
    rw [rg_in (by decide) (show i < 700 by omega), show I.1 (109 + 1) i = (prR x).getD i 0 from p2 i _ hg]
    exact h
  · rw [ea] at h
    dsimp only at h
    rw [if_pos c]
    exact h
  · rw [ea] at h
    dsimp only at h
    rw [if_neg c, if_pos d]
    exact h
/-! ===== NAMES, what was RUN: what the class answers ===== -/
/-- a NAME of the last good TEXT -/
def gnI (x : Sg) (a : Int32) : Option Nat := match ixI (nG x) a with
  | some i => if ndM (sgN x (moO (sgC x) i)) = 5 then some i else none
  | none => none
abbrev ruR (x : Sg) : RuZ := ruN (sgN x) (moR (sgC x))
abbrev ylR (x : Sg) : List Nat := yl (sgN x) (moR (sgC x))
theorem yl_at {x : Sg} (hv : Iv x) {i : Nat} (h : i + 1 < nG x) : (ylR x)[i]? = some (moO (sgC x) i) := by
  show (yl (sgN x) (moR (sgC x)))[i]? = _
  rw [hv.tr.2.2.1, List.getElem?_map, List.getElem?_range (by omega)]
  rfl
theorem gn_in {x : Sg} (hv : Iv x) {i : Nat} (h : i < nG x) (h5 : ndM (sgN x (moO (sgC x) i)) = 5) : i + 1 < nG x := by
  refine Nat.lt_of_le_of_ne (by omega) (fun u => ?_)
  have := (tkz_R hv.2.1 hv.2.2.2.2.2.2.2.1).1
  change ndM (sgN x (moO (sgC x) (nG x - 1))) ≠ 5 at this
  rw [show nG x - 1 = i by omega] at this
  exact this h5
theorem RX.ev {I : zI} {x : Sg} (h : RX I x) : EvX I (sgN x) (moR (sgC x)) := h.2.2.1.2.2.2.2.2.2.1
theorem ix_100 {x : Sg} (hv : Iv x) {z : Nat} (hz : z ∈ ylR x) (h5 : ndM (sgN x z) = 5) : ixNm (sgN x) (nmV (sgN x) z) (ylR x) < 100 := by
  have h1 := ixN_lt hz h5
  have h2 := hv.tr.tk hv.2.1
  have h3 := hv.tr.2.2.2.2.2.2.2
  rw [yl_len hv.2.1 _ hv.tr.1] at h1
  omega
theorem t_isGoodName {x : Sg} {a : Int32} {I : zI} {K : Int32 → Prop} (hv : Iv x) (hR : RX I x) (h1 : ∀ i, i + 1 < nG x → a = zi i → gnI x a = some i → ndM (sgN x (moO (sgC x) i)) = 5 → K 1) (h0 : gnI x a = none → K 0) : w_Desk_isGoodName a I K := by
  obtain ⟨s, hA⟩ := hR.now
  have l100 : nG x ≤ 100 := hv.2.2.2.2.2.2.2.1.2.1.2.2
  have hm := hv.2.2.2.1
  unfold gnI at h1 h0
  refine s_now hA.1 hA.2.1 ?_
  refine t_hasGood (n := nG x) (by omega) hA.2.2.2.2.2.2.1 (fun i hi e e2 => ?_) (fun e => ?_)
  · have h1' := h1 i
    rw [e2] at h1' h0
    dsimp only at h1' h0
    rw [if_neg (by decide), e]
    refine (w_get (by decide)).mpr ?_
    rw [rg_in (by decide) (show i < 100 by omega), show I.1 (zmom s + 14 + 1) i = zi (moO (sgC x) i) from hA.2.2.2.2.2.2.2.1 i hi]
    have hlt := (hv.tr.2.2.2.2.1 i hi).1
    refine (w_get (by decide)).mpr ?_
    rw [rg_in (by decide) (show moO (sgC x) i < 3400 by omega), show I.1 (27 + 1) (moO (sgC x) i) = zi (ndM (sgN x (moO (sgC x) i))) from (hR.2.1.2 _ hlt).2.1]
    by_cases u : ndM (sgN x (moO (sgC x) i)) = 5
    · rw [if_pos (show zi (ndM (sgN x (moO (sgC x) i))) = 5 by rw [u]; rfl)]
      rw [if_pos u] at h1'
      exact h1' (gn_in hv hi u) e rfl u
    · have h17 := hv.2.1.sym _ hlt
      rw [if_neg (show ¬ zi (ndM (sgN x (moO (sgC x) i))) = 5 from fun w => u ((zi_eq (b := 5) (by omega) (by decide)).mp w))]
      rw [if_neg u] at h0
      exact h0 rfl
  · rw [if_pos rfl]
    rw [e] at h0
    exact h0 rfl
theorem t_ixn {x : Sg} {i : Nat} {I : zI} {K : Int32 → Prop} (hv : Iv x) (hR : RX I x) (hi : i + 1 < nG x) (h5 : ndM (sgN x (moO (sgC x) i)) = 5) (h : ∀ j, j < 100 → j = ixNm (sgN x) (nmV (sgN x) (moO (sgC x) i)) (ylR x) → K (zi j)) : w_Row_get 70 100 (zi i) I K := by
  have l100 : nG x ≤ 100 := hv.2.2.2.2.2.2.2.1.2.1.2.2
  have hy := yl_at hv hi
  refine (w_get (by decide)).mpr ?_
  rw [rg_in (by decide) (show i < 100 by omega), show I.1 (70 + 1) i = _ from hR.ev.1 i _ hy h5]
  exact h _ (ix_100 hv (List.mem_of_getElem? hy) h5) rfl
def vValue (x : Sg) (a : Int32) : Int32 := match gnI x a with
  | some i => ruE (ruR x) (nmV (sgN x) (moO (sgC x) i))
  | none => 0
theorem t_value {x : Sg} {a : Int32} {I : zI} {K : Int32 → Prop} (hv : Iv x) (hR : RX I x) (h : K (vValue x a)) : w_Desk_value a I K := by
  unfold vValue at h
  refine t_isGoodName hv hR (fun i hi e e2 h5 => ?_) (fun e => ?_)
  · rw [e2] at h
    rw [if_neg (by decide), e]
    refine t_ixn hv hR hi h5 (fun j hj ej => (w_get (by decide)).mpr ?_)
    rw [rg_in (by decide) hj, ej, show I.1 (72 + 1) _ = _ from hR.ev.2.1.1 _ (List.mem_of_getElem? (yl_at hv hi)) h5]
    exact h
  · rw [e] at h
    rw [if_pos rfl]
    exact h
def vSets (x : Sg) (a : Int32) : Int32 := match gnI x a with
  | some i => zi (ruT (ruR x) (nmV (sgN x) (moO (sgC x) i)))
  | none => 0
theorem t_sets {x : Sg} {a : Int32} {I : zI} {K : Int32 → Prop} (hv : Iv x) (hR : RX I x) (h : K (vSets x a)) : w_Desk_sets a I K := by
  unfold vSets at h
  refine t_isGoodName hv hR (fun i hi e e2 h5 => ?_) (fun e => ?_)
  · rw [e2] at h
    rw [if_neg (by decide), e]
    refine t_ixn hv hR hi h5 (fun j hj ej => (w_get (by decide)).mpr ?_)
    rw [rg_in (by decide) hj, ej, show I.1 (74 + 1) _ = _ from (hR.ev.2.1.2.1 _ (List.mem_of_getElem? (yl_at hv hi)) h5).1]
    exact h
  · rw [e] at h
    rw [if_pos rfl]
    exact h
/-- places in what is known of the idle ones -/
theorem ruAt_lt {N : Nat → Nd} {F : List Fl} : ∀ p, p ≤ F.length → (∀ v q, (ruQ (ruAt N F p)).1 v = some q → q < p) ∧ ∀ q ∈ ruD (ruAt N F p), q < p
  | 0, _ => by
    refine ⟨fun v q hq => ?_, fun q hq => ?_⟩
    · change (none : Option Nat) = some q at hq
      cases hq
    · change q ∈ ([] : List Nat) at hq
      cases hq
  | p + 1, hp => by
    obtain ⟨i1, i2⟩ := ruAt_lt (N := N) (F := F) p (by omega)
    have hx : F[p]? = some (F[p]'(by omega)) := List.getElem?_eq_getElem (by omega)
    generalize F[p]'(by omega) = x at hx
    rw [ruAt_s hx]
    by_cases u : ndR (N x.1) = 2
    · rw [if_pos u]
      generalize hw : ntR N (ruL (ruAt N F p)) ((F.drop (p + 3)).take (sz N (chN (N x.1) 2))) (ruQ (ruAt N F p)) = w
      have hlt : ∀ v q, w.1 v = some q → q < p := by
        rw [← hw]
        have gen : ∀ (l : List Fl) (u : UaZ), (∀ v q, u.1 v = some q → q < p) → ∀ v q, (ntR N (ruL (ruAt N F p)) l u).1 v = some q → q < p := by
          intro l
          induction l with
          | nil => exact fun u h => h
          | cons y l ih =>
            intro u h
            refine ih (nt1 N (ruL (ruAt N F p)) y u) (fun v q hq => ?_)
            unfold nt1 at hq
            by_cases u8 : ndR (N y.1) = 8
            · rw [if_pos u8] at hq
              dsimp only at hq
              unfold up6 at hq
              by_cases e : v = nmC N y.1
              · rw [if_pos e] at hq
                cases hq
              · rw [if_neg e] at hq
                exact h v q hq
            · rw [if_neg u8] at hq
              exact h v q hq
        exact gen _ _ i1
      have e1 : ruQ (ruS N F p x.1 (ruAt N F p)) = (up6 w.1 (nmC N x.1) (some p), w.2) := by rw [← hw]; rfl
      have e2 : ruD (ruS N F p x.1 (ruAt N F p)) = dnD (ruD (ruAt N F p)) (w.1 (nmC N x.1)) := by rw [← hw]; rfl
      rw [e1, e2]
      refine ⟨fun v q hq => ?_, fun q hq => ?_⟩
      · have hq' : up6 w.1 (nmC N x.1) (some p) v = some q := hq
        unfold up6 at hq'
        by_cases e : v = nmC N x.1
        · rw [if_pos e] at hq'
          cases hq'
          omega
        · rw [if_neg e] at hq'
          have := hlt v q hq'
          omega
      · cases hU : w.1 (nmC N x.1) with
        | none =>
          rw [hU] at hq
          have := i2 q hq
          omega
        | some q' =>
          rw [hU] at hq
          have hq' : q ∈ ruD (ruAt N F p) ++ [q'] := hq
          rcases List.mem_append.mp hq' with h | h
          · have := i2 q h
            omega
          · rw [List.mem_singleton] at h
            have := hlt _ _ hU
            omega
    · rw [if_neg u]
      exact ⟨fun v q hq => by have := i1 v q hq; omega, fun q hq => by have := i2 q hq; omega⟩
theorem mnD_in : ∀ {l : List Nat} {n : Nat}, l ≠ [] → (∀ q ∈ l, q < n) → n ≤ 400 → mnD l < n
  | [], _, h, _, _ => absurd rfl h
  | a :: l, n, _, h, hn => by
    have := h a (List.mem_cons_self ..)
    show min a (mnD l) < n
    omega
def vIdle (x : Sg) (b : Int32) : Int32 := if b = 0 then zi (ruD (ruR x)).length else if b = 1 then (if (ruD (ruR x)).length = 0 then -2 else zi (ffA x (mnD (ruD (ruR x)))).1) else -1
theorem ruD_len {N : Nat → Nd} {F : List Fl} : ∀ p, (ruD (ruAt N F p)).length ≤ p
  | 0 => Nat.le_refl _
  | p + 1 => by
    have i := ruD_len (N := N) (F := F) p
    show (ruD (match F[p]? with | some x => if ndR (N x.1) = 2 then ruS N F p x.1 (ruAt N F p) else ruAt N F p | none => ruAt N F p)).length ≤ p + 1
    cases hx : F[p]? with
    | none => exact Nat.le_succ_of_le i
    | some x =>
      dsimp only
      by_cases u : ndR (N x.1) = 2
      · rw [if_pos u]
        show (dnD (ruD (ruAt N F p)) _).length ≤ p + 1
        generalize ((ruQ (ruN1 N (List.take (sz N (chN (N x.1) 2)) (List.drop (p + 3) F)) (ruAt N F p))).1 (nmC N x.1)) = w
        cases w with
        | none => exact Nat.le_succ_of_le i
        | some q =>
          show (ruD (ruAt N F p) ++ [q]).length ≤ p + 1
          rw [List.length_append]
          exact Nat.succ_le_succ i
      · rw [if_neg u]
        exact Nat.le_succ_of_le i
theorem t_idle {x : Sg} {b : Int32} {I : zI} {K : Int32 → Prop} (hv : Iv x) (hR : RX I x) (h : K (vIdle x b)) : w_Desk_idle b I K := by
  have f248 := hv.f248
  obtain ⟨-, -, -, d1, d2, -⟩ := hR.ev.2.1
  have dl : (ruD (ruR x)).length ≤ (FF x).length := ruD_len _
  unfold w_Desk_idle
  unfold vIdle at h
  by_cases c0 : b = 0
  · rw [if_pos c0] at h ⊢
    rw [d1]
    exact h
  rw [if_neg c0] at h ⊢
  by_cases c1 : b = 1
  · rw [if_pos c1] at h ⊢
    rw [d1]
    by_cases u : (ruD (ruR x)).length = 0
    · rw [if_pos u] at h
      rw [if_pos (show zi (ruD (ruR x)).length = 0 by rw [u]; rfl)]
      exact h
    · rw [if_neg u] at h
      rw [if_neg (show ¬ zi (ruD (ruR x)).length = 0 from fun w => u ((zi_eq (b := 0) (by omega) (by decide)).mp w))]
      have hlt : mnD (ruD (ruR x)) < (FF x).length := mnD_in (fun e => u (by rw [e]; rfl)) (ruAt_lt _ (Nat.le_refl _)).2 (by omega)
      refine (w_get (by decide)).mpr ?_
      rw [d2, rg_in (by decide) (show mnD (ruD (ruR x)) < 400 by omega), show I.1 (44 + 1) _ = _ from (hR.2.2.1.2.1.2 _ _ (ffA_is hlt)).1]
      exact h
  · rw [if_neg c1] at h ⊢
    exact h
/-! ===== reads within a statement ===== -/
def rdB (N : Nat → Nd) (v : Int64) (c : Nat) : Bool := decide (ndR (N c) = 8 ∧ nmC N c = v)
/-- whether a NAME is read in a node or below -/
def hasN (N : Nat → Nd) (v : Int64) (e : Nat) : Bool := (po N e).any (rdB N v)
theorem ntU {N : Nat → Nd} {L : Int64 → Int32} {v : Int64} : ∀ (l : List Fl) (u : UaZ), (ntR N L l u).1 v = if l.any (fun y => rdB N v y.1) = true then none else u.1 v
  | [], _ => rfl
  | y :: l, u => by
    show (ntR N L l (nt1 N L y u)).1 v = _
    rw [ntU l, List.any_cons]
    by_cases c : l.any (fun y => rdB N v y.1) = true
    · rw [if_pos c, c, Bool.or_true, if_pos rfl]
    · rw [if_neg c, Bool.eq_false_iff.mpr c, Bool.or_false]
      unfold nt1 rdB
      by_cases u8 : ndR (N y.1) = 8
      · rw [if_pos u8]
        show up6 u.1 (nmC N y.1) none v = _
        by_cases e : v = nmC N y.1
        · rw [e, up6_s, if_pos (decide_eq_true ⟨u8, rfl⟩)]
        · rw [up6_o e, if_neg (fun w => e (of_decide_eq_true w).2.symm)]
      · rw [if_neg u8, if_neg (fun w => u8 (of_decide_eq_true w).1)]
theorem seg_has {m R p : Nat} {N : Nat → Nd} {x : Fl} {v : Int64} (hN : NdOk m N) (hR : R < m) (hx : (flR N R)[p]? = some x) (h2 : ndR (N x.1) = 2) : (((flR N R).drop (p + 3)).take (sz N (chN (N x.1) 2))).any (fun y => rdB N v y.1) = hasN N v (chN (N x.1) 2) := by
  obtain ⟨-, -, -, -, -, -, f, f1, f2, -⟩ := st_e hN hR hx h2
  have h := seg_po hN hR f1
  rw [f2] at h
  unfold hasN
  rw [← h]
  have e : ((((flR N R).drop (p + 3)).take (sz N (chN (N x.1) 2))).map (fun y => y.1)).any (rdB N v) = (((flR N R).drop (p + 3)).take (sz N (chN (N x.1) 2))).any (fun y => rdB N v y.1) := List.any_map
  exact e.symm
/-! ===== idle ones: as a function ===== -/
def idB (N : Nat → Nd) (s : Nat) : List Nat → Bool
  | [] => false
  | t :: r => if hasN N (nmC N s) (chN (N t) 2) = true then false else if nmC N t = nmC N s then true else idB N s r
def opB (N : Nat → Nd) (s : Nat) : List Nat → Bool
  | [] => true
  | t :: r => if hasN N (nmC N s) (chN (N t) 2) = true ∨ nmC N t = nmC N s then false else opB N s r
def idN (N : Nat → Nd) : List Nat → List Nat
  | [] => []
  | s :: r => if idB N s r = true then s :: idN N r else idN N r
def pdL (N : Nat → Nd) (pl : Nat → Nat) (v : Int64) : List Nat → Option Nat
  | [] => none
  | s :: r => match pdL N pl v r with
    | some p => some p
    | none => if nmC N s = v ∧ opB N s r = true then some (pl s) else none
def optL : Option Nat → List Nat
  | some p => [p]
  | none => []
theorem op_sn {N : Nat → Nd} {s q : Nat} : ∀ {l : List Nat}, opB N s (l ++ [q]) = if hasN N (nmC N s) (chN (N q) 2) = true ∨ nmC N q = nmC N s then false else opB N s l
  | [] => rfl
  | t :: l => by
    show (if hasN N (nmC N s) (chN (N t) 2) = true ∨ nmC N t = nmC N s then false else opB N s (l ++ [q])) = if hasN N (nmC N s) (chN (N q) 2) = true ∨ nmC N q = nmC N s then false else (if hasN N (nmC N s) (chN (N t) 2) = true ∨ nmC N t = nmC N s then false else opB N s l)
    rw [op_sn]
    by_cases c1 : hasN N (nmC N s) (chN (N t) 2) = true ∨ nmC N t = nmC N s
    · rw [if_pos c1, if_pos c1]
      split <;> rfl
    · rw [if_neg c1, if_neg c1]
theorem id_sn {N : Nat → Nd} {s q : Nat} : ∀ {l : List Nat}, idB N s (l ++ [q]) = true ↔ (idB N s l = true ∨ (opB N s l = true ∧ ¬ hasN N (nmC N s) (chN (N q) 2) = true ∧ nmC N q = nmC N s))
  | [] => by
    show (if hasN N (nmC N s) (chN (N q) 2) = true then false else if nmC N q = nmC N s then true else false) = true ↔ (false = true ∨ (true = true ∧ _ ∧ _))
    by_cases c1 : hasN N (nmC N s) (chN (N q) 2) = true
    · rw [if_pos c1]
      exact ⟨fun h => absurd h (by decide), fun h => by
        rcases h with h | ⟨-, h, -⟩
        · exact h
        · exact absurd c1 h⟩
    · rw [if_neg c1]
      by_cases c2 : nmC N q = nmC N s
      · rw [if_pos c2]
        exact ⟨fun _ => Or.inr ⟨rfl, c1, c2⟩, fun _ => rfl⟩
      · rw [if_neg c2]
        exact ⟨fun h => absurd h (by decide), fun h => by
          rcases h with h | ⟨-, -, h⟩
          · exact h
          · exact absurd h c2⟩
  | t :: l => by
    show (if hasN N (nmC N s) (chN (N t) 2) = true then false else if nmC N t = nmC N s then true else idB N s (l ++ [q])) = true ↔ ((if hasN N (nmC N s) (chN (N t) 2) = true then false else if nmC N t = nmC N s then true else idB N s l) = true ∨ ((if hasN N (nmC N s) (chN (N t) 2) = true ∨ nmC N t = nmC N s then false else opB N s l) = true ∧ ¬ hasN N (nmC N s) (chN (N q) 2) = true ∧ nmC N q = nmC N s))
    by_cases c1 : hasN N (nmC N s) (chN (N t) 2) = true
    · rw [if_pos c1, if_pos c1, if_pos (Or.inl c1)]
      exact ⟨fun h => absurd h (by decide), fun h => by
        rcases h with h | ⟨h, -⟩
        · exact h
        · exact h⟩
    · rw [if_neg c1, if_neg c1]
      by_cases c2 : nmC N t = nmC N s
      · rw [if_pos c2, if_pos c2]
        exact ⟨fun _ => Or.inl rfl, fun _ => rfl⟩
      · rw [if_neg c2, if_neg c2, if_neg (fun h => by
          rcases h with h | h
          · exact c1 h
          · exact c2 h)]
        exact id_sn
theorem id_op {N : Nat → Nd} {s : Nat} : ∀ {l : List Nat}, idB N s l = true → opB N s l = false
  | [], h => by cases h
  | t :: l, h => by
    have h' : (if hasN N (nmC N s) (chN (N t) 2) = true then false else if nmC N t = nmC N s then true else idB N s l) = true := h
    show (if hasN N (nmC N s) (chN (N t) 2) = true ∨ nmC N t = nmC N s then false else opB N s l) = false
    by_cases c1 : hasN N (nmC N s) (chN (N t) 2) = true
    · rw [if_pos (Or.inl c1)]
    · rw [if_neg c1] at h'
      by_cases c2 : nmC N t = nmC N s
      · rw [if_pos (Or.inr c2)]
      · rw [if_neg c2] at h'
        rw [id_op h']
        split <;> rfl
theorem op_pd {N : Nat → Nd} {pl : Nat → Nat} {s : Nat} : ∀ {l : List Nat}, opB N s l = true → pdL N pl (nmC N s) l = none
  | [], _ => rfl
  | t :: l, h => by
    have h' : (if hasN N (nmC N s) (chN (N t) 2) = true ∨ nmC N t = nmC N s then false else opB N s l) = true := h
    by_cases c1 : hasN N (nmC N s) (chN (N t) 2) = true ∨ nmC N t = nmC N s
    · rw [if_pos c1] at h'
      cases h'
    · rw [if_neg c1] at h'
      show (match pdL N pl (nmC N s) l with | some p => some p | none => if nmC N t = nmC N s ∧ opB N t l = true then some (pl t) else none) = none
      rw [op_pd h']
      show (if nmC N t = nmC N s ∧ opB N t l = true then some (pl t) else none) = none
      rw [if_neg (fun w => c1 (Or.inr w.1))]
theorem pd_sn {N : Nat → Nd} {pl : Nat → Nat} {v : Int64} {q : Nat} : ∀ {l : List Nat}, pdL N pl v (l ++ [q]) = if nmC N q = v then some (pl q) else if hasN N v (chN (N q) 2) = true then none else pdL N pl v l
  | [] => by
    show (if nmC N q = v ∧ true = true then some (pl q) else none) = if nmC N q = v then some (pl q) else if hasN N v (chN (N q) 2) = true then none else none
    by_cases c1 : nmC N q = v
    · rw [if_pos ⟨c1, rfl⟩, if_pos c1]
    · rw [if_neg (fun w => c1 w.1), if_neg c1]
      split <;> rfl
  | s :: l => by
    show (match pdL N pl v (l ++ [q]) with | some p => some p | none => if nmC N s = v ∧ opB N s (l ++ [q]) = true then some (pl s) else none) = if nmC N q = v then some (pl q) else if hasN N v (chN (N q) 2) = true then none else (match pdL N pl v l with | some p => some p | none => if nmC N s = v ∧ opB N s l = true then some (pl s) else none)
    rw [pd_sn]
    by_cases c1 : nmC N q = v
    · rw [if_pos c1, if_pos c1]
    · rw [if_neg c1, if_neg c1]
      by_cases c2 : hasN N v (chN (N q) 2) = true
      · rw [if_pos c2, if_pos c2]
        show (if nmC N s = v ∧ opB N s (l ++ [q]) = true then some (pl s) else none) = none
        rw [if_neg (fun w => by
          have w2 := w.2
          rw [op_sn, if_pos (Or.inl (by rw [w.1]; exact c2))] at w2
          cases w2)]
      · rw [if_neg c2, if_neg c2]
        cases hp : pdL N pl v l with
        | some p => rfl
        | none =>
          show (if nmC N s = v ∧ opB N s (l ++ [q]) = true then some (pl s) else none) = (if nmC N s = v ∧ opB N s l = true then some (pl s) else none)
          by_cases c3 : nmC N s = v
          · have hno : ¬ (hasN N (nmC N s) (chN (N q) 2) = true ∨ nmC N q = nmC N s) := by
              rw [c3]
              exact fun w => w.elim c2 c1
            rw [op_sn, if_neg hno]
          · rw [if_neg (fun w => c3 w.1), if_neg (fun w => c3 w.1)]
theorem idN_sn {N : Nat → Nd} {pl : Nat → Nat} {q : Nat} : ∀ {l : List Nat}, ((idN N (l ++ [q])).map pl).Perm ((idN N l).map pl ++ optL (if hasN N (nmC N q) (chN (N q) 2) = true then none else pdL N pl (nmC N q) l))
  | [] => by
    show (([] : List Nat)).Perm ([] ++ optL (if hasN N (nmC N q) (chN (N q) 2) = true then none else none))
    split <;> exact List.Perm.refl _
  | s :: l => by
    have ih := idN_sn (N := N) (pl := pl) (q := q) (l := l)
    show ((if idB N s (l ++ [q]) = true then s :: idN N (l ++ [q]) else idN N (l ++ [q])).map pl).Perm ((if idB N s l = true then s :: idN N l else idN N l).map pl ++ optL (if hasN N (nmC N q) (chN (N q) 2) = true then none else (match pdL N pl (nmC N q) l with | some p => some p | none => if nmC N s = nmC N q ∧ opB N s l = true then some (pl s) else none)))
    by_cases c1 : idB N s l = true
    · rw [if_pos (id_sn.mpr (Or.inl c1)), if_pos c1, List.map_cons, List.map_cons, List.cons_append]
      refine (List.Perm.cons _ ih).trans ?_
      have e : (match pdL N pl (nmC N q) l with | some p => some p | none => if nmC N s = nmC N q ∧ opB N s l = true then some (pl s) else none) = pdL N pl (nmC N q) l := by
        cases hp : pdL N pl (nmC N q) l with
        | some p => rfl
        | none =>
          show (if nmC N s = nmC N q ∧ opB N s l = true then some (pl s) else none) = none
          rw [if_neg (fun w => by
            rw [id_op c1] at w
            exact absurd w.2 (by decide))]
      exact List.Perm.cons _ (by rw [e] <;> exact List.Perm.refl _)
    · rw [if_neg c1]
      by_cases c2 : opB N s l = true ∧ ¬ hasN N (nmC N s) (chN (N q) 2) = true ∧ nmC N q = nmC N s
      · obtain ⟨d1, d2, d3⟩ := c2
        rw [if_pos (id_sn.mpr (Or.inr ⟨d1, d2, d3⟩)), List.map_cons, d3, if_neg d2]
        rw [d3, if_neg d2, op_pd d1] at ih
        rw [op_pd d1]
        show (pl s :: (idN N (l ++ [q])).map pl).Perm ((idN N l).map pl ++ optL (if nmC N s = nmC N s ∧ opB N s l = true then some (pl s) else none))
        rw [if_pos ⟨rfl, d1⟩]
        have ih' : ((idN N (l ++ [q])).map pl).Perm ((idN N l).map pl) := by
          have := ih
          change ((idN N (l ++ [q])).map pl).Perm ((idN N l).map pl ++ []) at this
          rw [List.append_nil] at this
          exact this
        exact (List.Perm.cons _ ih').trans (List.perm_append_singleton _ _).symm
      · rw [if_neg (fun w => by
          rcases id_sn.mp w with w | w
          · exact c1 w
          · exact c2 w)]
        have e : (if hasN N (nmC N q) (chN (N q) 2) = true then none else (match pdL N pl (nmC N q) l with | some p => some p | none => if nmC N s = nmC N q ∧ opB N s l = true then some (pl s) else none)) = (if hasN N (nmC N q) (chN (N q) 2) = true then none else pdL N pl (nmC N q) l) := by
          by_cases c3 : hasN N (nmC N q) (chN (N q) 2) = true
          · rw [if_pos c3, if_pos c3]
          · rw [if_neg c3, if_neg c3]
            cases hp : pdL N pl (nmC N q) l with
            | some p => rfl
            | none =>
              show (if nmC N s = nmC N q ∧ opB N s l = true then some (pl s) else none) = none
              rw [if_neg (fun w => c2 ⟨w.2, by rw [w.1]; exact c3, w.1.symm⟩)]
        rw [e]
        exact ih
/-- what the class has of idle ones -/
theorem ruAt_d {m R : Nat} {N : Nat → Nd} {pl : Nat → Nat} (hN : NdOk m N) (hR : R < m) (hpl : ∀ (p : Nat) (x : Fl), (flR N R)[p]? = some x → pl x.1 = p) : ∀ p, p ≤ (flR N R).length → (∀ v, (ruQ (ruAt N (flR N R) p)).1 v = pdL N pl v (st2 N ((flR N R).take p))) ∧ (ruD (ruAt N (flR N R) p)).Perm ((idN N (st2 N ((flR N R).take p))).map pl)
  | 0, _ => ⟨fun _ => rfl, List.Perm.refl _⟩
  | p + 1, hp => by
    obtain ⟨i1, i2⟩ := ruAt_d hN hR hpl p (by omega)
    have hx : (flR N R)[p]? = some ((flR N R)[p]'(by omega)) := List.getElem?_eq_getElem (by omega)
    generalize (flR N R)[p]'(by omega) = x at hx
    rw [ruAt_s hx, st2_sn hx]
    by_cases u : ndR (N x.1) = 2
    · rw [if_pos u, if_pos u]
      have hU : ∀ v, (ntR N (ruL (ruAt N (flR N R) p)) (((flR N R).drop (p + 3)).take (sz N (chN (N x.1) 2))) (ruQ (ruAt N (flR N R) p))).1 v = if hasN N v (chN (N x.1) 2) = true then none else pdL N pl v (st2 N ((flR N R).take p)) := fun v => by
        rw [ntU, seg_has hN hR hx u, i1 v]
      constructor
      · intro v
        rw [pd_sn]
        show up6 (ntR N (ruL (ruAt N (flR N R) p)) (((flR N R).drop (p + 3)).take (sz N (chN (N x.1) 2))) (ruQ (ruAt N (flR N R) p))).1 (nmC N x.1) (some p) v = _
        by_cases e : v = nmC N x.1
        · rw [e, up6_s, if_pos rfl, hpl p x hx]
        · rw [up6_o e, if_neg (fun w => e w.symm), hU v]
      · refine List.Perm.trans ?_ (idN_sn (N := N) (pl := pl) (q := x.1) (l := st2 N ((flR N R).take p))).symm
        show (dnD (ruD (ruAt N (flR N R) p)) ((ntR N (ruL (ruAt N (flR N R) p)) (((flR N R).drop (p + 3)).take (sz N (chN (N x.1) 2))) (ruQ (ruAt N (flR N R) p))).1 (nmC N x.1))).Perm _
        rw [hU]
        generalize (if hasN N (nmC N x.1) (chN (N x.1) 2) = true then none else pdL N pl (nmC N x.1) (st2 N ((flR N R).take p))) = w
        cases w with
        | none =>
          show (ruD (ruAt N (flR N R) p)).Perm (_ ++ [])
          rw [List.append_nil]
          exact i2
        | some q =>
          exact List.Perm.append_right [q] i2
    · rw [if_neg u, if_neg u, List.append_nil]
      exact ⟨i1, i2⟩
theorem mnD_pm {l k : List Nat} (h : l.Perm k) : mnD l = mnD k := by
  induction h with
  | nil => rfl
  | cons x _ ih =>
    show min x _ = min x _
    rw [ih]
  | swap x y l =>
    show min y (min x (mnD l)) = min x (min y (mnD l))
    omega
  | trans _ _ a b => exact a.trans b
theorem idN_sub {N : Nat → Nd} : ∀ {l : List Nat}, (idN N l).Sublist l
  | [] => List.Sublist.slnil
  | s :: l => by
    show (if idB N s l = true then s :: idN N l else idN N l).Sublist (s :: l)
    split
    · exact List.Sublist.cons₂ _ idN_sub
    · exact List.Sublist.cons _ idN_sub
theorem st2_pw {N : Nat → Nd} {pl : Nat → Nat} : ∀ (L : List Fl) (k : Nat), (∀ (i : Nat) (x : Fl), L[i]? = some x → pl x.1 = k + i) → (st2 N L).Pairwise (fun a b => pl a < pl b) ∧ ∀ s ∈ st2 N L, k ≤ pl s
  | [], _, _ => ⟨List.Pairwise.nil, fun s hs => by cases hs⟩
  | x :: L, k, h => by
    obtain ⟨i1, i2⟩ := st2_pw (N := N) (pl := pl) L (k + 1) (fun i y hy => by
      have := h (i + 1) y (by rw [List.getElem?_cons_succ]; exact hy)
      omega)
    have h0 := h 0 x rfl
    show (if ndR (N x.1) = 2 then x.1 :: st2 N L else st2 N L).Pairwise (fun a b => pl a < pl b) ∧ ∀ s ∈ (if ndR (N x.1) = 2 then x.1 :: st2 N L else st2 N L), k ≤ pl s
    by_cases u : ndR (N x.1) = 2
    · rw [if_pos u]
      refine ⟨List.pairwise_cons.mpr ⟨fun s hs => by have := i2 s hs; omega, i1⟩, fun s hs => ?_⟩
      rcases List.mem_cons.mp hs with rfl | hs
      · omega
      · have := i2 s hs
        omega
    · rw [if_neg u]
      exact ⟨i1, fun s hs => by have := i2 s hs; omega⟩
theorem mnD_hd {a : Nat} : ∀ {l : List Nat}, (∀ b ∈ l, a ≤ b) → a ≤ 400 → mnD (a :: l) = a := by
  intro l h ha
  have : a ≤ mnD l := by
    induction l with
    | nil => exact ha
    | cons b l ih =>
      have h1 := h b (List.mem_cons_self ..)
      have h2 := ih (fun c hc => h c (List.mem_cons_of_mem _ hc))
      show a ≤ min b (mnD l)
      omega
  show min a (mnD l) = a
  omega
/-- idle: how many; the first -/
theorem idle_is {x : Sg} (hv : Iv x) : (ruD (ruR x)).length = (idN (sgN x) (setsOf (sgN x) (moR (sgC x)))).length ∧ ∀ f l, idN (sgN x) (setsOf (sgN x) (moR (sgC x))) = f :: l → (ffA x (mnD (ruD (ruR x)))).1 = f := by
  have f248 := hv.f248
  have hpl : ∀ (p : Nat) (f : Fl), (FF x)[p]? = some f → (fun c => (plT x c).getD 0) f.1 = p := fun p f hp => by
    show (plT x f.1).getD 0 = p
    rw [plT_at hv hp]
    rfl
  have h := (ruAt_d (pl := fun c => (plT x c).getD 0) hv.2.1 hv.tr.1 hpl (FF x).length (Nat.le_refl _)).2
  rw [List.take_length] at h
  have hd : (ruD (ruR x)).Perm ((idN (sgN x) (setsOf (sgN x) (moR (sgC x)))).map (fun c => (plT x c).getD 0)) := h
  constructor
  · rw [hd.length_eq, List.length_map]
  · intro f l e
    rw [mnD_pm hd, e, List.map_cons]
    have pw := (st2_pw (N := sgN x) (pl := fun c => (plT x c).getD 0) (FF x) 0 (fun i y hy => (hpl i y hy).trans (Nat.zero_add i).symm)).1
    have pw2 := List.Pairwise.sublist (idN_sub (N := sgN x)) pw
    change (idN (sgN x) (setsOf (sgN x) (moR (sgC x)))).Pairwise _ at pw2
    rw [e] at pw2
    have pw3 := (List.pairwise_cons.mp pw2).1
    have hf : f ∈ setsOf (sgN x) (moR (sgC x)) := List.Sublist.subset (idN_sub (N := sgN x)) (by rw [e]; exact List.mem_cons_self ..)
    obtain ⟨y, y1, y2, -⟩ := st2_mem hf
    obtain ⟨p, hp⟩ := List.mem_iff_getElem?.mp y1
    have hp' : (FF x)[p]? = some y := hp
    have hpl2 := (List.getElem?_eq_some_iff.mp hp').1
    have e2 : (plT x f).getD 0 = p := by
      rw [← y2]
      exact hpl p y hp'
    rw [mnD_hd (fun b hb => by
      obtain ⟨c, hc, rfl⟩ := List.mem_map.mp hb
      exact Nat.le_of_lt (pw3 c hc)) (by show (plT x f).getD 0 ≤ 400; omega)]
    show (ffA x ((plT x f).getD 0)).1 = f
    rw [e2, ffA_at hp', y2]
/-! ===== sets, idle: the model ===== -/
/-! ===== last ===== -/
def vLast (x : Sg) (a : Int32) : Int32 := if 0 ≤ a ∧ a ≤ 9 then (sgLs x).1 (Int32.toNatClampNeg a) else -1
theorem t_last {x : Sg} {a : Int32} {I : zI} {K : Int32 → Prop} (hR : RX I x) (h : K (vLast x a)) : w_Desk_last a I K := by
  unfold vLast at h
  unfold w_Desk_last
  by_cases u0 : a < 0
  · rw [if_pos u0]
    rw [if_neg (fun w => Int32.not_lt.mpr w.1 u0)] at h
    exact h
  rw [if_neg u0]
  by_cases u9 : 9 < a
  · rw [if_pos u9]
    rw [if_neg (fun w => Int32.not_lt.mpr w.2 u9)] at h
    exact h
  rw [if_neg u9]
  rw [if_pos ⟨Int32.not_lt.mp u0, Int32.not_lt.mp u9⟩] at h
  obtain ⟨k, hk, rfl⟩ := zi_of (Int32.not_lt.mp u0)
  have hk9 := (zi_le (b := 9) hk (by decide)).mp (Int32.not_lt.mp u9)
  rw [zi_tn hk] at h
  refine (w_get (by decide)).mpr ?_
  rw [rg_in (by decide) (show k < 10 by omega), show I.1 (22 + 1) k = (sgLs x).1 k from hR.2.2.2.2.1.2.1 k (by omega)]
  exact h
/-! ===== how many names are set ===== -/
/-- the times of a NAME, at the place where it stands first -/
def cnF (N : Nat → Nd) (L : List Nat) (T : Int64 → Nat) (j : Nat) : Int32 := match L[j]? with
  | some z => if ndM (N z) = 5 ∧ ixNm N (nmV N z) L = j then zi (T (nmV N z)) else 0
  | none => 0
theorem cnF_some {N : Nat → Nd} {L : List Nat} {T : Int64 → Nat} {j z : Nat} (h : L[j]? = some z) : cnF N L T j = if ndM (N z) = 5 ∧ ixNm N (nmV N z) L = j then zi (T (nmV N z)) else 0 := by
  unfold cnF
  rw [h]
theorem cnF_none {N : Nat → Nd} {L : List Nat} {T : Int64 → Nat} {j : Nat} (h : L[j]? = none) : cnF N L T j = 0 := by
  unfold cnF
  rw [h]
def cnD (N : Nat → Nd) (L : List Nat) (T : Int64 → Nat) : Nat := cnT (cnF N L T) 100
theorem cnT_ext {f g : Nat → Int32} : ∀ k, (∀ j, j < k → f j = g j) → cnT f k = cnT g k
  | 0, _ => rfl
  | k + 1, h => by
    show cnT f k + (if f k ≤ 0 then 0 else 1) = cnT g k + (if g k ≤ 0 then 0 else 1)
    rw [cnT_ext k (fun j hj => h j (by omega)), h k (by omega)]
theorem cnT_D {N : Nat → Nd} {L : List Nat} {u : RuZ} {I : zI} (ro : RoX I N L u) : cnT (I.1 75) 100 = cnD N L (ruT u) := by
  refine cnT_ext 100 (fun j hj => ?_)
  by_cases h : ∃ z, z ∈ L ∧ ndM (N z) = 5 ∧ ixNm N (nmV N z) L = j
  · obtain ⟨z, hz, z5, e⟩ := h
    obtain ⟨w, a1, a2, a3⟩ := ixN_is hz z5 rfl
    have k := (ro.2.1 z hz z5).1
    rw [e] at a1 k
    rw [cnF_some a1, if_pos ⟨a2, by rw [a3]; exact e⟩, a3]
    exact k
  · rw [ro.2.2.2.2.2.2 j hj (fun z hz z5 e => h ⟨z, hz, z5, e⟩)]
    cases hL : L[j]? with
    | none => exact (cnF_none hL).symm
    | some z => rw [cnF_some hL, if_neg (fun w => h ⟨z, List.mem_of_getElem? hL, w.1, w.2⟩)]
/-! ===== count: what the class answers (row p44) ===== -/
/-- which counts are told of -/
def vCnt (x : Sg) (a : Nat) : Int32 :=
  if a = 0 then zi (moT (sgC x)).length else if a = 1 then zi (lexL (moT (sgC x))).length else if a = 2 then b01 (moB (sgC x)) else if a = 3 then zi (nG x) else if a = 4 then zi (moR (sgC x)) else if a = 5 then zi (sgM x) else if a = 6 then zi (sgE x) else if a = 7 then zi (sgT x).length else if a = 8 then zi (sgA x).length else if a = 9 then zi (sgZ x).length else if a = 10 then zi (FF x).length else if a = 12 then suA (sgN x) (ruE (ruR x)) (FF x) else if a = 13 then zi (cnD (sgN x) (ylR x) (ruT (ruR x))) else if a = 15 then zi (prt (sgN x) (moR (sgC x))).length else zi (cnR (sgN x) 8 (FF x))
theorem t_count {x : Sg} {a : Nat} {I : zI} {K : Int32 → Prop} (hR : RX I x) (ha : a ≤ 10 ∨ a = 12 ∨ a = 13 ∨ a = 15 ∨ a = 17) (h : K (vCnt x a)) : w_Desk_count (zi a) I K := by
  obtain ⟨s, hA⟩ := hR.now
  obtain ⟨tp, rp, vi, pr, ed, un, re, -⟩ := hR
  obtain ⟨v1, v2, v3, v4, v5, v6, v7, v8⟩ := vi
  obtain ⟨s1, s2, sC⟩ := hA
  obtain ⟨c1, c2, c3, c4, c5, c6, c7, c8, c9⟩ := sC
  refine s_now s1 s2 ?_
  have ne : ∀ b : Nat, b < 100 → a ≠ b → ¬ zi a = zi b := fun b hb u w => u ((zi_eq (by omega) (by omega)).mp w)
  have k13 : I.1 69 16 = zi (cnD (sgN x) (ylR x) (ruT (ruR x))) := by
    rw [v7.2.2.2.2]
    exact congrArg zi (cnT_D v7.2.1)
  by_cases e0 : a = 0
  · rw [if_pos (show zi a = 0 by rw [e0]; rfl)]
    rw [vCnt, if_pos e0] at h
    rw [c1]
    exact h
  rw [if_neg (show ¬ zi a = 0 from ne 0 (by decide) e0)]
  rw [vCnt, if_neg e0] at h
  by_cases e1 : a = 1
  · rw [if_pos (show zi a = 1 by rw [e1]; rfl)]
    rw [if_pos e1] at h
    rw [c3.1]
    exact h
  rw [if_neg (show ¬ zi a = 1 from ne 1 (by decide) e1)]
  rw [if_neg e1] at h
  by_cases e2 : a = 2
  · rw [if_pos (show zi a = 2 by rw [e2]; rfl)]
    rw [if_pos e2] at h
    rw [c4]
    cases hb : moB (sgC x) with
    | true =>
      rw [hb] at h
      rw [if_neg (show ¬ b01 true = 0 by decide)]
      exact h
    | false =>
      rw [hb] at h
      rw [if_pos (show b01 false = 0 by decide)]
      exact h
  rw [if_neg (show ¬ zi a = 2 from ne 2 (by decide) e2)]
  rw [if_neg e2] at h
  by_cases e3 : a = 3
  · rw [if_pos (show zi a = 3 by rw [e3]; rfl)]
    rw [if_pos e3] at h
    rw [c5]
    exact h
  rw [if_neg (show ¬ zi a = 3 from ne 3 (by decide) e3)]
  rw [if_neg e3] at h
  by_cases e4 : a = 4
  · rw [if_pos (show zi a = 4 by rw [e4]; rfl)]
    rw [if_pos e4] at h
    rw [c8]
    exact h
  rw [if_neg (show ¬ zi a = 4 from ne 4 (by decide) e4)]
  rw [if_neg e4] at h
  by_cases e5 : a = 5
  · rw [if_pos (show zi a = 5 by rw [e5]; rfl)]
    rw [if_pos e5] at h
    rw [rp.1]
    exact h
  rw [if_neg (show ¬ zi a = 5 from ne 5 (by decide) e5)]
  rw [if_neg e5] at h
  by_cases e6 : a = 6
  · rw [if_pos (show zi a = 6 by rw [e6]; rfl)]
    rw [if_pos e6] at h
    rw [ed.1]
    exact h
  rw [if_neg (show ¬ zi a = 6 from ne 6 (by decide) e6)]
  rw [if_neg e6] at h
  by_cases e7 : a = 7
  · rw [if_pos (show zi a = 7 by rw [e7]; rfl)]
    rw [if_pos e7] at h
    rw [tp.1]
    exact h
  rw [if_neg (show ¬ zi a = 7 from ne 7 (by decide) e7)]
  rw [if_neg e7] at h
  by_cases e8 : a = 8
  · rw [if_pos (show zi a = 8 by rw [e8]; rfl)]
    rw [if_pos e8] at h
    rw [un]
    exact h
  rw [if_neg (show ¬ zi a = 8 from ne 8 (by decide) e8)]
  rw [if_neg e8] at h
  by_cases e9 : a = 9
  · rw [if_pos (show zi a = 9 by rw [e9]; rfl)]
    rw [if_pos e9] at h
    rw [re]
    exact h
  rw [if_neg (show ¬ zi a = 9 from ne 9 (by decide) e9)]
  rw [if_neg e9] at h
  unfold w_Desk_countInTree
  by_cases e10 : a = 10
  · rw [if_pos (show zi a = 10 by rw [e10]; rfl)]
    rw [if_pos e10] at h
    rw [v2.1]
    exact h
  rw [if_neg (show ¬ zi a = 10 from ne 10 (by decide) e10), if_neg (show ¬ zi a = 11 from ne 11 (by decide) (by omega))]
  rw [if_neg e10] at h
  by_cases e12 : a = 12
  · rw [if_pos (show zi a = 12 by rw [e12]; rfl)]
    rw [if_pos e12] at h
    rw [v7.2.2.2.1]
    exact h
  rw [if_neg (show ¬ zi a = 12 from ne 12 (by decide) e12)]
  rw [if_neg e12] at h
  by_cases e13 : a = 13
  · rw [if_pos (show zi a = 13 by rw [e13]; rfl)]
    rw [if_pos e13] at h
    rw [k13]
    exact h
  rw [if_neg (show ¬ zi a = 13 from ne 13 (by decide) e13), if_neg (show ¬ zi a = 14 from ne 14 (by decide) (by omega))]
  rw [if_neg e13] at h
  by_cases e15 : a = 15
  · rw [if_pos (show zi a = 15 by rw [e15]; rfl)]
    rw [if_pos e15] at h
    rw [v8.1]
    exact h
  rw [if_neg (show ¬ zi a = 15 from ne 15 (by decide) e15), if_neg (show ¬ zi a = 16 from ne 16 (by decide) (by omega))]
  rw [if_neg e15] at h
  rw [if_pos (show zi a = 17 by rw [show a = 17 by omega]; rfl)]
  refine (w_get (by decide)).mpr ?_
  rw [show (8 : Int32) = zi 8 from rfl, rg_in (by decide) (show 8 < 11 by decide), show I.1 (60 + 1) 8 = zi (cnR (sgN x) 8 (FF x)) from v6 8 (by decide)]
  exact h
/-! ===== the state at the start ===== -/
def nEnd : Nd := (-2, 10, -2, 1, 0, [], [])
def N00 : Nat → Nd := upN (fun _ => nEnd) 0 nEnd
def N01 : Nat → Nd := upN N00 1 (rlNd 0 0 0 0 [])
def mo0 : Mo := ([], [], true, 1, fun _ => 0, -2)
def x0 : Sg := ([], (2, N01), [], (0, (fun j => if j = 6 then -2 else 0), fun _ => none), [], mo0, [])
theorem n01 : NdOk 2 N01 := by
  intro k hk
  by_cases u : k = 0
  · rw [u]
    exact Or.inl ⟨rfl, rfl, by decide, rfl, Or.inl rfl⟩
  · rw [show k = 1 by omega]
    exact Or.inr ⟨0, 0, by decide, by decide, rfl, rfl, by decide +kernel, rfl, fun c hc => (by cases hc), rfl⟩
theorem lex0 : lexL [] = [(10, 0, 0)] := rfl
theorem c01 : ∀ k, k < 2 → ndC (N01 k) = [] := by
  intro k hk
  by_cases u : k = 0
  · rw [u]
    rfl
  · rw [show k = 1 by omega]
    rfl
theorem tx0 : txOk [] := ⟨Nat.zero_le _, fun j hj => absurd hj (Nat.not_lt_zero _), by rw [lex0]; decide⟩
theorem tr0 : TreeI 2 N01 1 1 (fun _ => 0) := by
  have hy : yl N01 1 = [] := rfl
  refine ⟨by decide, rfl, hy, fun i j h1 h2 _ => by omega, fun i hi => ⟨(show 0 < 2 by decide), rfl⟩, fun z hz => ?_, Nat.le_refl _, by decide⟩
  rw [hy] at hz
  cases hz
theorem mo0_ok : MoOk 2 N01 mo0 := by
  refine ⟨tx0, tx0, fun _ => rfl, tr0, fun i x hx => ?_⟩
  have hx' : ([(10, 0, 0)] : List (Nat × Nat × Nat))[i]? = some x := hx
  cases i with
  | zero =>
    cases hx'
    exact ⟨rfl, rfl⟩
  | succ i => cases hx'
theorem x0_iv : Iv x0 := by
  refine ⟨⟨Nat.zero_le _, fun b hb => (by cases hb)⟩, n01, ?_, by decide, fun c hc => ?_, ⟨fun i j p hi => (by cases hi), Nat.zero_le _⟩, ⟨Nat.zero_le _, fun c _ => rfl, fun c hc => ?_, fun y hy z hz h2 => ?_⟩, mo0_ok, fun y hy => (by cases hy), fun y hy => (by cases hy), Nat.zero_le _⟩
  · intro p1 p2 i1 i2 z h1 h2 h3 h4
    change (ndC (N01 p1))[i1]? = some z at h3
    rw [c01 p1 h1] at h3
    cases h3
  · change ndT (N01 c) ≤ 100
    change c < 2 at hc
    by_cases u : c = 0
    · rw [u]
      decide
    · rw [show c = 1 by omega]
      decide
  · change c < 2 at hc
    change ndB (N01 c) ≤ 0
    by_cases u : c = 0
    · rw [u]
      decide
    · rw [show c = 1 by omega]
      decide
  · rcases hy with h | h | h
    · have h : y = mo0 := h
      rw [h] at hz
      obtain ⟨p, hp⟩ := List.mem_iff_getElem?.mp hz
      have hz2 := (fl_szin n01 (show 1 < 2 by decide) hp).1
      change ndR (N01 z.1) = 2 at h2
      by_cases u : z.1 = 0
      · rw [u] at h2
        exact absurd h2 (by decide)
      · rw [show z.1 = 1 by omega] at h2
        exact absurd h2 (by decide)
    · cases h
    · cases h
theorem x0_lv : Lv x0 := by
  refine ⟨⟨?_, fun u => by cases u⟩, fun y hy => (by cases hy), fun y hy => by cases hy⟩
  show TL N01 (kdF [(10, 0, 0)]) 1 0
  refine TL_eq.mpr ⟨fun r s hr e1 e2 st l1 l2 => ?_, trivial⟩
  have hr0 : r = 0 := by
    have : (0 : Int) = r := e1
    omega
  have hs0 : s = 0 := by
    have : (0 : Int) = s := e2
    omega
  subst hr0
  subst hs0
  rw [show sz N01 1 = 1 from rfl]
  refine RC.one ?_
  unfold lNx
  rw [l2, if_pos (show ldN 0 (5 + kdF [(10, 0, 0)] 0) = 0 from end_fin 0 (by decide))]
  have hr : rlN 0 = some 0 := by decide +kernel
  rw [hr]
  have := byT_app (r := 0) (l := []) l1 rfl
  rw [List.append_nil, l2] at this
  dsimp only
  rw [this]
  rfl
theorem x0_pc : Pc x0 := by
  have e : runsOf N01 1 = [] := rfl
  refine ⟨⟨?_, ?_⟩, fun y hy => (by cases hy), fun y hy => by cases hy⟩
  · show layAllR (runsOf N01 1) [] = []
    rw [e]
    rfl
  · show (-2 : Int32) = rowI (runsOf N01 1) []
    rw [e]
    rfl
theorem x0_ev : Ev x0 := by
  refine ⟨fun c hc => ?_, fun c hc => ?_, fun _ => ⟨rfl, rfl, rfl⟩⟩
  · change c < 2 at hc
    show ndB (N01 c) ≤ 0
    by_cases u : c = 0
    · rw [u]
      decide
    · rw [show c = 1 by omega]
      decide
  · change c < 2 at hc
    show ndM (N01 c) = 15 ↔ c = 0
    by_cases u : c = 0
    · rw [u]
      exact ⟨fun _ => rfl, fun _ => rfl⟩
    · rw [show c = 1 by omega]
      exact ⟨fun v => absurd v (by decide), fun v => absurd v (by decide)⟩
theorem x0_fr : Fr x0 := by
  refine ⟨?_, fun y hy => (by cases hy), fun y hy => by cases hy⟩
  show lIt (kdF [(10, 0, 0)]) (sz N01 1) (0, [(0, 0)]) = some (0, [(0, 0), (0, 1)])
  decide +kernel
theorem x0_ls : Lsv x0 := ⟨x0_iv, x0_lv, x0_pc, x0_ev, x0_fr⟩
/-! ===== the class at the start ===== -/
theorem start_X {K : zI → Prop} (hK : ∀ I1, RX I1 x0 → zZ I1 491 → K I1) : w_Desk_init z00 K := by
  unfold w_Desk_init
  have rep0 : RepNX z00 0 (fun _ => nEnd) := ⟨rfl, fun k hk => absurd hk (Nat.not_lt_zero _)⟩
  refine s_makeToken (kd := 10) (e := 0) (bs := []) rep0 (fun k hk => absurd hk (Nat.not_lt_zero _)) (by decide) (fun I2 q2 rep2 => ?_)
  refine s_makeRuled (N := N00) (m := 1) (r := 0) (s := 0) (e := 0) rep2 (fun k hk => by rw [show k = 0 by omega]; exact Nat.zero_le _) (by decide) (by decide) (fun I4 q4 rep4 => ?_)
  have rep4' : RepNX I4 2 N01 := rep4
  have o4 : ∀ a j, ¬ Qnx 0 a j → I4.1 a j = 0 := fun a j u => by
    rw [q4.1 a j (by unfold Qnx at u ⊢; omega), q2.1 a j u]
    rfl
  have o42 : ∀ a j, ¬ Qnx 0 a j → I4.2 a j = 0 := fun a j u => by
    rw [q4.2 a j (by unfold Qnx at u ⊢; omega), q2.2 a j u]
    rfl
  have hlen0 : (lexF (txF []) 0 0 0).length = 0 := rfl
  refine s_readAll (k := 7) (a := 5) (an := 300) (n := 0) (t := txF []) (by decide) (Nat.zero_le _) (fun j hj => absurd hj (Nat.not_lt_zero _)) (by decide) (fun _ I6 q6 t6 => ?_) (fun h => absurd h (by rw [hlen0]; decide))
  have t6' : RepT I6 7 (txF []) [(10, 0, 0)] := t6
  refine s_beGood (R := 1) (c := 1) (by decide) t6'.1 (fun I7 q7 b1 b2 b3 b4 b5 => ?_)
  refine (w_set (by decide)).mpr ?_
  intro I9 e9
  refine (w_set (by decide)).mpr ?_
  have e8' : rs I7 (4 + 14 + 1) 100 0 (zi 0) = zu I7 19 0 (zi 0) := rs_in (i := 0) (by decide) (show 0 < 100 by decide)
  have e10' : rs I9 (22 + 1) 10 6 (-2) = zu I9 23 6 (-2) := rs_in (i := 6) (by decide) (show 6 < 10 by decide)
  rw [e8'] at e9
  rw [e10']
  generalize e10' : zu I9 23 6 (-2) = I10
  have k10 : ∀ a j, a ≠ 19 → a ≠ 23 → ¬ (a = 4 ∧ j = 8) → I10.1 a j = I7.1 a j := fun a j u1 u2 u3 => by
    rw [← e10', zu_oo u2, e9, zu_at, if_neg u3, zu_oo u1]
  have k102 : I10.2 = I7.2 := by rw [← e10', zu_2, e9, zu_2, zu_2]
  have o10 : ∀ a j, 22 ≤ a → a ≠ 23 → I10.1 a j = I4.1 a j := fun a j u v => by
    rw [k10 a j (by omega) v (by omega), (q7 a (Or.inr (by omega))).1, (q6 a (Or.inr (by omega))).1]
  have o10b : ∀ a j, a < 4 → I10.1 a j = I4.1 a j := fun a j u => by
    rw [k10 a j (by omega) (by omega) (by omega), (q7 a (Or.inl (by omega))).1, (q6 a (Or.inl (by omega))).1]
  have o102 : ∀ a j, 22 ≤ a → I10.2 a j = I4.2 a j := fun a j u => by
    rw [k102, (q7 a (Or.inr (by omega))).2, (q6 a (Or.inr (by omega))).2]
  have r23 : ∀ j, I10.1 23 j = if j = 6 then -2 else 0 := fun j => by
    rw [← e10', zu_at]
    by_cases u : j = 6
    · rw [if_pos ⟨rfl, u⟩, if_pos u]
    · rw [if_neg (fun w => u w.2), if_neg u, e9, zu_oo (by decide), zu_oo (by decide), (q7 23 (Or.inr (by decide))).1, (q6 23 (Or.inr (by decide))).1]
      exact o4 23 j (by unfold Qnx; omega)
  have h04 : I10.1 0 4 = zi 0 := by
    rw [o10b 0 4 (by decide)]
    exact o4 0 4 (by unfold Qnx; omega)
  have lx : lexL [] = [(10, 0, 0)] := rfl
  have mo4 : MoX I10 4 mo0 := by
    have tk : ∀ a j, 7 ≤ a → a < 18 → I10.1 a j = I6.1 a j := fun a j u1 u2 => by
      rw [k10 a j (by omega) (by omega) (by omega)]
      exact b5 a j (Or.inl (by omega))
    refine ⟨?_, fun j hj => absurd hj (Nat.not_lt_zero _), ⟨?_, fun j y hy => ?_⟩, ?_, ?_, fun j hj => ?_, fun j y hy => ?_, ?_, ?_⟩
    · rw [k10 4 1 (by decide) (by decide) (by decide), b5 4 1 (Or.inr ⟨rfl, by decide⟩), (q6 4 (Or.inl (by decide))).1]
      exact o4 4 1 (by unfold Qnx; omega)
    · rw [tk 7 5 (by decide) (by decide)]
      exact t6'.1
    · have := t6'.2 j y hy
      rw [tk (4 + 3 + 2) j (by decide) (by decide), tk (4 + 3 + 4) j (by decide) (by decide), tk (4 + 3 + 6) j (by decide) (by decide), tk (4 + 3 + 8) j (by decide) (by decide), tk (4 + 3 + 10) j (by decide) (by decide)]
      exact this
    · rw [k10 4 3 (by decide) (by decide) (by decide)]
      exact b1
    · rw [k10 4 6 (by decide) (by decide) (by decide)]
      exact b3
    · change j < 1 at hj
      rw [show j = 0 by omega, ← e10', zu_oo (by decide), e9, zu_oo (by decide), zu_self]
      rfl
    · have hj := (List.getElem?_eq_some_iff.mp hy).1
      change j < 1 at hj
      have hj0 : j = 0 := by omega
      subst hj0
      have hy' : ([(10, 0, 0)] : List (Nat × Nat × Nat))[0]? = some y := hy
      have h2 := (t6'.2 0 y hy').2.1
      rw [k10 (4 + 17) 0 (by decide) (by decide) (by decide), b4 0 (by decide)]
      exact h2
    · rw [k10 4 7 (by decide) (by decide) (by decide)]
      exact b2
    · rw [← e10', zu_oo (by decide), e9]
      exact zu_self
  refine s_now (s := 0) (by decide) h04 ?_
  refine s_momCopy (k := 113) (a := 4) (x := mo0) (Or.inr (by decide)) tx0 tx0 mo4 (fun I12 q12 m12 => ?_)
  have h04' : I12.1 0 4 = zi 0 := by rw [(q12 0 (Or.inl (by decide))).1]; exact h04
  refine s_now (s := 0) (by decide) h04' ?_
  have rep12 : RepNX I12 2 N01 := rep4'.kp n01.ch (fun a j h1 h2 h3 => by
    rw [(q12 a (Or.inl (by omega))).1]
    exact o10 a j (by omega) (by omega))
  have z12 : ∀ a j, 43 ≤ a → a < 113 → I12.1 a j = 0 := fun a j h1 h2 => by
    rw [(q12 a (Or.inl h2)).1, o10 a j (by omega) (by omega)]
    exact o4 a j (by unfold Qnx; omega)
  refine s_deskLook (a := 113) (ed := 0) (rc := fun _ => none) (n0 := 0) rep12 n01 x0_iv.2.2.1 (by decide) tr0 (fun c hc => by have := x0_iv.2.2.2.2.1 c hc; exact Nat.le_trans this (by decide)) (fun c hc => ⟨0, by decide, z12 47 c (by decide) (by decide)⟩) (prt_R n01 x0_iv.2.2.2.2.2.2.2.1).1 (prt_R n01 x0_iv.2.2.2.2.2.2.2.1).2 (Or.inr (by decide)) m12.2.2.2.2.2.2.2.1 ⟨m12.2.2.2.2.1, m12.2.2.2.2.2.1, tkz_R n01 x0_iv.2.2.2.2.2.2.2.1⟩ ⟨z12 69 11 (by decide) (by decide), Nat.zero_le _, fun _ => 0, fun s _ _ => z12 85 s (by decide) (by decide), fun s l _ h => (no_someZ h).elim, fun s t l l' _ _ _ h _ => (no_someZ h).elim⟩ (by decide) (fun c hc => Nat.lt_of_le_of_lt (x0_iv.2.2.2.2.2.2.1.2.2.1 c hc) (by decide)) (fun u => absurd rfl u) (fun J qJ vJ xJ _ => ?_)
  have kJ : ∀ a j, ¬ Qla a j → J.1 a j = I12.1 a j := fun a j u => qJ.1 a j u
  have z0c : ∀ j, j ≠ 18 → J.1 0 j = 0 := fun j hj => by
    rw [kJ 0 j (by unfold Qla Qvi Qrr Qpn; omega), (q12 0 (Or.inl (by decide))).1, o10b 0 j (by decide)]
    exact o4 0 j (by unfold Qnx; omega)
  refine hK J ⟨⟨z0c 1 (by decide), fun j v hv => (by cases hv)⟩, ?_, vJ, ⟨?_, fun i p hi => (by cases hi), fun v hv => ?_, fun i p hi => (by cases hi)⟩, ⟨z0c 7 (by decide), fun j hj => by rw [kJ 23 j (by unfold Qla Qvi Qrr Qpn; omega), (q12 23 (Or.inl (by decide))).1]; exact r23 j, 0, Nat.zero_le _, by rw [rcP_0 _ (Nat.le_refl _)] at xJ; exact xJ⟩, z0c 5 (by decide), z0c 6 (by decide), 0, by decide, z0c 4 (by decide), ?_, fun k y hk => (by cases hk), fun k y hk => (by cases hk)⟩ ?_
  · exact rep12.kp n01.ch (fun a j h1 h2 h3 => kJ a j (by unfold Qla Qvi Qrr Qpn; omega))
  · rw [kJ 88 4 (by unfold Qla Qvi Qrr Qpn; omega)]
    exact z12 88 4 (by decide) (by decide)
  · rw [kJ 96 _ (by unfold Qla Qvi Qrr Qpn; omega)]
    exact z12 96 _ (by decide) (by decide)
  · exact m12.kp (fun a j u1 u2 => kJ a j (by unfold Qla Qvi Qrr Qpn; have : zmom 0 = 113 := rfl; omega))
  · intro a ha
    refine ⟨fun j => ?_, fun j => ?_⟩
    · rw [kJ a j (by unfold Qla Qvi Qrr Qpn; omega), (q12 a (Or.inr (by omega))).1, o10 a j (by omega) (by omega)]
      exact o4 a j (by unfold Qnx; omega)
    · rw [qJ.2 a j (by unfold Qla Qvi Qrr Qpn; omega), (q12 a (Or.inr (by omega))).2, o102 a j (by omega)]
      exact o42 a j (by unfold Qnx; omega)
