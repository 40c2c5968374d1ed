/-! ===== what is asked of the TREE, alike on both sides ===== -/
abbrev FF (x : Sg) : List Fl := flR (sgN x) (moR (sgC x))
abbrev nG (x : Sg) : Nat := (lexL (moG (sgC x))).length
theorem Iv.fg {x : Sg} (hv : Iv x) : FlG (sgM x) (FF x) (sgN x) (nG x) := hv.2.2.2.2.2.2.2.1.2.2.2.1.flG hv.2.1 hv.2.2.1
theorem Iv.tr {x : Sg} (hv : Iv x) : TreeI (sgM x) (sgN x) (moR (sgC x)) (nG x) (moO (sgC x)) := hv.2.2.2.2.2.2.2.1.2.2.2.1
theorem Iv.f248 {x : Sg} (hv : Iv x) : (FF x).length ≤ 248 := by
  have h2 : (FF x).length = sz (sgN x) (moR (sgC x)) := fl_len hv.2.1 _ hv.tr.1 0 0 0 1
  rw [h2]
  exact hv.tr.few hv.2.1
def ffA (x : Sg) (p : Nat) : Fl := (FF x).getD p (0, 0, 0, 0, 0)
theorem ffA_at {x : Sg} {p : Nat} {f : Fl} (h : (FF x)[p]? = some f) : ffA x p = f := by
  unfold ffA
  rw [List.getD_eq_getElem?_getD, h]
  rfl
theorem ffA_is {x : Sg} {p : Nat} (h : p < (FF x).length) : (FF x)[p]? = some (ffA x p) := by
  unfold ffA
  rw [List.getD_eq_getElem?_getD, List.getElem?_eq_getElem h]
  rfl
/-- a node's place -/
def plT (x : Sg) (c : Nat) : Option Nat := (FF x).findIdx? (fun y => y.1 == c)
theorem plT_is {x : Sg} {c p : Nat} (h : plT x c = some p) : ∃ f, (FF x)[p]? = some f ∧ f.1 = c := by
  obtain ⟨h1, h2, -⟩ := List.findIdx?_eq_some_iff_getElem.mp h
  exact ⟨_, List.getElem?_eq_getElem h1, beq_iff_eq.mp h2⟩
theorem plT_no {x : Sg} {c : Nat} (h : plT x c = none) : ∀ (p : Nat) (f : Fl), (FF x)[p]? = some f → f.1 ≠ c := by
  intro p f hf u
  have := List.findIdx?_eq_none_iff.mp h f (List.mem_of_getElem? hf)
  rw [u, beq_self_eq_true] at this
  cases this
theorem plT_at {x : Sg} (hv : Iv x) {p : Nat} {f : Fl} (h : (FF x)[p]? = some f) : plT x f.1 = some p := by
  cases e : plT x f.1 with
  | none => exact absurd rfl (plT_no e p f h)
  | some q =>
    obtain ⟨g, g1, g2⟩ := plT_is e
    rw [hv.fg.2.1 q p g f g1 h g2]
def inT (x : Sg) (a : Int32) : Option Nat := match ixI (sgM x) a with
  | some c => plT x c
  | none => none
theorem inT_at {x : Sg} (hv : Iv x) {p : Nat} {f : Fl} (h : (FF x)[p]? = some f) : inT x (zi f.1) = some p := by
  have hm := hv.2.2.2.1
  unfold inT
  rw [ixI_some (by omega) (hv.fg.1.2 p f h).1]
  exact plT_at hv h
theorem t_holds {x : Sg} {a : Int32} {I : zI} {K : Int32 → Prop} (hv : Iv x) (hR : RX I x) (h1 : ∀ p f, (FF x)[p]? = some f → a = zi f.1 → f.1 < sgM x → inT x a = some p → K 1) (h0 : inT x a = none → K 0) : w_TreeView_holds a I K := by
  have hm := hv.2.2.2.1
  obtain ⟨-, rep, ⟨-, hF, -, -, hpl⟩, -⟩ := hR
  have fl := hv.f248
  unfold w_TreeView_holds
  refine t_has (n := sgM x) (by omega) rep.1 (fun c hc e e2 => ?_) (fun e => ?_)
  · rw [if_neg (by decide), e]
    have e3 : inT x a = plT x c := by
      unfold inT
      rw [e2]
    obtain ⟨p', p1, p2⟩ := hpl.1 c (by omega)
    refine (w_get (by decide)).mpr ?_
    rw [rg_in (by decide) (show c < 3400 by omega), show I.1 (46 + 1) c = zi p' from p2, hF.1]
    by_cases u : zi (FF x).length ≤ zi p'
    · rw [if_pos u]
      refine h0 ?_
      rw [e3]
      cases ep : plT x c with
      | none => rfl
      | some q =>
        obtain ⟨g, g1, g2⟩ := plT_is ep
        have w := (hF.2 q g g1).2.1
        rw [g2, p2] at w
        have ql := (List.getElem?_eq_some_iff.mp g1).1
        have := (zi_eq (by omega) (by omega)).mp w
        have := (zi_le (by omega) (by omega)).mp u
        omega
    · rw [if_neg u]
      have hp : p' < (FF x).length := Nat.lt_of_not_le (fun v => u ((zi_le (by omega) (by omega)).mpr v))
      have hx := ffA_is hp
      refine (w_get (by decide)).mpr ?_
      rw [rg_in (by decide) (show p' < 400 by omega), show I.1 (44 + 1) p' = zi (ffA x p').1 from (hF.2 p' _ hx).1]
      have hlt := (hv.fg.1.2 p' _ hx).1
      by_cases w : (ffA x p').1 = c
      · rw [if_pos (by rw [w])]
        exact h1 p' _ hx (by rw [e, w]) hlt (by rw [e3, ← w]; exact plT_at hv hx)
      · rw [if_neg (zi_ne (by omega) (by omega) w)]
        refine h0 ?_
        rw [e3]
        cases ep : plT x c with
        | none => rfl
        | some q =>
          exfalso
          obtain ⟨g, g1, g2⟩ := plT_is ep
          have w2 := (hF.2 q g g1).2.1
          rw [g2, p2] at w2
          have ql := (List.getElem?_eq_some_iff.mp g1).1
          have := (zi_eq (by omega) (by omega)).mp w2
          subst this
          rw [ffA_at g1] at w
          exact w g2
  · rw [if_pos rfl]
    refine h0 ?_
    unfold inT
    rw [e]
theorem u_isIn {x : Sg} {a : Int32} {I : zI} {K : Int32 → Prop} (hv : Iv x) (hR : RM I x) (h1 : ∀ p f, (FF x)[p]? = some f → a = zi f.1 → f.1 < sgM x → inT x a = some p → K 1) (h0 : inT x a = none → K 0) : w_M_isIn a I K := by
  have V := hR.view hv
  obtain ⟨l1, l2, l3, l4, l5, l6, l7⟩ := V.len
  have hm := V.2.2.1
  have f248 := hv.f248
  unfold w_M_isIn
  rw [l6]
  refine u_in (by omega) (fun c hc e e2 => ?_) (fun e => ?_)
  · have e3 : inT x a = plT x c := by
      unfold inT
      rw [e2]
    rw [if_neg (by decide), e]
    refine ⟨(zin_iff (by omega)).mpr (by omega), ?_⟩
    rw [zi_tn (show c < 2147483648 by omega)]
    cases ep : plT x c with
    | none =>
      rw [V.2.2.2.2.1.2.1.2.2 c (by omega) (fun i y hi hy => plT_no ep i y hy), if_pos (by decide)]
      exact h0 (by rw [e3, ep])
    | some q =>
      obtain ⟨g, g1, g2⟩ := plT_is ep
      have ql := (List.getElem?_eq_some_iff.mp g1).1
      have w := (V.2.2.2.2.1.2.1.2.1 q g ql g1).2.1
      rw [g2] at w
      rw [w, if_neg (zi_pos (by omega))]
      exact h1 q g g1 (by rw [e, g2]) (by rw [g2]; exact hc) (by rw [e3, ep])
  · rw [if_pos rfl]
    refine h0 ?_
    unfold inT
    rw [e]
/-- up to the node above -/
theorem t_parP {x : Sg} {p : Nat} {f : Fl} {I : zI} {K : Int32 → Prop} (hv : Iv x) (hR : RX I x) (hp : (FF x)[p]? = some f) (h0 : p = 0 → K (-2)) (h1 : 1 ≤ p → f.2.1 < p → (FF x)[f.2.1]? = some (ffA x f.2.1) → K (zi (ffA x f.2.1).1)) : w_TreeView_parentOf (zi f.1) I K := by
  have hm := hv.2.2.2.1
  obtain ⟨-, rep, ⟨hT, hF, -, -, hpl⟩, -⟩ := hR
  have fg := hv.fg
  by_cases u : p = 0
  · subst u
    have e0 := fl_0 (q := 0) (p := 0) (t := 0) (dep := 1) hv.2.1 hv.tr.1
    have : f.1 = moR (sgC x) := by
      have e := hp.symm.trans e0
      cases e
      rfl
    exact s_parentOf0 rep (by omega) hF fg.1 hp (by rw [this]; exact hT) (h0 rfl)
  · have hq := (fg.1.2 p f hp).2 (by omega)
    have hpl := (List.getElem?_eq_some_iff.mp hp).1
    have hy : (FF x)[f.2.1]? = some (ffA x f.2.1) := ffA_is (by omega)
    refine s_parentOf rep (by omega) hF fg.1 hp (by omega) hT hv.tr.1 (fun e => u ?_) hy (h1 (by omega) hq hy)
    have e0 := fl_0 (q := 0) (p := 0) (t := 0) (dep := 1) hv.2.1 hv.tr.1
    exact fg.2.1 p 0 _ _ hp e0 e
theorem u_parP {x : Sg} {p : Nat} {f : Fl} {I : zI} (hv : Iv x) (hR : RM I x) (hp : (FF x)[p]? = some f) : (p = 0 ∧ I.1 524 f.1 = -2) ∨ (1 ≤ p ∧ f.2.1 < p ∧ (FF x)[f.2.1]? = some (ffA x f.2.1) ∧ I.1 524 f.1 = zi (ffA x f.2.1).1 ∧ ∃ j, (ndC (sgN x (ffA x f.2.1).1))[j]? = some f.1 ∧ I.1 525 f.1 = zi j) := by
  have V := hR.view hv
  obtain ⟨p1, p2⟩ := (V.2.2.2.2.1.2.2.1 p f hp).2
  by_cases u : p = 0
  · exact Or.inl ⟨u, p1 u⟩
  · obtain ⟨y, j, c1, c2, c3, c4⟩ := p2 (by omega)
    have hq := (hv.fg.1.2 p f hp).2 (by omega)
    have hpl := (List.getElem?_eq_some_iff.mp hp).1
    have hy : (FF x)[f.2.1]? = some (ffA x f.2.1) := ffA_is (by omega)
    have : y = ffA x f.2.1 := (ffA_at c1).symm
    subst this
    exact Or.inr ⟨by omega, hq, hy, c3, j, c2, c4⟩
theorem tok_pl {x : Sg} (hv : Iv x) {i : Nat} (h : i + 1 < nG x) : ∃ p f, (FF x)[p]? = some f ∧ f.1 = moO (sgC x) i ∧ 1 ≤ p ∧ f.2.2.1 = (i : Int) ∧ plT x (moO (sgC x) i) = some p := by
  obtain ⟨p, f, a1, a2, a3, a4⟩ := hv.tr.tok hv.2.1 h
  exact ⟨p, f, a1, a2, a3, a4, by rw [← a2]; exact plT_at hv a1⟩
/-- a RULE as both hold it -/
theorem rule_eq {x : Sg} (hv : Iv x) {c r : Nat} (hc : c < sgM x) (hr : r < 11) : Int32.ofInt (ndR (sgN x c)) = zi r ↔ ndR (sgN x c) = (r : Int) := by
  rcases hv.2.1 c hc with ⟨f1, -⟩ | ⟨r', s, f1, -, f3, -⟩
  · rw [f1]
    constructor
    · intro u
      have w : Int32.ofInt (-2) < 0 := by decide
      rw [u] at w
      exact absurd w (zi_pos (by omega))
    · intro u
      omega
  · rw [f3, zi_int]
    constructor
    · intro u
      have := (zi_eq (by omega) (by omega)).mp u
      omega
    · intro u
      rw [show r' = r by omega]
/-! above -/
def abvF (x : Sg) (r : Nat) : Nat → Nat → Int32
  | 0, _ => -2
  | d + 1, p => if ndR (sgN x (ffA x p).1) = (r : Int) then zi (ffA x p).1 else if p = 0 then -2 else abvF x r d (ffA x p).2.1
def vAbove (x : Sg) (a b : Int32) : Int32 := match ixI (nG x) a with
  | some i => (match ixI 11 b with
    | some r => if i + 1 < nG x then (match plT x (moO (sgC x) i) with
      | some p => abvF x r ((ffA x p).2.1 + 1) (ffA x p).2.1
      | none => -2) else -2
    | none => -1)
  | none => -1
theorem t_above {x : Sg} {a b : Int32} {I : zI} {K : Int32 → Prop} (hv : Iv x) (hR : RX I x) (h : K (vAbove x a b)) : w_Desk_above a b I K := by
  obtain ⟨s, hA⟩ := hR.now
  have hm := hv.2.2.2.1
  have l100 : nG x ≤ 100 := hv.2.2.2.2.2.2.2.1.2.1.2.2
  have f248 := hv.f248
  have rep := hR.2.1
  refine s_now hA.1 hA.2.1 ?_
  unfold vAbove at h
  refine t_hasGood (n := nG x) (by omega) hA.2.2.2.2.2.2.1 (fun i hi e e2 => ?_) (fun e => ?_)
  · rw [e2] at h
    dsimp only at h
    rw [if_neg (by decide), e]
    rcases ix_cs (n := 11) (by decide) b with ⟨r, hr, rfl, eb⟩ | ⟨eb, c | ⟨c, d⟩⟩
    · rw [eb] at h
      dsimp only at h
      rw [if_neg (zi_pos (by omega)), if_pos (show zi r < 11 from (zi_lt (b := 11) (by omega) (by decide)).mpr hr)]
      refine (w_get (by decide)).mpr ?_
      rw [rg_in (by decide) (show i < 100 by omega), show I.1 (zmom s + 14 + 1) i = zi (moO (sgC x) i) from hA.2.2.2.2.2.2.2.1 i hi]
      unfold w_TreeView_lowestOfRule
      by_cases u : i + 1 < nG x
      · rw [if_pos u] at h
        obtain ⟨p, f, a1, a2, a3, a4, a5⟩ := tok_pl hv u
        rw [a5] at h
        dsimp only at h
        rw [ffA_at a1] at h
        have hp := (List.getElem?_eq_some_iff.mp a1).1
        rw [← a2]
        refine t_parP hv hR a1 (fun w => absurd w (Nat.pos_iff_ne_zero.mp a3)) (fun w1 w2 w3 => ?_)
        intro P9 h9
        have main : ∀ (d q v : Nat), q < d → q < (FF x).length → v + d ≤ 400 → K (abvF x r d q) → P9 (zi (ffA x q).1) (zi v) := by
          intro d
          induction d with
          | zero =>
            intro q v hq
            omega
          | succ d ih =>
            intro q v hq hql hvd hK
            refine h9 _ _ ?_
            have hx := ffA_is hql
            have hlt := (hv.fg.1.2 q _ hx).1
            rw [if_neg (show ¬ (400 : Int32) ≤ zi v from nle_zi (n := 400) (by omega) (by decide)), if_neg (zi_pos (by omega))]
            refine (w_get (by decide)).mpr ?_
            rw [rg_in (by decide) (show (ffA x q).1 < 3400 by omega), show I.1 (25 + 1) (ffA x q).1 = Int32.ofInt (ndR (sgN x (ffA x q).1)) from (rep.2 _ hlt).1]
            unfold abvF at hK
            by_cases c : ndR (sgN x (ffA x q).1) = (r : Int)
            · rw [if_pos c] at hK
              rw [if_pos ((rule_eq hv hlt hr).mpr c)]
              exact hK
            · rw [if_neg c] at hK
              rw [if_neg (fun w => c ((rule_eq hv hlt hr).mp w))]
              refine t_parP hv hR hx (fun w v' ev => ?_) (fun z1 z2 z3 v' ev => ?_)
              · rw [if_pos w] at hK
                refine h9 _ _ ?_
                rw [if_pos (show (-2 : Int32) < 0 by decide)]
                split
                · exact hK
                · exact hK
              · rw [if_neg (by omega)] at hK
                rw [ev, zi_succ]
                exact ih _ (v + 1) (by omega) (by omega) (by omega) hK
        exact main _ _ 0 (Nat.lt_succ_self _) (by omega) (by omega) h
      · rw [if_neg u] at h
        have hin : i = nG x - 1 := by omega
        have hno := hv.tr.fin hv.2.1
        rw [← hin] at hno
        refine s_parentOfN rep (by omega) hR.2.2.1.2.1 hv.fg.1 (hv.tr.2.2.2.2.1 i hi).1 hno (hR.2.2.1.2.2.2.2.1 _ (by have := (hv.tr.2.2.2.2.1 i hi).1; omega)) ?_
        intro P9 h9
        refine h9 _ _ ?_
        rw [if_neg (by decide), if_pos (by decide)]
        exact h
    · rw [eb] at h
      rw [if_pos c]
      exact h
    · rw [eb] at h
      rw [if_neg c, if_neg (show ¬ b < (11 : Int32) from Int32.not_lt.mpr d)]
      exact h
  · rw [e] at h
    rw [if_pos rfl]
    exact h
theorem u_isInner {x : Sg} {i : Nat} {I : zI} {K : Int32 → Prop} (hv : Iv x) (hR : RM I x) (hi : i < nG x) (h1 : i + 1 < nG x → K 1) (h0 : ¬ i + 1 < nG x → K 0) : w_M_isInner (zi i) I K := by
  have l100 : nG x ≤ 100 := hv.2.2.2.2.2.2.2.1.2.1.2.2
  unfold w_M_isInner
  rw [(hR.view hv).2.2.2.2.2.1]
  have e : zi (nG x) - 2 = zi (nG x - 1) - 1 := by
    rw [show zi (nG x - 1) = zi (nG x) - 1 from (zi_sub (b := 1) (by omega)).symm, Int32.sub_sub]
    rfl
  change w_M_in (zi i) 0 (zi (nG x) - 2) I _
  rw [e]
  refine u_in (by omega) (fun k hk e e2 => ⟨Or.inr rfl, h1 ?_⟩) (fun e => ⟨Or.inl rfl, h0 (fun u => ?_)⟩)
  · have := (zi_eq (by omega) (by omega)).mp e
    omega
  · rw [ixI_some (by omega) (by omega)] at e
    cases e
theorem u_above {x : Sg} {a b : Int32} {I : zI} {K : Int32 → Prop} (hv : Iv x) (hR : RM I x) (h : K (vAbove x a b)) : w_M_above a b I K := by
  have V := hR.view hv
  have hm := V.2.2.1
  have l100 : nG x ≤ 100 := hv.2.2.2.2.2.2.2.1.2.1.2.2
  have f248 := hv.f248
  unfold vAbove at h
  refine u_isToken hv hR (fun i hi e e2 => ?_) (fun e => ?_)
  · change ixI (nG x) a = some i at e2
    rw [e2] at h
    dsimp only at h
    rw [if_neg (by decide), e]
    refine u_in (n := 11) (by decide) (fun r hr er e3 => ?_) (fun eb => ?_)
    · rw [e3] at h
      dsimp only at h
      rw [if_neg (by decide), er]
      refine u_isInner hv hR hi (fun u => ?_) (fun u => ?_)
      · rw [if_pos u] at h
        rw [if_neg (by decide), zi_tn (show i < 2147483648 by omega), V.2.2.2.2.2.2.1 i hi]
        obtain ⟨p, f, a1, a2, a3, a4, a5⟩ := tok_pl hv u
        rw [a5] at h
        dsimp only at h
        rw [ffA_at a1] at h
        have hlt0 := (hv.fg.1.2 p f a1).1
        have hp := (List.getElem?_eq_some_iff.mp a1).1
        rw [← a2, zi_tn (show f.1 < 2147483648 by omega)]
        refine ⟨(zin_iff (by omega)).mpr (by omega), (zin_iff (by omega)).mpr (by omega), fun v3 ev3 => ?_⟩
        intro P43 h43
        have main : ∀ (d q : Nat), q < d → q < (FF x).length → K (abvF x r d q) → P43 (zi (ffA x q).1) := by
          intro d
          induction d with
          | zero =>
            intro q hq
            omega
          | succ d ih =>
            intro q hq hql hK
            have hx := ffA_is hql
            have hlt := (hv.fg.1.2 q _ hx).1
            refine h43 _ ?_
            intro P67 h67
            rw [if_neg (zi_pos (by omega)), zi_tn (show (ffA x q).1 < 2147483648 by omega), show I.1 509 (ffA x q).1 = Int32.ofInt (ndR (sgN x (ffA x q).1)) from (V.1.2 _ hlt).1]
            have hin : vp_in (zi (ffA x q).1) 3700 := (zin_iff (by omega)).mpr (by omega)
            refine ⟨hin, ?_⟩
            unfold abvF at hK
            by_cases c : ndR (sgN x (ffA x q).1) = (r : Int)
            · rw [if_pos c] at hK
              rw [if_pos ((rule_eq hv hlt hr).mpr c)]
              refine h67 ?_
              rw [if_pos (zi_ge (by omega))]
              exact hK
            · rw [if_neg c] at hK
              rw [if_neg (fun w => c ((rule_eq hv hlt hr).mp w))]
              refine ⟨hin, fun v ev => ?_⟩
              rcases u_parP hv hR hx with ⟨z1, z2⟩ | ⟨z1, z2, z3, z4, -⟩
              · rw [if_pos z1] at hK
                rw [ev, z2]
                refine h43 _ ?_
                intro P67b h67b
                rw [if_pos (show (-2 : Int32) < 0 by decide)]
                refine h67b ?_
                rw [if_neg (by decide)]
                exact hK
              · rw [if_neg (by omega)] at hK
                rw [ev, z4]
                exact ih _ (by omega) (by omega) hK
        rcases u_parP hv hR a1 with ⟨z1, z2⟩ | ⟨z1, z2, z3, z4, -⟩
        · omega
        · rw [ev3, z4]
          exact main _ _ (Nat.lt_succ_self _) (by omega) h
      · rw [if_neg u] at h
        rw [if_pos rfl]
        exact h
    · rw [eb] at h
      rw [if_pos rfl]
      exact h
  · change ixI (nG x) a = none at e
    rw [e] at h
    rw [if_pos rfl]
    exact h
/-! firm -/
def anyR (x : Sg) (r : Nat) : Nat → Nat → Bool
  | 0, _ => false
  | d + 1, p => if ndR (sgN x (ffA x p).1) = (r : Int) then true else anyR x r d (p + 1)
def vFirm (x : Sg) (a : Int32) : Int32 := match inT x a with
  | some p => if 4 ≤ ndR (sgN x (ffA x p).1) then (if anyR x 8 (ffA x p).2.2.2.2 p = true then 0 else 1) else -1
  | none => -1
theorem ff_sz {x : Sg} (hv : Iv x) {p : Nat} {f : Fl} (hp : (FF x)[p]? = some f) : 1 ≤ f.2.2.2.2 ∧ p + f.2.2.2.2 ≤ (FF x).length := by
  obtain ⟨s1, s2, s3⟩ := sz_inR hv.2.1 hv.tr.1 hp
  rw [s1]
  exact ⟨s2, s3⟩
theorem rule_lt {x : Sg} (hv : Iv x) {c r : Nat} (hc : c < sgM x) (hr : r < 11) : Int32.ofInt (ndR (sgN x c)) < zi r ↔ ndR (sgN x c) < (r : Int) := by
  rcases hv.2.1 c hc with ⟨f1, -⟩ | ⟨r', s, f1, -, f3, -⟩
  · rw [f1]
    constructor
    · intro _
      omega
    · intro _
      exact Int32.lt_of_lt_of_le (by decide : Int32.ofInt (-2) < 0) (zi_ge (by omega))
  · rw [f3, zi_int]
    constructor
    · intro u
      have := (zi_lt (by omega) (by omega)).mp u
      omega
    · intro u
      exact (zi_lt (by omega) (by omega)).mpr (by omega)
theorem t_holdsE {x : Sg} {a : Int32} {I : zI} {K : Int32 → Prop} (hv : Iv x) (hR : RX I x) (h1 : ∀ p f, (FF x)[p]? = some f → a = zi f.1 → f.1 < sgM x → inT x a = some p → 4 ≤ ndR (sgN x f.1) → K 1) (h2 : ∀ p f, (FF x)[p]? = some f → inT x a = some p → ¬ 4 ≤ ndR (sgN x f.1) → K 0) (h0 : inT x a = none → K 0) : w_TreeView_holdsExpression a I K := by
  have hm := hv.2.2.2.1
  unfold w_TreeView_holdsExpression
  refine t_holds hv hR (fun p f hp e hlt e2 => ?_) (fun e => ?_)
  · rw [if_neg (by decide), e]
    refine (w_get (by decide)).mpr ?_
    rw [rg_in (by decide) (show f.1 < 3400 by omega), show I.1 (25 + 1) f.1 = Int32.ofInt (ndR (sgN x f.1)) from (hR.2.1.2 _ hlt).1]
    by_cases u : ndR (sgN x f.1) < 4
    · rw [if_pos (show _ < (4 : Int32) from (rule_lt (r := 4) hv hlt (by decide)).mpr u)]
      exact h2 p f hp e2 (by omega)
    · rw [if_neg (show ¬ _ < (4 : Int32) from fun w => u ((rule_lt (r := 4) hv hlt (by decide)).mp w))]
      exact h1 p f hp e hlt e2 (by omega)
  · rw [if_pos rfl]
    exact h0 e
theorem u_isTerm {x : Sg} {a : Int32} {I : zI} {K : Int32 → Prop} (hv : Iv x) (hR : RM I x) (h1 : ∀ p f, (FF x)[p]? = some f → a = zi f.1 → f.1 < sgM x → inT x a = some p → 4 ≤ ndR (sgN x f.1) → K 1) (h2 : ∀ p f, (FF x)[p]? = some f → inT x a = some p → ¬ 4 ≤ ndR (sgN x f.1) → K 0) (h0 : inT x a = none → K 0) : w_M_isTerm a I K := by
  have V := hR.view hv
  have hm := V.2.2.1
  unfold w_M_isTerm
  refine u_isIn hv hR (fun p f hp e hlt e2 => ?_) (fun e => ?_)
  · rw [if_neg (by decide), e, zi_tn (show f.1 < 2147483648 by omega), show I.1 509 f.1 = Int32.ofInt (ndR (sgN x f.1)) from (V.1.2 _ hlt).1]
    refine ⟨(zin_iff (by omega)).mpr (by omega), ?_⟩
    by_cases u : ndR (sgN x f.1) < 4
    · rw [if_pos (show _ ≤ (3 : Int32) from ?_)]
      · exact h2 p f hp e2 (by omega)
      · rcases hv.2.1 _ hlt with ⟨f1, -⟩ | ⟨r', s, f1, -, f3, -⟩
        · rw [f1]
          decide
        · rw [f3, zi_int]
          exact (zi_le (b := 3) (by omega) (by decide)).mpr (by omega)
    · rw [if_neg (show ¬ _ ≤ (3 : Int32) from ?_)]
      · exact h1 p f hp e hlt e2 (by omega)
      · rcases hv.2.1 _ hlt with ⟨f1, -⟩ | ⟨r', s, f1, -, f3, -⟩
        · omega
        · rw [f3, zi_int]
          intro w
          have := (zi_le (b := 3) (by omega) (by decide)).mp w
          omega
  · rw [if_pos rfl]
    exact h0 e
theorem t_placeB {x : Sg} {p : Nat} {f : Fl} {I : zI} {K : Int32 → Prop} (hv : Iv x) (hR : RX I x) (hp : (FF x)[p]? = some f) (h : K (zi (p + f.2.2.2.2))) : w_TreeView_placeBehind (zi f.1) I K := by
  have hm := hv.2.2.2.1
  have f248 := hv.f248
  have hpl := (List.getElem?_eq_some_iff.mp hp).1
  have hlt := (hv.fg.1.2 p f hp).1
  obtain ⟨-, rep, ⟨-, hF, h55, -, -⟩, -⟩ := hR
  unfold w_TreeView_placeBehind
  refine (w_get (by decide)).mpr ?_
  rw [rg_in (by decide) (show f.1 < 3400 by omega), show I.1 (46 + 1) f.1 = zi p from (hF.2 p f hp).2.1]
  refine (w_get (by decide)).mpr ?_
  rw [rg_in (by decide) (show p < 400 by omega), show I.1 (54 + 1) p = zi f.2.2.2.2 from (h55 p f hp).2, zi_add]
  exact h
theorem t_place {x : Sg} {p : Nat} {f : Fl} {I : zI} {K : Int32 → Prop} (hv : Iv x) (hR : RX I x) (hp : (FF x)[p]? = some f) (h : K (zi p)) : w_Row_get 46 3400 (zi f.1) I K := by
  have hm := hv.2.2.2.1
  have hlt := (hv.fg.1.2 p f hp).1
  refine (w_get (by decide)).mpr ?_
  rw [rg_in (by decide) (show f.1 < 3400 by omega), show I.1 (46 + 1) f.1 = zi p from (hR.2.2.1.2.1.2 p f hp).2.1]
  exact h
theorem t_firm {x : Sg} {a : Int32} {I : zI} {K : Int32 → Prop} (hv : Iv x) (hR : RX I x) (h : K (vFirm x a)) : w_Desk_firm a I K := by
  have hm := hv.2.2.2.1
  have f248 := hv.f248
  unfold w_Desk_firm
  unfold vFirm at h
  refine t_holdsE hv hR (fun p f hp e hlt e2 hr => ?_) (fun p f hp e2 hr => ?_) (fun e => ?_)
  · rw [e2] at h
    dsimp only at h
    rw [ffA_at hp, if_pos hr] at h
    rw [if_neg (by decide), e]
    unfold w_TreeView_readsName
    obtain ⟨z1, z2⟩ := ff_sz hv hp
    refine t_placeB hv hR hp (t_place hv hR hp ?_)
    intro P15 h15
    have main : ∀ (d q : Nat), q + d = p + f.2.2.2.2 → K (if anyR x 8 d q = true then 0 else 1) → P15 (zi q) := by
      intro d
      induction d with
      | zero =>
        intro q hq hK
        refine h15 _ ?_
        rw [if_pos ((zi_le (by omega) (by omega)).mpr (by omega))]
        show if (0 : Int32) = 0 then K 1 else K 0
        rw [if_pos rfl]
        exact hK
      | succ d ih =>
        intro q hq hK
        refine h15 _ ?_
        have hx := ffA_is (x := x) (p := q) (by omega)
        have hlt' := (hv.fg.1.2 q _ hx).1
        rw [if_neg (nle_zi (by omega) (by omega))]
        refine (w_get (by decide)).mpr ?_
        rw [rg_in (by decide) (show q < 400 by omega), show I.1 (44 + 1) q = zi (ffA x q).1 from (hR.2.2.1.2.1.2 q _ hx).1]
        refine (w_get (by decide)).mpr ?_
        rw [rg_in (by decide) (show (ffA x q).1 < 3400 by omega), show I.1 (25 + 1) (ffA x q).1 = Int32.ofInt (ndR (sgN x (ffA x q).1)) from (hR.2.1.2 _ hlt').1]
        unfold anyR at hK
        by_cases c : ndR (sgN x (ffA x q).1) = (8 : Nat)
        · rw [if_pos c, if_pos rfl] at hK
          rw [if_pos (show _ = (8 : Int32) from (rule_eq hv hlt' (by decide)).mpr c)]
          show if (1 : Int32) = 0 then K 1 else K 0
          rw [if_neg (by decide)]
          exact hK
        · rw [if_neg c] at hK
          rw [if_neg (show ¬ _ = (8 : Int32) from fun w => c ((rule_eq hv hlt' (by decide)).mp w))]
          intro v ev
          rw [ev, zi_succ]
          exact ih (q + 1) (by omega) hK
    exact main _ p rfl h
  · rw [e2] at h
    dsimp only at h
    rw [ffA_at hp, if_neg hr] at h
    rw [if_pos rfl]
    exact h
  · rw [e] at h
    rw [if_pos rfl]
    exact h
theorem u_firm {x : Sg} {a : Int32} {I : zI} {K : Int32 → Prop} (hv : Iv x) (hR : RM I x) (h : K (vFirm x a)) : w_M_firm a I K := by
  have V := hR.view hv
  have hm := V.2.2.1
  have f248 := hv.f248
  unfold w_M_firm
  unfold vFirm at h
  refine u_isTerm hv hR (fun p f hp e hlt e2 hr => ?_) (fun p f hp e2 hr => ?_) (fun e => ?_)
  · rw [e2] at h
    dsimp only at h
    rw [ffA_at hp, if_pos hr] at h
    rw [if_neg (by decide), e, zi_tn (show f.1 < 2147483648 by omega)]
    obtain ⟨z1, z2⟩ := ff_sz hv hp
    have hpl := (List.getElem?_eq_some_iff.mp hp).1
    have e523 : I.1 523 f.1 = zi p := (V.2.2.2.2.1.2.1.2.1 p f hpl hp).2.1
    have e522 : I.1 522 p = zi (p + f.2.2.2.2) := (V.2.2.2.2.1.2.2.1 p f hp).1
    refine ⟨(zin_iff (by omega)).mpr (by omega), fun v2 ev2 => ?_⟩
    rw [e523] at ev2
    subst ev2
    intro P19 h19
    have hin : vp_in (zi p) 700 := (zin_iff (by omega)).mpr (by omega)
    have main : ∀ (d q : Nat), q + d = p + f.2.2.2.2 → K (if anyR x 8 d q = true then 0 else 1) → P19 (zi q) := by
      intro d
      induction d with
      | zero =>
        intro q hq hK
        refine h19 _ ⟨hin, ?_⟩
        rw [zi_tn (show p < 2147483648 by omega), e522, if_pos ((zi_le (by omega) (by omega)).mpr (by omega))]
        exact hK
      | succ d ih =>
        intro q hq hK
        refine h19 _ ⟨hin, ?_⟩
        have hx := ffA_is (x := x) (p := q) (by omega)
        have hql := (List.getElem?_eq_some_iff.mp hx).1
        have hlt' := (hv.fg.1.2 q _ hx).1
        rw [zi_tn (show p < 2147483648 by omega), e522, if_neg (nle_zi (by omega) (by omega)), zi_tn (show q < 2147483648 by omega), show I.1 521 q = zi (ffA x q).1 from (V.2.2.2.2.1.2.1.2.1 q _ hql hx).1]
        refine ⟨(zin_iff (by omega)).mpr (by omega), (zin_iff (by omega)).mpr (by omega), ?_⟩
        rw [zi_tn (show (ffA x q).1 < 2147483648 by omega), show I.1 509 (ffA x q).1 = Int32.ofInt (ndR (sgN x (ffA x q).1)) from (V.1.2 _ hlt').1]
        unfold anyR at hK
        by_cases c : ndR (sgN x (ffA x q).1) = (8 : Nat)
        · rw [if_pos c, if_pos rfl] at hK
          rw [if_pos (show _ = (8 : Int32) from (rule_eq hv hlt' (by decide)).mpr c)]
          exact hK
        · rw [if_neg c] at hK
          rw [if_neg (show ¬ _ = (8 : Int32) from fun w => c ((rule_eq hv hlt' (by decide)).mp w))]
          intro v ev
          rw [ev, zi_succ]
          exact ih (q + 1) (by omega) hK
    exact main _ p rfl h
  · rw [e2] at h
    dsimp only at h
    rw [ffA_at hp, if_neg hr] at h
    rw [if_pos rfl]
    exact h
  · rw [e] at h
    rw [if_pos rfl]
    exact h
