/-! beside, before -/
theorem inT_is {x : Sg} {a : Int32} {p : Nat} (h : inT x a = some p) (hm : sgM x < 2147483648) : ∃ f, (FF x)[p]? = some f ∧ a = zi f.1 := by
  unfold inT at h
  rcases ix_cs hm a with ⟨c, hc, e, e2⟩ | ⟨e2, -⟩
  · rw [e2] at h
    obtain ⟨f, f1, f2⟩ := plT_is h
    exact ⟨f, f1, by rw [e, f2]⟩
  · rw [e2] at h
    cases h
theorem idx_at {l : List Nat} {j z : Nat} (hu : ∀ i, l[i]? = some z → i = j) (hj : l[j]? = some z) : l.findIdx? (fun w => w == z) = some j := by
  cases e : l.findIdx? (fun w => w == z) with
  | none =>
    have := List.findIdx?_eq_none_iff.mp e z (List.mem_of_getElem? hj)
    rw [beq_self_eq_true] at this
    cases this
  | some i =>
    obtain ⟨h1, h2, -⟩ := List.findIdx?_eq_some_iff_getElem.mp e
    rw [hu i (by rw [List.getElem?_eq_getElem h1, beq_iff_eq.mp h2])]
def chU (x : Sg) (p : Nat) : List Nat := ndC (sgN x (ffA x (ffA x p).2.1).1)
theorem ch_lt {x : Sg} (hv : Iv x) {q i j z : Nat} {g : Fl} (hq : (FF x)[q]? = some g) (hij : i < j) (hi : (ndC (sgN x g.1))[i]? = some z) (hj : (ndC (sgN x g.1))[j]? = some z) : False := by
  obtain ⟨i', y, a1, a2, a3, -⟩ := fl_ch hv.2.1 hv.tr.1 hq hi
  obtain ⟨j', w, b1, b2, b3, -⟩ := fl_ch hv.2.1 hv.tr.1 hq hj
  have e := hv.fg.2.1 i' j' y w a2 b2 (a3.trans b3.symm)
  have hz : z < sgM x := by
    rw [← a3]
    exact (hv.fg.1.2 i' y a2).1
  have h1 := szS_take (N := sgN x) (show ((ndC (sgN x g.1)).take j)[i]? = some z by rw [List.getElem?_take, if_pos hij]; exact hi)
  rw [List.take_take, Nat.min_eq_left (by omega)] at h1
  have := sz_pos hv.2.1 hz
  omega
theorem ch_one {x : Sg} (hv : Iv x) {q i j z : Nat} {g : Fl} (hq : (FF x)[q]? = some g) (hi : (ndC (sgN x g.1))[i]? = some z) (hj : (ndC (sgN x g.1))[j]? = some z) : i = j := by
  rcases Nat.lt_trichotomy i j with u | u | u
  · exact absurd (ch_lt hv hq u hi hj) id
  · exact u
  · exact absurd (ch_lt hv hq u hj hi) id
theorem ch_ix {x : Sg} (hv : Iv x) {p : Nat} {f : Fl} (hp : (FF x)[p]? = some f) (h1 : 1 ≤ p) : ∃ j, (chU x p)[j]? = some f.1 ∧ (chU x p).findIdx? (fun w => w == f.1) = some j ∧ ∀ i, (chU x p)[i]? = some f.1 → i = j := by
  obtain ⟨-, b2, -⟩ := fl_in hv.2.1 _ hv.tr.1 _ _ _ _ _ _ hp
  obtain ⟨y, i', y1, y2, y3, y4, y5⟩ := b2 h1
  rw [Nat.zero_add] at y2
  have y3' : (FF x)[i']? = some y := y3
  have e : chU x p = ndC (sgN x y.1) := by
    unfold chU
    rw [ffA_at hp, y2, ffA_at y3']
  obtain ⟨j, hj⟩ := List.mem_iff_getElem?.mp y4
  have hu : ∀ i, (chU x p)[i]? = some f.1 → i = j := fun i hi => by
    rw [e] at hi
    exact ch_one hv y3' hi hj
  rw [← e] at hj
  exact ⟨j, hj, idx_at hu hj, hu⟩
def sblV (x : Sg) (p : Nat) (up : Bool) : Int32 := match (chU x p).findIdx? (fun z => z == (ffA x p).1) with
  | some j => if up = true then (if j + 1 < (chU x p).length then zi ((chU x p).getD (j + 1) 0) else -2) else (if 1 ≤ j then zi ((chU x p).getD (j - 1) 0) else -2)
  | none => -2
def vBes (x : Sg) (a : Int32) (up : Bool) : Int32 := match inT x a with
  | some p => if p = 0 then -2 else sblV x p up
  | none => -2
theorem t_parN {x : Sg} {a : Int32} {I : zI} {K : Int32 → Prop} (hv : Iv x) (hR : RX I x) (e : inT x a = none) (h : K (-2)) : w_TreeView_parentOf a I K := by
  unfold w_TreeView_parentOf
  refine t_holds hv hR (fun p f hp ea hlt e2 => ?_) (fun _ => ?_)
  · rw [e] at e2
    cases e2
  · rw [if_pos rfl]
    exact h
theorem getD_at {l : List Nat} {j : Nat} (h : j < l.length) : l[j]? = some (l.getD j 0) := by
  rw [List.getD_eq_getElem?_getD, List.getElem?_eq_getElem h]
  rfl
theorem t_sib {x : Sg} {a st : Int32} {up : Bool} {I : zI} {K : Int32 → Prop} (hv : Iv x) (hR : RX I x) (hst : (up = true ∧ st = 1) ∨ (up = false ∧ st = -1)) (h : K (vBes x a up)) : w_TreeView_sibling a st I K := by
  have hm := hv.2.2.2.1
  unfold vBes at h
  unfold w_TreeView_sibling
  cases e : inT x a with
  | none =>
    rw [e] at h
    refine t_parN hv hR e ?_
    rw [if_neg (by decide)]
    exact h
  | some p =>
    rw [e] at h
    dsimp only at h
    obtain ⟨f, hp, rfl⟩ := inT_is e (by omega)
    have flt := (hv.fg.1.2 _ _ hp).1
    refine t_parP hv hR hp (fun w => ?_) (fun z1 z2 z3 => ?_)
    · rw [if_pos w] at h
      rw [if_neg (by decide)]
      exact h
    · rw [if_neg (by omega)] at h
      have ylt := (hv.fg.1.2 _ _ z3).1
      obtain ⟨j, hj, hj2, hju⟩ := ch_ix hv hp z1
      have ec : chU x p = ndC (sgN x (ffA x f.2.1).1) := by
        unfold chU
        rw [ffA_at hp]
      have hS : sblV x p up = if up = true then (if j + 1 < (chU x p).length then zi ((chU x p).getD (j + 1) 0) else -2) else (if 1 ≤ j then zi ((chU x p).getD (j - 1) 0) else -2) := by
        unfold sblV
        rw [ffA_at hp, hj2]
      have hch : (chU x p).length ≤ 4 := by
        rw [ec]
        exact hv.2.1.ch _ ylt
      have hjl := (List.getElem?_eq_some_iff.mp hj).1
      rw [if_pos (zi_ge (by omega))]
      refine s_childrenOf hR.2.1 hv.2.1 (by omega) ylt ?_
      rw [← ec]
      intro P26 h26
      have get : ∀ i (K' : Int32 → Prop), i < (chU x p).length → K' (zi ((chU x p).getD i 0)) → w_Nodes_childOf (zi (ffA x f.2.1).1) (zi i) I K' := fun i K' hi hK' => s_childOf hR.2.1 (by omega) ylt (hv.2.1.ch _ ylt) (by rw [← ec]; exact getD_at hi) hK'
      have main : ∀ (d i : Nat), i + d = (chU x p).length → (i ≤ j → K (sblV x p up)) → (j < i → K (-2)) → P26 (zi i) := by
        intro d
        induction d with
        | zero =>
          intro i hi h1 h2
          refine h26 _ ?_
          rw [if_pos ((zi_le (by omega) (by omega)).mpr (by omega))]
          exact h2 (by omega)
        | succ d ih =>
          intro i hi h1 h2
          refine h26 _ ?_
          rw [if_neg (nle_zi (by omega) (by omega))]
          intro v6 ev6
          refine get i _ (by omega) ?_
          intro P76 h76
          have clt : (chU x p).getD i 0 < sgM x := by
            have := hv.2.1.lt ylt (List.mem_of_getElem? (by rw [← ec]; exact getD_at (l := chU x p) (j := i) (by omega)))
            omega
          by_cases c : i = j
          · subst c
            have hK := h1 (Nat.le_refl _)
            have e1 : (chU x p).getD i 0 = f.1 := by
              have := (getD_at hjl).symm.trans hj
              exact Option.some.inj this
            rw [if_pos (by rw [e1])]
            rw [hS] at hK
            have nx : K (-2) → P76 := fun k2 => h76 (fun v ev => by
              rw [ev, zi_succ]
              exact ih (i + 1) (by omega) (fun u => by omega) (fun _ => k2))
            rcases hst with ⟨u1, u2⟩ | ⟨u1, u2⟩
            · rw [if_pos u1] at hK
              rw [u2, zi_succ] at ev6
              rw [ev6, if_neg (zi_pos (by omega))]
              by_cases c2 : i + 1 < (chU x p).length
              · rw [if_pos c2] at hK
                rw [if_neg (nle_zi c2 (by omega))]
                exact get (i + 1) _ c2 hK
              · rw [if_neg c2] at hK
                rw [if_pos ((zi_le (by omega) (by omega)).mpr (by omega))]
                exact nx hK
            · rw [if_neg (by rw [u1]; decide)] at hK
              by_cases c2 : 1 ≤ i
              · rw [if_pos c2] at hK
                rw [u2, zi_pred c2] at ev6
                rw [ev6, if_neg (zi_pos (by omega)), if_neg (nle_zi (by omega) (by omega))]
                exact get (i - 1) _ (by omega) hK
              · rw [if_neg c2] at hK
                rw [ev6, u2, show i = 0 by omega, if_pos (by decide)]
                exact nx hK
          · rw [if_neg (fun w => c (hju i (by rw [getD_at (show i < (chU x p).length by omega), (zi_eq (by omega) (by omega)).mp w])))]
            refine h76 (fun v ev => ?_)
            rw [ev, zi_succ]
            exact ih (i + 1) (by omega) (fun u => h1 (by omega)) (fun u => h2 (by omega))
      exact main _ 0 (Nat.zero_add _) (fun _ => h) (fun u => by omega)
theorem t_beside {x : Sg} {a : Int32} {I : zI} {K : Int32 → Prop} (hv : Iv x) (hR : RX I x) (h : K (vBes x a true)) : w_Desk_beside a I K := t_sib hv hR (Or.inl ⟨rfl, rfl⟩) h
theorem t_before {x : Sg} {a : Int32} {I : zI} {K : Int32 → Prop} (hv : Iv x) (hR : RX I x) (h : K (vBes x a false)) : w_Desk_before a I K := t_sib hv hR (Or.inr ⟨rfl, rfl⟩) h
theorem u_bes {x : Sg} {a st : Int32} {up : Bool} {I : zI} {K : Int32 → Prop} (hv : Iv x) (hR : RM I x) (hst : (up = true ∧ st = 1) ∨ (up = false ∧ st = -1)) (h : K (vBes x a up)) : w_M_besideOf a st I K := by
  have V := hR.view hv
  have hm := V.2.2.1
  unfold vBes at h
  unfold w_M_besideOf
  refine u_isIn hv hR (fun p f hp e hlt e2 => ?_) (fun e => ?_)
  · rw [e2] at h
    dsimp only at h
    have hin : vp_in (zi f.1) 3700 := (zin_iff (by omega)).mpr (by omega)
    rw [if_neg (by decide), e, zi_tn (show f.1 < 2147483648 by omega)]
    refine ⟨hin, ?_⟩
    rcases u_parP hv hR hp with ⟨z1, z2⟩ | ⟨z1, z2, z3, z4, j0, z5, z6⟩
    · rw [if_pos z1] at h
      rw [z2, if_neg (by decide)]
      exact h
    · rw [if_neg (by omega)] at h
      have ylt := (hv.fg.1.2 _ _ z3).1
      obtain ⟨j, hj, hj2, hju⟩ := ch_ix hv hp z1
      have ec : chU x p = ndC (sgN x (ffA x f.2.1).1) := by
        unfold chU
        rw [ffA_at hp]
      have hS : sblV x p up = if up = true then (if j + 1 < (chU x p).length then zi ((chU x p).getD (j + 1) 0) else -2) else (if 1 ≤ j then zi ((chU x p).getD (j - 1) 0) else -2) := by
        unfold sblV
        rw [ffA_at hp, hj2]
      have ej : j0 = j := hju j0 (by rw [ec]; exact z5)
      subst ej
      have hjl := (List.getElem?_eq_some_iff.mp hj).1
      obtain ⟨w1, w2⟩ := V.chs ylt
      rw [← ec] at w1 w2
      rw [z4, if_pos (zi_ge (by omega)), z6]
      refine ⟨hin, fun v ev => ⟨hin, (zin_iff (by omega)).mpr (by omega), ?_⟩⟩
      rw [zi_tn (show (ffA x f.2.1).1 < 2147483648 by omega), w1]
      have get : ∀ i (K' : Int32 → Prop), i < (chU x p).length → K' (zi ((chU x p).getD i 0)) → w_M_childOf (zi (ffA x f.2.1).1) (zi i) I K' := fun i K' hi hK' => s_MchildOf V.1 (by omega) ylt (by rw [← ec]; exact w2) (by rw [← ec]; exact getD_at hi) hK'
      rw [hS] at h
      rcases hst with ⟨u1, u2⟩ | ⟨u1, u2⟩
      · rw [if_pos u1] at h
        rw [u2, zi_succ] at ev
        rw [ev]
        refine u_in (by omega) (fun k hk ek e3 => ?_) (fun e3 => ?_)
        · rw [if_neg (by decide)]
          have := (zi_eq (by omega) (by omega)).mp ek
          rw [if_pos (by omega)] at h
          exact ⟨hin, get _ _ (by omega) h⟩
        · rw [if_pos rfl]
          rw [if_neg (fun c2 => by
            rw [ixI_some (by omega) c2] at e3
            cases e3)] at h
          exact h
      · rw [if_neg (by rw [u1]; decide)] at h
        by_cases c2 : 1 ≤ j0
        · rw [if_pos c2] at h
          rw [u2, zi_pred c2] at ev
          rw [ev]
          refine u_in (by omega) (fun k hk ek e3 => ?_) (fun e3 => ?_)
          · rw [if_neg (by decide)]
            exact ⟨hin, get _ _ (by omega) h⟩
          · rw [ixI_some (by omega) (show j0 - 1 < (chU x p).length by omega)] at e3
            cases e3
        · rw [if_neg c2] at h
          rw [ev, u2, show j0 = 0 by omega]
          refine u_in (by omega) (fun k hk ek e3 => ?_) (fun e3 => ?_)
          · have : zi 0 + -1 < 0 := by decide
            rw [ek] at this
            exact absurd this (zi_pos (by omega))
          · rw [if_pos rfl]
            exact h
  · rw [e] at h
    rw [if_pos rfl]
    exact h
theorem u_beside {x : Sg} {a : Int32} {I : zI} {K : Int32 → Prop} (hv : Iv x) (hR : RM I x) (h : K (vBes x a true)) : w_M_beside a I K := u_bes hv hR (Or.inl ⟨rfl, rfl⟩) h
theorem u_before {x : Sg} {a : Int32} {I : zI} {K : Int32 → Prop} (hv : Iv x) (hR : RM I x) (h : K (vBes x a false)) : w_M_before a I K := u_bes hv hR (Or.inr ⟨rfl, rfl⟩) h
/-! span -/
def fsT (x : Sg) (p : Nat) : Nat := (ffA x p).2.2.1.toNat
def laT (x : Sg) (p : Nat) : Nat := fsT x p + ndT (sgN x (ffA x p).1) - 1
def spS (x : Sg) (p : Nat) : Nat := (tkG x (fsT x p)).2.1
def spE (x : Sg) (p : Nat) : Nat := (tkG x (laT x p)).2.1 + (tkG x (laT x p)).2.2
def vSpan (x : Sg) (a b : Int32) : Int32 := match ixI 2 b with
  | some k => (match inT x a with
    | some p => if ndT (sgN x (ffA x p).1) = 0 then -1 else if k = 0 then zi (spS x p) else zi (spE x p) - zi (spS x p)
    | none => -1)
  | none => -1
theorem ff_fst {x : Sg} (hv : Iv x) {p : Nat} {f : Fl} (hp : (FF x)[p]? = some f) : (ndT (sgN x f.1) = 0 ∧ f.2.2.1 = -2) ∨ (1 ≤ ndT (sgN x f.1) ∧ f.2.2.1 = (fsT x p : Int) ∧ fsT x p + ndT (sgN x f.1) < nG x) := by
  have a1 := (hv.fg.2.2 p f hp).1
  obtain ⟨-, -, o, -, e4, -⟩ := fl_in hv.2.1 _ hv.tr.1 _ _ _ _ _ _ hp
  have ef : f.2.2.1 = if ndT (sgN x f.1) = 0 then (-2 : Int) else ((0 + o : Nat) : Int) := by
    rw [e4]
    rfl
  by_cases u : ndT (sgN x f.1) = 0
  · rw [if_pos u] at ef
    exact Or.inl ⟨u, ef⟩
  · rw [if_neg u] at ef
    rcases a1 with w | ⟨t, t1, t2, t3⟩
    · omega
    · refine Or.inr ⟨t2, ?_, ?_⟩
      · unfold fsT
        rw [ffA_at hp, t1, Int.toNat_natCast]
      · unfold fsT
        rw [ffA_at hp, t1, Int.toNat_natCast]
        exact t3
theorem t_startOf {x : Sg} {p : Nat} {f : Fl} {I : zI} {K : Int32 → Prop} (hv : Iv x) (hR : RX I x) (hp : (FF x)[p]? = some f) (ht : f.2.2.1 = (fsT x p : Int)) (htl : fsT x p < nG x) (h : K (zi (spS x p))) : w_Desk_startOf (zi f.1) I K := by
  obtain ⟨s, hA⟩ := hR.now
  have hm := hv.2.2.2.1
  have l100 : nG x ≤ 100 := hv.2.2.2.2.2.2.2.1.2.1.2.2
  unfold w_Desk_startOf
  refine s_now hA.1 hA.2.1 ?_
  refine s_firstOf hR.2.1 (by omega) hR.2.2.1.2.1 hv.fg.1 hp ?_
  rw [ht, zi_int]
  refine (w_get (by decide)).mpr ?_
  rw [rg_in (by decide) (show fsT x p < 100 by omega), show I.1 (zmom s + 16 + 1) (fsT x p) = zi (tkG x (fsT x p)).2.1 from hA.2.2.2.2.2.2.2.2.1 _ _ (tkG_at htl)]
  exact h
theorem t_endOf {x : Sg} {p : Nat} {f : Fl} {I : zI} {K : Int32 → Prop} (hv : Iv x) (hR : RX I x) (hp : (FF x)[p]? = some f) (ht : f.2.2.1 = (fsT x p : Int)) (h1 : 1 ≤ ndT (sgN x f.1)) (htl : fsT x p + ndT (sgN x f.1) < nG x) (h : K (zi (spE x p))) : w_Desk_endOf (zi f.1) I K := by
  obtain ⟨s, hA⟩ := hR.now
  have hm := hv.2.2.2.1
  have l100 : nG x ≤ 100 := hv.2.2.2.2.2.2.2.1.2.1.2.2
  have flt := (hv.fg.1.2 _ _ hp).1
  have hla : fsT x p + ndT (sgN x f.1) - 1 = laT x p := by
    unfold laT
    rw [ffA_at hp]
  have hll : laT x p < nG x := by omega
  unfold w_Desk_endOf
  refine s_now hA.1 hA.2.1 ?_
  refine s_firstOf hR.2.1 (by omega) hR.2.2.1.2.1 hv.fg.1 hp ?_
  rw [ht, zi_int]
  refine (w_get (by decide)).mpr ?_
  rw [rg_in (by decide) (show f.1 < 3400 by omega), show I.1 (31 + 1) f.1 = zi (ndT (sgN x f.1)) from (hR.2.1.2 _ flt).2.2.2.1]
  intro v ev
  rw [zi_add, show zi (fsT x p + ndT (sgN x f.1)) - 1 = zi (fsT x p + ndT (sgN x f.1) - 1) from zi_sub (b := 1) (by omega), hla] at ev
  rw [ev]
  have hx := tkG_at hll
  refine (w_get (by decide)).mpr ?_
  rw [rg_in (by decide) (show laT x p < 100 by omega), show I.1 (zmom s + 16 + 1) (laT x p) = zi (tkG x (laT x p)).2.1 from hA.2.2.2.2.2.2.2.2.1 _ _ hx]
  refine (w_get (by decide)).mpr ?_
  rw [rg_in (by decide) (show laT x p < 100 by omega), show I.1 (zmom s + 14 + 1) (laT x p) = zi (moO (sgC x) (laT x p)) from hA.2.2.2.2.2.2.2.1 _ hll]
  obtain ⟨t1, t2⟩ := hv.tr.2.2.2.2.1 _ hll
  obtain ⟨n1, n2, n3, n4, n5, n6, n7⟩ := hR.2.1.2 _ t1
  refine (w_get (by decide)).mpr ?_
  rw [rg_in (by decide) (show moO (sgC x) (laT x p) < 3400 by omega), show I.1 (35 + 1) (moO (sgC x) (laT x p)) = zi (tkG x (laT x p)).2.2 by
    rw [show (35 + 1 : Nat) = 36 from rfl, (n7 (by omega)).1, (hv.2.2.2.2.2.2.2.1.2.2.2.2 _ _ hx).2, tkBs_len], zi_add]
  exact h
theorem t_span {x : Sg} {a b : Int32} {I : zI} {K : Int32 → Prop} (hv : Iv x) (hR : RX I x) (h : K (vSpan x a b)) : w_Desk_span a b I K := by
  have hm := hv.2.2.2.1
  unfold w_Desk_span
  unfold vSpan at h
  intro P9 h9
  have yes : ∀ k : Nat, k < 2 → b = zi k → P9 := fun k hk ek => by
    rw [ek, ixI_some (by decide) hk] at h
    dsimp only at h
    refine h9 (t_holds hv hR (fun p f hp e hlt e2 => ?_) (fun e => ?_))
    · rw [e2] at h
      dsimp only at h
      rw [ffA_at hp] at h
      rw [if_neg (by decide), e]
      refine s_firstOf hR.2.1 (by omega) hR.2.2.1.2.1 hv.fg.1 hp ?_
      rcases ff_fst hv hp with ⟨f1, f2⟩ | ⟨f1, f2, f3⟩
      · rw [if_pos f1] at h
        rw [f2, if_neg (by decide)]
        exact h
      · have l100 : nG x ≤ 100 := hv.2.2.2.2.2.2.2.1.2.1.2.2
        rw [if_neg (by omega)] at h
        rw [f2, zi_int, if_pos (zi_ge (by omega)), ek]
        by_cases c : k = 0
        · rw [if_pos c] at h
          rw [if_pos (by rw [c]; rfl)]
          exact t_startOf hv hR hp f2 (by omega) h
        · rw [if_neg c] at h
          rw [if_neg (show ¬ zi k = 0 from zi_ne (b := 0) (by omega) (by decide) c)]
          exact t_endOf hv hR hp f2 f1 f3 (t_startOf hv hR hp f2 (by omega) h)
    · rw [e] at h
      rw [if_pos rfl]
      exact h
  by_cases c0 : b = 0
  · rw [if_pos c0]
    exact yes 0 (by decide) c0
  rw [if_neg c0]
  by_cases c1 : b = 1
  · rw [if_pos c1]
    exact yes 1 (by decide) c1
  rw [if_neg c1]
  have : ixI 2 b = none := by
    rcases ix_cs (n := 2) (by decide) b with ⟨k, hk, e, e2⟩ | ⟨e, -⟩
    · match k, hk with
      | 0, _ => exact absurd e c0
      | 1, _ => exact absurd e c1
    · exact e
  rw [this] at h
  exact h
theorem u_first {x : Sg} {p : Nat} {f : Fl} {I : zI} (hv : Iv x) (hR : RM I x) (hp : (FF x)[p]? = some f) (ht : f.2.2.1 = (fsT x p : Int)) : I.1 526 f.1 = zi (fsT x p) := by
  obtain ⟨-, -, o, o1, o2, o3⟩ := (hR.view hv).2.2.2.2.1.2.1.2.1 p f (List.getElem?_eq_some_iff.mp hp).1 hp
  have := o3 (by omega)
  rw [o2, show o = fsT x p by omega]
theorem u_beginOf {x : Sg} {p : Nat} {f : Fl} {I : zI} {K : Int32 → Prop} (hv : Iv x) (hR : RM I x) (hp : (FF x)[p]? = some f) (ht : f.2.2.1 = (fsT x p : Int)) (htl : fsT x p < nG x) (h : K (zi (spS x p))) : w_M_beginOf (zi f.1) I K := by
  have V := hR.view hv
  have hm := V.2.2.1
  have l100 : nG x ≤ 100 := hv.2.2.2.2.2.2.2.1.2.1.2.2
  have flt := (hv.fg.1.2 _ _ hp).1
  have hU := hR.2.2.2.2.2.2.2.1.2.2.2.2.2.2.1
  unfold w_M_beginOf
  rw [zi_tn (show f.1 < 2147483648 by omega), u_first hv hR hp ht, zi_tn (show fsT x p < 2147483648 by omega), (hU.2 _ _ (tkG_at htl)).2.1]
  exact ⟨(zin_iff (by omega)).mpr (by omega), (zin_iff (by omega)).mpr (by omega), h⟩
theorem u_endOf {x : Sg} {p : Nat} {f : Fl} {I : zI} {K : Int32 → Prop} (hv : Iv x) (hR : RM I x) (hp : (FF x)[p]? = some f) (ht : f.2.2.1 = (fsT x p : Int)) (h1 : 1 ≤ ndT (sgN x f.1)) (htl : fsT x p + ndT (sgN x f.1) < nG x) (h : K (zi (spE x p))) : w_M_endOf (zi f.1) I K := by
  have V := hR.view hv
  have hm := V.2.2.1
  have l100 : nG x ≤ 100 := hv.2.2.2.2.2.2.2.1.2.1.2.2
  have flt := (hv.fg.1.2 _ _ hp).1
  have hU := hR.2.2.2.2.2.2.2.1.2.2.2.2.2.2.1
  have hla : fsT x p + ndT (sgN x f.1) - 1 = laT x p := by
    unfold laT
    rw [ffA_at hp]
  have hll : laT x p < nG x := by omega
  have hin : vp_in (zi f.1) 3700 := (zin_iff (by omega)).mpr (by omega)
  have hi2 : vp_in (zi (laT x p)) 110 := (zin_iff (by omega)).mpr (by omega)
  obtain ⟨q1, q2, q3, -⟩ := hU.2 _ _ (tkG_at hll)
  unfold w_M_endOf
  rw [zi_tn (show f.1 < 2147483648 by omega), u_first hv hR hp ht, show I.1 515 f.1 = zi (ndT (sgN x f.1)) from (V.1.2 _ flt).2.2.1, zi_add, show zi (fsT x p + ndT (sgN x f.1)) - 1 = zi (fsT x p + ndT (sgN x f.1) - 1) from zi_sub (b := 1) (by omega), hla]
  refine ⟨hin, hin, fun v ev => ?_⟩
  rw [ev, zi_tn (show laT x p < 2147483648 by omega), q2, q3, zi_add]
  exact ⟨hi2, hi2, h⟩
theorem u_span {x : Sg} {a b : Int32} {I : zI} {K : Int32 → Prop} (hv : Iv x) (hR : RM I x) (h : K (vSpan x a b)) : w_M_span a b I K := by
  have V := hR.view hv
  have hm := V.2.2.1
  have l100 : nG x ≤ 100 := hv.2.2.2.2.2.2.2.1.2.1.2.2
  unfold w_M_span
  unfold vSpan at h
  have no : ∀ K2 : Prop, (K2 ↔ K (-1)) → (inT x a = none ∨ ixI 2 b = none) → K2 := fun K2 hk u => by
    refine hk.mpr ?_
    rcases u with u | u
    · rw [u] at h
      cases e : ixI 2 b with
      | none =>
        rw [e] at h
        exact h
      | some k =>
        rw [e] at h
        exact h
    · rw [u] at h
      exact h
  refine u_isIn hv hR (fun p f hp e hlt e2 => ?_) (fun e => ?_)
  · rw [if_neg (by decide), e, zi_tn (show f.1 < 2147483648 by omega), show I.1 515 f.1 = zi (ndT (sgN x f.1)) from (V.1.2 _ hlt).2.2.1]
    refine ⟨(zin_iff (by omega)).mpr (by omega), ?_⟩
    have hT := hv.2.2.2.2.1 _ hlt
    rw [e2] at h
    dsimp only at h
    rw [ffA_at hp] at h
    by_cases u : ndT (sgN x f.1) = 0
    · rw [if_pos (show zi (ndT (sgN x f.1)) = 0 by rw [u]; rfl)]
      cases e3 : ixI 2 b with
      | none =>
        rw [e3] at h
        exact h
      | some k =>
        rw [e3] at h
        dsimp only at h
        rw [if_pos u] at h
        exact h
    · rw [if_neg (show ¬ zi (ndT (sgN x f.1)) = 0 from zi_ne (b := 0) (by omega) (by decide) u)]
      refine u_in (n := 2) (by decide) (fun k hk ek e3 => ?_) (fun e3 => ?_)
      · rw [e3] at h
        dsimp only at h
        rw [if_neg u] at h
        rw [if_neg (by decide), ek]
        rcases ff_fst hv hp with ⟨f1, f2⟩ | ⟨f1, f2, f3⟩
        · omega
        · by_cases c : k = 0
          · rw [if_pos c] at h
            rw [if_pos (by rw [c]; rfl)]
            exact u_beginOf hv hR hp f2 (by omega) h
          · rw [if_neg c] at h
            rw [if_neg (show ¬ zi k = 0 from zi_ne (b := 0) (by omega) (by decide) c)]
            exact u_endOf hv hR hp f2 f1 f3 (u_beginOf hv hR hp f2 (by omega) h)
      · rw [if_pos rfl]
        rw [e3] at h
        exact h
  · rw [if_pos rfl]
    exact no _ Iff.rfl (Or.inl e)
