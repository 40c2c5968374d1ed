/-! young -/
def cntE (x : Sg) : Nat → Nat → Nat
  | 0, _ => 0
  | d + 1, p => (if ndB (sgN x (ffA x p).1) = sgE x then 1 else 0) + cntE x d (p + 1)
def yngV (x : Sg) (p : Nat) : Int32 := zi (cntE x (ffA x p).2.2.2.2 p)
def vYoung (x : Sg) (a : Int32) : Int32 := match ixI (rnR x).length a with
  | some k => (match plT x ((rnR x).getD k 0) with
    | some p => yngV x p
    | none => -1)
  | none => -1
/-- by which EDIT: a small number -/
def Eb (x : Sg) : Prop := sgE x < 2000000 ∧ ∀ c, c < sgM x → ndB (sgN x c) < 2000000
theorem Ev.eb {x : Sg} (hv : Iv x) (h : Ev x) : Eb x := by
  have := hv.2.2.2.2.2.2.1
  exact ⟨by omega, fun c hc => by have := h.1 c hc; omega⟩
theorem cntE_le {x : Sg} : ∀ d p, cntE x d p ≤ d
  | 0, _ => Nat.le_refl _
  | d + 1, p => by
    unfold cntE
    have := cntE_le (x := x) d (p + 1)
    split <;> omega
theorem t_madeIn {x : Sg} {p : Nat} {f : Fl} {I : zI} {K : Int32 → Prop} (hv : Iv x) (hb : Eb x) (hR : RX I x) (hp : (FF x)[p]? = some f) (he : 1 ≤ sgE x) (h : K (yngV x p)) : w_TreeView_madeWithin (zi f.1) (zi (sgE x)) I K := by
  have hm := hv.2.2.2.1
  have f248 := hv.f248
  obtain ⟨hb1, hb2⟩ := hb
  unfold w_TreeView_madeWithin
  obtain ⟨z1, z2⟩ := ff_sz hv hp
  refine t_placeB hv hR hp (t_place hv hR hp ?_)
  intro P19 h19
  have main : ∀ (d q n : Nat), q + d = p + f.2.2.2.2 → K (zi (n + cntE x d q)) → P19 (zi n) (zi q) := by
    intro d
    induction d with
    | zero =>
      intro q n hq hK
      refine h19 _ _ ?_
      rw [if_pos ((zi_le (by omega) (by omega)).mpr (by omega))]
      exact hK
    | succ d ih =>
      intro q n hq hK
      refine h19 _ _ ?_
      have hx := ffA_is (x := x) (p := q) (by omega)
      have hlt' := (hv.fg.1.2 q _ hx).1
      have hb3 := hb2 _ hlt'
      rw [if_neg (nle_zi (by omega) (by omega))]
      intro P56 h56
      rw [if_neg (show ¬ zi (sgE x) ≤ 0 from fun w => by
        have := (zi_le (b := 0) (by omega) (by decide)).mp w
        omega)]
      refine (w_get (by decide)).mpr ?_
      rw [rg_in (by decide) (show q < 400 by omega), show I.1 (44 + 1) q = zi (ffA x q).1 from (hR.2.2.1.2.1.2 q _ hx).1]
      refine (w_get (by decide)).mpr ?_
      rw [rg_in (by decide) (show (ffA x q).1 < 3400 by omega), show I.1 (33 + 1) (ffA x q).1 = zi (ndB (sgN x (ffA x q).1)) from (hR.2.1.2 _ hlt').2.2.2.2.1]
      unfold cntE at hK
      by_cases c : ndB (sgN x (ffA x q).1) = sgE x
      · rw [if_pos c] at hK
        rw [if_pos (by rw [c])]
        intro v ev
        refine h56 _ (fun v' ev' => ?_)
        rw [ev', ev, zi_succ, zi_succ]
        refine ih (q + 1) (n + 1) (by omega) ?_
        rw [Nat.add_assoc]
        exact hK
      · rw [if_neg c, Nat.zero_add] at hK
        rw [if_neg (zi_ne (by omega) (by omega) c)]
        refine h56 _ (fun v' ev' => ?_)
        rw [ev', zi_succ]
        exact ih (q + 1) n (by omega) hK
  refine main f.2.2.2.2 p 0 rfl ?_
  rw [Nat.zero_add]
  unfold yngV at h
  rw [ffA_at hp] at h
  exact h
theorem u_youngB {x : Sg} {p : Nat} {f : Fl} {I : zI} {K : Int32 → Prop} (hv : Iv x) (hb : Eb x) (hR : RM I x) (hp : (FF x)[p]? = some f) (h : K (yngV x p)) : w_M_youngBelow (zi p) I K := by
  have V := hR.view hv
  have hm := V.2.2.1
  have f248 := hv.f248
  obtain ⟨hb1, hb2⟩ := hb
  obtain ⟨z1, z2⟩ := ff_sz hv hp
  have hin : vp_in (zi p) 700 := (zin_iff (by omega)).mpr (by omega)
  have e522 : I.1 522 p = zi (p + f.2.2.2.2) := (V.2.2.2.2.1.2.2.1 p f hp).1
  have e36 : I.1 491 36 = zi (sgE x) := hR.2.2.2.2.1.1
  intro P4 h4
  have main : ∀ (d q n : Nat), q + d = p + f.2.2.2.2 → K (zi (n + cntE x d q)) → P4 (zi n) (zi q) := by
    intro d
    induction d with
    | zero =>
      intro q n hq hK
      refine h4 _ _ ⟨hin, ?_⟩
      rw [zi_tn (show p < 2147483648 by omega), e522, if_pos ((zi_le (by omega) (by omega)).mpr (by omega))]
      exact hK
    | succ d ih =>
      intro q n hq hK
      refine h4 _ _ ⟨hin, ?_⟩
      have hx := ffA_is (x := x) (p := q) (by omega)
      have hql := (List.getElem?_eq_some_iff.mp hx).1
      have hlt' := (hv.fg.1.2 q _ hx).1
      have hb3 := hb2 _ hlt'
      rw [zi_tn (show p < 2147483648 by omega), e522, if_neg (nle_zi (by omega) (by omega)), zi_tn (show q < 2147483648 by omega), show I.1 521 q = zi (ffA x q).1 from (V.2.2.2.2.1.2.1.2.1 q _ hql hx).1]
      refine ⟨(zin_iff (by omega)).mpr (by omega), (zin_iff (by omega)).mpr (by omega), ?_⟩
      rw [zi_tn (show (ffA x q).1 < 2147483648 by omega), show I.1 516 (ffA x q).1 = zi (ndB (sgN x (ffA x q).1)) from (V.1.2 _ hlt').2.2.2.1, e36]
      intro P35 h35
      unfold cntE at hK
      by_cases c : ndB (sgN x (ffA x q).1) = sgE x
      · rw [if_pos c] at hK
        rw [if_pos (by rw [c])]
        intro v ev
        refine h35 _ (fun v' ev' => ?_)
        rw [ev', ev, zi_succ, zi_succ]
        refine ih (q + 1) (n + 1) (by omega) ?_
        rw [Nat.add_assoc]
        exact hK
      · rw [if_neg c, Nat.zero_add] at hK
        rw [if_neg (zi_ne (by omega) (by omega) c)]
        refine h35 _ (fun v' ev' => ?_)
        rw [ev', zi_succ]
        exact ih (q + 1) n (by omega) hK
  refine main f.2.2.2.2 p 0 rfl ?_
  rw [Nat.zero_add]
  unfold yngV at h
  rw [ffA_at hp] at h
  exact h
theorem rnR_in {x : Sg} (hv : Iv x) {k : Nat} (hk : k < (rnR x).length) : ∃ p f, (FF x)[p]? = some f ∧ f.1 = (rnR x).getD k 0 ∧ plT x ((rnR x).getD k 0) = some p := by
  have hm := List.mem_of_getElem? (rnR_at hk)
  change (rnR x).getD k 0 ∈ rnL (sgN x) (FF x) 400 0 at hm
  obtain ⟨f, f1, f2, -⟩ := rnL_mem 400 0 _ hm
  obtain ⟨p, hp⟩ := List.mem_iff_getElem?.mp f1
  exact ⟨p, f, hp, f2, by rw [← f2]; exact plT_at hv hp⟩
theorem t_young {x : Sg} {a : Int32} {I : zI} {K : Int32 → Prop} (hv : Iv x) (hw : Ev x) (hR : RX I x) (h : K (vYoung x a)) : w_Desk_young a I K := by
  have l := rnR_99 hv
  unfold w_Desk_young
  unfold vYoung at h
  refine t_hasRun hv hR (fun k hk e e2 => ?_) (fun e => ?_)
  · rw [e2] at h
    dsimp only at h
    obtain ⟨p, f, a1, a2, a3⟩ := rnR_in hv hk
    rw [a3] at h
    dsimp only at h
    rw [if_neg (by decide), e]
    refine (w_get (by decide)).mpr ?_
    rw [rg_in (by decide) (show k < 100 by omega), show I.1 (62 + 1) k = zi ((rnR x).getD k 0) from hR.2.2.1.2.2.2.1.2 k _ (rnR_at hk), ← a2, show I.1 0 7 = zi (sgE x) from hR.2.2.2.2.1.1]
    refine t_madeIn hv (hw.eb hv) hR a1 (Nat.pos_of_ne_zero (fun u => ?_)) h
    rw [show rnR x = [] from (hw.2.2 u).1] at hk
    exact absurd hk (Nat.not_lt_zero _)
  · rw [e] at h
    rw [if_pos rfl]
    exact h
theorem u_young {x : Sg} {a : Int32} {I : zI} {K : Int32 → Prop} (hv : Iv x) (hw : Ev x) (hR : RM I x) (h : K (vYoung x a)) : w_M_young a I K := by
  have l := rnR_99 hv
  have V := hR.view hv
  have hm := V.2.2.1
  have f248 := hv.f248
  unfold w_M_young
  unfold vYoung at h
  refine u_isRun hv hR (fun k hk e e2 => ?_) (fun e => ?_)
  · rw [e2] at h
    dsimp only at h
    obtain ⟨p, f, a1, a2, a3⟩ := rnR_in hv hk
    rw [a3] at h
    dsimp only at h
    have hlt := (hv.fg.1.2 p f a1).1
    have hpl := (List.getElem?_eq_some_iff.mp a1).1
    rw [if_neg (by decide), e, zi_tn (show k < 2147483648 by omega), show I.1 528 k = zi ((rnR x).getD k 0) from hR.2.2.1.2.2.2.2.2.1 k _ (rnR_at hk), ← a2, zi_tn (show f.1 < 2147483648 by omega), show I.1 523 f.1 = zi p from (V.2.2.2.2.1.2.1.2.1 p f hpl a1).2.1]
    exact ⟨(zin_iff (by omega)).mpr (by omega), (zin_iff (by omega)).mpr (by omega), u_youngB hv (hw.eb hv) hR a1 h⟩
  · rw [e] at h
    rw [if_pos rfl]
    exact h
/-! path -/
def upsF (x : Sg) : Nat → Nat → Nat
  | 0, p => p
  | d + 1, p => upsF x d (ffA x p).2.1
def vPath (x : Sg) (a b : Int32) : Int32 := match ixI (nG x) a with
  | some i => if i + 1 < nG x then (match plT x (moO (sgC x) i) with
    | some p => (match ixI (ffA x p).2.2.2.1 b with
      | some k => zi (ffA x (upsF x ((ffA x p).2.2.2.1 - 1 - k) p)).1
      | none => -1)
    | none => -1) else -1
  | none => -1
/-- how deep it is: one more than what is above it -/
theorem ff_dep {x : Sg} (hv : Iv x) {p : Nat} {f : Fl} (hp : (FF x)[p]? = some f) : (p = 0 → f.2.2.2.1 = 1) ∧ (1 ≤ p → f.2.1 < p ∧ (FF x)[f.2.1]? = some (ffA x f.2.1) ∧ f.2.2.2.1 = (ffA x f.2.1).2.2.2.1 + 1) := by
  obtain ⟨d1, d2⟩ := fl_dep hv.2.1 hv.tr.1 p f hp
  refine ⟨d2.mpr, fun u => ?_⟩
  obtain ⟨-, b2, -⟩ := fl_in hv.2.1 _ hv.tr.1 _ _ _ _ _ _ hp
  obtain ⟨y, i', y1, y2, y3, y4, y5⟩ := b2 u
  rw [Nat.zero_add] at y2
  have y3' : (FF x)[i']? = some y := y3
  rw [← y2] at y3' y1
  rw [ffA_at y3']
  exact ⟨y1, y3', y5⟩
theorem ff_dle {x : Sg} (hv : Iv x) : ∀ (p : Nat) (f : Fl), (FF x)[p]? = some f → 1 ≤ f.2.2.2.1 ∧ f.2.2.2.1 ≤ p + 1 := by
  intro p
  induction p using Nat.strongRecOn with
  | ind p ih =>
    intro f hp
    obtain ⟨d1, d2⟩ := ff_dep hv hp
    by_cases u : p = 0
    · rw [d1 u]
      omega
    · obtain ⟨a1, a2, a3⟩ := d2 (by omega)
      have := ih _ a1 _ a2
      omega
theorem sub_neg {j k : Nat} (hj : j < 2147483648) (hk : k < 2147483648) (h : j < k) : zi j - zi k < 0 := by
  refine Int32.lt_iff_toInt_lt.mpr ?_
  rw [Int32.toInt_sub, zi_toInt hj, zi_toInt hk, Int.bmod_eq_of_le (by omega) (by omega), show (0 : Int32).toInt = 0 from rfl]
  omega
theorem t_path {x : Sg} {a b : Int32} {I : zI} {K : Int32 → Prop} (hv : Iv x) (hR : RX I x) (h : K (vPath x a b)) : w_Desk_path a b I K := by
  obtain ⟨s, hA⟩ := hR.now
  have hm := hv.2.2.2.1
  have l100 : nG x ≤ 100 := hv.2.2.2.2.2.2.2.1.2.1.2.2
  have f248 := hv.f248
  refine s_now hA.1 hA.2.1 ?_
  unfold vPath at h
  refine t_hasGood (n := nG x) (by omega) hA.2.2.2.2.2.2.1 (fun i hi e e2 => ?_) (fun e => ?_)
  · rw [e2] at h
    dsimp only at h
    rw [if_neg (by decide), e, show I.1 (zmom s) 6 = zi (nG x) from hA.2.2.2.2.2.2.1, show zi (nG x) - 1 = zi (nG x - 1) from zi_sub (b := 1) (by omega)]
    by_cases u : i + 1 < nG x
    · rw [if_pos u] at h
      obtain ⟨p, f, a1, a2, a3, a4, a5⟩ := tok_pl hv u
      rw [a5] at h
      dsimp only at h
      rw [ffA_at a1] at h
      obtain ⟨d1, d2⟩ := ff_dle hv p f a1
      have hp := (List.getElem?_eq_some_iff.mp a1).1
      have hlt := (hv.fg.1.2 p f a1).1
      rw [if_neg (zi_ne (by omega) (by omega) (by omega))]
      refine (w_get (by decide)).mpr ?_
      rw [rg_in (by decide) (show i < 100 by omega), show I.1 (zmom s + 14 + 1) i = zi (moO (sgC x) i) from hA.2.2.2.2.2.2.2.1 i hi, ← a2]
      unfold w_TreeView_wayDown
      refine t_place hv hR a1 ?_
      refine (w_get (by decide)).mpr ?_
      rw [rg_in (by decide) (show p < 400 by omega), show I.1 (52 + 1) p = zi f.2.2.2.1 from (hR.2.2.1.2.2.1 p f a1).1, show zi f.2.2.2.1 - 1 = zi (f.2.2.2.1 - 1) from zi_sub (b := 1) d1]
      intro v3 ev3
      rcases ix_cs (n := f.2.2.2.1) (by omega) b with ⟨k, hk, rfl, eb⟩ | ⟨eb, c | ⟨c, d⟩⟩
      · rw [eb] at h
        dsimp only at h
        rw [zi_sub (by omega)] at ev3
        rw [if_neg (zi_pos (by omega)), ev3, if_pos (zi_ge (by omega))]
        intro P36 h36
        have main : ∀ (d q v : Nat) (g : Fl), v + d = f.2.2.2.1 - 1 - k → (FF x)[q]? = some g → d < g.2.2.2.1 → K (zi (ffA x (upsF x d q)).1) → P36 (zi g.1) (zi v) := by
          intro d
          induction d with
          | zero =>
            intro q v g hvd hq hd hK
            refine h36 _ _ ?_
            rw [if_pos ((zi_le (by omega) (by omega)).mpr (by omega))]
            change K (zi (ffA x q).1) at hK
            rw [ffA_at hq] at hK
            exact hK
          | succ d ih =>
            intro q v g hvd hq hd hK
            refine h36 _ _ ?_
            rw [if_neg (nle_zi (by omega) (by omega))]
            obtain ⟨e1, e2⟩ := ff_dep hv hq
            refine t_parP hv hR hq (fun w => ?_) (fun z1 z2 z3 v' ev => ?_)
            · have := e1 w
              omega
            · rw [ev, zi_succ]
              have := (e2 z1).2.2
              change K (zi (ffA x (upsF x d (ffA x q).2.1)).1) at hK
              rw [ffA_at hq] at hK
              exact ih _ (v + 1) _ (by omega) z3 (by omega) hK
        exact main _ p 0 f (by omega) a1 (by omega) h
      · rw [eb] at h
        rw [if_pos c]
        exact h
      · rw [eb] at h
        obtain ⟨k, hk, rfl⟩ := zi_of (Int32.not_lt.mp c)
        have hk2 := (zi_le (by omega) hk).mp d
        rw [if_neg c, if_neg (fun w => by
          rw [ev3] at w
          exact absurd (sub_neg (j := f.2.2.2.1 - 1) (by omega) hk (by omega)) (Int32.not_lt.mpr w))]
        exact h
    · rw [if_neg u] at h
      rw [if_pos (show zi i = zi (nG x - 1) by rw [show i = nG x - 1 by omega])]
      exact h
  · rw [e] at h
    rw [if_pos rfl]
    exact h
theorem u_deep {x : Sg} {p : Nat} {f : Fl} {I : zI} {K : Int32 → Prop} (hv : Iv x) (hR : RM I x) (hp : (FF x)[p]? = some f) (h : K (zi f.2.2.2.1)) : w_M_deepOf (zi f.1) I K := s_deepOf (hR.view hv) ⟨f, hp, rfl, rfl⟩ h
theorem u_path {x : Sg} {a b : Int32} {I : zI} {K : Int32 → Prop} (hv : Iv x) (hR : RM I x) (h : K (vPath x a b)) : w_M_path a b I K := by
  have V := hR.view hv
  have hm := V.2.2.1
  have l100 : nG x ≤ 100 := hv.2.2.2.2.2.2.2.1.2.1.2.2
  have f248 := hv.f248
  unfold vPath at h
  unfold w_M_path w_M_isInner
  rw [show I.1 491 19 = zi (nG x) from V.2.2.2.2.2.1]
  have e1 : zi (nG x) - 2 = zi (nG x - 1) - 1 := by
    have n1 : 1 ≤ nG x := hv.tr.2.2.2.2.2.2.1
    rw [show zi (nG x - 1) = zi (nG x) - 1 from (zi_sub (b := 1) n1).symm, Int32.sub_sub]
    rfl
  rw [e1]
  refine u_in (by omega) (fun i hi e e2 => ⟨Or.inr rfl, ?_⟩) (fun e => ⟨Or.inl rfl, ?_⟩)
  · have u : i + 1 < nG x := by omega
    rw [e, ixI_some (by omega) (show i < nG x by omega)] at h
    dsimp only at h
    rw [if_pos u] at h
    obtain ⟨p, f, a1, a2, a3, a4, a5⟩ := tok_pl hv u
    rw [a5] at h
    dsimp only at h
    rw [ffA_at a1] at h
    obtain ⟨d1, d2⟩ := ff_dle hv p f a1
    have hp := (List.getElem?_eq_some_iff.mp a1).1
    have hin : vp_in (zi i) 110 := (zin_iff (by omega)).mpr (by omega)
    show if (1 : Int32) = 0 then K (-1) else _
    rw [if_neg (by decide), e, zi_tn (show i < 2147483648 by omega), V.2.2.2.2.2.2.1 i (show i < nG x by omega), ← a2]
    refine ⟨hin, u_deep hv hR a1 ?_⟩
    refine u_in (by omega) (fun k hk eb e3 => ?_) (fun eb => ?_)
    · rw [e3] at h
      dsimp only at h
      rw [if_neg (by decide), eb]
      refine ⟨hin, fun v4 ev4 v5 ev5 => ?_⟩
      rw [show zi f.2.2.2.1 - 1 = zi (f.2.2.2.1 - 1) from zi_sub (b := 1) d1] at ev5
      rw [ev4, ev5]
      intro P47 h47
      have main : ∀ (d q : Nat) (g : Fl), (FF x)[q]? = some g → d < g.2.2.2.1 → K (zi (ffA x (upsF x d q)).1) → d + k < 1000 → P47 (zi g.1) (zi (d + k)) := by
        intro d
        induction d with
        | zero =>
          intro q g hq hd hK hlt
          refine h47 _ _ ?_
          rw [if_pos ((zi_le (by omega) (by omega)).mpr (by omega))]
          change K (zi (ffA x q).1) at hK
          rw [ffA_at hq] at hK
          exact hK
        | succ d ih =>
          intro q g hq hd hK hlt
          have glt := (hv.fg.1.2 q g hq).1
          refine h47 _ _ ?_
          rw [if_neg (nle_zi (by omega) (by omega))]
          refine ⟨(zin_iff (by omega)).mpr (by omega), fun v ev v' ev' => ?_⟩
          rw [zi_tn (show g.1 < 2147483648 by omega)] at ev
          obtain ⟨e1, e2⟩ := ff_dep hv hq
          rcases u_parP hv hR hq with ⟨z1, z2⟩ | ⟨z1, z2, z3, z4, -⟩
          · have := e1 z1
            omega
          · rw [zi_pred (by omega)] at ev'
            rw [ev, z4, ev', show d + 1 + k - 1 = d + k by omega]
            have := (e2 z1).2.2
            change K (zi (ffA x (upsF x d (ffA x q).2.1)).1) at hK
            rw [ffA_at hq] at hK
            exact ih _ _ z3 (by omega) hK (by omega)
      have := main (f.2.2.2.1 - 1 - k) p f a1 (by omega) h (by omega)
      rw [show f.2.2.2.1 - 1 - k + k = f.2.2.2.1 - 1 by omega] at this
      exact this
    · rw [eb] at h
      rw [if_pos rfl]
      exact h
  · show if (0 : Int32) = 0 then K (-1) else _
    rw [if_pos rfl]
    cases e2 : ixI (nG x) a with
    | none =>
      rw [e2] at h
      exact h
    | some i =>
      rw [e2] at h
      dsimp only at h
      rw [if_neg (fun u => ?_)] at h
      · exact h
      · rcases ix_cs (n := nG x) (by omega) a with ⟨j, hj, ea, e3⟩ | ⟨e3, -⟩
        · rw [e2] at e3
          cases e3
          rw [ea, ixI_some (by omega) (by omega)] at e
          cases e
        · rw [e2] at e3
          cases e3
