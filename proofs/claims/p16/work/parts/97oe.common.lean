/-! common -/
/-- a CHILD's place, and its first token -/
theorem ch_fst {x : Sg} (hv : Iv x) {q j z : Nat} {g : Fl} (hq : (FF x)[q]? = some g) (hj : (ndC (sgN x g.1))[j]? = some z) : ∃ p f, (FF x)[p]? = some f ∧ f.1 = z ∧ (1 ≤ ndT (sgN x z) → 1 ≤ ndT (sgN x g.1) ∧ fsT x p = fsT x q + tkS (sgN x) ((ndC (sgN x g.1)).take j) ∧ fsT x p + ndT (sgN x z) ≤ fsT x q + ndT (sgN x g.1)) := by
  have hN := hv.2.1
  obtain ⟨b1, -, o, -, e4, -, e6⟩ := fl_in hN _ hv.tr.1 _ _ _ _ _ _ hq
  have hgm : g.1 < sgM x := (hv.fg.1.2 q g hq).1
  have hz := hN.lt hgm (List.mem_of_getElem? hj)
  have hzp := sz_pos hN (show z < sgM x by omega)
  have hst := szS_take (N := sgN x) hj
  have hse := sz_eq hN hgm
  have hput := fl_put (q := g.2.1) (p := 0 + q) (t := 0 + o) (dep := g.2.2.2.1) hN hgm hj (show 0 < sz (sgN x) z by omega)
  rw [fl_0 hN (by omega)] at hput
  have hp : (FF x)[q + (1 + szS (sgN x) ((ndC (sgN x g.1)).take j) + 0)]? = some (flH (sgN x) z (0 + q) (0 + o + tkS (sgN x) ((ndC (sgN x g.1)).take j)) (g.2.2.2.1 + 1)) := (e6 _ (by omega)).trans hput
  refine ⟨_, _, hp, rfl, fun h1 => ?_⟩
  have hmem := tkS_mem (N := sgN x) (List.mem_of_getElem? hj)
  have hT := ndT_ch hN hgm hj
  have htk := tkS_take (N := sgN x) hj
  have ef : fsT x (q + (1 + szS (sgN x) ((ndC (sgN x g.1)).take j) + 0)) = 0 + o + tkS (sgN x) ((ndC (sgN x g.1)).take j) := by
    unfold fsT
    rw [ffA_at hp]
    show (if ndT (sgN x z) = 0 then (-2 : Int) else ((0 + o + tkS (sgN x) ((ndC (sgN x g.1)).take j) : Nat) : Int)).toNat = _
    rw [if_neg (by omega), Int.toNat_natCast]
  have eg : fsT x q = 0 + o := by
    have e4' : g.2.2.1 = if ndT (sgN x g.1) = 0 then (-2 : Int) else ((0 + o : Nat) : Int) := by
      rw [e4]
      rfl
    unfold fsT
    rw [ffA_at hq, e4', if_neg (by omega), Int.toNat_natCast]
  exact ⟨by omega, by omega, by omega⟩
def cov (x : Sg) (p k : Nat) : Prop := 1 ≤ ndT (sgN x (ffA x p).1) ∧ fsT x p ≤ k ∧ k < fsT x p + ndT (sgN x (ffA x p).1)
/-- what a node covers the one above it covers, too -/
theorem cov_up {x : Sg} (hv : Iv x) {p k : Nat} {f : Fl} (hp : (FF x)[p]? = some f) (h1 : 1 ≤ p) (h : cov x p k) : cov x f.2.1 k ∧ ∃ j, (ndC (sgN x (ffA x f.2.1).1))[j]? = some f.1 ∧ fsT x p = fsT x f.2.1 + tkS (sgN x) ((ndC (sgN x (ffA x f.2.1).1)).take j) := by
  obtain ⟨j, hj, -, -⟩ := ch_ix hv hp h1
  unfold chU at hj
  rw [ffA_at hp] at hj
  obtain ⟨d1, d2⟩ := ff_dep hv hp
  have hy := (d2 h1).2.1
  obtain ⟨p', f', a1, a2, a3⟩ := ch_fst hv hy hj
  have e := hv.fg.2.1 p' p f' f a1 hp a2
  subst e
  obtain ⟨c1, c2, c3⟩ := h
  rw [ffA_at hp] at c1 c3
  obtain ⟨b1, b2, b3⟩ := a3 c1
  exact ⟨⟨b1, by omega, by omega⟩, j, hj, b2⟩
theorem cov_one {x : Sg} (hv : Iv x) {k : Nat} : ∀ (e p q : Nat) (f g : Fl), (FF x)[p]? = some f → (FF x)[q]? = some g → f.2.2.2.1 = e → g.2.2.2.1 = e → cov x p k → cov x q k → p = q := by
  intro e
  induction e with
  | zero =>
    intro p q f g hp hq he
    have := (ff_dle hv p f hp).1
    omega
  | succ e ih =>
    intro p q f g hp hq hf hg cp cq
    obtain ⟨d1, d2⟩ := ff_dep hv hp
    obtain ⟨d3, d4⟩ := ff_dep hv hq
    by_cases u : p = 0
    · by_cases w : q = 0
      · omega
      · exfalso
        obtain ⟨w1, w2, w3⟩ := d4 (by omega)
        have := d1 u
        have := (ff_dle hv _ _ w2).1
        omega
    · by_cases w : q = 0
      · exfalso
        obtain ⟨w1, w2, w3⟩ := d2 (by omega)
        have := d3 w
        have := (ff_dle hv _ _ w2).1
        omega
      · obtain ⟨u1, u2, u3⟩ := d2 (by omega)
        obtain ⟨w1, w2, w3⟩ := d4 (by omega)
        obtain ⟨cu, j1, hj1, t1⟩ := cov_up hv hp (by omega) cp
        obtain ⟨cw, j2, hj2, t2⟩ := cov_up hv hq (by omega) cq
        have ey := ih _ _ _ _ u2 w2 (by omega) (by omega) cu cw
        rw [← ey] at hj2 t2
        obtain ⟨-, c1, c2⟩ := cp
        obtain ⟨-, c3, c4⟩ := cq
        rw [ffA_at hp] at c2
        rw [ffA_at hq] at c4
        rcases Nat.lt_trichotomy j1 j2 with v | v | v
        · exfalso
          have h1 := tkS_take (N := sgN x) (show ((ndC (sgN x (ffA x f.2.1).1)).take j2)[j1]? = some f.1 by rw [List.getElem?_take, if_pos v]; exact hj1)
          rw [List.take_take, Nat.min_eq_left (by omega)] at h1
          omega
        · subst v
          exact hv.fg.2.1 p q f g hp hq (Option.some.inj (hj1.symm.trans hj2))
        · exfalso
          have h1 := tkS_take (N := sgN x) (show ((ndC (sgN x (ffA x f.2.1).1)).take j1)[j2]? = some g.1 by rw [List.getElem?_take, if_pos v]; exact hj2)
          rw [List.take_take, Nat.min_eq_left (by omega)] at h1
          omega
/-- a token's node covers it alone -/
theorem cov_tok {x : Sg} (hv : Iv x) {k p : Nat} {f : Fl} (hk : k + 1 < nG x) (hp : (FF x)[p]? = some f) (hf : f.1 = moO (sgC x) k) (ht : f.2.2.1 = (k : Int)) (k' : Nat) : cov x p k' ↔ k' = k := by
  have e1 : ndT (sgN x f.1) = 1 := by
    rw [hf]
    obtain ⟨t1, t2⟩ := hv.tr.2.2.2.2.1 k (by omega)
    rcases hv.2.1 _ t1 with ⟨-, -, -, e, -⟩ | ⟨r, s, -, -, e, -⟩
    · exact e
    · omega
  have e2 : fsT x p = k := by
    unfold fsT
    rw [ffA_at hp, ht, Int.toNat_natCast]
  unfold cov
  rw [ffA_at hp, e1, e2]
  omega
/-- nothing deeper than a token's node covers it -/
theorem cov_low {x : Sg} (hv : Iv x) {k pb : Nat} {fb : Fl} (hk : k + 1 < nG x) (hb : (FF x)[pb]? = some fb) (hf : fb.1 = moO (sgC x) k) (ht : fb.2.2.1 = (k : Int)) : ∀ (d p : Nat) (f : Fl), (FF x)[p]? = some f → f.2.2.2.1 = fb.2.2.2.1 + 1 + d → ¬ cov x p k := by
  intro d
  induction d with
  | zero =>
    intro p f hp hd c
    obtain ⟨d1, d2⟩ := ff_dep hv hp
    have hb1 := (ff_dle hv pb fb hb).1
    have h1 : 1 ≤ p := Nat.pos_of_ne_zero (fun u => by
      have := d1 u
      omega)
    obtain ⟨u1, u2, u3⟩ := d2 h1
    obtain ⟨cu, j1, hj1, -⟩ := cov_up hv hp h1 c
    have e := cov_one hv _ _ _ _ _ u2 hb (by omega) rfl cu ((cov_tok hv hk hb hf ht k).mpr rfl)
    rw [e] at hj1
    rw [ffA_at hb, hf] at hj1
    obtain ⟨t1, t2⟩ := hv.tr.2.2.2.2.1 k (by omega)
    rcases hv.2.1 _ t1 with ⟨-, e2, -⟩ | ⟨r, s, -, -, e2, -⟩
    · rw [e2] at hj1
      cases hj1
    · omega
  | succ d ih =>
    intro p f hp hd c
    obtain ⟨d1, d2⟩ := ff_dep hv hp
    have hb1 := (ff_dle hv pb fb hb).1
    have h1 : 1 ≤ p := Nat.pos_of_ne_zero (fun u => by
      have := d1 u
      omega)
    obtain ⟨u1, u2, u3⟩ := d2 h1
    exact ih _ _ u2 (by omega) (cov_up hv hp h1 c).1
def cmnF (x : Sg) (k : Nat) : Nat → Nat → Int32
  | 0, _ => -2
  | d + 1, p => if fsT x p ≤ k ∧ k < fsT x p + ndT (sgN x (ffA x p).1) then zi (ffA x p).1 else if p = 0 then -2 else cmnF x k d (ffA x p).2.1
def vCommon (x : Sg) (a b : Int32) : Int32 := match ixI (nG x) a with
  | some i => (match ixI (nG x) b with
    | some k => if i = k then zi (moO (sgC x) i) else if i + 1 < nG x ∧ k + 1 < nG x then (match plT x (moO (sgC x) i) with
      | some p => cmnF x k ((ffA x p).2.1 + 1) (ffA x p).2.1
      | none => -2) else -2
    | none => -1)
  | none => -1
/-- what is above a node that has TOKENS has TOKENS -/
theorem tk_up {x : Sg} (hv : Iv x) {p : Nat} {f : Fl} (hp : (FF x)[p]? = some f) (h1 : 1 ≤ p) (h : 1 ≤ ndT (sgN x f.1)) : 1 ≤ ndT (sgN x (ffA x f.2.1).1) := (cov_up hv hp h1 (k := fsT x p) ⟨by rw [ffA_at hp]; exact h, Nat.le_refl _, by rw [ffA_at hp]; omega⟩).1.1
theorem cmnF_end {x : Sg} (hv : Iv x) {k : Nat} (hk : nG x ≤ k + 1) : ∀ (d p : Nat), p < (FF x).length → 1 ≤ ndT (sgN x (ffA x p).1) → cmnF x k d p = -2 := by
  intro d
  induction d with
  | zero => exact fun _ _ _ => rfl
  | succ d ih =>
    intro p hp h1
    have hx := ffA_is hp
    unfold cmnF
    rcases ff_fst hv hx with ⟨f1, -⟩ | ⟨f1, f2, f3⟩
    · omega
    · rw [if_neg (by omega)]
      by_cases u : p = 0
      · rw [if_pos u]
      · rw [if_neg u]
        obtain ⟨-, d2⟩ := ff_dep hv hx
        obtain ⟨u1, u2, -⟩ := d2 (by omega)
        exact ih _ (by omega) (tk_up hv hx (by omega) h1)
theorem t_over {x : Sg} {k : Nat} {I : zI} {K : Int32 → Prop} {P9 : Int32 → Int32 → Prop} (hv : Iv x) (hR : RX I x) (hk : k < nG x) (h9 : ∀ (v3_2 : Int32) (v4_3 : Int32), ((if 400 ≤ v4_3 then (K (-2)) else (if v3_2 < 0 then (K (-2)) else (w_TreeView_firstOf v3_2 I (fun r_4 => ∀ (P54 : Prop), ((w_TreeView_parentOf v3_2 I (fun r_5 => ∀ v4_6, v4_6 = (v4_3 + 1) → P9 r_5 v4_6)) → P54) → (if zi k < r_4 then P54 else (w_Row_get 31 3400 v3_2 I (fun r_7 => (if (r_4 + r_7) ≤ zi k then P54 else K v3_2))))))))) → P9 v3_2 v4_3) :
    ∀ (d q v : Nat), q < d → q < (FF x).length → v + d ≤ 400 → 1 ≤ ndT (sgN x (ffA x q).1) → K (cmnF x k d q) → P9 (zi (ffA x q).1) (zi v) := by
  have hm := hv.2.2.2.1
  have l100 : nG x ≤ 100 := hv.2.2.2.2.2.2.2.1.2.1.2.2
  have f248 := hv.f248
  intro d
  induction d with
  | zero =>
    intro q v hq
    omega
  | succ d ih =>
    intro q v hq hql hvd hT hK
    refine h9 _ _ ?_
    have hx := ffA_is hql
    have hlt := (hv.fg.1.2 q _ hx).1
    rw [if_neg (show ¬ (400 : Int32) ≤ zi v from nle_zi (n := 400) (by omega) (by decide)), if_neg (zi_pos (by omega))]
    refine s_firstOf hR.2.1 (by omega) hR.2.2.1.2.1 hv.fg.1 hx ?_
    rcases ff_fst hv hx with ⟨f1, -⟩ | ⟨f1, f2, f3⟩
    · omega
    rw [f2, zi_int]
    intro P54 h54
    unfold cmnF at hK
    have nx : ¬ (fsT x q ≤ k ∧ k < fsT x q + ndT (sgN x (ffA x q).1)) → P54 := fun c => h54 (t_parP hv hR hx (fun w v' ev => by
      rw [if_neg c, if_pos w] at hK
      refine h9 _ _ ?_
      rw [if_pos (show (-2 : Int32) < 0 by decide)]
      split
      · exact hK
      · exact hK) (fun z1 z2 z3 v' ev => by
      rw [if_neg c, if_neg (by omega)] at hK
      rw [ev, zi_succ]
      exact ih _ (v + 1) (by omega) (by omega) (by omega) (tk_up hv hx z1 hT) hK))
    by_cases c1 : fsT x q ≤ k
    · rw [if_neg (fun w => by have := (zi_lt (by omega) (by omega)).mp w; omega)]
      refine (w_get (by decide)).mpr ?_
      rw [rg_in (by decide) (show (ffA x q).1 < 3400 by omega), show I.1 (31 + 1) (ffA x q).1 = zi (ndT (sgN x (ffA x q).1)) from (hR.2.1.2 _ hlt).2.2.2.1, zi_add]
      by_cases c2 : k < fsT x q + ndT (sgN x (ffA x q).1)
      · rw [if_pos ⟨c1, c2⟩] at hK
        rw [if_neg (nle_zi c2 (by omega))]
        exact hK
      · rw [if_pos ((zi_le (by omega) (by omega)).mpr (by omega))]
        exact nx (fun u => c2 u.2)
    · rw [if_pos ((zi_lt (by omega) (by omega)).mpr (by omega))]
      exact nx (fun u => c1 u.1)
theorem t_common {x : Sg} {a b : Int32} {I : zI} {K : Int32 → Prop} (hv : Iv x) (hR : RX I x) (h : K (vCommon x a b)) : w_Desk_common a b I K := by
  obtain ⟨s, hA⟩ := hR.now
  have hm := hv.2.2.2.1
  have l100 : nG x ≤ 100 := hv.2.2.2.2.2.2.2.1.2.1.2.2
  have f248 := hv.f248
  have rep := hR.2.1
  refine s_now hA.1 hA.2.1 ?_
  unfold vCommon at h
  refine t_hasGood (n := nG x) (by omega) hA.2.2.2.2.2.2.1 (fun i hi e e2 => ?_) (fun e => ?_)
  · rw [e2] at h
    dsimp only at h
    rw [if_neg (by decide)]
    refine t_hasGood (n := nG x) (by omega) hA.2.2.2.2.2.2.1 (fun k hk ek e3 => ?_) (fun e3 => ?_)
    · rw [e3] at h
      dsimp only at h
      rw [if_neg (by decide), e, ek]
      refine (w_get (by decide)).mpr ?_
      rw [rg_in (by decide) (show i < 100 by omega), show I.1 (zmom s + 14 + 1) i = zi (moO (sgC x) i) from hA.2.2.2.2.2.2.2.1 i hi]
      by_cases c : i = k
      · rw [if_pos c] at h
        rw [if_pos (by rw [c])]
        exact h
      · rw [if_neg c] at h
        rw [if_neg (zi_ne (by omega) (by omega) c)]
        unfold w_TreeView_lowestOver
        by_cases u : i + 1 < nG x
        · obtain ⟨p, f, a1, a2, a3, a4, a5⟩ := tok_pl hv u
          rw [← a2] at h ⊢
          have hp := (List.getElem?_eq_some_iff.mp a1).1
          have hT : 1 ≤ ndT (sgN x f.1) := ((cov_tok hv u a1 a2 a4 i).mpr rfl).1 |> fun w => by
            rw [ffA_at a1] at w
            exact w
          refine t_parP hv hR a1 (fun w => absurd w (Nat.pos_iff_ne_zero.mp a3)) (fun w1 w2 w3 => ?_)
          intro P9 h9
          have hT2 := tk_up hv a1 w1 hT
          refine t_over hv hR hk h9 (f.2.1 + 1) f.2.1 0 (Nat.lt_succ_self _) (by omega) (by omega) hT2 ?_
          by_cases u2 : k + 1 < nG x
          · rw [if_pos ⟨u, u2⟩, a2, a5] at h
            dsimp only at h
            rw [ffA_at a1] at h
            exact h
          · rw [if_neg (fun w => u2 w.2)] at h
            rw [cmnF_end hv (by omega) _ _ (by omega) hT2]
            exact h
        · rw [if_neg (fun w => u w.1)] at h
          have hin : i = nG x - 1 := by omega
          have hno := hv.tr.fin hv.2.1
          rw [← hin] at hno
          refine s_parentOfN rep (by omega) hR.2.2.1.2.1 hv.fg.1 (hv.tr.2.2.2.2.1 i hi).1 hno (hR.2.2.1.2.2.2.2.1 _ (by have := (hv.tr.2.2.2.2.1 i hi).1; omega)) ?_
          intro P9 h9
          refine h9 _ _ ?_
          rw [if_neg (by decide), if_pos (by decide)]
          exact h
    · rw [e3] at h
      rw [if_pos rfl]
      exact h
  · rw [e] at h
    rw [if_pos rfl]
    exact h
theorem u_common {x : Sg} {a b : Int32} {I : zI} {K : Int32 → Prop} (hv : Iv x) (hR : RM I x) (h : K (vCommon x a b)) : w_M_common a b I K := by
  have V := hR.view hv
  have hm := V.2.2.1
  have l100 : nG x ≤ 100 := hv.2.2.2.2.2.2.2.1.2.1.2.2
  have f248 := hv.f248
  have dl : ∀ {p : Nat} {f : Fl}, (FF x)[p]? = some f → f.2.2.2.1 < 400 ∧ 1 ≤ f.2.2.2.1 ∧ f.1 < 3400 := fun {p f} hp => by
    have := ff_dle hv p f hp
    have := (List.getElem?_eq_some_iff.mp hp).1
    have := (hv.fg.1.2 p f hp).1
    omega
  unfold vCommon at h
  unfold w_M_common
  refine u_isToken hv hR (fun i hi e e2 => ?_) (fun e => ?_)
  rotate_left
  · change ixI (nG x) a = none at e
    rw [e] at h
    rw [if_pos rfl]
    exact h
  change ixI (nG x) a = some i at e2
  rw [e2] at h
  dsimp only at h
  rw [if_neg (by decide)]
  refine u_isToken hv hR (fun k hk ek e3 => ?_) (fun e => ?_)
  rotate_left
  · change ixI (nG x) b = none at e
    rw [e] at h
    rw [if_pos rfl]
    exact h
  change ixI (nG x) b = some k at e3
  rw [e3] at h
  dsimp only at h
  rw [if_neg (by decide), e, ek]
  change i < nG x at hi
  change k < nG x at hk
  have hin1 : vp_in (zi i) 110 := (zin_iff (by omega)).mpr (by omega)
  have hin2 : vp_in (zi k) 110 := (zin_iff (by omega)).mpr (by omega)
  have o1 : I.1 508 i = zi (moO (sgC x) i) := V.2.2.2.2.2.2.1 i hi
  have o2 : I.1 508 k = zi (moO (sgC x) k) := V.2.2.2.2.2.2.1 k hk
  rw [zi_tn (show i < 2147483648 by omega), zi_tn (show k < 2147483648 by omega), o1, o2]
  by_cases c : i = k
  · rw [if_pos c] at h
    rw [if_pos (by rw [c])]
    exact ⟨hin1, h⟩
  rw [if_neg c] at h
  rw [if_neg (zi_ne (by omega) (by omega) c)]
  refine u_isInner hv hR hi (fun u => ?_) (fun u => ?_)
  rotate_left
  · rw [if_neg (fun w => u w.1)] at h
    rw [if_pos rfl]
    exact h
  rw [if_neg (by decide)]
  refine u_isInner hv hR hk (fun u2 => ?_) (fun u2 => ?_)
  rotate_left
  · rw [if_neg (fun w => u2 w.2)] at h
    rw [if_pos rfl]
    exact h
  rw [if_pos ⟨u, u2⟩] at h
  rw [if_neg (by decide)]
  refine ⟨hin1, fun v3 ev3 => ⟨hin2, fun v4 ev4 => ?_⟩⟩
  obtain ⟨p, f, a1, a2, a3, a4, a5⟩ := tok_pl hv u
  obtain ⟨pb, fb, b1, b2, b3, b4, b5⟩ := tok_pl hv u2
  rw [a5] at h
  dsimp only at h
  rw [ffA_at a1] at h
  rw [← a2] at ev3
  rw [← b2] at ev4
  subst ev4
  -- from the token's own node on
  have h0 : K (cmnF x k (p + 1) p) := by
    have hn : ¬ cov x p k := fun w => c ((cov_tok hv u a1 a2 a4 k).mp w).symm
    have hT : 1 ≤ ndT (sgN x f.1) := ((cov_tok hv u a1 a2 a4 i).mpr rfl).1 |> fun w => by
      rw [ffA_at a1] at w
      exact w
    unfold cmnF
    rw [if_neg (fun w => hn ⟨by rw [ffA_at a1]; exact hT, w.1, w.2⟩), if_neg (by omega), ffA_at a1]
    have hq := ((ff_dep hv a1).2 a3).1
    have more : ∀ (d d' q : Nat), q < d → q < d' → q < (FF x).length → cmnF x k d q = cmnF x k d' q := by
      intro d
      induction d with
      | zero => intro d' q hq; omega
      | succ d ih =>
        intro d' q h1 h2 h3
        cases d' with
        | zero => omega
        | succ d' =>
          unfold cmnF
          have hx := ffA_is h3
          by_cases w1 : fsT x q ≤ k ∧ k < fsT x q + ndT (sgN x (ffA x q).1)
          · rw [if_pos w1, if_pos w1]
          · rw [if_neg w1, if_neg w1]
            by_cases w2 : q = 0
            · rw [if_pos w2, if_pos w2]
            · rw [if_neg w2, if_neg w2]
              have := ((ff_dep hv hx).2 (by omega)).1
              exact ih d' _ (by omega) (by omega) (by omega)
    have hp := (List.getElem?_eq_some_iff.mp a1).1
    rw [more p (f.2.1 + 1) f.2.1 (by omega) (by omega) (by omega)]
    exact h
  intro P64 h64
  have main : ∀ (d q : Nat) (g : Fl), q < d → (FF x)[q]? = some g → 1 ≤ ndT (sgN x g.1) → K (cmnF x k d q) → P64 (zi g.1) := by
    intro d
    induction d with
    | zero =>
      intro q g hq
      omega
    | succ d ih =>
      intro q g hq hg hT hK
      obtain ⟨g1, g2, g3⟩ := dl hg
      obtain ⟨f1, f2, f3⟩ := dl b1
      refine h64 _ (u_deep hv hR hg (u_deep hv hR b1 ?_))
      intro P88 h88
      by_cases w : g.2.2.2.1 ≤ fb.2.2.2.1
      · rw [if_pos ((zi_le (by omega) (by omega)).mpr w)]
        -- the other one goes up
        have main2 : ∀ (e r : Nat) (y : Fl), (FF x)[r]? = some y → y.2.2.2.1 = g.2.2.2.1 + e → cov x r k → P88 (zi y.1) := by
          intro e
          induction e with
          | zero =>
            intro r y hy he cr
            refine h88 _ (u_deep hv hR hy (u_deep hv hR hg ?_))
            obtain ⟨y1, y2, y3⟩ := dl hy
            intro P114 h114
            rw [if_pos ((zi_le (by omega) (by omega)).mpr (by omega))]
            have main3 : ∀ (e d q r : Nat) (g y : Fl), q < d → (FF x)[q]? = some g → (FF x)[r]? = some y → g.2.2.2.1 = e → y.2.2.2.1 = e → 1 ≤ ndT (sgN x g.1) → cov x r k → K (cmnF x k d q) → P114 (zi g.1) (zi y.1) := by
              intro e
              induction e with
              | zero =>
                intro d q r g y h1 h2 h3 h4
                have := (dl h2).2.1
                omega
              | succ e ih3 =>
                intro d q r g y h1 h2 h3 h4 h5 hT cr hK
                obtain ⟨d', rfl⟩ : ∃ d', d = d' + 1 := ⟨d - 1, by omega⟩
                obtain ⟨x1, x2, x3⟩ := dl h2
                obtain ⟨z1, z2, z3⟩ := dl h3
                refine h114 _ _ ?_
                unfold cmnF at hK
                rw [ffA_at h2] at hK
                by_cases w2 : g.1 = y.1
                · have e1 := hv.fg.2.1 q r g y h2 h3 w2
                  subst e1
                  obtain ⟨c1, c2, c3⟩ := cr
                  rw [ffA_at h2] at c3
                  rw [if_pos ⟨c2, c3⟩] at hK
                  rw [if_pos (by rw [w2])]
                  exact hK
                · have nc : ¬ cov x q k := fun cq => w2 (by
                    have e1 := cov_one hv _ _ _ _ _ h2 h3 h4 h5 cq cr
                    subst e1
                    rw [h2] at h3
                    cases h3
                    rfl)
                  rw [if_neg (fun w => nc ⟨by rw [ffA_at h2]; exact hT, w.1, by rw [ffA_at h2]; exact w.2⟩)] at hK
                  rw [if_neg (zi_ne (by omega) (by omega) w2), zi_tn (show g.1 < 2147483648 by omega), zi_tn (show y.1 < 2147483648 by omega)]
                  refine ⟨(zin_iff (by omega)).mpr (by omega), fun v ev => ⟨(zin_iff (by omega)).mpr (by omega), fun v' ev' => ?_⟩⟩
                  obtain ⟨d1, d2⟩ := ff_dep hv h2
                  obtain ⟨d3, d4⟩ := ff_dep hv h3
                  have q0 : q ≠ 0 ∧ r ≠ 0 := by
                    refine ⟨fun q0 => ?_, fun r0 => ?_⟩
                    · have := d1 q0
                      by_cases r0 : r = 0
                      · rw [q0] at h2
                        rw [r0, h2] at h3
                        cases h3
                        exact w2 rfl
                      · obtain ⟨-, m2, m3⟩ := d4 (by omega)
                        have := (dl m2).2.1
                        omega
                    · have := d3 r0
                      by_cases q0 : q = 0
                      · rw [q0] at h2
                        rw [r0, h2] at h3
                        cases h3
                        exact w2 rfl
                      · obtain ⟨-, m2, m3⟩ := d2 (by omega)
                        have := (dl m2).2.1
                        omega
                  rw [if_neg q0.1] at hK
                  obtain ⟨m1, m2, m3⟩ := d2 (by omega)
                  obtain ⟨n1, n2, n3⟩ := d4 (by omega)
                  rcases u_parP hv hR h2 with ⟨k1, -⟩ | ⟨-, -, -, k4, -⟩
                  · exact absurd k1 q0.1
                  rcases u_parP hv hR h3 with ⟨l1, -⟩ | ⟨-, -, -, l4, -⟩
                  · exact absurd l1 q0.2
                  rw [ev, k4, ev', l4]
                  exact ih3 d' _ _ _ _ (by omega) m2 n2 (by omega) (by omega) (tk_up hv h2 (by omega) hT) (cov_up hv h3 (by omega) cr).1 hK
            exact main3 g.2.2.2.1 (d + 1) q r g y hq hg hy rfl (by omega) hT cr hK
          | succ e ih2 =>
            intro r y hy he cr
            refine h88 _ (u_deep hv hR hy (u_deep hv hR hg ?_))
            obtain ⟨y1, y2, y3⟩ := dl hy
            intro P114 h114
            rw [if_neg (fun w => by have := (zi_le (by omega) (by omega)).mp w; omega), zi_tn (show y.1 < 2147483648 by omega)]
            refine ⟨(zin_iff (by omega)).mpr (by omega), fun v ev => ?_⟩
            obtain ⟨d3, d4⟩ := ff_dep hv hy
            have r0 : r ≠ 0 := fun r0 => by
              have := d3 r0
              omega
            obtain ⟨n1, n2, n3⟩ := d4 (by omega)
            rcases u_parP hv hR hy with ⟨l1, -⟩ | ⟨-, -, -, l4, -⟩
            · exact absurd l1 r0
            rw [ev, l4]
            exact ih2 _ _ n2 (by omega) (cov_up hv hy (by omega) cr).1
        exact main2 (fb.2.2.2.1 - g.2.2.2.1) pb fb b1 (by omega) ((cov_tok hv u2 b1 b2 b4 k).mpr rfl)
      · rw [if_neg (fun v => w ((zi_le (by omega) (by omega)).mp v)), zi_tn (show g.1 < 2147483648 by omega)]
        refine ⟨(zin_iff (by omega)).mpr (by omega), fun v ev => ?_⟩
        have nc : ¬ cov x q k := cov_low hv u2 b1 b2 b4 (g.2.2.2.1 - fb.2.2.2.1 - 1) q g hg (by omega)
        unfold cmnF at hK
        rw [ffA_at hg] at hK
        rw [if_neg (fun w => nc ⟨by rw [ffA_at hg]; exact hT, w.1, by rw [ffA_at hg]; exact w.2⟩)] at hK
        obtain ⟨d1, d2⟩ := ff_dep hv hg
        have q0 : q ≠ 0 := fun q0 => by
          have := d1 q0
          omega
        rw [if_neg q0] at hK
        obtain ⟨m1, m2, m3⟩ := d2 (by omega)
        rcases u_parP hv hR hg with ⟨k1, -⟩ | ⟨-, -, -, k4, -⟩
        · exact absurd k1 q0
        rw [ev, k4]
        exact ih _ _ (by omega) m2 (tk_up hv hg (by omega) hT) hK
  rw [ev3]
  exact main (p + 1) p f (Nat.lt_succ_self _) a1 (((cov_tok hv u a1 a2 a4 i).mpr rfl).1 |> fun w => by
    rw [ffA_at a1] at w
    exact w) h0
